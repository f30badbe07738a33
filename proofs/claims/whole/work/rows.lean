section
-- ===== PART A: goes FIRST, ahead of the names: the tables' words, and 'selects' of the private methods out of them =====
/-- a private method of a class that the tables say can be made, by its rows of tables_1 -/
def lw_okq (q : MethodName × Nat) : Prop := (q.1.cls ≠ "java/lang/invoke/MethodHandle" ∧ q.1.cls ≠ "java/lang/invoke/VarHandle") ∧ Cond.instantiable q.1.cls q.2 ∈ tables_1 ∧ Cond.privateMethod q.1 ∈ tables_1 ∧ Cond.instanceMethod q.1 ∈ tables_1
theorem lw_p0 : lw_okq (⟨"WornLetters$Script", "append", "(I)V"⟩, 7) := ⟨⟨by decide +kernel, by decide +kernel⟩, List.mem_of_getElem? (i := 23) (by decide +kernel), List.mem_of_getElem? (i := 301) (by decide +kernel), List.mem_of_getElem? (i := 302) (by decide +kernel)⟩
theorem lw_p1 : lw_okq (⟨"WornLetters$Script", "parse", "()I"⟩, 7) := ⟨⟨by decide +kernel, by decide +kernel⟩, List.mem_of_getElem? (i := 23) (by decide +kernel), List.mem_of_getElem? (i := 313) (by decide +kernel), List.mem_of_getElem? (i := 314) (by decide +kernel)⟩
theorem lw_p2 : lw_okq (⟨"WornLetters$Script", "parseWidths", "()V"⟩, 7) := ⟨⟨by decide +kernel, by decide +kernel⟩, List.mem_of_getElem? (i := 23) (by decide +kernel), List.mem_of_getElem? (i := 318) (by decide +kernel), List.mem_of_getElem? (i := 319) (by decide +kernel)⟩
theorem lw_p3 : lw_okq (⟨"WornLetters$Script", "peek", "()I"⟩, 7) := ⟨⟨by decide +kernel, by decide +kernel⟩, List.mem_of_getElem? (i := 23) (by decide +kernel), List.mem_of_getElem? (i := 322) (by decide +kernel), List.mem_of_getElem? (i := 323) (by decide +kernel)⟩
theorem lw_p4 : lw_okq (⟨"WornLetters$Script", "takeDigit", "(II)I"⟩, 7) := ⟨⟨by decide +kernel, by decide +kernel⟩, List.mem_of_getElem? (i := 23) (by decide +kernel), List.mem_of_getElem? (i := 326) (by decide +kernel), List.mem_of_getElem? (i := 327) (by decide +kernel)⟩
theorem lw_p5 : lw_okq (⟨"WornLetters$Script", "parsePart", "()V"⟩, 7) := ⟨⟨by decide +kernel, by decide +kernel⟩, List.mem_of_getElem? (i := 23) (by decide +kernel), List.mem_of_getElem? (i := 330) (by decide +kernel), List.mem_of_getElem? (i := 331) (by decide +kernel)⟩
theorem lw_p6 : lw_okq (⟨"WornLetters$Script", "parseWord", "()V"⟩, 7) := ⟨⟨by decide +kernel, by decide +kernel⟩, List.mem_of_getElem? (i := 23) (by decide +kernel), List.mem_of_getElem? (i := 334) (by decide +kernel), List.mem_of_getElem? (i := 335) (by decide +kernel)⟩
theorem lw_p7 : lw_okq (⟨"WornLetters$Lexicon", "widthOf", "(I)I"⟩, 7) := ⟨⟨by decide +kernel, by decide +kernel⟩, List.mem_of_getElem? (i := 29) (by decide +kernel), List.mem_of_getElem? (i := 341) (by decide +kernel), List.mem_of_getElem? (i := 342) (by decide +kernel)⟩
theorem lw_p8 : lw_okq (⟨"WornLetters$Script", "parseRule", "()V"⟩, 7) := ⟨⟨by decide +kernel, by decide +kernel⟩, List.mem_of_getElem? (i := 23) (by decide +kernel), List.mem_of_getElem? (i := 345) (by decide +kernel), List.mem_of_getElem? (i := 346) (by decide +kernel)⟩
theorem lw_p9 : lw_okq (⟨"WornLetters$Script", "refuseLast", "()V"⟩, 7) := ⟨⟨by decide +kernel, by decide +kernel⟩, List.mem_of_getElem? (i := 23) (by decide +kernel), List.mem_of_getElem? (i := 349) (by decide +kernel), List.mem_of_getElem? (i := 350) (by decide +kernel)⟩
theorem lw_p10 : lw_okq (⟨"WornLetters$Tablet", "changeRule", "(III)I"⟩, 5) := ⟨⟨by decide +kernel, by decide +kernel⟩, List.mem_of_getElem? (i := 78) (by decide +kernel), List.mem_of_getElem? (i := 353) (by decide +kernel), List.mem_of_getElem? (i := 354) (by decide +kernel)⟩
theorem lw_p11 : lw_okq (⟨"WornLetters$Script", "parseLine", "()V"⟩, 7) := ⟨⟨by decide +kernel, by decide +kernel⟩, List.mem_of_getElem? (i := 23) (by decide +kernel), List.mem_of_getElem? (i := 360) (by decide +kernel), List.mem_of_getElem? (i := 361) (by decide +kernel)⟩
theorem lw_p12 : lw_okq (⟨"WornLetters$Script", "parseSign", "(I)V"⟩, 7) := ⟨⟨by decide +kernel, by decide +kernel⟩, List.mem_of_getElem? (i := 23) (by decide +kernel), List.mem_of_getElem? (i := 364) (by decide +kernel), List.mem_of_getElem? (i := 365) (by decide +kernel)⟩
theorem lw_p13 : lw_okq (⟨"WornLetters$Tablet", "putGap", "(II)V"⟩, 5) := ⟨⟨by decide +kernel, by decide +kernel⟩, List.mem_of_getElem? (i := 78) (by decide +kernel), List.mem_of_getElem? (i := 368) (by decide +kernel), List.mem_of_getElem? (i := 369) (by decide +kernel)⟩
theorem lw_p14 : lw_okq (⟨"WornLetters$Tablet", "hasUnit", "(I)Z"⟩, 5) := ⟨⟨by decide +kernel, by decide +kernel⟩, List.mem_of_getElem? (i := 78) (by decide +kernel), List.mem_of_getElem? (i := 372) (by decide +kernel), List.mem_of_getElem? (i := 373) (by decide +kernel)⟩
theorem lw_p15 : lw_okq (⟨"WornLetters$Tablet", "putSign", "(III)V"⟩, 5) := ⟨⟨by decide +kernel, by decide +kernel⟩, List.mem_of_getElem? (i := 78) (by decide +kernel), List.mem_of_getElem? (i := 376) (by decide +kernel), List.mem_of_getElem? (i := 377) (by decide +kernel)⟩
def lw_privs_1 : List (MethodName × Nat) := [(⟨"WornLetters$Script", "append", "(I)V"⟩, 7), (⟨"WornLetters$Script", "parse", "()I"⟩, 7), (⟨"WornLetters$Script", "parseWidths", "()V"⟩, 7), (⟨"WornLetters$Script", "peek", "()I"⟩, 7), (⟨"WornLetters$Script", "takeDigit", "(II)I"⟩, 7), (⟨"WornLetters$Script", "parsePart", "()V"⟩, 7), (⟨"WornLetters$Script", "parseWord", "()V"⟩, 7), (⟨"WornLetters$Lexicon", "widthOf", "(I)I"⟩, 7), (⟨"WornLetters$Script", "parseRule", "()V"⟩, 7), (⟨"WornLetters$Script", "refuseLast", "()V"⟩, 7), (⟨"WornLetters$Tablet", "changeRule", "(III)I"⟩, 5), (⟨"WornLetters$Script", "parseLine", "()V"⟩, 7), (⟨"WornLetters$Script", "parseSign", "(I)V"⟩, 7), (⟨"WornLetters$Tablet", "putGap", "(II)V"⟩, 5), (⟨"WornLetters$Tablet", "hasUnit", "(I)Z"⟩, 5), (⟨"WornLetters$Tablet", "putSign", "(III)V"⟩, 5)]
theorem lw_r1 : ∀ q ∈ lw_privs_1, lw_okq q := List.forall_mem_cons.mpr ⟨lw_p0, List.forall_mem_cons.mpr ⟨lw_p1, List.forall_mem_cons.mpr ⟨lw_p2, List.forall_mem_cons.mpr ⟨lw_p3, List.forall_mem_cons.mpr ⟨lw_p4, List.forall_mem_cons.mpr ⟨lw_p5, List.forall_mem_cons.mpr ⟨lw_p6, List.forall_mem_cons.mpr ⟨lw_p7, List.forall_mem_cons.mpr ⟨lw_p8, List.forall_mem_cons.mpr ⟨lw_p9, List.forall_mem_cons.mpr ⟨lw_p10, List.forall_mem_cons.mpr ⟨lw_p11, List.forall_mem_cons.mpr ⟨lw_p12, List.forall_mem_cons.mpr ⟨lw_p13, List.forall_mem_cons.mpr ⟨lw_p14, List.forall_mem_cons.mpr ⟨lw_p15, fun _ h => absurd h List.not_mem_nil⟩⟩⟩⟩⟩⟩⟩⟩⟩⟩⟩⟩⟩⟩⟩⟩
theorem lw_p16 : lw_okq (⟨"WornLetters$Lexicon", "copyFrom", "(LWornLetters$Lexicon;)V"⟩, 7) := ⟨⟨by decide +kernel, by decide +kernel⟩, List.mem_of_getElem? (i := 29) (by decide +kernel), List.mem_of_getElem? (i := 384) (by decide +kernel), List.mem_of_getElem? (i := 385) (by decide +kernel)⟩
theorem lw_p17 : lw_okq (⟨"WornLetters$Tablet", "copyFrom", "(LWornLetters$Tablet;)V"⟩, 5) := ⟨⟨by decide +kernel, by decide +kernel⟩, List.mem_of_getElem? (i := 78) (by decide +kernel), List.mem_of_getElem? (i := 391) (by decide +kernel), List.mem_of_getElem? (i := 392) (by decide +kernel)⟩
theorem lw_p18 : lw_okq (⟨"WornLetters$History", "forget", "()V"⟩, 5) := ⟨⟨by decide +kernel, by decide +kernel⟩, List.mem_of_getElem? (i := 144) (by decide +kernel), List.mem_of_getElem? (i := 396) (by decide +kernel), List.mem_of_getElem? (i := 397) (by decide +kernel)⟩
theorem lw_p19 : lw_okq (⟨"WornLetters$Lexicon", "hasWord", "(I)Z"⟩, 7) := ⟨⟨by decide +kernel, by decide +kernel⟩, List.mem_of_getElem? (i := 29) (by decide +kernel), List.mem_of_getElem? (i := 404) (by decide +kernel), List.mem_of_getElem? (i := 405) (by decide +kernel)⟩
theorem lw_p20 : lw_okq (⟨"WornLetters$Lexicon", "letterOf", "(II)I"⟩, 7) := ⟨⟨by decide +kernel, by decide +kernel⟩, List.mem_of_getElem? (i := 29) (by decide +kernel), List.mem_of_getElem? (i := 408) (by decide +kernel), List.mem_of_getElem? (i := 409) (by decide +kernel)⟩
theorem lw_p21 : lw_okq (⟨"WornLetters$Tablet", "removeSign", "(LWornLetters$Lexicon;I)I"⟩, 5) := ⟨⟨by decide +kernel, by decide +kernel⟩, List.mem_of_getElem? (i := 78) (by decide +kernel), List.mem_of_getElem? (i := 426) (by decide +kernel), List.mem_of_getElem? (i := 427) (by decide +kernel)⟩
theorem lw_p22 : lw_okq (⟨"WornLetters$History", "record", "(III)V"⟩, 5) := ⟨⟨by decide +kernel, by decide +kernel⟩, List.mem_of_getElem? (i := 144) (by decide +kernel), List.mem_of_getElem? (i := 435) (by decide +kernel), List.mem_of_getElem? (i := 436) (by decide +kernel)⟩
theorem lw_p23 : lw_okq (⟨"WornLetters$Tablet", "insertSign", "(LWornLetters$Lexicon;II)I"⟩, 5) := ⟨⟨by decide +kernel, by decide +kernel⟩, List.mem_of_getElem? (i := 78) (by decide +kernel), List.mem_of_getElem? (i := 446) (by decide +kernel), List.mem_of_getElem? (i := 447) (by decide +kernel)⟩
theorem lw_p24 : lw_okq (⟨"WornLetters$Tablet", "isFree", "(II)Z"⟩, 5) := ⟨⟨by decide +kernel, by decide +kernel⟩, List.mem_of_getElem? (i := 78) (by decide +kernel), List.mem_of_getElem? (i := 450) (by decide +kernel), List.mem_of_getElem? (i := 451) (by decide +kernel)⟩
theorem lw_p25 : lw_okq (⟨"WornLetters$Tablet", "countGaps", "()I"⟩, 5) := ⟨⟨by decide +kernel, by decide +kernel⟩, List.mem_of_getElem? (i := 78) (by decide +kernel), List.mem_of_getElem? (i := 455) (by decide +kernel), List.mem_of_getElem? (i := 456) (by decide +kernel)⟩
theorem lw_p26 : lw_okq (⟨"WornLetters$Tablet", "flipWord", "(LWornLetters$Lexicon;I)I"⟩, 5) := ⟨⟨by decide +kernel, by decide +kernel⟩, List.mem_of_getElem? (i := 78) (by decide +kernel), List.mem_of_getElem? (i := 463) (by decide +kernel), List.mem_of_getElem? (i := 464) (by decide +kernel)⟩
theorem lw_p27 : lw_okq (⟨"WornLetters$History", "takeBack", "(LWornLetters$Lexicon;LWornLetters$Tablet;)V"⟩, 5) := ⟨⟨by decide +kernel, by decide +kernel⟩, List.mem_of_getElem? (i := 144) (by decide +kernel), List.mem_of_getElem? (i := 481) (by decide +kernel), List.mem_of_getElem? (i := 482) (by decide +kernel)⟩
theorem lw_p28 : lw_okq (⟨"WornLetters$Tablet", "holdsWord", "(LWornLetters$Lexicon;II)Z"⟩, 5) := ⟨⟨by decide +kernel, by decide +kernel⟩, List.mem_of_getElem? (i := 78) (by decide +kernel), List.mem_of_getElem? (i := 494) (by decide +kernel), List.mem_of_getElem? (i := 495) (by decide +kernel)⟩
theorem lw_p29 : lw_okq (⟨"WornLetters$Chart", "countAll", "(LWornLetters$Lexicon;LWornLetters$Tablet;)J"⟩, 9) := ⟨⟨by decide +kernel, by decide +kernel⟩, List.mem_of_getElem? (i := 192) (by decide +kernel), List.mem_of_getElem? (i := 503) (by decide +kernel), List.mem_of_getElem? (i := 504) (by decide +kernel)⟩
theorem lw_p30 : lw_okq (⟨"WornLetters$Chart", "lay", "(LWornLetters$Lexicon;LWornLetters$Tablet;)V"⟩, 9) := ⟨⟨by decide +kernel, by decide +kernel⟩, List.mem_of_getElem? (i := 192) (by decide +kernel), List.mem_of_getElem? (i := 507) (by decide +kernel), List.mem_of_getElem? (i := 508) (by decide +kernel)⟩
theorem lw_p31 : lw_okq (⟨"WornLetters$Tablet", "holdsBlank", "(I)Z"⟩, 5) := ⟨⟨by decide +kernel, by decide +kernel⟩, List.mem_of_getElem? (i := 78) (by decide +kernel), List.mem_of_getElem? (i := 515) (by decide +kernel), List.mem_of_getElem? (i := 516) (by decide +kernel)⟩
def lw_privs_2 : List (MethodName × Nat) := [(⟨"WornLetters$Lexicon", "copyFrom", "(LWornLetters$Lexicon;)V"⟩, 7), (⟨"WornLetters$Tablet", "copyFrom", "(LWornLetters$Tablet;)V"⟩, 5), (⟨"WornLetters$History", "forget", "()V"⟩, 5), (⟨"WornLetters$Lexicon", "hasWord", "(I)Z"⟩, 7), (⟨"WornLetters$Lexicon", "letterOf", "(II)I"⟩, 7), (⟨"WornLetters$Tablet", "removeSign", "(LWornLetters$Lexicon;I)I"⟩, 5), (⟨"WornLetters$History", "record", "(III)V"⟩, 5), (⟨"WornLetters$Tablet", "insertSign", "(LWornLetters$Lexicon;II)I"⟩, 5), (⟨"WornLetters$Tablet", "isFree", "(II)Z"⟩, 5), (⟨"WornLetters$Tablet", "countGaps", "()I"⟩, 5), (⟨"WornLetters$Tablet", "flipWord", "(LWornLetters$Lexicon;I)I"⟩, 5), (⟨"WornLetters$History", "takeBack", "(LWornLetters$Lexicon;LWornLetters$Tablet;)V"⟩, 5), (⟨"WornLetters$Tablet", "holdsWord", "(LWornLetters$Lexicon;II)Z"⟩, 5), (⟨"WornLetters$Chart", "countAll", "(LWornLetters$Lexicon;LWornLetters$Tablet;)J"⟩, 9), (⟨"WornLetters$Chart", "lay", "(LWornLetters$Lexicon;LWornLetters$Tablet;)V"⟩, 9), (⟨"WornLetters$Tablet", "holdsBlank", "(I)Z"⟩, 5)]
theorem lw_r2 : ∀ q ∈ lw_privs_2, lw_okq q := List.forall_mem_cons.mpr ⟨lw_p16, List.forall_mem_cons.mpr ⟨lw_p17, List.forall_mem_cons.mpr ⟨lw_p18, List.forall_mem_cons.mpr ⟨lw_p19, List.forall_mem_cons.mpr ⟨lw_p20, List.forall_mem_cons.mpr ⟨lw_p21, List.forall_mem_cons.mpr ⟨lw_p22, List.forall_mem_cons.mpr ⟨lw_p23, List.forall_mem_cons.mpr ⟨lw_p24, List.forall_mem_cons.mpr ⟨lw_p25, List.forall_mem_cons.mpr ⟨lw_p26, List.forall_mem_cons.mpr ⟨lw_p27, List.forall_mem_cons.mpr ⟨lw_p28, List.forall_mem_cons.mpr ⟨lw_p29, List.forall_mem_cons.mpr ⟨lw_p30, List.forall_mem_cons.mpr ⟨lw_p31, fun _ h => absurd h List.not_mem_nil⟩⟩⟩⟩⟩⟩⟩⟩⟩⟩⟩⟩⟩⟩⟩⟩
theorem lw_p32 : lw_okq (⟨"WornLetters$Chart", "prune", "()V"⟩, 9) := ⟨⟨by decide +kernel, by decide +kernel⟩, List.mem_of_getElem? (i := 192) (by decide +kernel), List.mem_of_getElem? (i := 520) (by decide +kernel), List.mem_of_getElem? (i := 521) (by decide +kernel)⟩
theorem lw_p33 : lw_okq (⟨"WornLetters$Chart", "isOpen", "(II)Z"⟩, 9) := ⟨⟨by decide +kernel, by decide +kernel⟩, List.mem_of_getElem? (i := 192) (by decide +kernel), List.mem_of_getElem? (i := 524) (by decide +kernel), List.mem_of_getElem? (i := 525) (by decide +kernel)⟩
theorem lw_p34 : lw_okq (⟨"WornLetters$Chart", "leadsOn", "(II)Z"⟩, 9) := ⟨⟨by decide +kernel, by decide +kernel⟩, List.mem_of_getElem? (i := 192) (by decide +kernel), List.mem_of_getElem? (i := 528) (by decide +kernel), List.mem_of_getElem? (i := 529) (by decide +kernel)⟩
theorem lw_p35 : lw_okq (⟨"WornLetters$Chart", "nextUnit", "(II)I"⟩, 9) := ⟨⟨by decide +kernel, by decide +kernel⟩, List.mem_of_getElem? (i := 192) (by decide +kernel), List.mem_of_getElem? (i := 532) (by decide +kernel), List.mem_of_getElem? (i := 533) (by decide +kernel)⟩
theorem lw_p36 : lw_okq (⟨"WornLetters$Chart", "countFrom", "(I)J"⟩, 9) := ⟨⟨by decide +kernel, by decide +kernel⟩, List.mem_of_getElem? (i := 192) (by decide +kernel), List.mem_of_getElem? (i := 536) (by decide +kernel), List.mem_of_getElem? (i := 537) (by decide +kernel)⟩
theorem lw_p37 : lw_okq (⟨"WornLetters$Chart", "sumTails", "(II)J"⟩, 9) := ⟨⟨by decide +kernel, by decide +kernel⟩, List.mem_of_getElem? (i := 192) (by decide +kernel), List.mem_of_getElem? (i := 540) (by decide +kernel), List.mem_of_getElem? (i := 541) (by decide +kernel)⟩
theorem lw_p38 : lw_okq (⟨"WornLetters$Ranking", "build", "(LWornLetters$Chart;[I)V"⟩, 5) := ⟨⟨by decide +kernel, by decide +kernel⟩, List.mem_of_getElem? (i := 232) (by decide +kernel), List.mem_of_getElem? (i := 548) (by decide +kernel), List.mem_of_getElem? (i := 549) (by decide +kernel)⟩
theorem lw_p39 : lw_okq (⟨"WornLetters$Ranking", "fillRow", "(LWornLetters$Chart;II)V"⟩, 5) := ⟨⟨by decide +kernel, by decide +kernel⟩, List.mem_of_getElem? (i := 232) (by decide +kernel), List.mem_of_getElem? (i := 554) (by decide +kernel), List.mem_of_getElem? (i := 555) (by decide +kernel)⟩
theorem lw_p40 : lw_okq (⟨"WornLetters$Ranking", "find", "(LWornLetters$Chart;J)V"⟩, 5) := ⟨⟨by decide +kernel, by decide +kernel⟩, List.mem_of_getElem? (i := 232) (by decide +kernel), List.mem_of_getElem? (i := 566) (by decide +kernel), List.mem_of_getElem? (i := 567) (by decide +kernel)⟩
theorem lw_p41 : lw_okq (⟨"WornLetters$Ranking", "countWithWeight", "(LWornLetters$Chart;I)J"⟩, 5) := ⟨⟨by decide +kernel, by decide +kernel⟩, List.mem_of_getElem? (i := 232) (by decide +kernel), List.mem_of_getElem? (i := 570) (by decide +kernel), List.mem_of_getElem? (i := 571) (by decide +kernel)⟩
theorem lw_p42 : lw_okq (⟨"WornLetters$Ranking", "walk", "(LWornLetters$Chart;J)V"⟩, 5) := ⟨⟨by decide +kernel, by decide +kernel⟩, List.mem_of_getElem? (i := 232) (by decide +kernel), List.mem_of_getElem? (i := 574) (by decide +kernel), List.mem_of_getElem? (i := 575) (by decide +kernel)⟩
theorem lw_p43 : lw_okq (⟨"WornLetters$Ranking", "endsOf", "(LWornLetters$Chart;IIII)J"⟩, 5) := ⟨⟨by decide +kernel, by decide +kernel⟩, List.mem_of_getElem? (i := 232) (by decide +kernel), List.mem_of_getElem? (i := 578) (by decide +kernel), List.mem_of_getElem? (i := 579) (by decide +kernel)⟩
theorem lw_p44 : lw_okq (⟨"WornLetters$Chart", "countHeads", "()V"⟩, 9) := ⟨⟨by decide +kernel, by decide +kernel⟩, List.mem_of_getElem? (i := 192) (by decide +kernel), List.mem_of_getElem? (i := 589) (by decide +kernel), List.mem_of_getElem? (i := 590) (by decide +kernel)⟩
theorem lw_p45 : lw_okq (⟨"WornLetters$Chart", "passOn", "(JII)V"⟩, 9) := ⟨⟨by decide +kernel, by decide +kernel⟩, List.mem_of_getElem? (i := 192) (by decide +kernel), List.mem_of_getElem? (i := 596) (by decide +kernel), List.mem_of_getElem? (i := 597) (by decide +kernel)⟩
theorem lw_p46 : lw_okq (⟨"WornLetters$Chart", "countSign", "(LWornLetters$Lexicon;II)J"⟩, 9) := ⟨⟨by decide +kernel, by decide +kernel⟩, List.mem_of_getElem? (i := 192) (by decide +kernel), List.mem_of_getElem? (i := 600) (by decide +kernel), List.mem_of_getElem? (i := 601) (by decide +kernel)⟩
theorem lw_p47 : lw_okq (⟨"WornLetters$Lexicon", "signBehind", "(II)I"⟩, 7) := ⟨⟨by decide +kernel, by decide +kernel⟩, List.mem_of_getElem? (i := 29) (by decide +kernel), List.mem_of_getElem? (i := 604) (by decide +kernel), List.mem_of_getElem? (i := 605) (by decide +kernel)⟩
def lw_privs_3 : List (MethodName × Nat) := [(⟨"WornLetters$Chart", "prune", "()V"⟩, 9), (⟨"WornLetters$Chart", "isOpen", "(II)Z"⟩, 9), (⟨"WornLetters$Chart", "leadsOn", "(II)Z"⟩, 9), (⟨"WornLetters$Chart", "nextUnit", "(II)I"⟩, 9), (⟨"WornLetters$Chart", "countFrom", "(I)J"⟩, 9), (⟨"WornLetters$Chart", "sumTails", "(II)J"⟩, 9), (⟨"WornLetters$Ranking", "build", "(LWornLetters$Chart;[I)V"⟩, 5), (⟨"WornLetters$Ranking", "fillRow", "(LWornLetters$Chart;II)V"⟩, 5), (⟨"WornLetters$Ranking", "find", "(LWornLetters$Chart;J)V"⟩, 5), (⟨"WornLetters$Ranking", "countWithWeight", "(LWornLetters$Chart;I)J"⟩, 5), (⟨"WornLetters$Ranking", "walk", "(LWornLetters$Chart;J)V"⟩, 5), (⟨"WornLetters$Ranking", "endsOf", "(LWornLetters$Chart;IIII)J"⟩, 5), (⟨"WornLetters$Chart", "countHeads", "()V"⟩, 9), (⟨"WornLetters$Chart", "passOn", "(JII)V"⟩, 9), (⟨"WornLetters$Chart", "countSign", "(LWornLetters$Lexicon;II)J"⟩, 9), (⟨"WornLetters$Lexicon", "signBehind", "(II)I"⟩, 7)]
theorem lw_r3 : ∀ q ∈ lw_privs_3, lw_okq q := List.forall_mem_cons.mpr ⟨lw_p32, List.forall_mem_cons.mpr ⟨lw_p33, List.forall_mem_cons.mpr ⟨lw_p34, List.forall_mem_cons.mpr ⟨lw_p35, List.forall_mem_cons.mpr ⟨lw_p36, List.forall_mem_cons.mpr ⟨lw_p37, List.forall_mem_cons.mpr ⟨lw_p38, List.forall_mem_cons.mpr ⟨lw_p39, List.forall_mem_cons.mpr ⟨lw_p40, List.forall_mem_cons.mpr ⟨lw_p41, List.forall_mem_cons.mpr ⟨lw_p42, List.forall_mem_cons.mpr ⟨lw_p43, List.forall_mem_cons.mpr ⟨lw_p44, List.forall_mem_cons.mpr ⟨lw_p45, List.forall_mem_cons.mpr ⟨lw_p46, List.forall_mem_cons.mpr ⟨lw_p47, fun _ h => absurd h List.not_mem_nil⟩⟩⟩⟩⟩⟩⟩⟩⟩⟩⟩⟩⟩⟩⟩⟩
theorem lw_p48 : lw_okq (⟨"WornLetters$Chart", "countThrough", "(II)J"⟩, 9) := ⟨⟨by decide +kernel, by decide +kernel⟩, List.mem_of_getElem? (i := 192) (by decide +kernel), List.mem_of_getElem? (i := 611) (by decide +kernel), List.mem_of_getElem? (i := 612) (by decide +kernel)⟩
theorem lw_p49 : lw_okq (⟨"WornLetters", "certainSign", "(LWornLetters$Tablet;I)I"⟩, 13) := ⟨⟨by decide +kernel, by decide +kernel⟩, List.mem_of_getElem? (i := 15) (by decide +kernel), List.mem_of_getElem? (i := 624) (by decide +kernel), List.mem_of_getElem? (i := 625) (by decide +kernel)⟩
theorem lw_p50 : lw_okq (⟨"WornLetters", "accepts", "(I)Z"⟩, 13) := ⟨⟨by decide +kernel, by decide +kernel⟩, List.mem_of_getElem? (i := 15) (by decide +kernel), List.mem_of_getElem? (i := 633) (by decide +kernel), List.mem_of_getElem? (i := 634) (by decide +kernel)⟩
theorem lw_p51 : lw_okq (⟨"WornLetters$Sightings", "append", "(IIZ)V"⟩, 4) := ⟨⟨by decide +kernel, by decide +kernel⟩, List.mem_of_getElem? (i := 167) (by decide +kernel), List.mem_of_getElem? (i := 641) (by decide +kernel), List.mem_of_getElem? (i := 642) (by decide +kernel)⟩
theorem lw_p52 : lw_okq (⟨"WornLetters$Chart", "countSelected", "(LWornLetters$Lexicon;LWornLetters$Tablet;LWornLetters$Sightings;)J"⟩, 9) := ⟨⟨by decide +kernel, by decide +kernel⟩, List.mem_of_getElem? (i := 192) (by decide +kernel), List.mem_of_getElem? (i := 653) (by decide +kernel), List.mem_of_getElem? (i := 654) (by decide +kernel)⟩
theorem lw_p53 : lw_okq (⟨"WornLetters$Chart", "select", "(IIZ)V"⟩, 9) := ⟨⟨by decide +kernel, by decide +kernel⟩, List.mem_of_getElem? (i := 192) (by decide +kernel), List.mem_of_getElem? (i := 657) (by decide +kernel), List.mem_of_getElem? (i := 658) (by decide +kernel)⟩
theorem lw_p54 : lw_okq (⟨"WornLetters$Ranking", "rankOfPath", "(LWornLetters$Chart;)J"⟩, 5) := ⟨⟨by decide +kernel, by decide +kernel⟩, List.mem_of_getElem? (i := 232) (by decide +kernel), List.mem_of_getElem? (i := 662) (by decide +kernel), List.mem_of_getElem? (i := 663) (by decide +kernel)⟩
theorem lw_p55 : lw_okq (⟨"WornLettersModel", "readStone", "()I"⟩, 36) := ⟨⟨by decide +kernel, by decide +kernel⟩, List.mem_of_getElem? (i := 715) (by decide +kernel), List.mem_of_getElem? (i := 849) (by decide +kernel), List.mem_of_getElem? (i := 850) (by decide +kernel)⟩
theorem lw_p56 : lw_okq (⟨"WornLettersModel", "isNext", "(III)Z"⟩, 36) := ⟨⟨by decide +kernel, by decide +kernel⟩, List.mem_of_getElem? (i := 715) (by decide +kernel), List.mem_of_getElem? (i := 853) (by decide +kernel), List.mem_of_getElem? (i := 854) (by decide +kernel)⟩
theorem lw_p57 : lw_okq (⟨"WornLettersModel", "readPart", "()Z"⟩, 36) := ⟨⟨by decide +kernel, by decide +kernel⟩, List.mem_of_getElem? (i := 715) (by decide +kernel), List.mem_of_getElem? (i := 857) (by decide +kernel), List.mem_of_getElem? (i := 858) (by decide +kernel)⟩
theorem lw_p58 : lw_okq (⟨"WornLettersModel", "readWord", "()Z"⟩, 36) := ⟨⟨by decide +kernel, by decide +kernel⟩, List.mem_of_getElem? (i := 715) (by decide +kernel), List.mem_of_getElem? (i := 861) (by decide +kernel), List.mem_of_getElem? (i := 862) (by decide +kernel)⟩
theorem lw_p59 : lw_okq (⟨"WornLettersModel", "readOneRule", "()Z"⟩, 36) := ⟨⟨by decide +kernel, by decide +kernel⟩, List.mem_of_getElem? (i := 715) (by decide +kernel), List.mem_of_getElem? (i := 865) (by decide +kernel), List.mem_of_getElem? (i := 866) (by decide +kernel)⟩
theorem lw_p60 : lw_okq (⟨"WornLettersModel", "toldOf", "(I)I"⟩, 36) := ⟨⟨by decide +kernel, by decide +kernel⟩, List.mem_of_getElem? (i := 715) (by decide +kernel), List.mem_of_getElem? (i := 869) (by decide +kernel), List.mem_of_getElem? (i := 870) (by decide +kernel)⟩
theorem lw_p61 : lw_okq (⟨"WornLettersModel", "readLine", "()Z"⟩, 36) := ⟨⟨by decide +kernel, by decide +kernel⟩, List.mem_of_getElem? (i := 715) (by decide +kernel), List.mem_of_getElem? (i := 873) (by decide +kernel), List.mem_of_getElem? (i := 874) (by decide +kernel)⟩
theorem lw_p62 : lw_okq (⟨"WornLettersModel", "noWord", "(I)Z"⟩, 36) := ⟨⟨by decide +kernel, by decide +kernel⟩, List.mem_of_getElem? (i := 715) (by decide +kernel), List.mem_of_getElem? (i := 888) (by decide +kernel), List.mem_of_getElem? (i := 889) (by decide +kernel)⟩
theorem lw_p63 : lw_okq (⟨"WornLettersModel", "unitsOf", "(I)I"⟩, 36) := ⟨⟨by decide +kernel, by decide +kernel⟩, List.mem_of_getElem? (i := 715) (by decide +kernel), List.mem_of_getElem? (i := 892) (by decide +kernel), List.mem_of_getElem? (i := 893) (by decide +kernel)⟩
def lw_privs_4 : List (MethodName × Nat) := [(⟨"WornLetters$Chart", "countThrough", "(II)J"⟩, 9), (⟨"WornLetters", "certainSign", "(LWornLetters$Tablet;I)I"⟩, 13), (⟨"WornLetters", "accepts", "(I)Z"⟩, 13), (⟨"WornLetters$Sightings", "append", "(IIZ)V"⟩, 4), (⟨"WornLetters$Chart", "countSelected", "(LWornLetters$Lexicon;LWornLetters$Tablet;LWornLetters$Sightings;)J"⟩, 9), (⟨"WornLetters$Chart", "select", "(IIZ)V"⟩, 9), (⟨"WornLetters$Ranking", "rankOfPath", "(LWornLetters$Chart;)J"⟩, 5), (⟨"WornLettersModel", "readStone", "()I"⟩, 36), (⟨"WornLettersModel", "isNext", "(III)Z"⟩, 36), (⟨"WornLettersModel", "readPart", "()Z"⟩, 36), (⟨"WornLettersModel", "readWord", "()Z"⟩, 36), (⟨"WornLettersModel", "readOneRule", "()Z"⟩, 36), (⟨"WornLettersModel", "toldOf", "(I)I"⟩, 36), (⟨"WornLettersModel", "readLine", "()Z"⟩, 36), (⟨"WornLettersModel", "noWord", "(I)Z"⟩, 36), (⟨"WornLettersModel", "unitsOf", "(I)I"⟩, 36)]
theorem lw_r4 : ∀ q ∈ lw_privs_4, lw_okq q := List.forall_mem_cons.mpr ⟨lw_p48, List.forall_mem_cons.mpr ⟨lw_p49, List.forall_mem_cons.mpr ⟨lw_p50, List.forall_mem_cons.mpr ⟨lw_p51, List.forall_mem_cons.mpr ⟨lw_p52, List.forall_mem_cons.mpr ⟨lw_p53, List.forall_mem_cons.mpr ⟨lw_p54, List.forall_mem_cons.mpr ⟨lw_p55, List.forall_mem_cons.mpr ⟨lw_p56, List.forall_mem_cons.mpr ⟨lw_p57, List.forall_mem_cons.mpr ⟨lw_p58, List.forall_mem_cons.mpr ⟨lw_p59, List.forall_mem_cons.mpr ⟨lw_p60, List.forall_mem_cons.mpr ⟨lw_p61, List.forall_mem_cons.mpr ⟨lw_p62, List.forall_mem_cons.mpr ⟨lw_p63, fun _ h => absurd h List.not_mem_nil⟩⟩⟩⟩⟩⟩⟩⟩⟩⟩⟩⟩⟩⟩⟩⟩
theorem lw_p64 : lw_okq (⟨"WornLettersModel", "noUnit", "(I)Z"⟩, 36) := ⟨⟨by decide +kernel, by decide +kernel⟩, List.mem_of_getElem? (i := 715) (by decide +kernel), List.mem_of_getElem? (i := 900) (by decide +kernel), List.mem_of_getElem? (i := 901) (by decide +kernel)⟩
theorem lw_p65 : lw_okq (⟨"WornLettersModel", "note", "()V"⟩, 36) := ⟨⟨by decide +kernel, by decide +kernel⟩, List.mem_of_getElem? (i := 715) (by decide +kernel), List.mem_of_getElem? (i := 913) (by decide +kernel), List.mem_of_getElem? (i := 914) (by decide +kernel)⟩
theorem lw_p66 : lw_okq (⟨"WornLettersModel", "wearOn", "([II)V"⟩, 36) := ⟨⟨by decide +kernel, by decide +kernel⟩, List.mem_of_getElem? (i := 715) (by decide +kernel), List.mem_of_getElem? (i := 917) (by decide +kernel), List.mem_of_getElem? (i := 918) (by decide +kernel)⟩
theorem lw_p67 : lw_okq (⟨"WornLettersModel", "isInGaps", "([III)Z"⟩, 36) := ⟨⟨by decide +kernel, by decide +kernel⟩, List.mem_of_getElem? (i := 715) (by decide +kernel), List.mem_of_getElem? (i := 926) (by decide +kernel), List.mem_of_getElem? (i := 927) (by decide +kernel)⟩
theorem lw_p68 : lw_okq (⟨"WornLettersModel", "carveOn", "([III)V"⟩, 36) := ⟨⟨by decide +kernel, by decide +kernel⟩, List.mem_of_getElem? (i := 715) (by decide +kernel), List.mem_of_getElem? (i := 930) (by decide +kernel), List.mem_of_getElem? (i := 931) (by decide +kernel)⟩
theorem lw_p69 : lw_okq (⟨"WornLettersModel", "gaps", "([I)I"⟩, 36) := ⟨⟨by decide +kernel, by decide +kernel⟩, List.mem_of_getElem? (i := 715) (by decide +kernel), List.mem_of_getElem? (i := 934) (by decide +kernel), List.mem_of_getElem? (i := 935) (by decide +kernel)⟩
theorem lw_p70 : lw_okq (⟨"WornLettersModel", "wordLies", "([III)Z"⟩, 36) := ⟨⟨by decide +kernel, by decide +kernel⟩, List.mem_of_getElem? (i := 715) (by decide +kernel), List.mem_of_getElem? (i := 959) (by decide +kernel), List.mem_of_getElem? (i := 960) (by decide +kernel)⟩
theorem lw_p71 : lw_okq (⟨"WornLettersModel", "canLie", "([III)Z"⟩, 36) := ⟨⟨by decide +kernel, by decide +kernel⟩, List.mem_of_getElem? (i := 715) (by decide +kernel), List.mem_of_getElem? (i := 963) (by decide +kernel), List.mem_of_getElem? (i := 964) (by decide +kernel)⟩
theorem lw_p72 : lw_okq (⟨"WornLettersModel", "all", "([I)J"⟩, 36) := ⟨⟨by decide +kernel, by decide +kernel⟩, List.mem_of_getElem? (i := 715) (by decide +kernel), List.mem_of_getElem? (i := 971) (by decide +kernel), List.mem_of_getElem? (i := 972) (by decide +kernel)⟩
theorem lw_p73 : lw_okq (⟨"WornLettersModel", "layFrom", "([I)V"⟩, 36) := ⟨⟨by decide +kernel, by decide +kernel⟩, List.mem_of_getElem? (i := 715) (by decide +kernel), List.mem_of_getElem? (i := 975) (by decide +kernel), List.mem_of_getElem? (i := 976) (by decide +kernel)⟩
theorem lw_p74 : lw_okq (⟨"WornLettersModel", "fits", "([IIII)Z"⟩, 36) := ⟨⟨by decide +kernel, by decide +kernel⟩, List.mem_of_getElem? (i := 715) (by decide +kernel), List.mem_of_getElem? (i := 979) (by decide +kernel), List.mem_of_getElem? (i := 980) (by decide +kernel)⟩
theorem lw_p75 : lw_okq (⟨"WornLettersModel", "mayFollow", "([III)Z"⟩, 36) := ⟨⟨by decide +kernel, by decide +kernel⟩, List.mem_of_getElem? (i := 715) (by decide +kernel), List.mem_of_getElem? (i := 986) (by decide +kernel), List.mem_of_getElem? (i := 987) (by decide +kernel)⟩
theorem lw_p76 : lw_okq (⟨"WornLettersModel", "findRank", "([IJ)Z"⟩, 36) := ⟨⟨by decide +kernel, by decide +kernel⟩, List.mem_of_getElem? (i := 715) (by decide +kernel), List.mem_of_getElem? (i := 994) (by decide +kernel), List.mem_of_getElem? (i := 995) (by decide +kernel)⟩
theorem lw_p77 : lw_okq (⟨"WornLettersModel", "layHeavy", "([IZ)V"⟩, 36) := ⟨⟨by decide +kernel, by decide +kernel⟩, List.mem_of_getElem? (i := 715) (by decide +kernel), List.mem_of_getElem? (i := 998) (by decide +kernel), List.mem_of_getElem? (i := 999) (by decide +kernel)⟩
theorem lw_p78 : lw_okq (⟨"WornLettersModel", "agrees", "([III)Z"⟩, 36) := ⟨⟨by decide +kernel, by decide +kernel⟩, List.mem_of_getElem? (i := 715) (by decide +kernel), List.mem_of_getElem? (i := 1002) (by decide +kernel), List.mem_of_getElem? (i := 1003) (by decide +kernel)⟩
theorem lw_p79 : lw_okq (⟨"WornLettersModel", "addHeavy", "([IIII)V"⟩, 36) := ⟨⟨by decide +kernel, by decide +kernel⟩, List.mem_of_getElem? (i := 715) (by decide +kernel), List.mem_of_getElem? (i := 1006) (by decide +kernel), List.mem_of_getElem? (i := 1007) (by decide +kernel)⟩
def lw_privs_5 : List (MethodName × Nat) := [(⟨"WornLettersModel", "noUnit", "(I)Z"⟩, 36), (⟨"WornLettersModel", "note", "()V"⟩, 36), (⟨"WornLettersModel", "wearOn", "([II)V"⟩, 36), (⟨"WornLettersModel", "isInGaps", "([III)Z"⟩, 36), (⟨"WornLettersModel", "carveOn", "([III)V"⟩, 36), (⟨"WornLettersModel", "gaps", "([I)I"⟩, 36), (⟨"WornLettersModel", "wordLies", "([III)Z"⟩, 36), (⟨"WornLettersModel", "canLie", "([III)Z"⟩, 36), (⟨"WornLettersModel", "all", "([I)J"⟩, 36), (⟨"WornLettersModel", "layFrom", "([I)V"⟩, 36), (⟨"WornLettersModel", "fits", "([IIII)Z"⟩, 36), (⟨"WornLettersModel", "mayFollow", "([III)Z"⟩, 36), (⟨"WornLettersModel", "findRank", "([IJ)Z"⟩, 36), (⟨"WornLettersModel", "layHeavy", "([IZ)V"⟩, 36), (⟨"WornLettersModel", "agrees", "([III)Z"⟩, 36), (⟨"WornLettersModel", "addHeavy", "([IIII)V"⟩, 36)]
theorem lw_r5 : ∀ q ∈ lw_privs_5, lw_okq q := List.forall_mem_cons.mpr ⟨lw_p64, List.forall_mem_cons.mpr ⟨lw_p65, List.forall_mem_cons.mpr ⟨lw_p66, List.forall_mem_cons.mpr ⟨lw_p67, List.forall_mem_cons.mpr ⟨lw_p68, List.forall_mem_cons.mpr ⟨lw_p69, List.forall_mem_cons.mpr ⟨lw_p70, List.forall_mem_cons.mpr ⟨lw_p71, List.forall_mem_cons.mpr ⟨lw_p72, List.forall_mem_cons.mpr ⟨lw_p73, List.forall_mem_cons.mpr ⟨lw_p74, List.forall_mem_cons.mpr ⟨lw_p75, List.forall_mem_cons.mpr ⟨lw_p76, List.forall_mem_cons.mpr ⟨lw_p77, List.forall_mem_cons.mpr ⟨lw_p78, List.forall_mem_cons.mpr ⟨lw_p79, fun _ h => absurd h List.not_mem_nil⟩⟩⟩⟩⟩⟩⟩⟩⟩⟩⟩⟩⟩⟩⟩⟩
theorem lw_p80 : lw_okq (⟨"WornLettersModel", "find", "([IIJZ)V"⟩, 36) := ⟨⟨by decide +kernel, by decide +kernel⟩, List.mem_of_getElem? (i := 715) (by decide +kernel), List.mem_of_getElem? (i := 1010) (by decide +kernel), List.mem_of_getElem? (i := 1011) (by decide +kernel)⟩
theorem lw_p81 : lw_okq (⟨"WornLettersModel", "heavyBehind", "([IIII)J"⟩, 36) := ⟨⟨by decide +kernel, by decide +kernel⟩, List.mem_of_getElem? (i := 715) (by decide +kernel), List.mem_of_getElem? (i := 1014) (by decide +kernel), List.mem_of_getElem? (i := 1015) (by decide +kernel)⟩
theorem lw_p82 : lw_okq (⟨"WornLettersModel", "standing", "([III)J"⟩, 36) := ⟨⟨by decide +kernel, by decide +kernel⟩, List.mem_of_getElem? (i := 715) (by decide +kernel), List.mem_of_getElem? (i := 1023) (by decide +kernel), List.mem_of_getElem? (i := 1024) (by decide +kernel)⟩
theorem lw_p83 : lw_okq (⟨"WornLettersModel", "layTo", "([I)V"⟩, 36) := ⟨⟨by decide +kernel, by decide +kernel⟩, List.mem_of_getElem? (i := 715) (by decide +kernel), List.mem_of_getElem? (i := 1027) (by decide +kernel), List.mem_of_getElem? (i := 1028) (by decide +kernel)⟩
theorem lw_p84 : lw_okq (⟨"WornLettersModel", "hasAt", "([IIIII)Z"⟩, 36) := ⟨⟨by decide +kernel, by decide +kernel⟩, List.mem_of_getElem? (i := 715) (by decide +kernel), List.mem_of_getElem? (i := 1031) (by decide +kernel), List.mem_of_getElem? (i := 1032) (by decide +kernel)⟩
theorem lw_p85 : lw_okq (⟨"WornLettersModel", "behind", "([III)J"⟩, 36) := ⟨⟨by decide +kernel, by decide +kernel⟩, List.mem_of_getElem? (i := 715) (by decide +kernel), List.mem_of_getElem? (i := 1035) (by decide +kernel), List.mem_of_getElem? (i := 1036) (by decide +kernel)⟩
theorem lw_p86 : lw_okq (⟨"WornLettersModel", "sureAt", "([II)I"⟩, 36) := ⟨⟨by decide +kernel, by decide +kernel⟩, List.mem_of_getElem? (i := 715) (by decide +kernel), List.mem_of_getElem? (i := 1048) (by decide +kernel), List.mem_of_getElem? (i := 1049) (by decide +kernel)⟩
theorem lw_p87 : lw_okq (⟨"WornLettersModel", "does", "(I)Z"⟩, 36) := ⟨⟨by decide +kernel, by decide +kernel⟩, List.mem_of_getElem? (i := 715) (by decide +kernel), List.mem_of_getElem? (i := 1061) (by decide +kernel), List.mem_of_getElem? (i := 1062) (by decide +kernel)⟩
theorem lw_p88 : lw_okq (⟨"WornLettersModel", "aheadOf", "([I)J"⟩, 36) := ⟨⟨by decide +kernel, by decide +kernel⟩, List.mem_of_getElem? (i := 715) (by decide +kernel), List.mem_of_getElem? (i := 1078) (by decide +kernel), List.mem_of_getElem? (i := 1079) (by decide +kernel)⟩
theorem lw_p89 : lw_okq (⟨"WornLettersModel", "weighSets", "()V"⟩, 36) := ⟨⟨by decide +kernel, by decide +kernel⟩, List.mem_of_getElem? (i := 715) (by decide +kernel), List.mem_of_getElem? (i := 1086) (by decide +kernel), List.mem_of_getElem? (i := 1087) (by decide +kernel)⟩
def lw_privs_6 : List (MethodName × Nat) := [(⟨"WornLettersModel", "find", "([IIJZ)V"⟩, 36), (⟨"WornLettersModel", "heavyBehind", "([IIII)J"⟩, 36), (⟨"WornLettersModel", "standing", "([III)J"⟩, 36), (⟨"WornLettersModel", "layTo", "([I)V"⟩, 36), (⟨"WornLettersModel", "hasAt", "([IIIII)Z"⟩, 36), (⟨"WornLettersModel", "behind", "([III)J"⟩, 36), (⟨"WornLettersModel", "sureAt", "([II)I"⟩, 36), (⟨"WornLettersModel", "does", "(I)Z"⟩, 36), (⟨"WornLettersModel", "aheadOf", "([I)J"⟩, 36), (⟨"WornLettersModel", "weighSets", "()V"⟩, 36)]
theorem lw_r6 : ∀ q ∈ lw_privs_6, lw_okq q := List.forall_mem_cons.mpr ⟨lw_p80, List.forall_mem_cons.mpr ⟨lw_p81, List.forall_mem_cons.mpr ⟨lw_p82, List.forall_mem_cons.mpr ⟨lw_p83, List.forall_mem_cons.mpr ⟨lw_p84, List.forall_mem_cons.mpr ⟨lw_p85, List.forall_mem_cons.mpr ⟨lw_p86, List.forall_mem_cons.mpr ⟨lw_p87, List.forall_mem_cons.mpr ⟨lw_p88, List.forall_mem_cons.mpr ⟨lw_p89, fun _ h => absurd h List.not_mem_nil⟩⟩⟩⟩⟩⟩⟩⟩⟩⟩
def lw_privs : List (MethodName × Nat) := lw_privs_1 ++ (lw_privs_2 ++ (lw_privs_3 ++ (lw_privs_4 ++ (lw_privs_5 ++ (lw_privs_6)))))
def lw_tbl : List Cond := k2_sels lw_privs ++ tables_1
theorem lw_privs_ok : ∀ q ∈ lw_privs, lw_okq q := by
  show ∀ q ∈ lw_privs_1 ++ (lw_privs_2 ++ (lw_privs_3 ++ (lw_privs_4 ++ (lw_privs_5 ++ (lw_privs_6))))), lw_okq q
  exact List.forall_mem_append.mpr ⟨lw_r1, List.forall_mem_append.mpr ⟨lw_r2, List.forall_mem_append.mpr ⟨lw_r3, List.forall_mem_append.mpr ⟨lw_r4, List.forall_mem_append.mpr ⟨lw_r5, lw_r6⟩⟩⟩⟩⟩
end
section
def RX0 : String := "WornLetters$Chart"
def TX0 : u_T := fun k => match k with
  | 0 => ("WornLetters$Chart", "open", "[I", true)
  | 1 => ("WornLetters$Chart", "reached", "[I", true)
  | 2 => ("WornLetters$Chart", "followers", "[I", true)
  | 3 => ("WornLetters$Chart", "spans", "[I", true)
  | 4 => ("WornLetters$Chart", "heads", "[J", true)
  | 5 => ("WornLetters$Chart", "tails", "[J", true)
  | 6 => ("WornLetters$Chart", "units", "I", false)
  | 7 => ("WornLetters$Chart", "words", "I", false)
  | _ => ("WornLetters$Chart", "used", "I", false)
def tyX0 : Nat → FieldType := fun k => match k with
  | 0 => .array .int
  | 1 => .array .int
  | 2 => .array .int
  | 3 => .array .int
  | 4 => .array .long
  | 5 => .array .long
  | 6 => .int
  | 7 => .int
  | _ => .int
abbrev wsX00 : List Cond := u_ws RX0 TX0 9
theorem nmX0 : ∀ a, a < 9 → ∀ b, b < 9 → a ≠ b → (TX0 a).2.1 ≠ (TX0 b).2.1 := by decide +kernel
theorem tyX0_ok : ∀ k, k < 9 → parseFieldDescriptor (TX0 k).2.2.1 = some (tyX0 k) := by decide +kernel
abbrev cX0_init : ByteArray := prog_2_method_1_code
def yX0_init : MethodName := ⟨RX0, "<init>", "()V"⟩
abbrev cX0_countAll : ByteArray := prog_2_method_2_code
def yX0_countAll : MethodName := ⟨RX0, "countAll", "(LWornLetters$Lexicon;LWornLetters$Tablet;)J"⟩
abbrev cX0_countSelected : ByteArray := prog_2_method_3_code
def yX0_countSelected : MethodName := ⟨RX0, "countSelected", "(LWornLetters$Lexicon;LWornLetters$Tablet;LWornLetters$Sightings;)J"⟩
abbrev cX0_lay : ByteArray := prog_2_method_4_code
def yX0_lay : MethodName := ⟨RX0, "lay", "(LWornLetters$Lexicon;LWornLetters$Tablet;)V"⟩
abbrev cX0_followersOf : ByteArray := prog_2_method_5_code
def yX0_followersOf : MethodName := ⟨RX0, "followersOf", "(LWornLetters$Lexicon;LWornLetters$Tablet;I)I"⟩
abbrev cX0_isOpen : ByteArray := prog_2_method_6_code
def yX0_isOpen : MethodName := ⟨RX0, "isOpen", "(II)Z"⟩
abbrev cX0_nextUnit : ByteArray := prog_2_method_7_code
def yX0_nextUnit : MethodName := ⟨RX0, "nextUnit", "(II)I"⟩
abbrev cX0_select : ByteArray := prog_2_method_8_code
def yX0_select : MethodName := ⟨RX0, "select", "(IIZ)V"⟩
abbrev cX0_prune : ByteArray := prog_2_method_9_code
def yX0_prune : MethodName := ⟨RX0, "prune", "()V"⟩
abbrev cX0_leadsOn : ByteArray := prog_2_method_10_code
def yX0_leadsOn : MethodName := ⟨RX0, "leadsOn", "(II)Z"⟩
abbrev cX0_countFrom : ByteArray := prog_2_method_11_code
def yX0_countFrom : MethodName := ⟨RX0, "countFrom", "(I)J"⟩
abbrev cX0_sumTails : ByteArray := prog_2_method_12_code
def yX0_sumTails : MethodName := ⟨RX0, "sumTails", "(II)J"⟩
abbrev cX0_countHeads : ByteArray := prog_2_method_13_code
def yX0_countHeads : MethodName := ⟨RX0, "countHeads", "()V"⟩
abbrev cX0_passOn : ByteArray := prog_2_method_14_code
def yX0_passOn : MethodName := ⟨RX0, "passOn", "(JII)V"⟩
abbrev cX0_countThrough : ByteArray := prog_2_method_15_code
def yX0_countThrough : MethodName := ⟨RX0, "countThrough", "(II)J"⟩
abbrev cX0_countSign : ByteArray := prog_2_method_16_code
def yX0_countSign : MethodName := ⟨RX0, "countSign", "(LWornLetters$Lexicon;II)J"⟩
def RX1 : String := "WornLetters$History"
def TX1 : u_T := fun k => match k with
  | 0 => ("WornLetters$History", "deeds", "[I", true)
  | 1 => ("WornLetters$History", "places", "[I", true)
  | 2 => ("WornLetters$History", "values", "[I", true)
  | 3 => ("WornLetters$History", "acts", "I", false)
  | _ => ("WornLetters$History", "next", "I", false)
def tyX1 : Nat → FieldType := fun k => match k with
  | 0 => .array .int
  | 1 => .array .int
  | 2 => .array .int
  | 3 => .int
  | _ => .int
abbrev wsX10 : List Cond := u_ws RX1 TX1 5
theorem nmX1 : ∀ a, a < 5 → ∀ b, b < 5 → a ≠ b → (TX1 a).2.1 ≠ (TX1 b).2.1 := by decide +kernel
theorem tyX1_ok : ∀ k, k < 5 → parseFieldDescriptor (TX1 k).2.2.1 = some (tyX1 k) := by decide +kernel
abbrev cX1_init : ByteArray := prog_3_method_1_code
def yX1_init : MethodName := ⟨RX1, "<init>", "()V"⟩
abbrev cX1_forget : ByteArray := prog_3_method_2_code
def yX1_forget : MethodName := ⟨RX1, "forget", "()V"⟩
abbrev cX1_record : ByteArray := prog_3_method_3_code
def yX1_record : MethodName := ⟨RX1, "record", "(III)V"⟩
abbrev cX1_takeBack : ByteArray := prog_3_method_4_code
def yX1_takeBack : MethodName := ⟨RX1, "takeBack", "(LWornLetters$Lexicon;LWornLetters$Tablet;)V"⟩
def RX2 : String := "WornLetters$Lexicon"
def TX2 : u_T := fun k => match k with
  | 0 => ("WornLetters$Lexicon", "widths", "[I", true)
  | 1 => ("WornLetters$Lexicon", "letters", "[I", true)
  | 2 => ("WornLetters$Lexicon", "lengths", "[I", true)
  | 3 => ("WornLetters$Lexicon", "kinds", "[I", true)
  | 4 => ("WornLetters$Lexicon", "endings", "[I", true)
  | 5 => ("WornLetters$Lexicon", "spans", "[I", true)
  | _ => ("WornLetters$Lexicon", "words", "I", false)
def tyX2 : Nat → FieldType := fun k => match k with
  | 0 => .array .int
  | 1 => .array .int
  | 2 => .array .int
  | 3 => .array .int
  | 4 => .array .int
  | 5 => .array .int
  | _ => .int
abbrev wsX20 : List Cond := u_ws RX2 TX2 7
theorem nmX2 : ∀ a, a < 7 → ∀ b, b < 7 → a ≠ b → (TX2 a).2.1 ≠ (TX2 b).2.1 := by decide +kernel
theorem tyX2_ok : ∀ k, k < 7 → parseFieldDescriptor (TX2 k).2.2.1 = some (tyX2 k) := by decide +kernel
abbrev cX2_init : ByteArray := prog_4_method_1_code
def yX2_init : MethodName := ⟨RX2, "<init>", "()V"⟩
abbrev cX2_copyFrom : ByteArray := prog_4_method_2_code
def yX2_copyFrom : MethodName := ⟨RX2, "copyFrom", "(LWornLetters$Lexicon;)V"⟩
abbrev cX2_hasWord : ByteArray := prog_4_method_3_code
def yX2_hasWord : MethodName := ⟨RX2, "hasWord", "(I)Z"⟩
abbrev cX2_widthOf : ByteArray := prog_4_method_4_code
def yX2_widthOf : MethodName := ⟨RX2, "widthOf", "(I)I"⟩
abbrev cX2_letterOf : ByteArray := prog_4_method_5_code
def yX2_letterOf : MethodName := ⟨RX2, "letterOf", "(II)I"⟩
abbrev cX2_signBehind : ByteArray := prog_4_method_6_code
def yX2_signBehind : MethodName := ⟨RX2, "signBehind", "(II)I"⟩
def RX3 : String := "WornLetters$Ranking"
def TX3 : u_T := fun k => match k with
  | 0 => ("WornLetters$Ranking", "ends", "[J", false)
  | 1 => ("WornLetters$Ranking", "weights", "[I", true)
  | 2 => ("WornLetters$Ranking", "path", "[I", true)
  | 3 => ("WornLetters$Ranking", "length", "I", false)
  | _ => ("WornLetters$Ranking", "weight", "I", false)
def tyX3 : Nat → FieldType := fun k => match k with
  | 0 => .array .long
  | 1 => .array .int
  | 2 => .array .int
  | 3 => .int
  | _ => .int
abbrev wsX30 : List Cond := u_ws RX3 TX3 5
theorem nmX3 : ∀ a, a < 5 → ∀ b, b < 5 → a ≠ b → (TX3 a).2.1 ≠ (TX3 b).2.1 := by decide +kernel
theorem tyX3_ok : ∀ k, k < 5 → parseFieldDescriptor (TX3 k).2.2.1 = some (tyX3 k) := by decide +kernel
abbrev cX3_init : ByteArray := prog_5_method_1_code
def yX3_init : MethodName := ⟨RX3, "<init>", "()V"⟩
abbrev cX3_build : ByteArray := prog_5_method_2_code
def yX3_build : MethodName := ⟨RX3, "build", "(LWornLetters$Chart;[I)V"⟩
abbrev cX3_fillRow : ByteArray := prog_5_method_3_code
def yX3_fillRow : MethodName := ⟨RX3, "fillRow", "(LWornLetters$Chart;II)V"⟩
abbrev cX3_rowOf : ByteArray := prog_5_method_4_code
def yX3_rowOf : MethodName := ⟨RX3, "rowOf", "(II)I"⟩
abbrev cX3_heaviestFrom : ByteArray := prog_5_method_5_code
def yX3_heaviestFrom : MethodName := ⟨RX3, "heaviestFrom", "(LWornLetters$Chart;I)I"⟩
abbrev cX3_countWithWeight : ByteArray := prog_5_method_6_code
def yX3_countWithWeight : MethodName := ⟨RX3, "countWithWeight", "(LWornLetters$Chart;I)J"⟩
abbrev cX3_find : ByteArray := prog_5_method_7_code
def yX3_find : MethodName := ⟨RX3, "find", "(LWornLetters$Chart;J)V"⟩
abbrev cX3_walk : ByteArray := prog_5_method_8_code
def yX3_walk : MethodName := ⟨RX3, "walk", "(LWornLetters$Chart;J)V"⟩
abbrev cX3_endsOf : ByteArray := prog_5_method_9_code
def yX3_endsOf : MethodName := ⟨RX3, "endsOf", "(LWornLetters$Chart;IIII)J"⟩
abbrev cX3_rankOfPath : ByteArray := prog_5_method_10_code
def yX3_rankOfPath : MethodName := ⟨RX3, "rankOfPath", "(LWornLetters$Chart;)J"⟩
def RX4 : String := "WornLetters$Script"
def TX4 : u_T := fun k => match k with
  | 0 => ("WornLetters$Script", "characters", "[I", true)
  | 1 => ("WornLetters$Script", "length", "I", false)
  | 2 => ("WornLetters$Script", "lexicon", "LWornLetters$Lexicon;", true)
  | 3 => ("WornLetters$Script", "tablet", "LWornLetters$Tablet;", true)
  | 4 => ("WornLetters$Script", "position", "I", false)
  | 5 => ("WornLetters$Script", "wrong", "Z", false)
  | _ => ("WornLetters$Script", "givenRules", "I", false)
def tyX4 : Nat → FieldType := fun k => match k with
  | 0 => .array .int
  | 1 => .int
  | 2 => .object "WornLetters$Lexicon"
  | 3 => .object "WornLetters$Tablet"
  | 4 => .int
  | 5 => .boolean
  | _ => .int
abbrev wsX40 : List Cond := u_ws RX4 TX4 7
theorem nmX4 : ∀ a, a < 7 → ∀ b, b < 7 → a ≠ b → (TX4 a).2.1 ≠ (TX4 b).2.1 := by decide +kernel
theorem tyX4_ok : ∀ k, k < 7 → parseFieldDescriptor (TX4 k).2.2.1 = some (tyX4 k) := by decide +kernel
abbrev cX4_init : ByteArray := prog_6_method_1_code
def yX4_init : MethodName := ⟨RX4, "<init>", "()V"⟩
abbrev cX4_append : ByteArray := prog_6_method_2_code
def yX4_append : MethodName := ⟨RX4, "append", "(I)V"⟩
abbrev cX4_parse : ByteArray := prog_6_method_3_code
def yX4_parse : MethodName := ⟨RX4, "parse", "()I"⟩
abbrev cX4_parseWidths : ByteArray := prog_6_method_4_code
def yX4_parseWidths : MethodName := ⟨RX4, "parseWidths", "()V"⟩
abbrev cX4_parsePart : ByteArray := prog_6_method_5_code
def yX4_parsePart : MethodName := ⟨RX4, "parsePart", "()V"⟩
abbrev cX4_parseWord : ByteArray := prog_6_method_6_code
def yX4_parseWord : MethodName := ⟨RX4, "parseWord", "()V"⟩
abbrev cX4_parseRule : ByteArray := prog_6_method_7_code
def yX4_parseRule : MethodName := ⟨RX4, "parseRule", "()V"⟩
abbrev cX4_parseLine : ByteArray := prog_6_method_8_code
def yX4_parseLine : MethodName := ⟨RX4, "parseLine", "()V"⟩
abbrev cX4_parseSign : ByteArray := prog_6_method_9_code
def yX4_parseSign : MethodName := ⟨RX4, "parseSign", "(I)V"⟩
abbrev cX4_peek : ByteArray := prog_6_method_10_code
def yX4_peek : MethodName := ⟨RX4, "peek", "()I"⟩
abbrev cX4_isLetter : ByteArray := prog_6_method_11_code
def yX4_isLetter : MethodName := ⟨RX4, "isLetter", "(I)Z"⟩
abbrev cX4_takeDigit : ByteArray := prog_6_method_12_code
def yX4_takeDigit : MethodName := ⟨RX4, "takeDigit", "(II)I"⟩
abbrev cX4_refuseLast : ByteArray := prog_6_method_13_code
def yX4_refuseLast : MethodName := ⟨RX4, "refuseLast", "()V"⟩
def RX5 : String := "WornLetters$Sightings"
def TX5 : u_T := fun k => match k with
  | 0 => ("WornLetters$Sightings", "words", "[I", true)
  | 1 => ("WornLetters$Sightings", "units", "[I", true)
  | 2 => ("WornLetters$Sightings", "affirmed", "[Z", true)
  | _ => ("WornLetters$Sightings", "number", "I", false)
def tyX5 : Nat → FieldType := fun k => match k with
  | 0 => .array .int
  | 1 => .array .int
  | 2 => .array .boolean
  | _ => .int
abbrev wsX50 : List Cond := u_ws RX5 TX5 4
theorem nmX5 : ∀ a, a < 4 → ∀ b, b < 4 → a ≠ b → (TX5 a).2.1 ≠ (TX5 b).2.1 := by decide +kernel
theorem tyX5_ok : ∀ k, k < 4 → parseFieldDescriptor (TX5 k).2.2.1 = some (tyX5 k) := by decide +kernel
abbrev cX5_init : ByteArray := prog_7_method_1_code
def yX5_init : MethodName := ⟨RX5, "<init>", "()V"⟩
abbrev cX5_append : ByteArray := prog_7_method_2_code
def yX5_append : MethodName := ⟨RX5, "append", "(IIZ)V"⟩
def RX6 : String := "WornLetters$Tablet"
def TX6 : u_T := fun k => match k with
  | 0 => ("WornLetters$Tablet", "signs", "[I", true)
  | 1 => ("WornLetters$Tablet", "rules", "[I", true)
  | 2 => ("WornLetters$Tablet", "weights", "[I", true)
  | 3 => ("WornLetters$Tablet", "units", "I", false)
  | _ => ("WornLetters$Tablet", "barred", "I", false)
def tyX6 : Nat → FieldType := fun k => match k with
  | 0 => .array .int
  | 1 => .array .int
  | 2 => .array .int
  | 3 => .int
  | _ => .int
abbrev wsX60 : List Cond := u_ws RX6 TX6 5
theorem nmX6 : ∀ a, a < 5 → ∀ b, b < 5 → a ≠ b → (TX6 a).2.1 ≠ (TX6 b).2.1 := by decide +kernel
theorem tyX6_ok : ∀ k, k < 5 → parseFieldDescriptor (TX6 k).2.2.1 = some (tyX6 k) := by decide +kernel
abbrev cX6_init : ByteArray := prog_8_method_1_code
def yX6_init : MethodName := ⟨RX6, "<init>", "()V"⟩
abbrev cX6_copyFrom : ByteArray := prog_8_method_2_code
def yX6_copyFrom : MethodName := ⟨RX6, "copyFrom", "(LWornLetters$Tablet;)V"⟩
abbrev cX6_hasUnit : ByteArray := prog_8_method_3_code
def yX6_hasUnit : MethodName := ⟨RX6, "hasUnit", "(I)Z"⟩
abbrev cX6_countGaps : ByteArray := prog_8_method_4_code
def yX6_countGaps : MethodName := ⟨RX6, "countGaps", "()I"⟩
abbrev cX6_isFree : ByteArray := prog_8_method_5_code
def yX6_isFree : MethodName := ⟨RX6, "isFree", "(II)Z"⟩
abbrev cX6_putSign : ByteArray := prog_8_method_6_code
def yX6_putSign : MethodName := ⟨RX6, "putSign", "(III)V"⟩
abbrev cX6_putGap : ByteArray := prog_8_method_7_code
def yX6_putGap : MethodName := ⟨RX6, "putGap", "(II)V"⟩
abbrev cX6_holdsBlank : ByteArray := prog_8_method_8_code
def yX6_holdsBlank : MethodName := ⟨RX6, "holdsBlank", "(I)Z"⟩
abbrev cX6_holdsWord : ByteArray := prog_8_method_9_code
def yX6_holdsWord : MethodName := ⟨RX6, "holdsWord", "(LWornLetters$Lexicon;II)Z"⟩
abbrev cX6_removeSign : ByteArray := prog_8_method_10_code
def yX6_removeSign : MethodName := ⟨RX6, "removeSign", "(LWornLetters$Lexicon;I)I"⟩
abbrev cX6_insertSign : ByteArray := prog_8_method_11_code
def yX6_insertSign : MethodName := ⟨RX6, "insertSign", "(LWornLetters$Lexicon;II)I"⟩
abbrev cX6_flipWord : ByteArray := prog_8_method_12_code
def yX6_flipWord : MethodName := ⟨RX6, "flipWord", "(LWornLetters$Lexicon;I)I"⟩
abbrev cX6_changeRule : ByteArray := prog_8_method_13_code
def yX6_changeRule : MethodName := ⟨RX6, "changeRule", "(III)I"⟩
def RX7 : String := "WornLetters"
def TX7 : u_T := fun k => match k with
  | 0 => ("WornLetters", "script", "LWornLetters$Script;", true)
  | 1 => ("WornLetters", "lexicon", "LWornLetters$Lexicon;", true)
  | 2 => ("WornLetters", "tablet", "LWornLetters$Tablet;", true)
  | 3 => ("WornLetters", "trial", "LWornLetters$Tablet;", true)
  | 4 => ("WornLetters", "history", "LWornLetters$History;", true)
  | 5 => ("WornLetters", "sightings", "LWornLetters$Sightings;", true)
  | 6 => ("WornLetters", "chart", "LWornLetters$Chart;", true)
  | 7 => ("WornLetters", "ranking", "LWornLetters$Ranking;", true)
  | 8 => ("WornLetters", "firstSlot", "LWornLetters$Tablet;", true)
  | 9 => ("WornLetters", "secondSlot", "LWornLetters$Tablet;", true)
  | 10 => ("WornLetters", "firstKept", "Z", false)
  | 11 => ("WornLetters", "secondKept", "Z", false)
  | _ => ("WornLetters", "random", "J", false)
def tyX7 : Nat → FieldType := fun k => match k with
  | 0 => .object "WornLetters$Script"
  | 1 => .object "WornLetters$Lexicon"
  | 2 => .object "WornLetters$Tablet"
  | 3 => .object "WornLetters$Tablet"
  | 4 => .object "WornLetters$History"
  | 5 => .object "WornLetters$Sightings"
  | 6 => .object "WornLetters$Chart"
  | 7 => .object "WornLetters$Ranking"
  | 8 => .object "WornLetters$Tablet"
  | 9 => .object "WornLetters$Tablet"
  | 10 => .boolean
  | 11 => .boolean
  | _ => .long
abbrev wsX70 : List Cond := u_ws RX7 TX7 13
theorem nmX7 : ∀ a, a < 13 → ∀ b, b < 13 → a ≠ b → (TX7 a).2.1 ≠ (TX7 b).2.1 := by decide +kernel
theorem tyX7_ok : ∀ k, k < 13 → parseFieldDescriptor (TX7 k).2.2.1 = some (tyX7 k) := by decide +kernel
abbrev cX7_init : ByteArray := prog_1_method_1_code
def yX7_init : MethodName := ⟨RX7, "<init>", "()V"⟩
abbrev cX7_write : ByteArray := prog_1_method_2_code
def yX7_write : MethodName := ⟨RX7, "write", "(I)I"⟩
abbrev cX7_wipe : ByteArray := prog_1_method_3_code
def yX7_wipe : MethodName := ⟨RX7, "wipe", "()I"⟩
abbrev cX7_fault : ByteArray := prog_1_method_4_code
def yX7_fault : MethodName := ⟨RX7, "fault", "()I"⟩
abbrev cX7_stone : ByteArray := prog_1_method_5_code
def yX7_stone : MethodName := ⟨RX7, "stone", "()I"⟩
abbrev cX7_word : ByteArray := prog_1_method_6_code
def yX7_word : MethodName := ⟨RX7, "word", "(II)I"⟩
abbrev cX7_line : ByteArray := prog_1_method_7_code
def yX7_line : MethodName := ⟨RX7, "line", "(I)I"⟩
abbrev cX7_rule : ByteArray := prog_1_method_8_code
def yX7_rule : MethodName := ⟨RX7, "rule", "(II)I"⟩
abbrev cX7_wear : ByteArray := prog_1_method_9_code
def yX7_wear : MethodName := ⟨RX7, "wear", "(I)I"⟩
abbrev cX7_carve : ByteArray := prog_1_method_10_code
def yX7_carve : MethodName := ⟨RX7, "carve", "(II)I"⟩
abbrev cX7_bar : ByteArray := prog_1_method_11_code
def yX7_bar : MethodName := ⟨RX7, "bar", "(I)I"⟩
abbrev cX7_setRule : ByteArray := prog_1_method_12_code
def yX7_setRule : MethodName := ⟨RX7, "setRule", "(III)I"⟩
abbrev cX7_weigh : ByteArray := prog_1_method_13_code
def yX7_weigh : MethodName := ⟨RX7, "weigh", "(II)I"⟩
abbrev cX7_undo : ByteArray := prog_1_method_14_code
def yX7_undo : MethodName := ⟨RX7, "undo", "()I"⟩
abbrev cX7_lies : ByteArray := prog_1_method_15_code
def yX7_lies : MethodName := ⟨RX7, "lies", "(II)I"⟩
abbrev cX7_readings : ByteArray := prog_1_method_16_code
def yX7_readings : MethodName := ⟨RX7, "readings", "()J"⟩
abbrev cX7_rank : ByteArray := prog_1_method_17_code
def yX7_rank : MethodName := ⟨RX7, "rank", "(JI)I"⟩
abbrev cX7_stands : ByteArray := prog_1_method_18_code
def yX7_stands : MethodName := ⟨RX7, "stands", "(II)J"⟩
abbrev cX7_begins : ByteArray := prog_1_method_19_code
def yX7_begins : MethodName := ⟨RX7, "begins", "(II)J"⟩
abbrev cX7_sure : ByteArray := prog_1_method_20_code
def yX7_sure : MethodName := ⟨RX7, "sure", "(I)I"⟩
abbrev cX7_certainSign : ByteArray := prog_1_method_21_code
def yX7_certainSign : MethodName := ⟨RX7, "certainSign", "(LWornLetters$Tablet;I)I"⟩
abbrev cX7_judge : ByteArray := prog_1_method_22_code
def yX7_judge : MethodName := ⟨RX7, "judge", "(IJ)I"⟩
abbrev cX7_accepts : ByteArray := prog_1_method_23_code
def yX7_accepts : MethodName := ⟨RX7, "accepts", "(I)Z"⟩
abbrev cX7_see : ByteArray := prog_1_method_24_code
def yX7_see : MethodName := ⟨RX7, "see", "(III)I"⟩
abbrev cX7_unsee : ByteArray := prog_1_method_25_code
def yX7_unsee : MethodName := ⟨RX7, "unsee", "()I"⟩
abbrev cX7_which : ByteArray := prog_1_method_26_code
def yX7_which : MethodName := ⟨RX7, "which", "(I)J"⟩
abbrev cX7_share : ByteArray := prog_1_method_27_code
def yX7_share : MethodName := ⟨RX7, "share", "(IZ)J"⟩
abbrev cX7_lost : ByteArray := prog_1_method_28_code
def yX7_lost : MethodName := ⟨RX7, "lost", "(IZ)I"⟩
abbrev cX7_seed : ByteArray := prog_1_method_29_code
def yX7_seed : MethodName := ⟨RX7, "seed", "(J)J"⟩
abbrev cX7_drawn : ByteArray := prog_1_method_30_code
def yX7_drawn : MethodName := ⟨RX7, "drawn", "(I)I"⟩
abbrev cX7_keep : ByteArray := prog_1_method_31_code
def yX7_keep : MethodName := ⟨RX7, "keep", "(I)I"⟩
abbrev cX7_again : ByteArray := prog_1_method_32_code
def yX7_again : MethodName := ⟨RX7, "again", "(I)I"⟩
abbrev cX7_count : ByteArray := prog_1_method_33_code
def yX7_count : MethodName := ⟨RX7, "count", "(I)I"⟩
abbrev cX7_isKind : ByteArray := prog_1_method_34_code
def yX7_isKind : MethodName := ⟨RX7, "isKind", "(I)Z"⟩
abbrev cX7_isSign : ByteArray := prog_1_method_35_code
def yX7_isSign : MethodName := ⟨RX7, "isSign", "(I)Z"⟩
abbrev cX7_factorial : ByteArray := prog_1_method_36_code
def yX7_factorial : MethodName := ⟨RX7, "factorial", "(I)J"⟩
abbrev cX7_power : ByteArray := prog_1_method_37_code
def yX7_power : MethodName := ⟨RX7, "power", "(II)J"⟩
abbrev cX7_lowestTerms : ByteArray := prog_1_method_38_code
def yX7_lowestTerms : MethodName := ⟨RX7, "lowestTerms", "(JJZ)J"⟩
def RX8 : String := "WornLettersModel"
def TX8 : u_T := fun k => match k with
  | 0 => ("WornLettersModel", "thrown", "I", false)
  | 1 => ("WornLettersModel", "text", "[I", true)
  | 2 => ("WornLettersModel", "textSize", "I", false)
  | 3 => ("WornLettersModel", "place", "I", false)
  | 4 => ("WornLettersModel", "width", "[I", true)
  | 5 => ("WornLettersModel", "words", "I", false)
  | 6 => ("WornLettersModel", "size", "[I", true)
  | 7 => ("WornLettersModel", "letters", "[I", true)
  | 8 => ("WornLettersModel", "kind", "[I", true)
  | 9 => ("WornLettersModel", "ending", "[I", true)
  | 10 => ("WornLettersModel", "readWidth", "[I", true)
  | 11 => ("WornLettersModel", "readWords", "I", false)
  | 12 => ("WornLettersModel", "readSize", "[I", true)
  | 13 => ("WornLettersModel", "readLetters", "[I", true)
  | 14 => ("WornLettersModel", "readKind", "[I", true)
  | 15 => ("WornLettersModel", "readEnding", "[I", true)
  | 16 => ("WornLettersModel", "readRule", "[Z", true)
  | 17 => ("WornLettersModel", "readPage", "[I", true)
  | 18 => ("WornLettersModel", "page", "[I", true)
  | 19 => ("WornLettersModel", "trial", "[I", true)
  | 20 => ("WornLettersModel", "book", "[I", true)
  | 21 => ("WornLettersModel", "doings", "I", false)
  | 22 => ("WornLettersModel", "kept", "[I", true)
  | 23 => ("WornLettersModel", "isKept", "[Z", true)
  | 24 => ("WornLettersModel", "seen", "I", false)
  | 25 => ("WornLettersModel", "seenWord", "[I", true)
  | 26 => ("WornLettersModel", "seenUnit", "[I", true)
  | 27 => ("WornLettersModel", "seenIs", "[I", true)
  | 28 => ("WornLettersModel", "seed", "J", false)
  | 29 => ("WornLettersModel", "heavy", "[J", true)
  | 30 => ("WornLettersModel", "from", "[J", true)
  | 31 => ("WornLettersModel", "to", "[J", true)
  | 32 => ("WornLettersModel", "found", "[I", true)
  | 33 => ("WornLettersModel", "foundMany", "I", false)
  | 34 => ("WornLettersModel", "foundWeight", "I", false)
  | _ => ("WornLettersModel", "worth", "[J", true)
def tyX8 : Nat → FieldType := fun k => match k with
  | 0 => .int
  | 1 => .array .int
  | 2 => .int
  | 3 => .int
  | 4 => .array .int
  | 5 => .int
  | 6 => .array .int
  | 7 => .array .int
  | 8 => .array .int
  | 9 => .array .int
  | 10 => .array .int
  | 11 => .int
  | 12 => .array .int
  | 13 => .array .int
  | 14 => .array .int
  | 15 => .array .int
  | 16 => .array .boolean
  | 17 => .array .int
  | 18 => .array .int
  | 19 => .array .int
  | 20 => .array .int
  | 21 => .int
  | 22 => .array .int
  | 23 => .array .boolean
  | 24 => .int
  | 25 => .array .int
  | 26 => .array .int
  | 27 => .array .int
  | 28 => .long
  | 29 => .array .long
  | 30 => .array .long
  | 31 => .array .long
  | 32 => .array .int
  | 33 => .int
  | 34 => .int
  | _ => .array .long
abbrev wsX80 : List Cond := u_ws RX8 TX8 36
theorem nmX8 : ∀ a, a < 36 → ∀ b, b < 36 → a ≠ b → (TX8 a).2.1 ≠ (TX8 b).2.1 := by decide +kernel
theorem tyX8_ok : ∀ k, k < 36 → parseFieldDescriptor (TX8 k).2.2.1 = some (tyX8 k) := by decide +kernel
abbrev cX8_init : ByteArray := prog_10_method_1_code
def yX8_init : MethodName := ⟨RX8, "<init>", "()V"⟩
abbrev cX8_begin : ByteArray := prog_10_method_3_code
def yX8_begin : MethodName := ⟨RX8, "begin", "([I)V"⟩
abbrev cX8_in : ByteArray := prog_10_method_4_code
def yX8_in : MethodName := ⟨RX8, "in", "(JJJ)Z"⟩
abbrev cX8_has : ByteArray := prog_10_method_5_code
def yX8_has : MethodName := ⟨RX8, "has", "(II)Z"⟩
abbrev cX8_ones : ByteArray := prog_10_method_6_code
def yX8_ones : MethodName := ⟨RX8, "ones", "(I)I"⟩
abbrev cX8_power : ByteArray := prog_10_method_7_code
def yX8_power : MethodName := ⟨RX8, "power", "(II)I"⟩
abbrev cX8_lay : ByteArray := prog_10_method_8_code
def yX8_lay : MethodName := ⟨RX8, "lay", "([I[I)V"⟩
abbrev cX8_noWord : ByteArray := prog_10_method_9_code
def yX8_noWord : MethodName := ⟨RX8, "noWord", "(I)Z"⟩
abbrev cX8_noUnit : ByteArray := prog_10_method_10_code
def yX8_noUnit : MethodName := ⟨RX8, "noUnit", "(I)Z"⟩
abbrev cX8_write : ByteArray := prog_10_method_11_code
def yX8_write : MethodName := ⟨RX8, "write", "(I)I"⟩
abbrev cX8_wipe : ByteArray := prog_10_method_12_code
def yX8_wipe : MethodName := ⟨RX8, "wipe", "()I"⟩
abbrev cX8_isNext : ByteArray := prog_10_method_13_code
def yX8_isNext : MethodName := ⟨RX8, "isNext", "(III)Z"⟩
abbrev cX8_readWord : ByteArray := prog_10_method_14_code
def yX8_readWord : MethodName := ⟨RX8, "readWord", "()Z"⟩
abbrev cX8_toldOf : ByteArray := prog_10_method_15_code
def yX8_toldOf : MethodName := ⟨RX8, "toldOf", "(I)I"⟩
abbrev cX8_readOneRule : ByteArray := prog_10_method_16_code
def yX8_readOneRule : MethodName := ⟨RX8, "readOneRule", "()Z"⟩
abbrev cX8_readLine : ByteArray := prog_10_method_17_code
def yX8_readLine : MethodName := ⟨RX8, "readLine", "()Z"⟩
abbrev cX8_readPart : ByteArray := prog_10_method_18_code
def yX8_readPart : MethodName := ⟨RX8, "readPart", "()Z"⟩
abbrev cX8_readStone : ByteArray := prog_10_method_19_code
def yX8_readStone : MethodName := ⟨RX8, "readStone", "()I"⟩
abbrev cX8_fault : ByteArray := prog_10_method_20_code
def yX8_fault : MethodName := ⟨RX8, "fault", "()I"⟩
abbrev cX8_stone : ByteArray := prog_10_method_21_code
def yX8_stone : MethodName := ⟨RX8, "stone", "()I"⟩
abbrev cX8_unitsOf : ByteArray := prog_10_method_22_code
def yX8_unitsOf : MethodName := ⟨RX8, "unitsOf", "(I)I"⟩
abbrev cX8_word : ByteArray := prog_10_method_23_code
def yX8_word : MethodName := ⟨RX8, "word", "(II)I"⟩
abbrev cX8_line : ByteArray := prog_10_method_24_code
def yX8_line : MethodName := ⟨RX8, "line", "(I)I"⟩
abbrev cX8_rule : ByteArray := prog_10_method_25_code
def yX8_rule : MethodName := ⟨RX8, "rule", "(II)I"⟩
abbrev cX8_isInGaps : ByteArray := prog_10_method_26_code
def yX8_isInGaps : MethodName := ⟨RX8, "isInGaps", "([III)Z"⟩
abbrev cX8_canLie : ByteArray := prog_10_method_27_code
def yX8_canLie : MethodName := ⟨RX8, "canLie", "([III)Z"⟩
abbrev cX8_wordLies : ByteArray := prog_10_method_28_code
def yX8_wordLies : MethodName := ⟨RX8, "wordLies", "([III)Z"⟩
abbrev cX8_mayFollow : ByteArray := prog_10_method_29_code
def yX8_mayFollow : MethodName := ⟨RX8, "mayFollow", "([III)Z"⟩
abbrev cX8_note : ByteArray := prog_10_method_30_code
def yX8_note : MethodName := ⟨RX8, "note", "()V"⟩
abbrev cX8_gaps : ByteArray := prog_10_method_31_code
def yX8_gaps : MethodName := ⟨RX8, "gaps", "([I)I"⟩
abbrev cX8_wearOn : ByteArray := prog_10_method_32_code
def yX8_wearOn : MethodName := ⟨RX8, "wearOn", "([II)V"⟩
abbrev cX8_carveOn : ByteArray := prog_10_method_33_code
def yX8_carveOn : MethodName := ⟨RX8, "carveOn", "([III)V"⟩
abbrev cX8_wear : ByteArray := prog_10_method_34_code
def yX8_wear : MethodName := ⟨RX8, "wear", "(I)I"⟩
abbrev cX8_carve : ByteArray := prog_10_method_35_code
def yX8_carve : MethodName := ⟨RX8, "carve", "(II)I"⟩
abbrev cX8_bar : ByteArray := prog_10_method_36_code
def yX8_bar : MethodName := ⟨RX8, "bar", "(I)I"⟩
abbrev cX8_setRule : ByteArray := prog_10_method_37_code
def yX8_setRule : MethodName := ⟨RX8, "setRule", "(III)I"⟩
abbrev cX8_weigh : ByteArray := prog_10_method_38_code
def yX8_weigh : MethodName := ⟨RX8, "weigh", "(II)I"⟩
abbrev cX8_undo : ByteArray := prog_10_method_39_code
def yX8_undo : MethodName := ⟨RX8, "undo", "()I"⟩
abbrev cX8_fits : ByteArray := prog_10_method_40_code
def yX8_fits : MethodName := ⟨RX8, "fits", "([IIII)Z"⟩
abbrev cX8_agrees : ByteArray := prog_10_method_41_code
def yX8_agrees : MethodName := ⟨RX8, "agrees", "([III)Z"⟩
abbrev cX8_layFrom : ByteArray := prog_10_method_42_code
def yX8_layFrom : MethodName := ⟨RX8, "layFrom", "([I)V"⟩
abbrev cX8_behind : ByteArray := prog_10_method_43_code
def yX8_behind : MethodName := ⟨RX8, "behind", "([III)J"⟩
abbrev cX8_layTo : ByteArray := prog_10_method_44_code
def yX8_layTo : MethodName := ⟨RX8, "layTo", "([I)V"⟩
abbrev cX8_all : ByteArray := prog_10_method_45_code
def yX8_all : MethodName := ⟨RX8, "all", "([I)J"⟩
abbrev cX8_layHeavy : ByteArray := prog_10_method_46_code
def yX8_layHeavy : MethodName := ⟨RX8, "layHeavy", "([IZ)V"⟩
abbrev cX8_addHeavy : ByteArray := prog_10_method_47_code
def yX8_addHeavy : MethodName := ⟨RX8, "addHeavy", "([IIII)V"⟩
abbrev cX8_heavyBehind : ByteArray := prog_10_method_48_code
def yX8_heavyBehind : MethodName := ⟨RX8, "heavyBehind", "([IIII)J"⟩
abbrev cX8_find : ByteArray := prog_10_method_49_code
def yX8_find : MethodName := ⟨RX8, "find", "([IIJZ)V"⟩
abbrev cX8_findRank : ByteArray := prog_10_method_50_code
def yX8_findRank : MethodName := ⟨RX8, "findRank", "([IJ)Z"⟩
abbrev cX8_lies : ByteArray := prog_10_method_51_code
def yX8_lies : MethodName := ⟨RX8, "lies", "(II)I"⟩
abbrev cX8_readings : ByteArray := prog_10_method_52_code
def yX8_readings : MethodName := ⟨RX8, "readings", "()J"⟩
abbrev cX8_rank : ByteArray := prog_10_method_53_code
def yX8_rank : MethodName := ⟨RX8, "rank", "(JI)I"⟩
abbrev cX8_standing : ByteArray := prog_10_method_54_code
def yX8_standing : MethodName := ⟨RX8, "standing", "([III)J"⟩
abbrev cX8_hasAt : ByteArray := prog_10_method_55_code
def yX8_hasAt : MethodName := ⟨RX8, "hasAt", "([IIIII)Z"⟩
abbrev cX8_stands : ByteArray := prog_10_method_56_code
def yX8_stands : MethodName := ⟨RX8, "stands", "(II)J"⟩
abbrev cX8_begins : ByteArray := prog_10_method_57_code
def yX8_begins : MethodName := ⟨RX8, "begins", "(II)J"⟩
abbrev cX8_sureAt : ByteArray := prog_10_method_58_code
def yX8_sureAt : MethodName := ⟨RX8, "sureAt", "([II)I"⟩
abbrev cX8_sure : ByteArray := prog_10_method_59_code
def yX8_sure : MethodName := ⟨RX8, "sure", "(I)I"⟩
abbrev cX8_longPower : ByteArray := prog_10_method_60_code
def yX8_longPower : MethodName := ⟨RX8, "longPower", "(JI)J"⟩
abbrev cX8_does : ByteArray := prog_10_method_61_code
def yX8_does : MethodName := ⟨RX8, "does", "(I)Z"⟩
abbrev cX8_judge : ByteArray := prog_10_method_62_code
def yX8_judge : MethodName := ⟨RX8, "judge", "(IJ)I"⟩
abbrev cX8_see : ByteArray := prog_10_method_63_code
def yX8_see : MethodName := ⟨RX8, "see", "(III)I"⟩
abbrev cX8_unsee : ByteArray := prog_10_method_64_code
def yX8_unsee : MethodName := ⟨RX8, "unsee", "()I"⟩
abbrev cX8_aheadOf : ByteArray := prog_10_method_65_code
def yX8_aheadOf : MethodName := ⟨RX8, "aheadOf", "([I)J"⟩
abbrev cX8_which : ByteArray := prog_10_method_66_code
def yX8_which : MethodName := ⟨RX8, "which", "(I)J"⟩
abbrev cX8_divisor : ByteArray := prog_10_method_67_code
def yX8_divisor : MethodName := ⟨RX8, "divisor", "(JJ)J"⟩
abbrev cX8_fraction : ByteArray := prog_10_method_68_code
def yX8_fraction : MethodName := ⟨RX8, "fraction", "(JJZ)J"⟩
abbrev cX8_factorial : ByteArray := prog_10_method_69_code
def yX8_factorial : MethodName := ⟨RX8, "factorial", "(I)J"⟩
abbrev cX8_weighSets : ByteArray := prog_10_method_70_code
def yX8_weighSets : MethodName := ⟨RX8, "weighSets", "()V"⟩
abbrev cX8_share : ByteArray := prog_10_method_71_code
def yX8_share : MethodName := ⟨RX8, "share", "(IZ)J"⟩
abbrev cX8_lost : ByteArray := prog_10_method_72_code
def yX8_lost : MethodName := ⟨RX8, "lost", "(IZ)I"⟩
abbrev cX8_seed : ByteArray := prog_10_method_73_code
def yX8_seed : MethodName := ⟨RX8, "seed", "(J)J"⟩
abbrev cX8_drawn : ByteArray := prog_10_method_74_code
def yX8_drawn : MethodName := ⟨RX8, "drawn", "(I)I"⟩
abbrev cX8_keep : ByteArray := prog_10_method_75_code
def yX8_keep : MethodName := ⟨RX8, "keep", "(I)I"⟩
abbrev cX8_again : ByteArray := prog_10_method_76_code
def yX8_again : MethodName := ⟨RX8, "again", "(I)I"⟩
abbrev cX8_count : ByteArray := prog_10_method_77_code
def yX8_count : MethodName := ⟨RX8, "count", "(I)I"⟩
def RJ6 : String := "java/lang/Integer"
def TJ6 : u_T := fun k => match k with
  | _ => ("", "", "", false)
def tyJ6 : Nat → FieldType := fun k => match k with
  | _ => .int
abbrev cJ6_bitCount_0f7a4 : ByteArray := prog_11_method_49_code
def yJ6_bitCount_0f7a4 : MethodName := ⟨RJ6, "bitCount", "(I)I"⟩
def RJ9 : String := "java/lang/Math"
def TJ9 : u_T := fun k => match k with
  | _ => ("", "", "", false)
def tyJ9 : Nat → FieldType := fun k => match k with
  | _ => .int
abbrev cJ9_min_7cf53 : ByteArray := prog_12_method_69_code
def yJ9_min_7cf53 : MethodName := ⟨RJ9, "min", "(II)I"⟩
def RJ10 : String := "java/lang/System"
def TJ10 : u_T := fun k => match k with
  | _ => ("", "", "", false)
def tyJ10 : Nat → FieldType := fun k => match k with
  | _ => .int
def RJ7 : String := "java/util/Arrays"
def TJ7 : u_T := fun k => match k with
  | _ => ("", "", "", false)
def tyJ7 : Nat → FieldType := fun k => match k with
  | _ => .int
abbrev cJ7_fill_d0a16 : ByteArray := prog_14_method_101_code
def yJ7_fill_d0a16 : MethodName := ⟨RJ7, "fill", "([JJ)V"⟩
abbrev cJ7_fill_53178 : ByteArray := prog_14_method_103_code
def yJ7_fill_53178 : MethodName := ⟨RJ7, "fill", "([II)V"⟩
def RL : String := "WornLettersLaw"
abbrev cL_law : ByteArray := code
def yL_law : MethodName := ⟨RL, "law", "([I)Z"⟩
abbrev vwCl : List vw_C := [(RX0, TX0, 9), (RX1, TX1, 5), (RX2, TX2, 7), (RX3, TX3, 5), (RX4, TX4, 7), (RX5, TX5, 4), (RX6, TX6, 5), (RX7, TX7, 13), (RX8, TX8, 36)]
end
section
theorem dX0_init_0 : decode cX0_init 0 = .ok (.aload_n 0, 1) := by decide +kernel
theorem dX0_init_1 : decode cX0_init 1 = .ok (.invokespecial 3, 3) := by decide +kernel
theorem dX0_init_4 : decode cX0_init 4 = .ok (.aload_n 0, 1) := by decide +kernel
theorem dX0_init_5 : decode cX0_init 5 = .ok (.bipush 25, 2) := by decide +kernel
theorem dX0_init_7 : decode cX0_init 7 = .ok (.newarray .int, 2) := by decide +kernel
theorem dX0_init_9 : decode cX0_init 9 = .ok (.putfield 9, 3) := by decide +kernel
theorem dX0_init_12 : decode cX0_init 12 = .ok (.aload_n 0, 1) := by decide +kernel
theorem dX0_init_13 : decode cX0_init 13 = .ok (.bipush 25, 2) := by decide +kernel
theorem dX0_init_15 : decode cX0_init 15 = .ok (.newarray .int, 2) := by decide +kernel
theorem dX0_init_17 : decode cX0_init 17 = .ok (.putfield 15, 3) := by decide +kernel
theorem dX0_init_20 : decode cX0_init 20 = .ok (.aload_n 0, 1) := by decide +kernel
theorem dX0_init_21 : decode cX0_init 21 = .ok (.bipush 8, 2) := by decide +kernel
theorem dX0_init_23 : decode cX0_init 23 = .ok (.newarray .int, 2) := by decide +kernel
theorem dX0_init_25 : decode cX0_init 25 = .ok (.putfield 18, 3) := by decide +kernel
theorem dX0_init_28 : decode cX0_init 28 = .ok (.aload_n 0, 1) := by decide +kernel
theorem dX0_init_29 : decode cX0_init 29 = .ok (.bipush 8, 2) := by decide +kernel
theorem dX0_init_31 : decode cX0_init 31 = .ok (.newarray .int, 2) := by decide +kernel
theorem dX0_init_33 : decode cX0_init 33 = .ok (.putfield 21, 3) := by decide +kernel
theorem dX0_init_36 : decode cX0_init 36 = .ok (.aload_n 0, 1) := by decide +kernel
theorem dX0_init_37 : decode cX0_init 37 = .ok (.sipush 200, 3) := by decide +kernel
theorem dX0_init_40 : decode cX0_init 40 = .ok (.newarray .long, 2) := by decide +kernel
theorem dX0_init_42 : decode cX0_init 42 = .ok (.putfield 24, 3) := by decide +kernel
theorem dX0_init_45 : decode cX0_init 45 = .ok (.aload_n 0, 1) := by decide +kernel
theorem dX0_init_46 : decode cX0_init 46 = .ok (.sipush 200, 3) := by decide +kernel
theorem dX0_init_49 : decode cX0_init 49 = .ok (.newarray .long, 2) := by decide +kernel
theorem dX0_init_51 : decode cX0_init 51 = .ok (.putfield 28, 3) := by decide +kernel
theorem dX0_init_54 : decode cX0_init 54 = .ok (.aload_n 0, 1) := by decide +kernel
theorem dX0_init_55 : decode cX0_init 55 = .ok (.iconst 0, 1) := by decide +kernel
theorem dX0_init_56 : decode cX0_init 56 = .ok (.putfield 31, 3) := by decide +kernel
theorem dX0_init_59 : decode cX0_init 59 = .ok (.aload_n 0, 1) := by decide +kernel
theorem dX0_init_60 : decode cX0_init 60 = .ok (.iconst 0, 1) := by decide +kernel
theorem dX0_init_61 : decode cX0_init 61 = .ok (.putfield 35, 3) := by decide +kernel
theorem dX0_init_64 : decode cX0_init 64 = .ok (.aload_n 0, 1) := by decide +kernel
theorem dX0_init_65 : decode cX0_init 65 = .ok (.iconst 0, 1) := by decide +kernel
theorem dX0_init_66 : decode cX0_init 66 = .ok (.putfield 38, 3) := by decide +kernel
theorem dX0_init_69 : decode cX0_init 69 = .ok (.return_, 1) := by decide +kernel
theorem dX0_countAll_0 : decode cX0_countAll 0 = .ok (.aload_n 0, 1) := by decide +kernel
theorem dX0_countAll_1 : decode cX0_countAll 1 = .ok (.aload_n 1, 1) := by decide +kernel
theorem dX0_countAll_2 : decode cX0_countAll 2 = .ok (.aload_n 2, 1) := by decide +kernel
theorem dX0_countAll_3 : decode cX0_countAll 3 = .ok (.invokevirtual 41, 3) := by decide +kernel
theorem dX0_countAll_6 : decode cX0_countAll 6 = .ok (.aload_n 0, 1) := by decide +kernel
theorem dX0_countAll_7 : decode cX0_countAll 7 = .ok (.invokevirtual 45, 3) := by decide +kernel
theorem dX0_countAll_10 : decode cX0_countAll 10 = .ok (.aload_n 0, 1) := by decide +kernel
theorem dX0_countAll_11 : decode cX0_countAll 11 = .ok (.aload_n 0, 1) := by decide +kernel
theorem dX0_countAll_12 : decode cX0_countAll 12 = .ok (.getfield 38, 3) := by decide +kernel
theorem dX0_countAll_15 : decode cX0_countAll 15 = .ok (.invokevirtual 48, 3) := by decide +kernel
theorem dX0_countAll_18 : decode cX0_countAll 18 = .ok (.lreturn, 1) := by decide +kernel
theorem dX0_countSelected_0 : decode cX0_countSelected 0 = .ok (.aload_n 0, 1) := by decide +kernel
theorem dX0_countSelected_1 : decode cX0_countSelected 1 = .ok (.aload_n 1, 1) := by decide +kernel
theorem dX0_countSelected_2 : decode cX0_countSelected 2 = .ok (.aload_n 2, 1) := by decide +kernel
theorem dX0_countSelected_3 : decode cX0_countSelected 3 = .ok (.invokevirtual 41, 3) := by decide +kernel
theorem dX0_countSelected_6 : decode cX0_countSelected 6 = .ok (.iconst 0, 1) := by decide +kernel
theorem dX0_countSelected_7 : decode cX0_countSelected 7 = .ok (.istore 4, 2) := by decide +kernel
theorem dX0_countSelected_9 : decode cX0_countSelected 9 = .ok (.iload 4, 2) := by decide +kernel
theorem dX0_countSelected_11 : decode cX0_countSelected 11 = .ok (.aload_n 3, 1) := by decide +kernel
theorem dX0_countSelected_12 : decode cX0_countSelected 12 = .ok (.getfield 52, 3) := by decide +kernel
theorem dX0_countSelected_15 : decode cX0_countSelected 15 = .ok (.if_icmp .ge 41, 3) := by decide +kernel
theorem dX0_countSelected_18 : decode cX0_countSelected 18 = .ok (.iload 4, 2) := by decide +kernel
theorem dX0_countSelected_20 : decode cX0_countSelected 20 = .ok (.bipush 6, 2) := by decide +kernel
theorem dX0_countSelected_22 : decode cX0_countSelected 22 = .ok (.if_icmp .ge 34, 3) := by decide +kernel
theorem dX0_countSelected_25 : decode cX0_countSelected 25 = .ok (.aload_n 0, 1) := by decide +kernel
theorem dX0_countSelected_26 : decode cX0_countSelected 26 = .ok (.aload_n 3, 1) := by decide +kernel
theorem dX0_countSelected_27 : decode cX0_countSelected 27 = .ok (.getfield 57, 3) := by decide +kernel
theorem dX0_countSelected_30 : decode cX0_countSelected 30 = .ok (.iload 4, 2) := by decide +kernel
theorem dX0_countSelected_32 : decode cX0_countSelected 32 = .ok (.iaload, 1) := by decide +kernel
theorem dX0_countSelected_33 : decode cX0_countSelected 33 = .ok (.aload_n 3, 1) := by decide +kernel
theorem dX0_countSelected_34 : decode cX0_countSelected 34 = .ok (.getfield 59, 3) := by decide +kernel
theorem dX0_countSelected_37 : decode cX0_countSelected 37 = .ok (.iload 4, 2) := by decide +kernel
theorem dX0_countSelected_39 : decode cX0_countSelected 39 = .ok (.iaload, 1) := by decide +kernel
theorem dX0_countSelected_40 : decode cX0_countSelected 40 = .ok (.aload_n 3, 1) := by decide +kernel
theorem dX0_countSelected_41 : decode cX0_countSelected 41 = .ok (.getfield 61, 3) := by decide +kernel
theorem dX0_countSelected_44 : decode cX0_countSelected 44 = .ok (.iload 4, 2) := by decide +kernel
theorem dX0_countSelected_46 : decode cX0_countSelected 46 = .ok (.baload, 1) := by decide +kernel
theorem dX0_countSelected_47 : decode cX0_countSelected 47 = .ok (.invokevirtual 65, 3) := by decide +kernel
theorem dX0_countSelected_50 : decode cX0_countSelected 50 = .ok (.iinc 4 1, 3) := by decide +kernel
theorem dX0_countSelected_53 : decode cX0_countSelected 53 = .ok (.goto (-44), 3) := by decide +kernel
theorem dX0_countSelected_56 : decode cX0_countSelected 56 = .ok (.aload_n 0, 1) := by decide +kernel
theorem dX0_countSelected_57 : decode cX0_countSelected 57 = .ok (.invokevirtual 45, 3) := by decide +kernel
theorem dX0_countSelected_60 : decode cX0_countSelected 60 = .ok (.aload_n 0, 1) := by decide +kernel
theorem dX0_countSelected_61 : decode cX0_countSelected 61 = .ok (.aload_n 0, 1) := by decide +kernel
theorem dX0_countSelected_62 : decode cX0_countSelected 62 = .ok (.getfield 38, 3) := by decide +kernel
theorem dX0_countSelected_65 : decode cX0_countSelected 65 = .ok (.invokevirtual 48, 3) := by decide +kernel
theorem dX0_countSelected_68 : decode cX0_countSelected 68 = .ok (.lreturn, 1) := by decide +kernel
theorem dX0_lay_0 : decode cX0_lay 0 = .ok (.aload_n 0, 1) := by decide +kernel
theorem dX0_lay_1 : decode cX0_lay 1 = .ok (.aload_n 2, 1) := by decide +kernel
theorem dX0_lay_2 : decode cX0_lay 2 = .ok (.getfield 69, 3) := by decide +kernel
theorem dX0_lay_5 : decode cX0_lay 5 = .ok (.putfield 31, 3) := by decide +kernel
theorem dX0_lay_8 : decode cX0_lay 8 = .ok (.aload_n 0, 1) := by decide +kernel
theorem dX0_lay_9 : decode cX0_lay 9 = .ok (.aload_n 1, 1) := by decide +kernel
theorem dX0_lay_10 : decode cX0_lay 10 = .ok (.getfield 72, 3) := by decide +kernel
theorem dX0_lay_13 : decode cX0_lay 13 = .ok (.putfield 35, 3) := by decide +kernel
theorem dX0_lay_16 : decode cX0_lay 16 = .ok (.aload_n 0, 1) := by decide +kernel
theorem dX0_lay_17 : decode cX0_lay 17 = .ok (.getfield 9, 3) := by decide +kernel
theorem dX0_lay_20 : decode cX0_lay 20 = .ok (.iconst 0, 1) := by decide +kernel
theorem dX0_lay_21 : decode cX0_lay 21 = .ok (.invokestatic 75, 3) := by decide +kernel
theorem dX0_lay_24 : decode cX0_lay 24 = .ok (.iconst 0, 1) := by decide +kernel
theorem dX0_lay_25 : decode cX0_lay 25 = .ok (.istore_n 3, 1) := by decide +kernel
theorem dX0_lay_26 : decode cX0_lay 26 = .ok (.iload_n 3, 1) := by decide +kernel
theorem dX0_lay_27 : decode cX0_lay 27 = .ok (.aload_n 0, 1) := by decide +kernel
theorem dX0_lay_28 : decode cX0_lay 28 = .ok (.getfield 35, 3) := by decide +kernel
theorem dX0_lay_31 : decode cX0_lay 31 = .ok (.if_icmp .ge 134, 3) := by decide +kernel
theorem dX0_lay_34 : decode cX0_lay 34 = .ok (.aload_n 0, 1) := by decide +kernel
theorem dX0_lay_35 : decode cX0_lay 35 = .ok (.getfield 21, 3) := by decide +kernel
theorem dX0_lay_38 : decode cX0_lay 38 = .ok (.iload_n 3, 1) := by decide +kernel
theorem dX0_lay_39 : decode cX0_lay 39 = .ok (.aload_n 1, 1) := by decide +kernel
theorem dX0_lay_40 : decode cX0_lay 40 = .ok (.getfield 81, 3) := by decide +kernel
theorem dX0_lay_43 : decode cX0_lay 43 = .ok (.iload_n 3, 1) := by decide +kernel
theorem dX0_lay_44 : decode cX0_lay 44 = .ok (.iaload, 1) := by decide +kernel
theorem dX0_lay_45 : decode cX0_lay 45 = .ok (.iastore, 1) := by decide +kernel
theorem dX0_lay_46 : decode cX0_lay 46 = .ok (.aload_n 0, 1) := by decide +kernel
theorem dX0_lay_47 : decode cX0_lay 47 = .ok (.getfield 18, 3) := by decide +kernel
theorem dX0_lay_50 : decode cX0_lay 50 = .ok (.iload_n 3, 1) := by decide +kernel
theorem dX0_lay_51 : decode cX0_lay 51 = .ok (.aload_n 1, 1) := by decide +kernel
theorem dX0_lay_52 : decode cX0_lay 52 = .ok (.aload_n 2, 1) := by decide +kernel
theorem dX0_lay_53 : decode cX0_lay 53 = .ok (.iload_n 3, 1) := by decide +kernel
theorem dX0_lay_54 : decode cX0_lay 54 = .ok (.invokestatic 82, 3) := by decide +kernel
theorem dX0_lay_57 : decode cX0_lay 57 = .ok (.iastore, 1) := by decide +kernel
theorem dX0_lay_58 : decode cX0_lay 58 = .ok (.iconst 0, 1) := by decide +kernel
theorem dX0_lay_59 : decode cX0_lay 59 = .ok (.istore 4, 2) := by decide +kernel
theorem dX0_lay_61 : decode cX0_lay 61 = .ok (.iload 4, 2) := by decide +kernel
theorem dX0_lay_63 : decode cX0_lay 63 = .ok (.aload_n 0, 1) := by decide +kernel
theorem dX0_lay_64 : decode cX0_lay 64 = .ok (.getfield 21, 3) := by decide +kernel
theorem dX0_lay_67 : decode cX0_lay 67 = .ok (.iload_n 3, 1) := by decide +kernel
theorem dX0_lay_68 : decode cX0_lay 68 = .ok (.iaload, 1) := by decide +kernel
theorem dX0_lay_69 : decode cX0_lay 69 = .ok (.iadd, 1) := by decide +kernel
theorem dX0_lay_70 : decode cX0_lay 70 = .ok (.aload_n 0, 1) := by decide +kernel
theorem dX0_lay_71 : decode cX0_lay 71 = .ok (.getfield 31, 3) := by decide +kernel
theorem dX0_lay_74 : decode cX0_lay 74 = .ok (.if_icmp .gt 85, 3) := by decide +kernel
theorem dX0_lay_77 : decode cX0_lay 77 = .ok (.aload_n 2, 1) := by decide +kernel
theorem dX0_lay_78 : decode cX0_lay 78 = .ok (.getfield 86, 3) := by decide +kernel
theorem dX0_lay_81 : decode cX0_lay 81 = .ok (.iload_n 3, 1) := by decide +kernel
theorem dX0_lay_82 : decode cX0_lay 82 = .ok (.ishr, 1) := by decide +kernel
theorem dX0_lay_83 : decode cX0_lay 83 = .ok (.iconst 1, 1) := by decide +kernel
theorem dX0_lay_84 : decode cX0_lay 84 = .ok (.iand, 1) := by decide +kernel
theorem dX0_lay_85 : decode cX0_lay 85 = .ok (.ifCond .ne 74, 3) := by decide +kernel
theorem dX0_lay_88 : decode cX0_lay 88 = .ok (.iload 4, 2) := by decide +kernel
theorem dX0_lay_90 : decode cX0_lay 90 = .ok (.aload_n 0, 1) := by decide +kernel
theorem dX0_lay_91 : decode cX0_lay 91 = .ok (.getfield 21, 3) := by decide +kernel
theorem dX0_lay_94 : decode cX0_lay 94 = .ok (.iload_n 3, 1) := by decide +kernel
theorem dX0_lay_95 : decode cX0_lay 95 = .ok (.iaload, 1) := by decide +kernel
theorem dX0_lay_96 : decode cX0_lay 96 = .ok (.iadd, 1) := by decide +kernel
theorem dX0_lay_97 : decode cX0_lay 97 = .ok (.istore 5, 2) := by decide +kernel
theorem dX0_lay_99 : decode cX0_lay 99 = .ok (.iload 5, 2) := by decide +kernel
theorem dX0_lay_101 : decode cX0_lay 101 = .ok (.aload_n 0, 1) := by decide +kernel
theorem dX0_lay_102 : decode cX0_lay 102 = .ok (.getfield 31, 3) := by decide +kernel
theorem dX0_lay_105 : decode cX0_lay 105 = .ok (.if_icmp .eq 12, 3) := by decide +kernel
theorem dX0_lay_108 : decode cX0_lay 108 = .ok (.aload_n 2, 1) := by decide +kernel
theorem dX0_lay_109 : decode cX0_lay 109 = .ok (.iload 5, 2) := by decide +kernel
theorem dX0_lay_111 : decode cX0_lay 111 = .ok (.invokevirtual 89, 3) := by decide +kernel
theorem dX0_lay_114 : decode cX0_lay 114 = .ok (.ifCond .eq 7, 3) := by decide +kernel
theorem dX0_lay_117 : decode cX0_lay 117 = .ok (.iconst 1, 1) := by decide +kernel
theorem dX0_lay_118 : decode cX0_lay 118 = .ok (.goto 4, 3) := by decide +kernel
theorem dX0_lay_121 : decode cX0_lay 121 = .ok (.iconst 0, 1) := by decide +kernel
theorem dX0_lay_122 : decode cX0_lay 122 = .ok (.istore 6, 2) := by decide +kernel
theorem dX0_lay_124 : decode cX0_lay 124 = .ok (.iload 6, 2) := by decide +kernel
theorem dX0_lay_126 : decode cX0_lay 126 = .ok (.ifCond .eq 27, 3) := by decide +kernel
theorem dX0_lay_129 : decode cX0_lay 129 = .ok (.aload_n 2, 1) := by decide +kernel
theorem dX0_lay_130 : decode cX0_lay 130 = .ok (.aload_n 1, 1) := by decide +kernel
theorem dX0_lay_131 : decode cX0_lay 131 = .ok (.iload_n 3, 1) := by decide +kernel
theorem dX0_lay_132 : decode cX0_lay 132 = .ok (.iload 4, 2) := by decide +kernel
theorem dX0_lay_134 : decode cX0_lay 134 = .ok (.invokevirtual 93, 3) := by decide +kernel
theorem dX0_lay_137 : decode cX0_lay 137 = .ok (.ifCond .eq 16, 3) := by decide +kernel
theorem dX0_lay_140 : decode cX0_lay 140 = .ok (.aload_n 0, 1) := by decide +kernel
theorem dX0_lay_141 : decode cX0_lay 141 = .ok (.getfield 9, 3) := by decide +kernel
theorem dX0_lay_144 : decode cX0_lay 144 = .ok (.iload 4, 2) := by decide +kernel
theorem dX0_lay_146 : decode cX0_lay 146 = .ok (.dup2, 1) := by decide +kernel
theorem dX0_lay_147 : decode cX0_lay 147 = .ok (.iaload, 1) := by decide +kernel
theorem dX0_lay_148 : decode cX0_lay 148 = .ok (.iconst 1, 1) := by decide +kernel
theorem dX0_lay_149 : decode cX0_lay 149 = .ok (.iload_n 3, 1) := by decide +kernel
theorem dX0_lay_150 : decode cX0_lay 150 = .ok (.ishl, 1) := by decide +kernel
theorem dX0_lay_151 : decode cX0_lay 151 = .ok (.ior, 1) := by decide +kernel
theorem dX0_lay_152 : decode cX0_lay 152 = .ok (.iastore, 1) := by decide +kernel
theorem dX0_lay_153 : decode cX0_lay 153 = .ok (.iinc 4 1, 3) := by decide +kernel
theorem dX0_lay_156 : decode cX0_lay 156 = .ok (.goto (-95), 3) := by decide +kernel
theorem dX0_lay_159 : decode cX0_lay 159 = .ok (.iinc 3 1, 3) := by decide +kernel
theorem dX0_lay_162 : decode cX0_lay 162 = .ok (.goto (-136), 3) := by decide +kernel
theorem dX0_lay_165 : decode cX0_lay 165 = .ok (.return_, 1) := by decide +kernel
theorem dX0_followersOf_0 : decode cX0_followersOf 0 = .ok (.iconst 0, 1) := by decide +kernel
theorem dX0_followersOf_1 : decode cX0_followersOf 1 = .ok (.istore_n 3, 1) := by decide +kernel
theorem dX0_followersOf_2 : decode cX0_followersOf 2 = .ok (.iconst 0, 1) := by decide +kernel
theorem dX0_followersOf_3 : decode cX0_followersOf 3 = .ok (.istore 4, 2) := by decide +kernel
theorem dX0_followersOf_5 : decode cX0_followersOf 5 = .ok (.iload 4, 2) := by decide +kernel
theorem dX0_followersOf_7 : decode cX0_followersOf 7 = .ok (.aload_n 0, 1) := by decide +kernel
theorem dX0_followersOf_8 : decode cX0_followersOf 8 = .ok (.getfield 72, 3) := by decide +kernel
theorem dX0_followersOf_11 : decode cX0_followersOf 11 = .ok (.if_icmp .ge 79, 3) := by decide +kernel
theorem dX0_followersOf_14 : decode cX0_followersOf 14 = .ok (.aload_n 1, 1) := by decide +kernel
theorem dX0_followersOf_15 : decode cX0_followersOf 15 = .ok (.getfield 97, 3) := by decide +kernel
theorem dX0_followersOf_18 : decode cX0_followersOf 18 = .ok (.aload_n 0, 1) := by decide +kernel
theorem dX0_followersOf_19 : decode cX0_followersOf 19 = .ok (.getfield 100, 3) := by decide +kernel
theorem dX0_followersOf_22 : decode cX0_followersOf 22 = .ok (.iload_n 2, 1) := by decide +kernel
theorem dX0_followersOf_23 : decode cX0_followersOf 23 = .ok (.iaload, 1) := by decide +kernel
theorem dX0_followersOf_24 : decode cX0_followersOf 24 = .ok (.iconst 3, 1) := by decide +kernel
theorem dX0_followersOf_25 : decode cX0_followersOf 25 = .ok (.imul, 1) := by decide +kernel
theorem dX0_followersOf_26 : decode cX0_followersOf 26 = .ok (.aload_n 0, 1) := by decide +kernel
theorem dX0_followersOf_27 : decode cX0_followersOf 27 = .ok (.getfield 100, 3) := by decide +kernel
theorem dX0_followersOf_30 : decode cX0_followersOf 30 = .ok (.iload 4, 2) := by decide +kernel
theorem dX0_followersOf_32 : decode cX0_followersOf 32 = .ok (.iaload, 1) := by decide +kernel
theorem dX0_followersOf_33 : decode cX0_followersOf 33 = .ok (.iadd, 1) := by decide +kernel
theorem dX0_followersOf_34 : decode cX0_followersOf 34 = .ok (.iaload, 1) := by decide +kernel
theorem dX0_followersOf_35 : decode cX0_followersOf 35 = .ok (.istore 5, 2) := by decide +kernel
theorem dX0_followersOf_37 : decode cX0_followersOf 37 = .ok (.aload_n 0, 1) := by decide +kernel
theorem dX0_followersOf_38 : decode cX0_followersOf 38 = .ok (.getfield 103, 3) := by decide +kernel
theorem dX0_followersOf_41 : decode cX0_followersOf 41 = .ok (.iload_n 2, 1) := by decide +kernel
theorem dX0_followersOf_42 : decode cX0_followersOf 42 = .ok (.iaload, 1) := by decide +kernel
theorem dX0_followersOf_43 : decode cX0_followersOf 43 = .ok (.aload_n 0, 1) := by decide +kernel
theorem dX0_followersOf_44 : decode cX0_followersOf 44 = .ok (.getfield 103, 3) := by decide +kernel
theorem dX0_followersOf_47 : decode cX0_followersOf 47 = .ok (.iload 4, 2) := by decide +kernel
theorem dX0_followersOf_49 : decode cX0_followersOf 49 = .ok (.iaload, 1) := by decide +kernel
theorem dX0_followersOf_50 : decode cX0_followersOf 50 = .ok (.if_icmp .ne 7, 3) := by decide +kernel
theorem dX0_followersOf_53 : decode cX0_followersOf 53 = .ok (.iconst 1, 1) := by decide +kernel
theorem dX0_followersOf_54 : decode cX0_followersOf 54 = .ok (.goto 4, 3) := by decide +kernel
theorem dX0_followersOf_57 : decode cX0_followersOf 57 = .ok (.iconst 0, 1) := by decide +kernel
theorem dX0_followersOf_58 : decode cX0_followersOf 58 = .ok (.istore 6, 2) := by decide +kernel
theorem dX0_followersOf_60 : decode cX0_followersOf 60 = .ok (.iload 5, 2) := by decide +kernel
theorem dX0_followersOf_62 : decode cX0_followersOf 62 = .ok (.iconst 1, 1) := by decide +kernel
theorem dX0_followersOf_63 : decode cX0_followersOf 63 = .ok (.if_icmp .eq 14, 3) := by decide +kernel
theorem dX0_followersOf_66 : decode cX0_followersOf 66 = .ok (.iload 5, 2) := by decide +kernel
theorem dX0_followersOf_68 : decode cX0_followersOf 68 = .ok (.iconst 2, 1) := by decide +kernel
theorem dX0_followersOf_69 : decode cX0_followersOf 69 = .ok (.if_icmp .ne 15, 3) := by decide +kernel
theorem dX0_followersOf_72 : decode cX0_followersOf 72 = .ok (.iload 6, 2) := by decide +kernel
theorem dX0_followersOf_74 : decode cX0_followersOf 74 = .ok (.ifCond .eq 10, 3) := by decide +kernel
theorem dX0_followersOf_77 : decode cX0_followersOf 77 = .ok (.iload_n 3, 1) := by decide +kernel
theorem dX0_followersOf_78 : decode cX0_followersOf 78 = .ok (.iconst 1, 1) := by decide +kernel
theorem dX0_followersOf_79 : decode cX0_followersOf 79 = .ok (.iload 4, 2) := by decide +kernel
theorem dX0_followersOf_81 : decode cX0_followersOf 81 = .ok (.ishl, 1) := by decide +kernel
theorem dX0_followersOf_82 : decode cX0_followersOf 82 = .ok (.ior, 1) := by decide +kernel
theorem dX0_followersOf_83 : decode cX0_followersOf 83 = .ok (.istore_n 3, 1) := by decide +kernel
theorem dX0_followersOf_84 : decode cX0_followersOf 84 = .ok (.iinc 4 1, 3) := by decide +kernel
theorem dX0_followersOf_87 : decode cX0_followersOf 87 = .ok (.goto (-82), 3) := by decide +kernel
theorem dX0_followersOf_90 : decode cX0_followersOf 90 = .ok (.iload_n 3, 1) := by decide +kernel
theorem dX0_followersOf_91 : decode cX0_followersOf 91 = .ok (.ireturn, 1) := by decide +kernel
theorem dX0_isOpen_0 : decode cX0_isOpen 0 = .ok (.aload_n 0, 1) := by decide +kernel
theorem dX0_isOpen_1 : decode cX0_isOpen 1 = .ok (.getfield 9, 3) := by decide +kernel
theorem dX0_isOpen_4 : decode cX0_isOpen 4 = .ok (.iload_n 1, 1) := by decide +kernel
theorem dX0_isOpen_5 : decode cX0_isOpen 5 = .ok (.iaload, 1) := by decide +kernel
theorem dX0_isOpen_6 : decode cX0_isOpen 6 = .ok (.iload_n 2, 1) := by decide +kernel
theorem dX0_isOpen_7 : decode cX0_isOpen 7 = .ok (.ishr, 1) := by decide +kernel
theorem dX0_isOpen_8 : decode cX0_isOpen 8 = .ok (.iconst 1, 1) := by decide +kernel
theorem dX0_isOpen_9 : decode cX0_isOpen 9 = .ok (.iand, 1) := by decide +kernel
theorem dX0_isOpen_10 : decode cX0_isOpen 10 = .ok (.ifCond .eq 7, 3) := by decide +kernel
theorem dX0_isOpen_13 : decode cX0_isOpen 13 = .ok (.iconst 1, 1) := by decide +kernel
theorem dX0_isOpen_14 : decode cX0_isOpen 14 = .ok (.goto 4, 3) := by decide +kernel
theorem dX0_isOpen_17 : decode cX0_isOpen 17 = .ok (.iconst 0, 1) := by decide +kernel
theorem dX0_isOpen_18 : decode cX0_isOpen 18 = .ok (.ireturn, 1) := by decide +kernel
theorem dX0_nextUnit_0 : decode cX0_nextUnit 0 = .ok (.iload_n 1, 1) := by decide +kernel
theorem dX0_nextUnit_1 : decode cX0_nextUnit 1 = .ok (.aload_n 0, 1) := by decide +kernel
theorem dX0_nextUnit_2 : decode cX0_nextUnit 2 = .ok (.getfield 21, 3) := by decide +kernel
theorem dX0_nextUnit_5 : decode cX0_nextUnit 5 = .ok (.iload_n 2, 1) := by decide +kernel
theorem dX0_nextUnit_6 : decode cX0_nextUnit 6 = .ok (.iaload, 1) := by decide +kernel
theorem dX0_nextUnit_7 : decode cX0_nextUnit 7 = .ok (.iadd, 1) := by decide +kernel
theorem dX0_nextUnit_8 : decode cX0_nextUnit 8 = .ok (.iconst 1, 1) := by decide +kernel
theorem dX0_nextUnit_9 : decode cX0_nextUnit 9 = .ok (.iadd, 1) := by decide +kernel
theorem dX0_nextUnit_10 : decode cX0_nextUnit 10 = .ok (.ireturn, 1) := by decide +kernel
theorem dX0_select_0 : decode cX0_select 0 = .ok (.iload_n 2, 1) := by decide +kernel
theorem dX0_select_1 : decode cX0_select 1 = .ok (.ifCond .lt 9, 3) := by decide +kernel
theorem dX0_select_4 : decode cX0_select 4 = .ok (.iload_n 2, 1) := by decide +kernel
theorem dX0_select_5 : decode cX0_select 5 = .ok (.bipush 24, 2) := by decide +kernel
theorem dX0_select_7 : decode cX0_select 7 = .ok (.if_icmp .lt 4, 3) := by decide +kernel
theorem dX0_select_10 : decode cX0_select 10 = .ok (.return_, 1) := by decide +kernel
theorem dX0_select_11 : decode cX0_select 11 = .ok (.iload_n 3, 1) := by decide +kernel
theorem dX0_select_12 : decode cX0_select 12 = .ok (.ifCond .ne 18, 3) := by decide +kernel
theorem dX0_select_15 : decode cX0_select 15 = .ok (.aload_n 0, 1) := by decide +kernel
theorem dX0_select_16 : decode cX0_select 16 = .ok (.getfield 9, 3) := by decide +kernel
theorem dX0_select_19 : decode cX0_select 19 = .ok (.iload_n 2, 1) := by decide +kernel
theorem dX0_select_20 : decode cX0_select 20 = .ok (.dup2, 1) := by decide +kernel
theorem dX0_select_21 : decode cX0_select 21 = .ok (.iaload, 1) := by decide +kernel
theorem dX0_select_22 : decode cX0_select 22 = .ok (.iconst 1, 1) := by decide +kernel
theorem dX0_select_23 : decode cX0_select 23 = .ok (.iload_n 1, 1) := by decide +kernel
theorem dX0_select_24 : decode cX0_select 24 = .ok (.ishl, 1) := by decide +kernel
theorem dX0_select_25 : decode cX0_select 25 = .ok (.iconst (-1), 1) := by decide +kernel
theorem dX0_select_26 : decode cX0_select 26 = .ok (.ixor, 1) := by decide +kernel
theorem dX0_select_27 : decode cX0_select 27 = .ok (.iand, 1) := by decide +kernel
theorem dX0_select_28 : decode cX0_select 28 = .ok (.iastore, 1) := by decide +kernel
theorem dX0_select_29 : decode cX0_select 29 = .ok (.return_, 1) := by decide +kernel
theorem dX0_select_30 : decode cX0_select 30 = .ok (.aload_n 0, 1) := by decide +kernel
theorem dX0_select_31 : decode cX0_select 31 = .ok (.getfield 9, 3) := by decide +kernel
theorem dX0_select_34 : decode cX0_select 34 = .ok (.iload_n 2, 1) := by decide +kernel
theorem dX0_select_35 : decode cX0_select 35 = .ok (.dup2, 1) := by decide +kernel
theorem dX0_select_36 : decode cX0_select 36 = .ok (.iaload, 1) := by decide +kernel
theorem dX0_select_37 : decode cX0_select 37 = .ok (.iconst 1, 1) := by decide +kernel
theorem dX0_select_38 : decode cX0_select 38 = .ok (.iload_n 1, 1) := by decide +kernel
theorem dX0_select_39 : decode cX0_select 39 = .ok (.ishl, 1) := by decide +kernel
theorem dX0_select_40 : decode cX0_select 40 = .ok (.iand, 1) := by decide +kernel
theorem dX0_select_41 : decode cX0_select 41 = .ok (.iastore, 1) := by decide +kernel
theorem dX0_select_42 : decode cX0_select 42 = .ok (.iconst 0, 1) := by decide +kernel
theorem dX0_select_43 : decode cX0_select 43 = .ok (.istore 4, 2) := by decide +kernel
theorem dX0_select_45 : decode cX0_select 45 = .ok (.iload 4, 2) := by decide +kernel
theorem dX0_select_47 : decode cX0_select 47 = .ok (.iload_n 2, 1) := by decide +kernel
theorem dX0_select_48 : decode cX0_select 48 = .ok (.if_icmp .ge 74, 3) := by decide +kernel
theorem dX0_select_51 : decode cX0_select 51 = .ok (.iconst 0, 1) := by decide +kernel
theorem dX0_select_52 : decode cX0_select 52 = .ok (.istore 5, 2) := by decide +kernel
theorem dX0_select_54 : decode cX0_select 54 = .ok (.iload 5, 2) := by decide +kernel
theorem dX0_select_56 : decode cX0_select 56 = .ok (.aload_n 0, 1) := by decide +kernel
theorem dX0_select_57 : decode cX0_select 57 = .ok (.getfield 35, 3) := by decide +kernel
theorem dX0_select_60 : decode cX0_select 60 = .ok (.if_icmp .ge 56, 3) := by decide +kernel
theorem dX0_select_63 : decode cX0_select 63 = .ok (.aload_n 0, 1) := by decide +kernel
theorem dX0_select_64 : decode cX0_select 64 = .ok (.iload 4, 2) := by decide +kernel
theorem dX0_select_66 : decode cX0_select 66 = .ok (.iload 5, 2) := by decide +kernel
theorem dX0_select_68 : decode cX0_select 68 = .ok (.invokevirtual 106, 3) := by decide +kernel
theorem dX0_select_71 : decode cX0_select 71 = .ok (.ifCond .eq 39, 3) := by decide +kernel
theorem dX0_select_74 : decode cX0_select 74 = .ok (.iload_n 2, 1) := by decide +kernel
theorem dX0_select_75 : decode cX0_select 75 = .ok (.aload_n 0, 1) := by decide +kernel
theorem dX0_select_76 : decode cX0_select 76 = .ok (.getfield 31, 3) := by decide +kernel
theorem dX0_select_79 : decode cX0_select 79 = .ok (.if_icmp .ge 15, 3) := by decide +kernel
theorem dX0_select_82 : decode cX0_select 82 = .ok (.aload_n 0, 1) := by decide +kernel
theorem dX0_select_83 : decode cX0_select 83 = .ok (.iload 4, 2) := by decide +kernel
theorem dX0_select_85 : decode cX0_select 85 = .ok (.iload 5, 2) := by decide +kernel
theorem dX0_select_87 : decode cX0_select 87 = .ok (.invokevirtual 110, 3) := by decide +kernel
theorem dX0_select_90 : decode cX0_select 90 = .ok (.iload_n 2, 1) := by decide +kernel
theorem dX0_select_91 : decode cX0_select 91 = .ok (.if_icmp .le 19, 3) := by decide +kernel
theorem dX0_select_94 : decode cX0_select 94 = .ok (.aload_n 0, 1) := by decide +kernel
theorem dX0_select_95 : decode cX0_select 95 = .ok (.getfield 9, 3) := by decide +kernel
theorem dX0_select_98 : decode cX0_select 98 = .ok (.iload 4, 2) := by decide +kernel
theorem dX0_select_100 : decode cX0_select 100 = .ok (.dup2, 1) := by decide +kernel
theorem dX0_select_101 : decode cX0_select 101 = .ok (.iaload, 1) := by decide +kernel
theorem dX0_select_102 : decode cX0_select 102 = .ok (.iconst 1, 1) := by decide +kernel
theorem dX0_select_103 : decode cX0_select 103 = .ok (.iload 5, 2) := by decide +kernel
theorem dX0_select_105 : decode cX0_select 105 = .ok (.ishl, 1) := by decide +kernel
theorem dX0_select_106 : decode cX0_select 106 = .ok (.iconst (-1), 1) := by decide +kernel
theorem dX0_select_107 : decode cX0_select 107 = .ok (.ixor, 1) := by decide +kernel
theorem dX0_select_108 : decode cX0_select 108 = .ok (.iand, 1) := by decide +kernel
theorem dX0_select_109 : decode cX0_select 109 = .ok (.iastore, 1) := by decide +kernel
theorem dX0_select_110 : decode cX0_select 110 = .ok (.iinc 5 1, 3) := by decide +kernel
theorem dX0_select_113 : decode cX0_select 113 = .ok (.goto (-59), 3) := by decide +kernel
theorem dX0_select_116 : decode cX0_select 116 = .ok (.iinc 4 1, 3) := by decide +kernel
theorem dX0_select_119 : decode cX0_select 119 = .ok (.goto (-74), 3) := by decide +kernel
theorem dX0_select_122 : decode cX0_select 122 = .ok (.return_, 1) := by decide +kernel
theorem dX0_prune_0 : decode cX0_prune 0 = .ok (.aload_n 0, 1) := by decide +kernel
theorem dX0_prune_1 : decode cX0_prune 1 = .ok (.getfield 31, 3) := by decide +kernel
theorem dX0_prune_4 : decode cX0_prune 4 = .ok (.iconst 1, 1) := by decide +kernel
theorem dX0_prune_5 : decode cX0_prune 5 = .ok (.isub, 1) := by decide +kernel
theorem dX0_prune_6 : decode cX0_prune 6 = .ok (.istore_n 1, 1) := by decide +kernel
theorem dX0_prune_7 : decode cX0_prune 7 = .ok (.iload_n 1, 1) := by decide +kernel
theorem dX0_prune_8 : decode cX0_prune 8 = .ok (.ifCond .lt 57, 3) := by decide +kernel
theorem dX0_prune_11 : decode cX0_prune 11 = .ok (.iconst 0, 1) := by decide +kernel
theorem dX0_prune_12 : decode cX0_prune 12 = .ok (.istore_n 2, 1) := by decide +kernel
theorem dX0_prune_13 : decode cX0_prune 13 = .ok (.iload_n 2, 1) := by decide +kernel
theorem dX0_prune_14 : decode cX0_prune 14 = .ok (.aload_n 0, 1) := by decide +kernel
theorem dX0_prune_15 : decode cX0_prune 15 = .ok (.getfield 35, 3) := by decide +kernel
theorem dX0_prune_18 : decode cX0_prune 18 = .ok (.if_icmp .ge 41, 3) := by decide +kernel
theorem dX0_prune_21 : decode cX0_prune 21 = .ok (.aload_n 0, 1) := by decide +kernel
theorem dX0_prune_22 : decode cX0_prune 22 = .ok (.iload_n 1, 1) := by decide +kernel
theorem dX0_prune_23 : decode cX0_prune 23 = .ok (.iload_n 2, 1) := by decide +kernel
theorem dX0_prune_24 : decode cX0_prune 24 = .ok (.invokevirtual 106, 3) := by decide +kernel
theorem dX0_prune_27 : decode cX0_prune 27 = .ok (.ifCond .eq 26, 3) := by decide +kernel
theorem dX0_prune_30 : decode cX0_prune 30 = .ok (.aload_n 0, 1) := by decide +kernel
theorem dX0_prune_31 : decode cX0_prune 31 = .ok (.iload_n 1, 1) := by decide +kernel
theorem dX0_prune_32 : decode cX0_prune 32 = .ok (.iload_n 2, 1) := by decide +kernel
theorem dX0_prune_33 : decode cX0_prune 33 = .ok (.invokevirtual 114, 3) := by decide +kernel
theorem dX0_prune_36 : decode cX0_prune 36 = .ok (.ifCond .ne 17, 3) := by decide +kernel
theorem dX0_prune_39 : decode cX0_prune 39 = .ok (.aload_n 0, 1) := by decide +kernel
theorem dX0_prune_40 : decode cX0_prune 40 = .ok (.getfield 9, 3) := by decide +kernel
theorem dX0_prune_43 : decode cX0_prune 43 = .ok (.iload_n 1, 1) := by decide +kernel
theorem dX0_prune_44 : decode cX0_prune 44 = .ok (.dup2, 1) := by decide +kernel
theorem dX0_prune_45 : decode cX0_prune 45 = .ok (.iaload, 1) := by decide +kernel
theorem dX0_prune_46 : decode cX0_prune 46 = .ok (.iconst 1, 1) := by decide +kernel
theorem dX0_prune_47 : decode cX0_prune 47 = .ok (.iload_n 2, 1) := by decide +kernel
theorem dX0_prune_48 : decode cX0_prune 48 = .ok (.ishl, 1) := by decide +kernel
theorem dX0_prune_49 : decode cX0_prune 49 = .ok (.iconst (-1), 1) := by decide +kernel
theorem dX0_prune_50 : decode cX0_prune 50 = .ok (.ixor, 1) := by decide +kernel
theorem dX0_prune_51 : decode cX0_prune 51 = .ok (.iand, 1) := by decide +kernel
theorem dX0_prune_52 : decode cX0_prune 52 = .ok (.iastore, 1) := by decide +kernel
theorem dX0_prune_53 : decode cX0_prune 53 = .ok (.iinc 2 1, 3) := by decide +kernel
theorem dX0_prune_56 : decode cX0_prune 56 = .ok (.goto (-43), 3) := by decide +kernel
theorem dX0_prune_59 : decode cX0_prune 59 = .ok (.iinc 1 (-1), 3) := by decide +kernel
theorem dX0_prune_62 : decode cX0_prune 62 = .ok (.goto (-55), 3) := by decide +kernel
theorem dX0_prune_65 : decode cX0_prune 65 = .ok (.aload_n 0, 1) := by decide +kernel
theorem dX0_prune_66 : decode cX0_prune 66 = .ok (.iconst 0, 1) := by decide +kernel
theorem dX0_prune_67 : decode cX0_prune 67 = .ok (.putfield 38, 3) := by decide +kernel
theorem dX0_prune_70 : decode cX0_prune 70 = .ok (.aload_n 0, 1) := by decide +kernel
theorem dX0_prune_71 : decode cX0_prune 71 = .ok (.getfield 15, 3) := by decide +kernel
theorem dX0_prune_74 : decode cX0_prune 74 = .ok (.iconst 0, 1) := by decide +kernel
theorem dX0_prune_75 : decode cX0_prune 75 = .ok (.invokestatic 75, 3) := by decide +kernel
theorem dX0_prune_78 : decode cX0_prune 78 = .ok (.aload_n 0, 1) := by decide +kernel
theorem dX0_prune_79 : decode cX0_prune 79 = .ok (.getfield 15, 3) := by decide +kernel
theorem dX0_prune_82 : decode cX0_prune 82 = .ok (.iconst 0, 1) := by decide +kernel
theorem dX0_prune_83 : decode cX0_prune 83 = .ok (.sipush 255, 3) := by decide +kernel
theorem dX0_prune_86 : decode cX0_prune 86 = .ok (.iastore, 1) := by decide +kernel
theorem dX0_prune_87 : decode cX0_prune 87 = .ok (.iconst 0, 1) := by decide +kernel
theorem dX0_prune_88 : decode cX0_prune 88 = .ok (.istore_n 1, 1) := by decide +kernel
theorem dX0_prune_89 : decode cX0_prune 89 = .ok (.iload_n 1, 1) := by decide +kernel
theorem dX0_prune_90 : decode cX0_prune 90 = .ok (.aload_n 0, 1) := by decide +kernel
theorem dX0_prune_91 : decode cX0_prune 91 = .ok (.getfield 31, 3) := by decide +kernel
theorem dX0_prune_94 : decode cX0_prune 94 = .ok (.if_icmp .ge 97, 3) := by decide +kernel
theorem dX0_prune_97 : decode cX0_prune 97 = .ok (.aload_n 0, 1) := by decide +kernel
theorem dX0_prune_98 : decode cX0_prune 98 = .ok (.getfield 9, 3) := by decide +kernel
theorem dX0_prune_101 : decode cX0_prune 101 = .ok (.iload_n 1, 1) := by decide +kernel
theorem dX0_prune_102 : decode cX0_prune 102 = .ok (.dup2, 1) := by decide +kernel
theorem dX0_prune_103 : decode cX0_prune 103 = .ok (.iaload, 1) := by decide +kernel
theorem dX0_prune_104 : decode cX0_prune 104 = .ok (.aload_n 0, 1) := by decide +kernel
theorem dX0_prune_105 : decode cX0_prune 105 = .ok (.getfield 15, 3) := by decide +kernel
theorem dX0_prune_108 : decode cX0_prune 108 = .ok (.iload_n 1, 1) := by decide +kernel
theorem dX0_prune_109 : decode cX0_prune 109 = .ok (.iaload, 1) := by decide +kernel
theorem dX0_prune_110 : decode cX0_prune 110 = .ok (.iand, 1) := by decide +kernel
theorem dX0_prune_111 : decode cX0_prune 111 = .ok (.iastore, 1) := by decide +kernel
theorem dX0_prune_112 : decode cX0_prune 112 = .ok (.aload_n 0, 1) := by decide +kernel
theorem dX0_prune_113 : decode cX0_prune 113 = .ok (.dup, 1) := by decide +kernel
theorem dX0_prune_114 : decode cX0_prune 114 = .ok (.getfield 38, 3) := by decide +kernel
theorem dX0_prune_117 : decode cX0_prune 117 = .ok (.aload_n 0, 1) := by decide +kernel
theorem dX0_prune_118 : decode cX0_prune 118 = .ok (.getfield 9, 3) := by decide +kernel
theorem dX0_prune_121 : decode cX0_prune 121 = .ok (.iload_n 1, 1) := by decide +kernel
theorem dX0_prune_122 : decode cX0_prune 122 = .ok (.iaload, 1) := by decide +kernel
theorem dX0_prune_123 : decode cX0_prune 123 = .ok (.ior, 1) := by decide +kernel
theorem dX0_prune_124 : decode cX0_prune 124 = .ok (.putfield 38, 3) := by decide +kernel
theorem dX0_prune_127 : decode cX0_prune 127 = .ok (.iconst 0, 1) := by decide +kernel
theorem dX0_prune_128 : decode cX0_prune 128 = .ok (.istore_n 2, 1) := by decide +kernel
theorem dX0_prune_129 : decode cX0_prune 129 = .ok (.iload_n 2, 1) := by decide +kernel
theorem dX0_prune_130 : decode cX0_prune 130 = .ok (.aload_n 0, 1) := by decide +kernel
theorem dX0_prune_131 : decode cX0_prune 131 = .ok (.getfield 35, 3) := by decide +kernel
theorem dX0_prune_134 : decode cX0_prune 134 = .ok (.if_icmp .ge 51, 3) := by decide +kernel
theorem dX0_prune_137 : decode cX0_prune 137 = .ok (.aload_n 0, 1) := by decide +kernel
theorem dX0_prune_138 : decode cX0_prune 138 = .ok (.iload_n 1, 1) := by decide +kernel
theorem dX0_prune_139 : decode cX0_prune 139 = .ok (.iload_n 2, 1) := by decide +kernel
theorem dX0_prune_140 : decode cX0_prune 140 = .ok (.invokevirtual 106, 3) := by decide +kernel
theorem dX0_prune_143 : decode cX0_prune 143 = .ok (.ifCond .eq 36, 3) := by decide +kernel
theorem dX0_prune_146 : decode cX0_prune 146 = .ok (.aload_n 0, 1) := by decide +kernel
theorem dX0_prune_147 : decode cX0_prune 147 = .ok (.iload_n 1, 1) := by decide +kernel
theorem dX0_prune_148 : decode cX0_prune 148 = .ok (.iload_n 2, 1) := by decide +kernel
theorem dX0_prune_149 : decode cX0_prune 149 = .ok (.invokevirtual 110, 3) := by decide +kernel
theorem dX0_prune_152 : decode cX0_prune 152 = .ok (.aload_n 0, 1) := by decide +kernel
theorem dX0_prune_153 : decode cX0_prune 153 = .ok (.getfield 31, 3) := by decide +kernel
theorem dX0_prune_156 : decode cX0_prune 156 = .ok (.if_icmp .gt 23, 3) := by decide +kernel
theorem dX0_prune_159 : decode cX0_prune 159 = .ok (.aload_n 0, 1) := by decide +kernel
theorem dX0_prune_160 : decode cX0_prune 160 = .ok (.getfield 15, 3) := by decide +kernel
theorem dX0_prune_163 : decode cX0_prune 163 = .ok (.aload_n 0, 1) := by decide +kernel
theorem dX0_prune_164 : decode cX0_prune 164 = .ok (.iload_n 1, 1) := by decide +kernel
theorem dX0_prune_165 : decode cX0_prune 165 = .ok (.iload_n 2, 1) := by decide +kernel
theorem dX0_prune_166 : decode cX0_prune 166 = .ok (.invokevirtual 110, 3) := by decide +kernel
theorem dX0_prune_169 : decode cX0_prune 169 = .ok (.dup2, 1) := by decide +kernel
theorem dX0_prune_170 : decode cX0_prune 170 = .ok (.iaload, 1) := by decide +kernel
theorem dX0_prune_171 : decode cX0_prune 171 = .ok (.aload_n 0, 1) := by decide +kernel
theorem dX0_prune_172 : decode cX0_prune 172 = .ok (.getfield 18, 3) := by decide +kernel
theorem dX0_prune_175 : decode cX0_prune 175 = .ok (.iload_n 2, 1) := by decide +kernel
theorem dX0_prune_176 : decode cX0_prune 176 = .ok (.iaload, 1) := by decide +kernel
theorem dX0_prune_177 : decode cX0_prune 177 = .ok (.ior, 1) := by decide +kernel
theorem dX0_prune_178 : decode cX0_prune 178 = .ok (.iastore, 1) := by decide +kernel
theorem dX0_prune_179 : decode cX0_prune 179 = .ok (.iinc 2 1, 3) := by decide +kernel
theorem dX0_prune_182 : decode cX0_prune 182 = .ok (.goto (-53), 3) := by decide +kernel
theorem dX0_prune_185 : decode cX0_prune 185 = .ok (.iinc 1 1, 3) := by decide +kernel
theorem dX0_prune_188 : decode cX0_prune 188 = .ok (.goto (-99), 3) := by decide +kernel
theorem dX0_prune_191 : decode cX0_prune 191 = .ok (.return_, 1) := by decide +kernel
theorem dX0_leadsOn_0 : decode cX0_leadsOn 0 = .ok (.aload_n 0, 1) := by decide +kernel
theorem dX0_leadsOn_1 : decode cX0_leadsOn 1 = .ok (.iload_n 1, 1) := by decide +kernel
theorem dX0_leadsOn_2 : decode cX0_leadsOn 2 = .ok (.iload_n 2, 1) := by decide +kernel
theorem dX0_leadsOn_3 : decode cX0_leadsOn 3 = .ok (.invokevirtual 110, 3) := by decide +kernel
theorem dX0_leadsOn_6 : decode cX0_leadsOn 6 = .ok (.istore_n 3, 1) := by decide +kernel
theorem dX0_leadsOn_7 : decode cX0_leadsOn 7 = .ok (.iload_n 3, 1) := by decide +kernel
theorem dX0_leadsOn_8 : decode cX0_leadsOn 8 = .ok (.aload_n 0, 1) := by decide +kernel
theorem dX0_leadsOn_9 : decode cX0_leadsOn 9 = .ok (.getfield 31, 3) := by decide +kernel
theorem dX0_leadsOn_12 : decode cX0_leadsOn 12 = .ok (.if_icmp .gt 19, 3) := by decide +kernel
theorem dX0_leadsOn_15 : decode cX0_leadsOn 15 = .ok (.aload_n 0, 1) := by decide +kernel
theorem dX0_leadsOn_16 : decode cX0_leadsOn 16 = .ok (.getfield 9, 3) := by decide +kernel
theorem dX0_leadsOn_19 : decode cX0_leadsOn 19 = .ok (.iload_n 3, 1) := by decide +kernel
theorem dX0_leadsOn_20 : decode cX0_leadsOn 20 = .ok (.iaload, 1) := by decide +kernel
theorem dX0_leadsOn_21 : decode cX0_leadsOn 21 = .ok (.aload_n 0, 1) := by decide +kernel
theorem dX0_leadsOn_22 : decode cX0_leadsOn 22 = .ok (.getfield 18, 3) := by decide +kernel
theorem dX0_leadsOn_25 : decode cX0_leadsOn 25 = .ok (.iload_n 2, 1) := by decide +kernel
theorem dX0_leadsOn_26 : decode cX0_leadsOn 26 = .ok (.iaload, 1) := by decide +kernel
theorem dX0_leadsOn_27 : decode cX0_leadsOn 27 = .ok (.iand, 1) := by decide +kernel
theorem dX0_leadsOn_28 : decode cX0_leadsOn 28 = .ok (.ifCond .eq 7, 3) := by decide +kernel
theorem dX0_leadsOn_31 : decode cX0_leadsOn 31 = .ok (.iconst 1, 1) := by decide +kernel
theorem dX0_leadsOn_32 : decode cX0_leadsOn 32 = .ok (.goto 4, 3) := by decide +kernel
theorem dX0_leadsOn_35 : decode cX0_leadsOn 35 = .ok (.iconst 0, 1) := by decide +kernel
theorem dX0_leadsOn_36 : decode cX0_leadsOn 36 = .ok (.ireturn, 1) := by decide +kernel
theorem dX0_countFrom_0 : decode cX0_countFrom 0 = .ok (.aload_n 0, 1) := by decide +kernel
theorem dX0_countFrom_1 : decode cX0_countFrom 1 = .ok (.getfield 31, 3) := by decide +kernel
theorem dX0_countFrom_4 : decode cX0_countFrom 4 = .ok (.iconst 1, 1) := by decide +kernel
theorem dX0_countFrom_5 : decode cX0_countFrom 5 = .ok (.isub, 1) := by decide +kernel
theorem dX0_countFrom_6 : decode cX0_countFrom 6 = .ok (.istore_n 2, 1) := by decide +kernel
theorem dX0_countFrom_7 : decode cX0_countFrom 7 = .ok (.iload_n 2, 1) := by decide +kernel
theorem dX0_countFrom_8 : decode cX0_countFrom 8 = .ok (.ifCond .lt 101, 3) := by decide +kernel
theorem dX0_countFrom_11 : decode cX0_countFrom 11 = .ok (.aload_n 0, 1) := by decide +kernel
theorem dX0_countFrom_12 : decode cX0_countFrom 12 = .ok (.getfield 9, 3) := by decide +kernel
theorem dX0_countFrom_15 : decode cX0_countFrom 15 = .ok (.iload_n 2, 1) := by decide +kernel
theorem dX0_countFrom_16 : decode cX0_countFrom 16 = .ok (.iaload, 1) := by decide +kernel
theorem dX0_countFrom_17 : decode cX0_countFrom 17 = .ok (.iload_n 1, 1) := by decide +kernel
theorem dX0_countFrom_18 : decode cX0_countFrom 18 = .ok (.iand, 1) := by decide +kernel
theorem dX0_countFrom_19 : decode cX0_countFrom 19 = .ok (.istore_n 3, 1) := by decide +kernel
theorem dX0_countFrom_20 : decode cX0_countFrom 20 = .ok (.iconst 0, 1) := by decide +kernel
theorem dX0_countFrom_21 : decode cX0_countFrom 21 = .ok (.istore 4, 2) := by decide +kernel
theorem dX0_countFrom_23 : decode cX0_countFrom 23 = .ok (.iload 4, 2) := by decide +kernel
theorem dX0_countFrom_25 : decode cX0_countFrom 25 = .ok (.aload_n 0, 1) := by decide +kernel
theorem dX0_countFrom_26 : decode cX0_countFrom 26 = .ok (.getfield 35, 3) := by decide +kernel
theorem dX0_countFrom_29 : decode cX0_countFrom 29 = .ok (.if_icmp .ge 74, 3) := by decide +kernel
theorem dX0_countFrom_32 : decode cX0_countFrom 32 = .ok (.iload_n 3, 1) := by decide +kernel
theorem dX0_countFrom_33 : decode cX0_countFrom 33 = .ok (.iload 4, 2) := by decide +kernel
theorem dX0_countFrom_35 : decode cX0_countFrom 35 = .ok (.ishr, 1) := by decide +kernel
theorem dX0_countFrom_36 : decode cX0_countFrom 36 = .ok (.ifCond .eq 67, 3) := by decide +kernel
theorem dX0_countFrom_39 : decode cX0_countFrom 39 = .ok (.iload_n 3, 1) := by decide +kernel
theorem dX0_countFrom_40 : decode cX0_countFrom 40 = .ok (.iload 4, 2) := by decide +kernel
theorem dX0_countFrom_42 : decode cX0_countFrom 42 = .ok (.ishr, 1) := by decide +kernel
theorem dX0_countFrom_43 : decode cX0_countFrom 43 = .ok (.iconst 1, 1) := by decide +kernel
theorem dX0_countFrom_44 : decode cX0_countFrom 44 = .ok (.iand, 1) := by decide +kernel
theorem dX0_countFrom_45 : decode cX0_countFrom 45 = .ok (.ifCond .eq 52, 3) := by decide +kernel
theorem dX0_countFrom_48 : decode cX0_countFrom 48 = .ok (.aload_n 0, 1) := by decide +kernel
theorem dX0_countFrom_49 : decode cX0_countFrom 49 = .ok (.iload_n 2, 1) := by decide +kernel
theorem dX0_countFrom_50 : decode cX0_countFrom 50 = .ok (.iload 4, 2) := by decide +kernel
theorem dX0_countFrom_52 : decode cX0_countFrom 52 = .ok (.invokevirtual 110, 3) := by decide +kernel
theorem dX0_countFrom_55 : decode cX0_countFrom 55 = .ok (.istore 5, 2) := by decide +kernel
theorem dX0_countFrom_57 : decode cX0_countFrom 57 = .ok (.aload_n 0, 1) := by decide +kernel
theorem dX0_countFrom_58 : decode cX0_countFrom 58 = .ok (.getfield 28, 3) := by decide +kernel
theorem dX0_countFrom_61 : decode cX0_countFrom 61 = .ok (.iload_n 2, 1) := by decide +kernel
theorem dX0_countFrom_62 : decode cX0_countFrom 62 = .ok (.bipush 8, 2) := by decide +kernel
theorem dX0_countFrom_64 : decode cX0_countFrom 64 = .ok (.imul, 1) := by decide +kernel
theorem dX0_countFrom_65 : decode cX0_countFrom 65 = .ok (.iload 4, 2) := by decide +kernel
theorem dX0_countFrom_67 : decode cX0_countFrom 67 = .ok (.iadd, 1) := by decide +kernel
theorem dX0_countFrom_68 : decode cX0_countFrom 68 = .ok (.iload 5, 2) := by decide +kernel
theorem dX0_countFrom_70 : decode cX0_countFrom 70 = .ok (.aload_n 0, 1) := by decide +kernel
theorem dX0_countFrom_71 : decode cX0_countFrom 71 = .ok (.getfield 31, 3) := by decide +kernel
theorem dX0_countFrom_74 : decode cX0_countFrom 74 = .ok (.if_icmp .le 7, 3) := by decide +kernel
theorem dX0_countFrom_77 : decode cX0_countFrom 77 = .ok (.lconst 1, 1) := by decide +kernel
theorem dX0_countFrom_78 : decode cX0_countFrom 78 = .ok (.goto 18, 3) := by decide +kernel
theorem dX0_countFrom_81 : decode cX0_countFrom 81 = .ok (.aload_n 0, 1) := by decide +kernel
theorem dX0_countFrom_82 : decode cX0_countFrom 82 = .ok (.iload 5, 2) := by decide +kernel
theorem dX0_countFrom_84 : decode cX0_countFrom 84 = .ok (.aload_n 0, 1) := by decide +kernel
theorem dX0_countFrom_85 : decode cX0_countFrom 85 = .ok (.getfield 18, 3) := by decide +kernel
theorem dX0_countFrom_88 : decode cX0_countFrom 88 = .ok (.iload 4, 2) := by decide +kernel
theorem dX0_countFrom_90 : decode cX0_countFrom 90 = .ok (.iaload, 1) := by decide +kernel
theorem dX0_countFrom_91 : decode cX0_countFrom 91 = .ok (.iload_n 1, 1) := by decide +kernel
theorem dX0_countFrom_92 : decode cX0_countFrom 92 = .ok (.iand, 1) := by decide +kernel
theorem dX0_countFrom_93 : decode cX0_countFrom 93 = .ok (.invokevirtual 117, 3) := by decide +kernel
theorem dX0_countFrom_96 : decode cX0_countFrom 96 = .ok (.lastore, 1) := by decide +kernel
theorem dX0_countFrom_97 : decode cX0_countFrom 97 = .ok (.iinc 4 1, 3) := by decide +kernel
theorem dX0_countFrom_100 : decode cX0_countFrom 100 = .ok (.goto (-77), 3) := by decide +kernel
theorem dX0_countFrom_103 : decode cX0_countFrom 103 = .ok (.iinc 2 (-1), 3) := by decide +kernel
theorem dX0_countFrom_106 : decode cX0_countFrom 106 = .ok (.goto (-99), 3) := by decide +kernel
theorem dX0_countFrom_109 : decode cX0_countFrom 109 = .ok (.aload_n 0, 1) := by decide +kernel
theorem dX0_countFrom_110 : decode cX0_countFrom 110 = .ok (.iconst 0, 1) := by decide +kernel
theorem dX0_countFrom_111 : decode cX0_countFrom 111 = .ok (.iload_n 1, 1) := by decide +kernel
theorem dX0_countFrom_112 : decode cX0_countFrom 112 = .ok (.invokevirtual 117, 3) := by decide +kernel
theorem dX0_countFrom_115 : decode cX0_countFrom 115 = .ok (.lreturn, 1) := by decide +kernel
theorem dX0_sumTails_0 : decode cX0_sumTails 0 = .ok (.aload_n 0, 1) := by decide +kernel
theorem dX0_sumTails_1 : decode cX0_sumTails 1 = .ok (.getfield 9, 3) := by decide +kernel
theorem dX0_sumTails_4 : decode cX0_sumTails 4 = .ok (.iload_n 1, 1) := by decide +kernel
theorem dX0_sumTails_5 : decode cX0_sumTails 5 = .ok (.iaload, 1) := by decide +kernel
theorem dX0_sumTails_6 : decode cX0_sumTails 6 = .ok (.iload_n 2, 1) := by decide +kernel
theorem dX0_sumTails_7 : decode cX0_sumTails 7 = .ok (.iand, 1) := by decide +kernel
theorem dX0_sumTails_8 : decode cX0_sumTails 8 = .ok (.istore_n 3, 1) := by decide +kernel
theorem dX0_sumTails_9 : decode cX0_sumTails 9 = .ok (.lconst 0, 1) := by decide +kernel
theorem dX0_sumTails_10 : decode cX0_sumTails 10 = .ok (.lstore 4, 2) := by decide +kernel
theorem dX0_sumTails_12 : decode cX0_sumTails 12 = .ok (.iconst 0, 1) := by decide +kernel
theorem dX0_sumTails_13 : decode cX0_sumTails 13 = .ok (.istore 6, 2) := by decide +kernel
theorem dX0_sumTails_15 : decode cX0_sumTails 15 = .ok (.iload 6, 2) := by decide +kernel
theorem dX0_sumTails_17 : decode cX0_sumTails 17 = .ok (.aload_n 0, 1) := by decide +kernel
theorem dX0_sumTails_18 : decode cX0_sumTails 18 = .ok (.getfield 35, 3) := by decide +kernel
theorem dX0_sumTails_21 : decode cX0_sumTails 21 = .ok (.if_icmp .ge 42, 3) := by decide +kernel
theorem dX0_sumTails_24 : decode cX0_sumTails 24 = .ok (.iload_n 3, 1) := by decide +kernel
theorem dX0_sumTails_25 : decode cX0_sumTails 25 = .ok (.iload 6, 2) := by decide +kernel
theorem dX0_sumTails_27 : decode cX0_sumTails 27 = .ok (.ishr, 1) := by decide +kernel
theorem dX0_sumTails_28 : decode cX0_sumTails 28 = .ok (.ifCond .eq 35, 3) := by decide +kernel
theorem dX0_sumTails_31 : decode cX0_sumTails 31 = .ok (.iload_n 3, 1) := by decide +kernel
theorem dX0_sumTails_32 : decode cX0_sumTails 32 = .ok (.iload 6, 2) := by decide +kernel
theorem dX0_sumTails_34 : decode cX0_sumTails 34 = .ok (.ishr, 1) := by decide +kernel
theorem dX0_sumTails_35 : decode cX0_sumTails 35 = .ok (.iconst 1, 1) := by decide +kernel
theorem dX0_sumTails_36 : decode cX0_sumTails 36 = .ok (.iand, 1) := by decide +kernel
theorem dX0_sumTails_37 : decode cX0_sumTails 37 = .ok (.ifCond .eq 20, 3) := by decide +kernel
theorem dX0_sumTails_40 : decode cX0_sumTails 40 = .ok (.lload 4, 2) := by decide +kernel
theorem dX0_sumTails_42 : decode cX0_sumTails 42 = .ok (.aload_n 0, 1) := by decide +kernel
theorem dX0_sumTails_43 : decode cX0_sumTails 43 = .ok (.getfield 28, 3) := by decide +kernel
theorem dX0_sumTails_46 : decode cX0_sumTails 46 = .ok (.iload_n 1, 1) := by decide +kernel
theorem dX0_sumTails_47 : decode cX0_sumTails 47 = .ok (.bipush 8, 2) := by decide +kernel
theorem dX0_sumTails_49 : decode cX0_sumTails 49 = .ok (.imul, 1) := by decide +kernel
theorem dX0_sumTails_50 : decode cX0_sumTails 50 = .ok (.iload 6, 2) := by decide +kernel
theorem dX0_sumTails_52 : decode cX0_sumTails 52 = .ok (.iadd, 1) := by decide +kernel
theorem dX0_sumTails_53 : decode cX0_sumTails 53 = .ok (.laload, 1) := by decide +kernel
theorem dX0_sumTails_54 : decode cX0_sumTails 54 = .ok (.ladd, 1) := by decide +kernel
theorem dX0_sumTails_55 : decode cX0_sumTails 55 = .ok (.lstore 4, 2) := by decide +kernel
theorem dX0_sumTails_57 : decode cX0_sumTails 57 = .ok (.iinc 6 1, 3) := by decide +kernel
theorem dX0_sumTails_60 : decode cX0_sumTails 60 = .ok (.goto (-45), 3) := by decide +kernel
theorem dX0_sumTails_63 : decode cX0_sumTails 63 = .ok (.lload 4, 2) := by decide +kernel
theorem dX0_sumTails_65 : decode cX0_sumTails 65 = .ok (.lreturn, 1) := by decide +kernel
theorem dX0_countHeads_0 : decode cX0_countHeads 0 = .ok (.aload_n 0, 1) := by decide +kernel
theorem dX0_countHeads_1 : decode cX0_countHeads 1 = .ok (.getfield 24, 3) := by decide +kernel
theorem dX0_countHeads_4 : decode cX0_countHeads 4 = .ok (.lconst 0, 1) := by decide +kernel
theorem dX0_countHeads_5 : decode cX0_countHeads 5 = .ok (.invokestatic 121, 3) := by decide +kernel
theorem dX0_countHeads_8 : decode cX0_countHeads 8 = .ok (.iconst 0, 1) := by decide +kernel
theorem dX0_countHeads_9 : decode cX0_countHeads 9 = .ok (.istore_n 1, 1) := by decide +kernel
theorem dX0_countHeads_10 : decode cX0_countHeads 10 = .ok (.iload_n 1, 1) := by decide +kernel
theorem dX0_countHeads_11 : decode cX0_countHeads 11 = .ok (.aload_n 0, 1) := by decide +kernel
theorem dX0_countHeads_12 : decode cX0_countHeads 12 = .ok (.getfield 35, 3) := by decide +kernel
theorem dX0_countHeads_15 : decode cX0_countHeads 15 = .ok (.if_icmp .ge 29, 3) := by decide +kernel
theorem dX0_countHeads_18 : decode cX0_countHeads 18 = .ok (.aload_n 0, 1) := by decide +kernel
theorem dX0_countHeads_19 : decode cX0_countHeads 19 = .ok (.getfield 24, 3) := by decide +kernel
theorem dX0_countHeads_22 : decode cX0_countHeads 22 = .ok (.iload_n 1, 1) := by decide +kernel
theorem dX0_countHeads_23 : decode cX0_countHeads 23 = .ok (.aload_n 0, 1) := by decide +kernel
theorem dX0_countHeads_24 : decode cX0_countHeads 24 = .ok (.iconst 0, 1) := by decide +kernel
theorem dX0_countHeads_25 : decode cX0_countHeads 25 = .ok (.iload_n 1, 1) := by decide +kernel
theorem dX0_countHeads_26 : decode cX0_countHeads 26 = .ok (.invokevirtual 106, 3) := by decide +kernel
theorem dX0_countHeads_29 : decode cX0_countHeads 29 = .ok (.ifCond .eq 7, 3) := by decide +kernel
theorem dX0_countHeads_32 : decode cX0_countHeads 32 = .ok (.lconst 1, 1) := by decide +kernel
theorem dX0_countHeads_33 : decode cX0_countHeads 33 = .ok (.goto 4, 3) := by decide +kernel
theorem dX0_countHeads_36 : decode cX0_countHeads 36 = .ok (.lconst 0, 1) := by decide +kernel
theorem dX0_countHeads_37 : decode cX0_countHeads 37 = .ok (.lastore, 1) := by decide +kernel
theorem dX0_countHeads_38 : decode cX0_countHeads 38 = .ok (.iinc 1 1, 3) := by decide +kernel
theorem dX0_countHeads_41 : decode cX0_countHeads 41 = .ok (.goto (-31), 3) := by decide +kernel
theorem dX0_countHeads_44 : decode cX0_countHeads 44 = .ok (.iconst 0, 1) := by decide +kernel
theorem dX0_countHeads_45 : decode cX0_countHeads 45 = .ok (.istore_n 1, 1) := by decide +kernel
theorem dX0_countHeads_46 : decode cX0_countHeads 46 = .ok (.iload_n 1, 1) := by decide +kernel
theorem dX0_countHeads_47 : decode cX0_countHeads 47 = .ok (.aload_n 0, 1) := by decide +kernel
theorem dX0_countHeads_48 : decode cX0_countHeads 48 = .ok (.getfield 31, 3) := by decide +kernel
theorem dX0_countHeads_51 : decode cX0_countHeads 51 = .ok (.if_icmp .ge 74, 3) := by decide +kernel
theorem dX0_countHeads_54 : decode cX0_countHeads 54 = .ok (.iconst 0, 1) := by decide +kernel
theorem dX0_countHeads_55 : decode cX0_countHeads 55 = .ok (.istore_n 2, 1) := by decide +kernel
theorem dX0_countHeads_56 : decode cX0_countHeads 56 = .ok (.iload_n 2, 1) := by decide +kernel
theorem dX0_countHeads_57 : decode cX0_countHeads 57 = .ok (.aload_n 0, 1) := by decide +kernel
theorem dX0_countHeads_58 : decode cX0_countHeads 58 = .ok (.getfield 35, 3) := by decide +kernel
theorem dX0_countHeads_61 : decode cX0_countHeads 61 = .ok (.if_icmp .ge 58, 3) := by decide +kernel
theorem dX0_countHeads_64 : decode cX0_countHeads 64 = .ok (.aload_n 0, 1) := by decide +kernel
theorem dX0_countHeads_65 : decode cX0_countHeads 65 = .ok (.iload_n 1, 1) := by decide +kernel
theorem dX0_countHeads_66 : decode cX0_countHeads 66 = .ok (.iload_n 2, 1) := by decide +kernel
theorem dX0_countHeads_67 : decode cX0_countHeads 67 = .ok (.invokevirtual 106, 3) := by decide +kernel
theorem dX0_countHeads_70 : decode cX0_countHeads 70 = .ok (.ifCond .eq 43, 3) := by decide +kernel
theorem dX0_countHeads_73 : decode cX0_countHeads 73 = .ok (.aload_n 0, 1) := by decide +kernel
theorem dX0_countHeads_74 : decode cX0_countHeads 74 = .ok (.iload_n 1, 1) := by decide +kernel
theorem dX0_countHeads_75 : decode cX0_countHeads 75 = .ok (.iload_n 2, 1) := by decide +kernel
theorem dX0_countHeads_76 : decode cX0_countHeads 76 = .ok (.invokevirtual 110, 3) := by decide +kernel
theorem dX0_countHeads_79 : decode cX0_countHeads 79 = .ok (.aload_n 0, 1) := by decide +kernel
theorem dX0_countHeads_80 : decode cX0_countHeads 80 = .ok (.getfield 31, 3) := by decide +kernel
theorem dX0_countHeads_83 : decode cX0_countHeads 83 = .ok (.if_icmp .gt 30, 3) := by decide +kernel
theorem dX0_countHeads_86 : decode cX0_countHeads 86 = .ok (.aload_n 0, 1) := by decide +kernel
theorem dX0_countHeads_87 : decode cX0_countHeads 87 = .ok (.aload_n 0, 1) := by decide +kernel
theorem dX0_countHeads_88 : decode cX0_countHeads 88 = .ok (.getfield 24, 3) := by decide +kernel
theorem dX0_countHeads_91 : decode cX0_countHeads 91 = .ok (.iload_n 1, 1) := by decide +kernel
theorem dX0_countHeads_92 : decode cX0_countHeads 92 = .ok (.bipush 8, 2) := by decide +kernel
theorem dX0_countHeads_94 : decode cX0_countHeads 94 = .ok (.imul, 1) := by decide +kernel
theorem dX0_countHeads_95 : decode cX0_countHeads 95 = .ok (.iload_n 2, 1) := by decide +kernel
theorem dX0_countHeads_96 : decode cX0_countHeads 96 = .ok (.iadd, 1) := by decide +kernel
theorem dX0_countHeads_97 : decode cX0_countHeads 97 = .ok (.laload, 1) := by decide +kernel
theorem dX0_countHeads_98 : decode cX0_countHeads 98 = .ok (.aload_n 0, 1) := by decide +kernel
theorem dX0_countHeads_99 : decode cX0_countHeads 99 = .ok (.iload_n 1, 1) := by decide +kernel
theorem dX0_countHeads_100 : decode cX0_countHeads 100 = .ok (.iload_n 2, 1) := by decide +kernel
theorem dX0_countHeads_101 : decode cX0_countHeads 101 = .ok (.invokevirtual 110, 3) := by decide +kernel
theorem dX0_countHeads_104 : decode cX0_countHeads 104 = .ok (.aload_n 0, 1) := by decide +kernel
theorem dX0_countHeads_105 : decode cX0_countHeads 105 = .ok (.getfield 18, 3) := by decide +kernel
theorem dX0_countHeads_108 : decode cX0_countHeads 108 = .ok (.iload_n 2, 1) := by decide +kernel
theorem dX0_countHeads_109 : decode cX0_countHeads 109 = .ok (.iaload, 1) := by decide +kernel
theorem dX0_countHeads_110 : decode cX0_countHeads 110 = .ok (.invokevirtual 124, 3) := by decide +kernel
theorem dX0_countHeads_113 : decode cX0_countHeads 113 = .ok (.iinc 2 1, 3) := by decide +kernel
theorem dX0_countHeads_116 : decode cX0_countHeads 116 = .ok (.goto (-60), 3) := by decide +kernel
theorem dX0_countHeads_119 : decode cX0_countHeads 119 = .ok (.iinc 1 1, 3) := by decide +kernel
theorem dX0_countHeads_122 : decode cX0_countHeads 122 = .ok (.goto (-76), 3) := by decide +kernel
theorem dX0_countHeads_125 : decode cX0_countHeads 125 = .ok (.return_, 1) := by decide +kernel
theorem dX0_passOn_0 : decode cX0_passOn 0 = .ok (.iconst 0, 1) := by decide +kernel
theorem dX0_passOn_1 : decode cX0_passOn 1 = .ok (.istore 5, 2) := by decide +kernel
theorem dX0_passOn_3 : decode cX0_passOn 3 = .ok (.iload 5, 2) := by decide +kernel
theorem dX0_passOn_5 : decode cX0_passOn 5 = .ok (.aload_n 0, 1) := by decide +kernel
theorem dX0_passOn_6 : decode cX0_passOn 6 = .ok (.getfield 35, 3) := by decide +kernel
theorem dX0_passOn_9 : decode cX0_passOn 9 = .ok (.if_icmp .ge 45, 3) := by decide +kernel
theorem dX0_passOn_12 : decode cX0_passOn 12 = .ok (.aload_n 0, 1) := by decide +kernel
theorem dX0_passOn_13 : decode cX0_passOn 13 = .ok (.iload_n 3, 1) := by decide +kernel
theorem dX0_passOn_14 : decode cX0_passOn 14 = .ok (.iload 5, 2) := by decide +kernel
theorem dX0_passOn_16 : decode cX0_passOn 16 = .ok (.invokevirtual 106, 3) := by decide +kernel
theorem dX0_passOn_19 : decode cX0_passOn 19 = .ok (.ifCond .eq 29, 3) := by decide +kernel
theorem dX0_passOn_22 : decode cX0_passOn 22 = .ok (.iload 4, 2) := by decide +kernel
theorem dX0_passOn_24 : decode cX0_passOn 24 = .ok (.iload 5, 2) := by decide +kernel
theorem dX0_passOn_26 : decode cX0_passOn 26 = .ok (.ishr, 1) := by decide +kernel
theorem dX0_passOn_27 : decode cX0_passOn 27 = .ok (.iconst 1, 1) := by decide +kernel
theorem dX0_passOn_28 : decode cX0_passOn 28 = .ok (.iand, 1) := by decide +kernel
theorem dX0_passOn_29 : decode cX0_passOn 29 = .ok (.ifCond .eq 19, 3) := by decide +kernel
theorem dX0_passOn_32 : decode cX0_passOn 32 = .ok (.aload_n 0, 1) := by decide +kernel
theorem dX0_passOn_33 : decode cX0_passOn 33 = .ok (.getfield 24, 3) := by decide +kernel
theorem dX0_passOn_36 : decode cX0_passOn 36 = .ok (.iload_n 3, 1) := by decide +kernel
theorem dX0_passOn_37 : decode cX0_passOn 37 = .ok (.bipush 8, 2) := by decide +kernel
theorem dX0_passOn_39 : decode cX0_passOn 39 = .ok (.imul, 1) := by decide +kernel
theorem dX0_passOn_40 : decode cX0_passOn 40 = .ok (.iload 5, 2) := by decide +kernel
theorem dX0_passOn_42 : decode cX0_passOn 42 = .ok (.iadd, 1) := by decide +kernel
theorem dX0_passOn_43 : decode cX0_passOn 43 = .ok (.dup2, 1) := by decide +kernel
theorem dX0_passOn_44 : decode cX0_passOn 44 = .ok (.laload, 1) := by decide +kernel
theorem dX0_passOn_45 : decode cX0_passOn 45 = .ok (.lload_n 1, 1) := by decide +kernel
theorem dX0_passOn_46 : decode cX0_passOn 46 = .ok (.ladd, 1) := by decide +kernel
theorem dX0_passOn_47 : decode cX0_passOn 47 = .ok (.lastore, 1) := by decide +kernel
theorem dX0_passOn_48 : decode cX0_passOn 48 = .ok (.iinc 5 1, 3) := by decide +kernel
theorem dX0_passOn_51 : decode cX0_passOn 51 = .ok (.goto (-48), 3) := by decide +kernel
theorem dX0_passOn_54 : decode cX0_passOn 54 = .ok (.return_, 1) := by decide +kernel
theorem dX0_countThrough_0 : decode cX0_countThrough 0 = .ok (.iload_n 1, 1) := by decide +kernel
theorem dX0_countThrough_1 : decode cX0_countThrough 1 = .ok (.bipush 8, 2) := by decide +kernel
theorem dX0_countThrough_3 : decode cX0_countThrough 3 = .ok (.imul, 1) := by decide +kernel
theorem dX0_countThrough_4 : decode cX0_countThrough 4 = .ok (.iload_n 2, 1) := by decide +kernel
theorem dX0_countThrough_5 : decode cX0_countThrough 5 = .ok (.iadd, 1) := by decide +kernel
theorem dX0_countThrough_6 : decode cX0_countThrough 6 = .ok (.istore_n 3, 1) := by decide +kernel
theorem dX0_countThrough_7 : decode cX0_countThrough 7 = .ok (.aload_n 0, 1) := by decide +kernel
theorem dX0_countThrough_8 : decode cX0_countThrough 8 = .ok (.iload_n 1, 1) := by decide +kernel
theorem dX0_countThrough_9 : decode cX0_countThrough 9 = .ok (.iload_n 2, 1) := by decide +kernel
theorem dX0_countThrough_10 : decode cX0_countThrough 10 = .ok (.invokevirtual 106, 3) := by decide +kernel
theorem dX0_countThrough_13 : decode cX0_countThrough 13 = .ok (.ifCond .eq 19, 3) := by decide +kernel
theorem dX0_countThrough_16 : decode cX0_countThrough 16 = .ok (.aload_n 0, 1) := by decide +kernel
theorem dX0_countThrough_17 : decode cX0_countThrough 17 = .ok (.getfield 24, 3) := by decide +kernel
theorem dX0_countThrough_20 : decode cX0_countThrough 20 = .ok (.iload_n 3, 1) := by decide +kernel
theorem dX0_countThrough_21 : decode cX0_countThrough 21 = .ok (.laload, 1) := by decide +kernel
theorem dX0_countThrough_22 : decode cX0_countThrough 22 = .ok (.aload_n 0, 1) := by decide +kernel
theorem dX0_countThrough_23 : decode cX0_countThrough 23 = .ok (.getfield 28, 3) := by decide +kernel
theorem dX0_countThrough_26 : decode cX0_countThrough 26 = .ok (.iload_n 3, 1) := by decide +kernel
theorem dX0_countThrough_27 : decode cX0_countThrough 27 = .ok (.laload, 1) := by decide +kernel
theorem dX0_countThrough_28 : decode cX0_countThrough 28 = .ok (.lmul, 1) := by decide +kernel
theorem dX0_countThrough_29 : decode cX0_countThrough 29 = .ok (.goto 4, 3) := by decide +kernel
theorem dX0_countThrough_32 : decode cX0_countThrough 32 = .ok (.lconst 0, 1) := by decide +kernel
theorem dX0_countThrough_33 : decode cX0_countThrough 33 = .ok (.lreturn, 1) := by decide +kernel
theorem dX0_countSign_0 : decode cX0_countSign 0 = .ok (.lconst 0, 1) := by decide +kernel
theorem dX0_countSign_1 : decode cX0_countSign 1 = .ok (.lstore 4, 2) := by decide +kernel
theorem dX0_countSign_3 : decode cX0_countSign 3 = .ok (.iconst 0, 1) := by decide +kernel
theorem dX0_countSign_4 : decode cX0_countSign 4 = .ok (.istore 6, 2) := by decide +kernel
theorem dX0_countSign_6 : decode cX0_countSign 6 = .ok (.iload 6, 2) := by decide +kernel
theorem dX0_countSign_8 : decode cX0_countSign 8 = .ok (.iload_n 2, 1) := by decide +kernel
theorem dX0_countSign_9 : decode cX0_countSign 9 = .ok (.if_icmp .gt 74, 3) := by decide +kernel
theorem dX0_countSign_12 : decode cX0_countSign 12 = .ok (.iload 6, 2) := by decide +kernel
theorem dX0_countSign_14 : decode cX0_countSign 14 = .ok (.aload_n 0, 1) := by decide +kernel
theorem dX0_countSign_15 : decode cX0_countSign 15 = .ok (.getfield 31, 3) := by decide +kernel
theorem dX0_countSign_18 : decode cX0_countSign 18 = .ok (.if_icmp .ge 65, 3) := by decide +kernel
theorem dX0_countSign_21 : decode cX0_countSign 21 = .ok (.iconst 0, 1) := by decide +kernel
theorem dX0_countSign_22 : decode cX0_countSign 22 = .ok (.istore 7, 2) := by decide +kernel
theorem dX0_countSign_24 : decode cX0_countSign 24 = .ok (.iload 7, 2) := by decide +kernel
theorem dX0_countSign_26 : decode cX0_countSign 26 = .ok (.aload_n 0, 1) := by decide +kernel
theorem dX0_countSign_27 : decode cX0_countSign 27 = .ok (.getfield 35, 3) := by decide +kernel
theorem dX0_countSign_30 : decode cX0_countSign 30 = .ok (.if_icmp .ge 47, 3) := by decide +kernel
theorem dX0_countSign_33 : decode cX0_countSign 33 = .ok (.aload_n 0, 1) := by decide +kernel
theorem dX0_countSign_34 : decode cX0_countSign 34 = .ok (.iload 6, 2) := by decide +kernel
theorem dX0_countSign_36 : decode cX0_countSign 36 = .ok (.iload 7, 2) := by decide +kernel
theorem dX0_countSign_38 : decode cX0_countSign 38 = .ok (.invokevirtual 106, 3) := by decide +kernel
theorem dX0_countSign_41 : decode cX0_countSign 41 = .ok (.ifCond .eq 30, 3) := by decide +kernel
theorem dX0_countSign_44 : decode cX0_countSign 44 = .ok (.aload_n 1, 1) := by decide +kernel
theorem dX0_countSign_45 : decode cX0_countSign 45 = .ok (.iload 7, 2) := by decide +kernel
theorem dX0_countSign_47 : decode cX0_countSign 47 = .ok (.iload_n 2, 1) := by decide +kernel
theorem dX0_countSign_48 : decode cX0_countSign 48 = .ok (.iload 6, 2) := by decide +kernel
theorem dX0_countSign_50 : decode cX0_countSign 50 = .ok (.isub, 1) := by decide +kernel
theorem dX0_countSign_51 : decode cX0_countSign 51 = .ok (.invokevirtual 128, 3) := by decide +kernel
theorem dX0_countSign_54 : decode cX0_countSign 54 = .ok (.iload_n 3, 1) := by decide +kernel
theorem dX0_countSign_55 : decode cX0_countSign 55 = .ok (.if_icmp .ne 16, 3) := by decide +kernel
theorem dX0_countSign_58 : decode cX0_countSign 58 = .ok (.lload 4, 2) := by decide +kernel
theorem dX0_countSign_60 : decode cX0_countSign 60 = .ok (.aload_n 0, 1) := by decide +kernel
theorem dX0_countSign_61 : decode cX0_countSign 61 = .ok (.iload 6, 2) := by decide +kernel
theorem dX0_countSign_63 : decode cX0_countSign 63 = .ok (.iload 7, 2) := by decide +kernel
theorem dX0_countSign_65 : decode cX0_countSign 65 = .ok (.invokevirtual 131, 3) := by decide +kernel
theorem dX0_countSign_68 : decode cX0_countSign 68 = .ok (.ladd, 1) := by decide +kernel
theorem dX0_countSign_69 : decode cX0_countSign 69 = .ok (.lstore 4, 2) := by decide +kernel
theorem dX0_countSign_71 : decode cX0_countSign 71 = .ok (.iinc 7 1, 3) := by decide +kernel
theorem dX0_countSign_74 : decode cX0_countSign 74 = .ok (.goto (-50), 3) := by decide +kernel
theorem dX0_countSign_77 : decode cX0_countSign 77 = .ok (.iinc 6 1, 3) := by decide +kernel
theorem dX0_countSign_80 : decode cX0_countSign 80 = .ok (.goto (-74), 3) := by decide +kernel
theorem dX0_countSign_83 : decode cX0_countSign 83 = .ok (.lload 4, 2) := by decide +kernel
theorem dX0_countSign_85 : decode cX0_countSign 85 = .ok (.lreturn, 1) := by decide +kernel
theorem dX1_init_0 : decode cX1_init 0 = .ok (.aload_n 0, 1) := by decide +kernel
theorem dX1_init_1 : decode cX1_init 1 = .ok (.invokespecial 3, 3) := by decide +kernel
theorem dX1_init_4 : decode cX1_init 4 = .ok (.aload_n 0, 1) := by decide +kernel
theorem dX1_init_5 : decode cX1_init 5 = .ok (.bipush 14, 2) := by decide +kernel
theorem dX1_init_7 : decode cX1_init 7 = .ok (.newarray .int, 2) := by decide +kernel
theorem dX1_init_9 : decode cX1_init 9 = .ok (.putfield 9, 3) := by decide +kernel
theorem dX1_init_12 : decode cX1_init 12 = .ok (.aload_n 0, 1) := by decide +kernel
theorem dX1_init_13 : decode cX1_init 13 = .ok (.bipush 14, 2) := by decide +kernel
theorem dX1_init_15 : decode cX1_init 15 = .ok (.newarray .int, 2) := by decide +kernel
theorem dX1_init_17 : decode cX1_init 17 = .ok (.putfield 15, 3) := by decide +kernel
theorem dX1_init_20 : decode cX1_init 20 = .ok (.aload_n 0, 1) := by decide +kernel
theorem dX1_init_21 : decode cX1_init 21 = .ok (.bipush 14, 2) := by decide +kernel
theorem dX1_init_23 : decode cX1_init 23 = .ok (.newarray .int, 2) := by decide +kernel
theorem dX1_init_25 : decode cX1_init 25 = .ok (.putfield 18, 3) := by decide +kernel
theorem dX1_init_28 : decode cX1_init 28 = .ok (.aload_n 0, 1) := by decide +kernel
theorem dX1_init_29 : decode cX1_init 29 = .ok (.iconst 0, 1) := by decide +kernel
theorem dX1_init_30 : decode cX1_init 30 = .ok (.putfield 21, 3) := by decide +kernel
theorem dX1_init_33 : decode cX1_init 33 = .ok (.aload_n 0, 1) := by decide +kernel
theorem dX1_init_34 : decode cX1_init 34 = .ok (.iconst 0, 1) := by decide +kernel
theorem dX1_init_35 : decode cX1_init 35 = .ok (.putfield 25, 3) := by decide +kernel
theorem dX1_init_38 : decode cX1_init 38 = .ok (.return_, 1) := by decide +kernel
theorem dX1_forget_0 : decode cX1_forget 0 = .ok (.aload_n 0, 1) := by decide +kernel
theorem dX1_forget_1 : decode cX1_forget 1 = .ok (.iconst 0, 1) := by decide +kernel
theorem dX1_forget_2 : decode cX1_forget 2 = .ok (.putfield 21, 3) := by decide +kernel
theorem dX1_forget_5 : decode cX1_forget 5 = .ok (.aload_n 0, 1) := by decide +kernel
theorem dX1_forget_6 : decode cX1_forget 6 = .ok (.iconst 0, 1) := by decide +kernel
theorem dX1_forget_7 : decode cX1_forget 7 = .ok (.putfield 25, 3) := by decide +kernel
theorem dX1_forget_10 : decode cX1_forget 10 = .ok (.return_, 1) := by decide +kernel
theorem dX1_record_0 : decode cX1_record 0 = .ok (.aload_n 0, 1) := by decide +kernel
theorem dX1_record_1 : decode cX1_record 1 = .ok (.getfield 25, 3) := by decide +kernel
theorem dX1_record_4 : decode cX1_record 4 = .ok (.ifCond .lt 12, 3) := by decide +kernel
theorem dX1_record_7 : decode cX1_record 7 = .ok (.aload_n 0, 1) := by decide +kernel
theorem dX1_record_8 : decode cX1_record 8 = .ok (.getfield 25, 3) := by decide +kernel
theorem dX1_record_11 : decode cX1_record 11 = .ok (.bipush 14, 2) := by decide +kernel
theorem dX1_record_13 : decode cX1_record 13 = .ok (.if_icmp .lt 4, 3) := by decide +kernel
theorem dX1_record_16 : decode cX1_record 16 = .ok (.return_, 1) := by decide +kernel
theorem dX1_record_17 : decode cX1_record 17 = .ok (.aload_n 0, 1) := by decide +kernel
theorem dX1_record_18 : decode cX1_record 18 = .ok (.getfield 9, 3) := by decide +kernel
theorem dX1_record_21 : decode cX1_record 21 = .ok (.aload_n 0, 1) := by decide +kernel
theorem dX1_record_22 : decode cX1_record 22 = .ok (.getfield 25, 3) := by decide +kernel
theorem dX1_record_25 : decode cX1_record 25 = .ok (.iload_n 1, 1) := by decide +kernel
theorem dX1_record_26 : decode cX1_record 26 = .ok (.iastore, 1) := by decide +kernel
theorem dX1_record_27 : decode cX1_record 27 = .ok (.aload_n 0, 1) := by decide +kernel
theorem dX1_record_28 : decode cX1_record 28 = .ok (.getfield 15, 3) := by decide +kernel
theorem dX1_record_31 : decode cX1_record 31 = .ok (.aload_n 0, 1) := by decide +kernel
theorem dX1_record_32 : decode cX1_record 32 = .ok (.getfield 25, 3) := by decide +kernel
theorem dX1_record_35 : decode cX1_record 35 = .ok (.iload_n 2, 1) := by decide +kernel
theorem dX1_record_36 : decode cX1_record 36 = .ok (.iastore, 1) := by decide +kernel
theorem dX1_record_37 : decode cX1_record 37 = .ok (.aload_n 0, 1) := by decide +kernel
theorem dX1_record_38 : decode cX1_record 38 = .ok (.getfield 18, 3) := by decide +kernel
theorem dX1_record_41 : decode cX1_record 41 = .ok (.aload_n 0, 1) := by decide +kernel
theorem dX1_record_42 : decode cX1_record 42 = .ok (.getfield 25, 3) := by decide +kernel
theorem dX1_record_45 : decode cX1_record 45 = .ok (.iload_n 3, 1) := by decide +kernel
theorem dX1_record_46 : decode cX1_record 46 = .ok (.iastore, 1) := by decide +kernel
theorem dX1_record_47 : decode cX1_record 47 = .ok (.aload_n 0, 1) := by decide +kernel
theorem dX1_record_48 : decode cX1_record 48 = .ok (.aload_n 0, 1) := by decide +kernel
theorem dX1_record_49 : decode cX1_record 49 = .ok (.getfield 25, 3) := by decide +kernel
theorem dX1_record_52 : decode cX1_record 52 = .ok (.iconst 1, 1) := by decide +kernel
theorem dX1_record_53 : decode cX1_record 53 = .ok (.iadd, 1) := by decide +kernel
theorem dX1_record_54 : decode cX1_record 54 = .ok (.bipush 14, 2) := by decide +kernel
theorem dX1_record_56 : decode cX1_record 56 = .ok (.irem, 1) := by decide +kernel
theorem dX1_record_57 : decode cX1_record 57 = .ok (.putfield 25, 3) := by decide +kernel
theorem dX1_record_60 : decode cX1_record 60 = .ok (.aload_n 0, 1) := by decide +kernel
theorem dX1_record_61 : decode cX1_record 61 = .ok (.aload_n 0, 1) := by decide +kernel
theorem dX1_record_62 : decode cX1_record 62 = .ok (.getfield 21, 3) := by decide +kernel
theorem dX1_record_65 : decode cX1_record 65 = .ok (.iconst 1, 1) := by decide +kernel
theorem dX1_record_66 : decode cX1_record 66 = .ok (.iadd, 1) := by decide +kernel
theorem dX1_record_67 : decode cX1_record 67 = .ok (.bipush 14, 2) := by decide +kernel
theorem dX1_record_69 : decode cX1_record 69 = .ok (.invokestatic 28, 3) := by decide +kernel
theorem dX1_record_72 : decode cX1_record 72 = .ok (.putfield 21, 3) := by decide +kernel
theorem dX1_record_75 : decode cX1_record 75 = .ok (.return_, 1) := by decide +kernel
theorem dX1_takeBack_0 : decode cX1_takeBack 0 = .ok (.aload_n 0, 1) := by decide +kernel
theorem dX1_takeBack_1 : decode cX1_takeBack 1 = .ok (.getfield 25, 3) := by decide +kernel
theorem dX1_takeBack_4 : decode cX1_takeBack 4 = .ok (.bipush 14, 2) := by decide +kernel
theorem dX1_takeBack_6 : decode cX1_takeBack 6 = .ok (.iadd, 1) := by decide +kernel
theorem dX1_takeBack_7 : decode cX1_takeBack 7 = .ok (.iconst 1, 1) := by decide +kernel
theorem dX1_takeBack_8 : decode cX1_takeBack 8 = .ok (.isub, 1) := by decide +kernel
theorem dX1_takeBack_9 : decode cX1_takeBack 9 = .ok (.bipush 14, 2) := by decide +kernel
theorem dX1_takeBack_11 : decode cX1_takeBack 11 = .ok (.irem, 1) := by decide +kernel
theorem dX1_takeBack_12 : decode cX1_takeBack 12 = .ok (.istore_n 3, 1) := by decide +kernel
theorem dX1_takeBack_13 : decode cX1_takeBack 13 = .ok (.aload_n 0, 1) := by decide +kernel
theorem dX1_takeBack_14 : decode cX1_takeBack 14 = .ok (.getfield 21, 3) := by decide +kernel
theorem dX1_takeBack_17 : decode cX1_takeBack 17 = .ok (.ifCond .le 7, 3) := by decide +kernel
theorem dX1_takeBack_20 : decode cX1_takeBack 20 = .ok (.iload_n 3, 1) := by decide +kernel
theorem dX1_takeBack_21 : decode cX1_takeBack 21 = .ok (.ifCond .ge 4, 3) := by decide +kernel
theorem dX1_takeBack_24 : decode cX1_takeBack 24 = .ok (.return_, 1) := by decide +kernel
theorem dX1_takeBack_25 : decode cX1_takeBack 25 = .ok (.aload_n 0, 1) := by decide +kernel
theorem dX1_takeBack_26 : decode cX1_takeBack 26 = .ok (.iload_n 3, 1) := by decide +kernel
theorem dX1_takeBack_27 : decode cX1_takeBack 27 = .ok (.putfield 25, 3) := by decide +kernel
theorem dX1_takeBack_30 : decode cX1_takeBack 30 = .ok (.aload_n 0, 1) := by decide +kernel
theorem dX1_takeBack_31 : decode cX1_takeBack 31 = .ok (.dup, 1) := by decide +kernel
theorem dX1_takeBack_32 : decode cX1_takeBack 32 = .ok (.getfield 21, 3) := by decide +kernel
theorem dX1_takeBack_35 : decode cX1_takeBack 35 = .ok (.iconst 1, 1) := by decide +kernel
theorem dX1_takeBack_36 : decode cX1_takeBack 36 = .ok (.isub, 1) := by decide +kernel
theorem dX1_takeBack_37 : decode cX1_takeBack 37 = .ok (.putfield 21, 3) := by decide +kernel
theorem dX1_takeBack_40 : decode cX1_takeBack 40 = .ok (.aload_n 0, 1) := by decide +kernel
theorem dX1_takeBack_41 : decode cX1_takeBack 41 = .ok (.getfield 15, 3) := by decide +kernel
theorem dX1_takeBack_44 : decode cX1_takeBack 44 = .ok (.iload_n 3, 1) := by decide +kernel
theorem dX1_takeBack_45 : decode cX1_takeBack 45 = .ok (.iaload, 1) := by decide +kernel
theorem dX1_takeBack_46 : decode cX1_takeBack 46 = .ok (.istore 4, 2) := by decide +kernel
theorem dX1_takeBack_48 : decode cX1_takeBack 48 = .ok (.aload_n 0, 1) := by decide +kernel
theorem dX1_takeBack_49 : decode cX1_takeBack 49 = .ok (.getfield 18, 3) := by decide +kernel
theorem dX1_takeBack_52 : decode cX1_takeBack 52 = .ok (.iload_n 3, 1) := by decide +kernel
theorem dX1_takeBack_53 : decode cX1_takeBack 53 = .ok (.iaload, 1) := by decide +kernel
theorem dX1_takeBack_54 : decode cX1_takeBack 54 = .ok (.istore 5, 2) := by decide +kernel
theorem dX1_takeBack_56 : decode cX1_takeBack 56 = .ok (.aload_n 0, 1) := by decide +kernel
theorem dX1_takeBack_57 : decode cX1_takeBack 57 = .ok (.getfield 9, 3) := by decide +kernel
theorem dX1_takeBack_60 : decode cX1_takeBack 60 = .ok (.iload_n 3, 1) := by decide +kernel
theorem dX1_takeBack_61 : decode cX1_takeBack 61 = .ok (.iaload, 1) := by decide +kernel
theorem dX1_takeBack_62 : decode cX1_takeBack 62 = .ok (.tableswitch 122 0 4 #[34, 51, 66, 77, 101], 34) := by decide +kernel
theorem dX1_takeBack_96 : decode cX1_takeBack 96 = .ok (.aload_n 2, 1) := by decide +kernel
theorem dX1_takeBack_97 : decode cX1_takeBack 97 = .ok (.iload 4, 2) := by decide +kernel
theorem dX1_takeBack_99 : decode cX1_takeBack 99 = .ok (.iload 5, 2) := by decide +kernel
theorem dX1_takeBack_101 : decode cX1_takeBack 101 = .ok (.aload_n 1, 1) := by decide +kernel
theorem dX1_takeBack_102 : decode cX1_takeBack 102 = .ok (.iload 5, 2) := by decide +kernel
theorem dX1_takeBack_104 : decode cX1_takeBack 104 = .ok (.invokevirtual 34, 3) := by decide +kernel
theorem dX1_takeBack_107 : decode cX1_takeBack 107 = .ok (.invokevirtual 40, 3) := by decide +kernel
theorem dX1_takeBack_110 : decode cX1_takeBack 110 = .ok (.goto 74, 3) := by decide +kernel
theorem dX1_takeBack_113 : decode cX1_takeBack 113 = .ok (.aload_n 2, 1) := by decide +kernel
theorem dX1_takeBack_114 : decode cX1_takeBack 114 = .ok (.iload 4, 2) := by decide +kernel
theorem dX1_takeBack_116 : decode cX1_takeBack 116 = .ok (.aload_n 1, 1) := by decide +kernel
theorem dX1_takeBack_117 : decode cX1_takeBack 117 = .ok (.iload 5, 2) := by decide +kernel
theorem dX1_takeBack_119 : decode cX1_takeBack 119 = .ok (.invokevirtual 34, 3) := by decide +kernel
theorem dX1_takeBack_122 : decode cX1_takeBack 122 = .ok (.invokevirtual 46, 3) := by decide +kernel
theorem dX1_takeBack_125 : decode cX1_takeBack 125 = .ok (.goto 59, 3) := by decide +kernel
theorem dX1_takeBack_128 : decode cX1_takeBack 128 = .ok (.aload_n 2, 1) := by decide +kernel
theorem dX1_takeBack_129 : decode cX1_takeBack 129 = .ok (.aload_n 1, 1) := by decide +kernel
theorem dX1_takeBack_130 : decode cX1_takeBack 130 = .ok (.iload 4, 2) := by decide +kernel
theorem dX1_takeBack_132 : decode cX1_takeBack 132 = .ok (.invokevirtual 50, 3) := by decide +kernel
theorem dX1_takeBack_135 : decode cX1_takeBack 135 = .ok (.pop, 1) := by decide +kernel
theorem dX1_takeBack_136 : decode cX1_takeBack 136 = .ok (.goto 48, 3) := by decide +kernel
theorem dX1_takeBack_139 : decode cX1_takeBack 139 = .ok (.iload 4, 2) := by decide +kernel
theorem dX1_takeBack_141 : decode cX1_takeBack 141 = .ok (.ifCond .lt 43, 3) := by decide +kernel
theorem dX1_takeBack_144 : decode cX1_takeBack 144 = .ok (.iload 4, 2) := by decide +kernel
theorem dX1_takeBack_146 : decode cX1_takeBack 146 = .ok (.bipush 9, 2) := by decide +kernel
theorem dX1_takeBack_148 : decode cX1_takeBack 148 = .ok (.if_icmp .ge 36, 3) := by decide +kernel
theorem dX1_takeBack_151 : decode cX1_takeBack 151 = .ok (.aload_n 2, 1) := by decide +kernel
theorem dX1_takeBack_152 : decode cX1_takeBack 152 = .ok (.getfield 54, 3) := by decide +kernel
theorem dX1_takeBack_155 : decode cX1_takeBack 155 = .ok (.iload 4, 2) := by decide +kernel
theorem dX1_takeBack_157 : decode cX1_takeBack 157 = .ok (.iload 5, 2) := by decide +kernel
theorem dX1_takeBack_159 : decode cX1_takeBack 159 = .ok (.iastore, 1) := by decide +kernel
theorem dX1_takeBack_160 : decode cX1_takeBack 160 = .ok (.goto 24, 3) := by decide +kernel
theorem dX1_takeBack_163 : decode cX1_takeBack 163 = .ok (.aload_n 1, 1) := by decide +kernel
theorem dX1_takeBack_164 : decode cX1_takeBack 164 = .ok (.iload 4, 2) := by decide +kernel
theorem dX1_takeBack_166 : decode cX1_takeBack 166 = .ok (.invokevirtual 57, 3) := by decide +kernel
theorem dX1_takeBack_169 : decode cX1_takeBack 169 = .ok (.ifCond .eq 15, 3) := by decide +kernel
theorem dX1_takeBack_172 : decode cX1_takeBack 172 = .ok (.aload_n 2, 1) := by decide +kernel
theorem dX1_takeBack_173 : decode cX1_takeBack 173 = .ok (.getfield 61, 3) := by decide +kernel
theorem dX1_takeBack_176 : decode cX1_takeBack 176 = .ok (.iload 4, 2) := by decide +kernel
theorem dX1_takeBack_178 : decode cX1_takeBack 178 = .ok (.iload 5, 2) := by decide +kernel
theorem dX1_takeBack_180 : decode cX1_takeBack 180 = .ok (.iastore, 1) := by decide +kernel
theorem dX1_takeBack_181 : decode cX1_takeBack 181 = .ok (.goto 3, 3) := by decide +kernel
theorem dX1_takeBack_184 : decode cX1_takeBack 184 = .ok (.return_, 1) := by decide +kernel
theorem dX2_init_0 : decode cX2_init 0 = .ok (.aload_n 0, 1) := by decide +kernel
theorem dX2_init_1 : decode cX2_init 1 = .ok (.invokespecial 3, 3) := by decide +kernel
theorem dX2_init_4 : decode cX2_init 4 = .ok (.aload_n 0, 1) := by decide +kernel
theorem dX2_init_5 : decode cX2_init 5 = .ok (.bipush 7, 2) := by decide +kernel
theorem dX2_init_7 : decode cX2_init 7 = .ok (.newarray .int, 2) := by decide +kernel
theorem dX2_init_9 : decode cX2_init 9 = .ok (.putfield 9, 3) := by decide +kernel
theorem dX2_init_12 : decode cX2_init 12 = .ok (.aload_n 0, 1) := by decide +kernel
theorem dX2_init_13 : decode cX2_init 13 = .ok (.bipush 40, 2) := by decide +kernel
theorem dX2_init_15 : decode cX2_init 15 = .ok (.newarray .int, 2) := by decide +kernel
theorem dX2_init_17 : decode cX2_init 17 = .ok (.putfield 15, 3) := by decide +kernel
theorem dX2_init_20 : decode cX2_init 20 = .ok (.aload_n 0, 1) := by decide +kernel
theorem dX2_init_21 : decode cX2_init 21 = .ok (.bipush 8, 2) := by decide +kernel
theorem dX2_init_23 : decode cX2_init 23 = .ok (.newarray .int, 2) := by decide +kernel
theorem dX2_init_25 : decode cX2_init 25 = .ok (.putfield 18, 3) := by decide +kernel
theorem dX2_init_28 : decode cX2_init 28 = .ok (.aload_n 0, 1) := by decide +kernel
theorem dX2_init_29 : decode cX2_init 29 = .ok (.bipush 8, 2) := by decide +kernel
theorem dX2_init_31 : decode cX2_init 31 = .ok (.newarray .int, 2) := by decide +kernel
theorem dX2_init_33 : decode cX2_init 33 = .ok (.putfield 21, 3) := by decide +kernel
theorem dX2_init_36 : decode cX2_init 36 = .ok (.aload_n 0, 1) := by decide +kernel
theorem dX2_init_37 : decode cX2_init 37 = .ok (.bipush 8, 2) := by decide +kernel
theorem dX2_init_39 : decode cX2_init 39 = .ok (.newarray .int, 2) := by decide +kernel
theorem dX2_init_41 : decode cX2_init 41 = .ok (.putfield 24, 3) := by decide +kernel
theorem dX2_init_44 : decode cX2_init 44 = .ok (.aload_n 0, 1) := by decide +kernel
theorem dX2_init_45 : decode cX2_init 45 = .ok (.bipush 8, 2) := by decide +kernel
theorem dX2_init_47 : decode cX2_init 47 = .ok (.newarray .int, 2) := by decide +kernel
theorem dX2_init_49 : decode cX2_init 49 = .ok (.putfield 27, 3) := by decide +kernel
theorem dX2_init_52 : decode cX2_init 52 = .ok (.aload_n 0, 1) := by decide +kernel
theorem dX2_init_53 : decode cX2_init 53 = .ok (.iconst 0, 1) := by decide +kernel
theorem dX2_init_54 : decode cX2_init 54 = .ok (.putfield 30, 3) := by decide +kernel
theorem dX2_init_57 : decode cX2_init 57 = .ok (.aload_n 0, 1) := by decide +kernel
theorem dX2_init_58 : decode cX2_init 58 = .ok (.getfield 9, 3) := by decide +kernel
theorem dX2_init_61 : decode cX2_init 61 = .ok (.iconst 1, 1) := by decide +kernel
theorem dX2_init_62 : decode cX2_init 62 = .ok (.invokestatic 34, 3) := by decide +kernel
theorem dX2_init_65 : decode cX2_init 65 = .ok (.return_, 1) := by decide +kernel
theorem dX2_copyFrom_0 : decode cX2_copyFrom 0 = .ok (.aload_n 1, 1) := by decide +kernel
theorem dX2_copyFrom_1 : decode cX2_copyFrom 1 = .ok (.getfield 9, 3) := by decide +kernel
theorem dX2_copyFrom_4 : decode cX2_copyFrom 4 = .ok (.iconst 0, 1) := by decide +kernel
theorem dX2_copyFrom_5 : decode cX2_copyFrom 5 = .ok (.aload_n 0, 1) := by decide +kernel
theorem dX2_copyFrom_6 : decode cX2_copyFrom 6 = .ok (.getfield 9, 3) := by decide +kernel
theorem dX2_copyFrom_9 : decode cX2_copyFrom 9 = .ok (.iconst 0, 1) := by decide +kernel
theorem dX2_copyFrom_10 : decode cX2_copyFrom 10 = .ok (.bipush 7, 2) := by decide +kernel
theorem dX2_copyFrom_12 : decode cX2_copyFrom 12 = .ok (.invokestatic 40, 3) := by decide +kernel
theorem dX2_copyFrom_15 : decode cX2_copyFrom 15 = .ok (.aload_n 1, 1) := by decide +kernel
theorem dX2_copyFrom_16 : decode cX2_copyFrom 16 = .ok (.getfield 15, 3) := by decide +kernel
theorem dX2_copyFrom_19 : decode cX2_copyFrom 19 = .ok (.iconst 0, 1) := by decide +kernel
theorem dX2_copyFrom_20 : decode cX2_copyFrom 20 = .ok (.aload_n 0, 1) := by decide +kernel
theorem dX2_copyFrom_21 : decode cX2_copyFrom 21 = .ok (.getfield 15, 3) := by decide +kernel
theorem dX2_copyFrom_24 : decode cX2_copyFrom 24 = .ok (.iconst 0, 1) := by decide +kernel
theorem dX2_copyFrom_25 : decode cX2_copyFrom 25 = .ok (.bipush 40, 2) := by decide +kernel
theorem dX2_copyFrom_27 : decode cX2_copyFrom 27 = .ok (.invokestatic 40, 3) := by decide +kernel
theorem dX2_copyFrom_30 : decode cX2_copyFrom 30 = .ok (.aload_n 1, 1) := by decide +kernel
theorem dX2_copyFrom_31 : decode cX2_copyFrom 31 = .ok (.getfield 18, 3) := by decide +kernel
theorem dX2_copyFrom_34 : decode cX2_copyFrom 34 = .ok (.iconst 0, 1) := by decide +kernel
theorem dX2_copyFrom_35 : decode cX2_copyFrom 35 = .ok (.aload_n 0, 1) := by decide +kernel
theorem dX2_copyFrom_36 : decode cX2_copyFrom 36 = .ok (.getfield 18, 3) := by decide +kernel
theorem dX2_copyFrom_39 : decode cX2_copyFrom 39 = .ok (.iconst 0, 1) := by decide +kernel
theorem dX2_copyFrom_40 : decode cX2_copyFrom 40 = .ok (.bipush 8, 2) := by decide +kernel
theorem dX2_copyFrom_42 : decode cX2_copyFrom 42 = .ok (.invokestatic 40, 3) := by decide +kernel
theorem dX2_copyFrom_45 : decode cX2_copyFrom 45 = .ok (.aload_n 1, 1) := by decide +kernel
theorem dX2_copyFrom_46 : decode cX2_copyFrom 46 = .ok (.getfield 21, 3) := by decide +kernel
theorem dX2_copyFrom_49 : decode cX2_copyFrom 49 = .ok (.iconst 0, 1) := by decide +kernel
theorem dX2_copyFrom_50 : decode cX2_copyFrom 50 = .ok (.aload_n 0, 1) := by decide +kernel
theorem dX2_copyFrom_51 : decode cX2_copyFrom 51 = .ok (.getfield 21, 3) := by decide +kernel
theorem dX2_copyFrom_54 : decode cX2_copyFrom 54 = .ok (.iconst 0, 1) := by decide +kernel
theorem dX2_copyFrom_55 : decode cX2_copyFrom 55 = .ok (.bipush 8, 2) := by decide +kernel
theorem dX2_copyFrom_57 : decode cX2_copyFrom 57 = .ok (.invokestatic 40, 3) := by decide +kernel
theorem dX2_copyFrom_60 : decode cX2_copyFrom 60 = .ok (.aload_n 1, 1) := by decide +kernel
theorem dX2_copyFrom_61 : decode cX2_copyFrom 61 = .ok (.getfield 24, 3) := by decide +kernel
theorem dX2_copyFrom_64 : decode cX2_copyFrom 64 = .ok (.iconst 0, 1) := by decide +kernel
theorem dX2_copyFrom_65 : decode cX2_copyFrom 65 = .ok (.aload_n 0, 1) := by decide +kernel
theorem dX2_copyFrom_66 : decode cX2_copyFrom 66 = .ok (.getfield 24, 3) := by decide +kernel
theorem dX2_copyFrom_69 : decode cX2_copyFrom 69 = .ok (.iconst 0, 1) := by decide +kernel
theorem dX2_copyFrom_70 : decode cX2_copyFrom 70 = .ok (.bipush 8, 2) := by decide +kernel
theorem dX2_copyFrom_72 : decode cX2_copyFrom 72 = .ok (.invokestatic 40, 3) := by decide +kernel
theorem dX2_copyFrom_75 : decode cX2_copyFrom 75 = .ok (.aload_n 1, 1) := by decide +kernel
theorem dX2_copyFrom_76 : decode cX2_copyFrom 76 = .ok (.getfield 27, 3) := by decide +kernel
theorem dX2_copyFrom_79 : decode cX2_copyFrom 79 = .ok (.iconst 0, 1) := by decide +kernel
theorem dX2_copyFrom_80 : decode cX2_copyFrom 80 = .ok (.aload_n 0, 1) := by decide +kernel
theorem dX2_copyFrom_81 : decode cX2_copyFrom 81 = .ok (.getfield 27, 3) := by decide +kernel
theorem dX2_copyFrom_84 : decode cX2_copyFrom 84 = .ok (.iconst 0, 1) := by decide +kernel
theorem dX2_copyFrom_85 : decode cX2_copyFrom 85 = .ok (.bipush 8, 2) := by decide +kernel
theorem dX2_copyFrom_87 : decode cX2_copyFrom 87 = .ok (.invokestatic 40, 3) := by decide +kernel
theorem dX2_copyFrom_90 : decode cX2_copyFrom 90 = .ok (.aload_n 0, 1) := by decide +kernel
theorem dX2_copyFrom_91 : decode cX2_copyFrom 91 = .ok (.aload_n 1, 1) := by decide +kernel
theorem dX2_copyFrom_92 : decode cX2_copyFrom 92 = .ok (.getfield 30, 3) := by decide +kernel
theorem dX2_copyFrom_95 : decode cX2_copyFrom 95 = .ok (.putfield 30, 3) := by decide +kernel
theorem dX2_copyFrom_98 : decode cX2_copyFrom 98 = .ok (.return_, 1) := by decide +kernel
theorem dX2_hasWord_0 : decode cX2_hasWord 0 = .ok (.iload_n 1, 1) := by decide +kernel
theorem dX2_hasWord_1 : decode cX2_hasWord 1 = .ok (.ifCond .lt 15, 3) := by decide +kernel
theorem dX2_hasWord_4 : decode cX2_hasWord 4 = .ok (.iload_n 1, 1) := by decide +kernel
theorem dX2_hasWord_5 : decode cX2_hasWord 5 = .ok (.aload_n 0, 1) := by decide +kernel
theorem dX2_hasWord_6 : decode cX2_hasWord 6 = .ok (.getfield 30, 3) := by decide +kernel
theorem dX2_hasWord_9 : decode cX2_hasWord 9 = .ok (.if_icmp .ge 7, 3) := by decide +kernel
theorem dX2_hasWord_12 : decode cX2_hasWord 12 = .ok (.iconst 1, 1) := by decide +kernel
theorem dX2_hasWord_13 : decode cX2_hasWord 13 = .ok (.goto 4, 3) := by decide +kernel
theorem dX2_hasWord_16 : decode cX2_hasWord 16 = .ok (.iconst 0, 1) := by decide +kernel
theorem dX2_hasWord_17 : decode cX2_hasWord 17 = .ok (.ireturn, 1) := by decide +kernel
theorem dX2_widthOf_0 : decode cX2_widthOf 0 = .ok (.iload_n 1, 1) := by decide +kernel
theorem dX2_widthOf_1 : decode cX2_widthOf 1 = .ok (.ifCond .lt 18, 3) := by decide +kernel
theorem dX2_widthOf_4 : decode cX2_widthOf 4 = .ok (.iload_n 1, 1) := by decide +kernel
theorem dX2_widthOf_5 : decode cX2_widthOf 5 = .ok (.bipush 7, 2) := by decide +kernel
theorem dX2_widthOf_7 : decode cX2_widthOf 7 = .ok (.if_icmp .ge 12, 3) := by decide +kernel
theorem dX2_widthOf_10 : decode cX2_widthOf 10 = .ok (.aload_n 0, 1) := by decide +kernel
theorem dX2_widthOf_11 : decode cX2_widthOf 11 = .ok (.getfield 9, 3) := by decide +kernel
theorem dX2_widthOf_14 : decode cX2_widthOf 14 = .ok (.iload_n 1, 1) := by decide +kernel
theorem dX2_widthOf_15 : decode cX2_widthOf 15 = .ok (.iaload, 1) := by decide +kernel
theorem dX2_widthOf_16 : decode cX2_widthOf 16 = .ok (.goto 4, 3) := by decide +kernel
theorem dX2_widthOf_19 : decode cX2_widthOf 19 = .ok (.iconst 1, 1) := by decide +kernel
theorem dX2_widthOf_20 : decode cX2_widthOf 20 = .ok (.ireturn, 1) := by decide +kernel
theorem dX2_letterOf_0 : decode cX2_letterOf 0 = .ok (.iload_n 1, 1) := by decide +kernel
theorem dX2_letterOf_1 : decode cX2_letterOf 1 = .ok (.ifCond .lt 24, 3) := by decide +kernel
theorem dX2_letterOf_4 : decode cX2_letterOf 4 = .ok (.iload_n 1, 1) := by decide +kernel
theorem dX2_letterOf_5 : decode cX2_letterOf 5 = .ok (.aload_n 0, 1) := by decide +kernel
theorem dX2_letterOf_6 : decode cX2_letterOf 6 = .ok (.getfield 30, 3) := by decide +kernel
theorem dX2_letterOf_9 : decode cX2_letterOf 9 = .ok (.if_icmp .ge 16, 3) := by decide +kernel
theorem dX2_letterOf_12 : decode cX2_letterOf 12 = .ok (.iload_n 2, 1) := by decide +kernel
theorem dX2_letterOf_13 : decode cX2_letterOf 13 = .ok (.ifCond .lt 12, 3) := by decide +kernel
theorem dX2_letterOf_16 : decode cX2_letterOf 16 = .ok (.iload_n 2, 1) := by decide +kernel
theorem dX2_letterOf_17 : decode cX2_letterOf 17 = .ok (.iconst 5, 1) := by decide +kernel
theorem dX2_letterOf_18 : decode cX2_letterOf 18 = .ok (.if_icmp .ge 7, 3) := by decide +kernel
theorem dX2_letterOf_21 : decode cX2_letterOf 21 = .ok (.iconst 1, 1) := by decide +kernel
theorem dX2_letterOf_22 : decode cX2_letterOf 22 = .ok (.goto 4, 3) := by decide +kernel
theorem dX2_letterOf_25 : decode cX2_letterOf 25 = .ok (.iconst 0, 1) := by decide +kernel
theorem dX2_letterOf_26 : decode cX2_letterOf 26 = .ok (.istore_n 3, 1) := by decide +kernel
theorem dX2_letterOf_27 : decode cX2_letterOf 27 = .ok (.iload_n 3, 1) := by decide +kernel
theorem dX2_letterOf_28 : decode cX2_letterOf 28 = .ok (.ifCond .eq 16, 3) := by decide +kernel
theorem dX2_letterOf_31 : decode cX2_letterOf 31 = .ok (.aload_n 0, 1) := by decide +kernel
theorem dX2_letterOf_32 : decode cX2_letterOf 32 = .ok (.getfield 15, 3) := by decide +kernel
theorem dX2_letterOf_35 : decode cX2_letterOf 35 = .ok (.iload_n 1, 1) := by decide +kernel
theorem dX2_letterOf_36 : decode cX2_letterOf 36 = .ok (.iconst 5, 1) := by decide +kernel
theorem dX2_letterOf_37 : decode cX2_letterOf 37 = .ok (.imul, 1) := by decide +kernel
theorem dX2_letterOf_38 : decode cX2_letterOf 38 = .ok (.iload_n 2, 1) := by decide +kernel
theorem dX2_letterOf_39 : decode cX2_letterOf 39 = .ok (.iadd, 1) := by decide +kernel
theorem dX2_letterOf_40 : decode cX2_letterOf 40 = .ok (.iaload, 1) := by decide +kernel
theorem dX2_letterOf_41 : decode cX2_letterOf 41 = .ok (.goto 5, 3) := by decide +kernel
theorem dX2_letterOf_44 : decode cX2_letterOf 44 = .ok (.bipush (-9), 2) := by decide +kernel
theorem dX2_letterOf_46 : decode cX2_letterOf 46 = .ok (.ireturn, 1) := by decide +kernel
theorem dX2_signBehind_0 : decode cX2_signBehind 0 = .ok (.aload_n 0, 1) := by decide +kernel
theorem dX2_signBehind_1 : decode cX2_signBehind 1 = .ok (.iload_n 1, 1) := by decide +kernel
theorem dX2_signBehind_2 : decode cX2_signBehind 2 = .ok (.invokevirtual 46, 3) := by decide +kernel
theorem dX2_signBehind_5 : decode cX2_signBehind 5 = .ok (.ifCond .ne 6, 3) := by decide +kernel
theorem dX2_signBehind_8 : decode cX2_signBehind 8 = .ok (.bipush (-9), 2) := by decide +kernel
theorem dX2_signBehind_10 : decode cX2_signBehind 10 = .ok (.ireturn, 1) := by decide +kernel
theorem dX2_signBehind_11 : decode cX2_signBehind 11 = .ok (.iconst 0, 1) := by decide +kernel
theorem dX2_signBehind_12 : decode cX2_signBehind 12 = .ok (.istore_n 3, 1) := by decide +kernel
theorem dX2_signBehind_13 : decode cX2_signBehind 13 = .ok (.iconst 0, 1) := by decide +kernel
theorem dX2_signBehind_14 : decode cX2_signBehind 14 = .ok (.istore 4, 2) := by decide +kernel
theorem dX2_signBehind_16 : decode cX2_signBehind 16 = .ok (.iload 4, 2) := by decide +kernel
theorem dX2_signBehind_18 : decode cX2_signBehind 18 = .ok (.aload_n 0, 1) := by decide +kernel
theorem dX2_signBehind_19 : decode cX2_signBehind 19 = .ok (.getfield 18, 3) := by decide +kernel
theorem dX2_signBehind_22 : decode cX2_signBehind 22 = .ok (.iload_n 1, 1) := by decide +kernel
theorem dX2_signBehind_23 : decode cX2_signBehind 23 = .ok (.iaload, 1) := by decide +kernel
theorem dX2_signBehind_24 : decode cX2_signBehind 24 = .ok (.if_icmp .ge 35, 3) := by decide +kernel
theorem dX2_signBehind_27 : decode cX2_signBehind 27 = .ok (.aload_n 0, 1) := by decide +kernel
theorem dX2_signBehind_28 : decode cX2_signBehind 28 = .ok (.iload_n 1, 1) := by decide +kernel
theorem dX2_signBehind_29 : decode cX2_signBehind 29 = .ok (.iload 4, 2) := by decide +kernel
theorem dX2_signBehind_31 : decode cX2_signBehind 31 = .ok (.invokevirtual 50, 3) := by decide +kernel
theorem dX2_signBehind_34 : decode cX2_signBehind 34 = .ok (.istore 5, 2) := by decide +kernel
theorem dX2_signBehind_36 : decode cX2_signBehind 36 = .ok (.iload_n 3, 1) := by decide +kernel
theorem dX2_signBehind_37 : decode cX2_signBehind 37 = .ok (.iload_n 2, 1) := by decide +kernel
theorem dX2_signBehind_38 : decode cX2_signBehind 38 = .ok (.if_icmp .ne 6, 3) := by decide +kernel
theorem dX2_signBehind_41 : decode cX2_signBehind 41 = .ok (.iload 5, 2) := by decide +kernel
theorem dX2_signBehind_43 : decode cX2_signBehind 43 = .ok (.ireturn, 1) := by decide +kernel
theorem dX2_signBehind_44 : decode cX2_signBehind 44 = .ok (.iload_n 3, 1) := by decide +kernel
theorem dX2_signBehind_45 : decode cX2_signBehind 45 = .ok (.aload_n 0, 1) := by decide +kernel
theorem dX2_signBehind_46 : decode cX2_signBehind 46 = .ok (.iload 5, 2) := by decide +kernel
theorem dX2_signBehind_48 : decode cX2_signBehind 48 = .ok (.invokevirtual 54, 3) := by decide +kernel
theorem dX2_signBehind_51 : decode cX2_signBehind 51 = .ok (.iadd, 1) := by decide +kernel
theorem dX2_signBehind_52 : decode cX2_signBehind 52 = .ok (.istore_n 3, 1) := by decide +kernel
theorem dX2_signBehind_53 : decode cX2_signBehind 53 = .ok (.iinc 4 1, 3) := by decide +kernel
theorem dX2_signBehind_56 : decode cX2_signBehind 56 = .ok (.goto (-40), 3) := by decide +kernel
theorem dX2_signBehind_59 : decode cX2_signBehind 59 = .ok (.iload_n 3, 1) := by decide +kernel
theorem dX2_signBehind_60 : decode cX2_signBehind 60 = .ok (.iload_n 2, 1) := by decide +kernel
theorem dX2_signBehind_61 : decode cX2_signBehind 61 = .ok (.if_icmp .ne 8, 3) := by decide +kernel
theorem dX2_signBehind_64 : decode cX2_signBehind 64 = .ok (.bipush 6, 2) := by decide +kernel
theorem dX2_signBehind_66 : decode cX2_signBehind 66 = .ok (.goto 5, 3) := by decide +kernel
theorem dX2_signBehind_69 : decode cX2_signBehind 69 = .ok (.bipush (-9), 2) := by decide +kernel
theorem dX2_signBehind_71 : decode cX2_signBehind 71 = .ok (.ireturn, 1) := by decide +kernel
theorem dX3_init_0 : decode cX3_init 0 = .ok (.aload_n 0, 1) := by decide +kernel
theorem dX3_init_1 : decode cX3_init 1 = .ok (.invokespecial 3, 3) := by decide +kernel
theorem dX3_init_4 : decode cX3_init 4 = .ok (.aload_n 0, 1) := by decide +kernel
theorem dX3_init_5 : decode cX3_init 5 = .ok (.iconst 0, 1) := by decide +kernel
theorem dX3_init_6 : decode cX3_init 6 = .ok (.newarray .long, 2) := by decide +kernel
theorem dX3_init_8 : decode cX3_init 8 = .ok (.putfield 9, 3) := by decide +kernel
theorem dX3_init_11 : decode cX3_init 11 = .ok (.aload_n 0, 1) := by decide +kernel
theorem dX3_init_12 : decode cX3_init 12 = .ok (.bipush 8, 2) := by decide +kernel
theorem dX3_init_14 : decode cX3_init 14 = .ok (.newarray .int, 2) := by decide +kernel
theorem dX3_init_16 : decode cX3_init 16 = .ok (.putfield 15, 3) := by decide +kernel
theorem dX3_init_19 : decode cX3_init 19 = .ok (.aload_n 0, 1) := by decide +kernel
theorem dX3_init_20 : decode cX3_init 20 = .ok (.bipush 8, 2) := by decide +kernel
theorem dX3_init_22 : decode cX3_init 22 = .ok (.newarray .int, 2) := by decide +kernel
theorem dX3_init_24 : decode cX3_init 24 = .ok (.putfield 19, 3) := by decide +kernel
theorem dX3_init_27 : decode cX3_init 27 = .ok (.aload_n 0, 1) := by decide +kernel
theorem dX3_init_28 : decode cX3_init 28 = .ok (.iconst 0, 1) := by decide +kernel
theorem dX3_init_29 : decode cX3_init 29 = .ok (.putfield 22, 3) := by decide +kernel
theorem dX3_init_32 : decode cX3_init 32 = .ok (.aload_n 0, 1) := by decide +kernel
theorem dX3_init_33 : decode cX3_init 33 = .ok (.iconst 0, 1) := by decide +kernel
theorem dX3_init_34 : decode cX3_init 34 = .ok (.putfield 26, 3) := by decide +kernel
theorem dX3_init_37 : decode cX3_init 37 = .ok (.return_, 1) := by decide +kernel
theorem dX3_build_0 : decode cX3_build 0 = .ok (.aload_n 0, 1) := by decide +kernel
theorem dX3_build_1 : decode cX3_build 1 = .ok (.getfield 9, 3) := by decide +kernel
theorem dX3_build_4 : decode cX3_build 4 = .ok (.arraylength, 1) := by decide +kernel
theorem dX3_build_5 : decode cX3_build 5 = .ok (.ifCond .ne 12, 3) := by decide +kernel
theorem dX3_build_8 : decode cX3_build 8 = .ok (.aload_n 0, 1) := by decide +kernel
theorem dX3_build_9 : decode cX3_build 9 = .ok (.sipush 14016, 3) := by decide +kernel
theorem dX3_build_12 : decode cX3_build 12 = .ok (.newarray .long, 2) := by decide +kernel
theorem dX3_build_14 : decode cX3_build 14 = .ok (.putfield 9, 3) := by decide +kernel
theorem dX3_build_17 : decode cX3_build 17 = .ok (.aload_n 2, 1) := by decide +kernel
theorem dX3_build_18 : decode cX3_build 18 = .ok (.iconst 0, 1) := by decide +kernel
theorem dX3_build_19 : decode cX3_build 19 = .ok (.aload_n 0, 1) := by decide +kernel
theorem dX3_build_20 : decode cX3_build 20 = .ok (.getfield 15, 3) := by decide +kernel
theorem dX3_build_23 : decode cX3_build 23 = .ok (.iconst 0, 1) := by decide +kernel
theorem dX3_build_24 : decode cX3_build 24 = .ok (.bipush 8, 2) := by decide +kernel
theorem dX3_build_26 : decode cX3_build 26 = .ok (.invokestatic 29, 3) := by decide +kernel
theorem dX3_build_29 : decode cX3_build 29 = .ok (.aload_n 1, 1) := by decide +kernel
theorem dX3_build_30 : decode cX3_build 30 = .ok (.getfield 35, 3) := by decide +kernel
theorem dX3_build_33 : decode cX3_build 33 = .ok (.iconst 1, 1) := by decide +kernel
theorem dX3_build_34 : decode cX3_build 34 = .ok (.isub, 1) := by decide +kernel
theorem dX3_build_35 : decode cX3_build 35 = .ok (.istore_n 3, 1) := by decide +kernel
theorem dX3_build_36 : decode cX3_build 36 = .ok (.iload_n 3, 1) := by decide +kernel
theorem dX3_build_37 : decode cX3_build 37 = .ok (.ifCond .lt 45, 3) := by decide +kernel
theorem dX3_build_40 : decode cX3_build 40 = .ok (.iconst 0, 1) := by decide +kernel
theorem dX3_build_41 : decode cX3_build 41 = .ok (.istore 4, 2) := by decide +kernel
theorem dX3_build_43 : decode cX3_build 43 = .ok (.iload 4, 2) := by decide +kernel
theorem dX3_build_45 : decode cX3_build 45 = .ok (.aload_n 1, 1) := by decide +kernel
theorem dX3_build_46 : decode cX3_build 46 = .ok (.getfield 40, 3) := by decide +kernel
theorem dX3_build_49 : decode cX3_build 49 = .ok (.if_icmp .ge 27, 3) := by decide +kernel
theorem dX3_build_52 : decode cX3_build 52 = .ok (.aload_n 1, 1) := by decide +kernel
theorem dX3_build_53 : decode cX3_build 53 = .ok (.iload_n 3, 1) := by decide +kernel
theorem dX3_build_54 : decode cX3_build 54 = .ok (.iload 4, 2) := by decide +kernel
theorem dX3_build_56 : decode cX3_build 56 = .ok (.invokevirtual 43, 3) := by decide +kernel
theorem dX3_build_59 : decode cX3_build 59 = .ok (.ifCond .eq 11, 3) := by decide +kernel
theorem dX3_build_62 : decode cX3_build 62 = .ok (.aload_n 0, 1) := by decide +kernel
theorem dX3_build_63 : decode cX3_build 63 = .ok (.aload_n 1, 1) := by decide +kernel
theorem dX3_build_64 : decode cX3_build 64 = .ok (.iload_n 3, 1) := by decide +kernel
theorem dX3_build_65 : decode cX3_build 65 = .ok (.iload 4, 2) := by decide +kernel
theorem dX3_build_67 : decode cX3_build 67 = .ok (.invokevirtual 47, 3) := by decide +kernel
theorem dX3_build_70 : decode cX3_build 70 = .ok (.iinc 4 1, 3) := by decide +kernel
theorem dX3_build_73 : decode cX3_build 73 = .ok (.goto (-30), 3) := by decide +kernel
theorem dX3_build_76 : decode cX3_build 76 = .ok (.iinc 3 (-1), 3) := by decide +kernel
theorem dX3_build_79 : decode cX3_build 79 = .ok (.goto (-43), 3) := by decide +kernel
theorem dX3_build_82 : decode cX3_build 82 = .ok (.return_, 1) := by decide +kernel
theorem dX3_fillRow_0 : decode cX3_fillRow 0 = .ok (.iload_n 2, 1) := by decide +kernel
theorem dX3_fillRow_1 : decode cX3_fillRow 1 = .ok (.iload_n 3, 1) := by decide +kernel
theorem dX3_fillRow_2 : decode cX3_fillRow 2 = .ok (.invokestatic 51, 3) := by decide +kernel
theorem dX3_fillRow_5 : decode cX3_fillRow 5 = .ok (.istore 4, 2) := by decide +kernel
theorem dX3_fillRow_7 : decode cX3_fillRow 7 = .ok (.aload_n 0, 1) := by decide +kernel
theorem dX3_fillRow_8 : decode cX3_fillRow 8 = .ok (.getfield 15, 3) := by decide +kernel
theorem dX3_fillRow_11 : decode cX3_fillRow 11 = .ok (.iload_n 3, 1) := by decide +kernel
theorem dX3_fillRow_12 : decode cX3_fillRow 12 = .ok (.iaload, 1) := by decide +kernel
theorem dX3_fillRow_13 : decode cX3_fillRow 13 = .ok (.istore 5, 2) := by decide +kernel
theorem dX3_fillRow_15 : decode cX3_fillRow 15 = .ok (.iconst 0, 1) := by decide +kernel
theorem dX3_fillRow_16 : decode cX3_fillRow 16 = .ok (.istore 6, 2) := by decide +kernel
theorem dX3_fillRow_18 : decode cX3_fillRow 18 = .ok (.iload 6, 2) := by decide +kernel
theorem dX3_fillRow_20 : decode cX3_fillRow 20 = .ok (.bipush 73, 2) := by decide +kernel
theorem dX3_fillRow_22 : decode cX3_fillRow 22 = .ok (.if_icmp .ge 20, 3) := by decide +kernel
theorem dX3_fillRow_25 : decode cX3_fillRow 25 = .ok (.aload_n 0, 1) := by decide +kernel
theorem dX3_fillRow_26 : decode cX3_fillRow 26 = .ok (.getfield 9, 3) := by decide +kernel
theorem dX3_fillRow_29 : decode cX3_fillRow 29 = .ok (.iload 4, 2) := by decide +kernel
theorem dX3_fillRow_31 : decode cX3_fillRow 31 = .ok (.iload 6, 2) := by decide +kernel
theorem dX3_fillRow_33 : decode cX3_fillRow 33 = .ok (.iadd, 1) := by decide +kernel
theorem dX3_fillRow_34 : decode cX3_fillRow 34 = .ok (.lconst 0, 1) := by decide +kernel
theorem dX3_fillRow_35 : decode cX3_fillRow 35 = .ok (.lastore, 1) := by decide +kernel
theorem dX3_fillRow_36 : decode cX3_fillRow 36 = .ok (.iinc 6 1, 3) := by decide +kernel
theorem dX3_fillRow_39 : decode cX3_fillRow 39 = .ok (.goto (-21), 3) := by decide +kernel
theorem dX3_fillRow_42 : decode cX3_fillRow 42 = .ok (.aload_n 1, 1) := by decide +kernel
theorem dX3_fillRow_43 : decode cX3_fillRow 43 = .ok (.iload_n 2, 1) := by decide +kernel
theorem dX3_fillRow_44 : decode cX3_fillRow 44 = .ok (.iload_n 3, 1) := by decide +kernel
theorem dX3_fillRow_45 : decode cX3_fillRow 45 = .ok (.invokevirtual 55, 3) := by decide +kernel
theorem dX3_fillRow_48 : decode cX3_fillRow 48 = .ok (.istore 6, 2) := by decide +kernel
theorem dX3_fillRow_50 : decode cX3_fillRow 50 = .ok (.iload 6, 2) := by decide +kernel
theorem dX3_fillRow_52 : decode cX3_fillRow 52 = .ok (.aload_n 1, 1) := by decide +kernel
theorem dX3_fillRow_53 : decode cX3_fillRow 53 = .ok (.getfield 35, 3) := by decide +kernel
theorem dX3_fillRow_56 : decode cX3_fillRow 56 = .ok (.if_icmp .le 15, 3) := by decide +kernel
theorem dX3_fillRow_59 : decode cX3_fillRow 59 = .ok (.aload_n 0, 1) := by decide +kernel
theorem dX3_fillRow_60 : decode cX3_fillRow 60 = .ok (.getfield 9, 3) := by decide +kernel
theorem dX3_fillRow_63 : decode cX3_fillRow 63 = .ok (.iload 4, 2) := by decide +kernel
theorem dX3_fillRow_65 : decode cX3_fillRow 65 = .ok (.iload 5, 2) := by decide +kernel
theorem dX3_fillRow_67 : decode cX3_fillRow 67 = .ok (.iadd, 1) := by decide +kernel
theorem dX3_fillRow_68 : decode cX3_fillRow 68 = .ok (.lconst 1, 1) := by decide +kernel
theorem dX3_fillRow_69 : decode cX3_fillRow 69 = .ok (.lastore, 1) := by decide +kernel
theorem dX3_fillRow_70 : decode cX3_fillRow 70 = .ok (.return_, 1) := by decide +kernel
theorem dX3_fillRow_71 : decode cX3_fillRow 71 = .ok (.aload_n 1, 1) := by decide +kernel
theorem dX3_fillRow_72 : decode cX3_fillRow 72 = .ok (.iload 6, 2) := by decide +kernel
theorem dX3_fillRow_74 : decode cX3_fillRow 74 = .ok (.invokestatic 58, 3) := by decide +kernel
theorem dX3_fillRow_77 : decode cX3_fillRow 77 = .ok (.bipush 72, 2) := by decide +kernel
theorem dX3_fillRow_79 : decode cX3_fillRow 79 = .ok (.iload 5, 2) := by decide +kernel
theorem dX3_fillRow_81 : decode cX3_fillRow 81 = .ok (.isub, 1) := by decide +kernel
theorem dX3_fillRow_82 : decode cX3_fillRow 82 = .ok (.invokestatic 62, 3) := by decide +kernel
theorem dX3_fillRow_85 : decode cX3_fillRow 85 = .ok (.istore 7, 2) := by decide +kernel
theorem dX3_fillRow_87 : decode cX3_fillRow 87 = .ok (.iconst 0, 1) := by decide +kernel
theorem dX3_fillRow_88 : decode cX3_fillRow 88 = .ok (.istore 8, 2) := by decide +kernel
theorem dX3_fillRow_90 : decode cX3_fillRow 90 = .ok (.iload 8, 2) := by decide +kernel
theorem dX3_fillRow_92 : decode cX3_fillRow 92 = .ok (.aload_n 1, 1) := by decide +kernel
theorem dX3_fillRow_93 : decode cX3_fillRow 93 = .ok (.getfield 40, 3) := by decide +kernel
theorem dX3_fillRow_96 : decode cX3_fillRow 96 = .ok (.if_icmp .ge 85, 3) := by decide +kernel
theorem dX3_fillRow_99 : decode cX3_fillRow 99 = .ok (.aload_n 1, 1) := by decide +kernel
theorem dX3_fillRow_100 : decode cX3_fillRow 100 = .ok (.iload 6, 2) := by decide +kernel
theorem dX3_fillRow_102 : decode cX3_fillRow 102 = .ok (.iload 8, 2) := by decide +kernel
theorem dX3_fillRow_104 : decode cX3_fillRow 104 = .ok (.invokevirtual 43, 3) := by decide +kernel
theorem dX3_fillRow_107 : decode cX3_fillRow 107 = .ok (.ifCond .eq 68, 3) := by decide +kernel
theorem dX3_fillRow_110 : decode cX3_fillRow 110 = .ok (.aload_n 1, 1) := by decide +kernel
theorem dX3_fillRow_111 : decode cX3_fillRow 111 = .ok (.getfield 67, 3) := by decide +kernel
theorem dX3_fillRow_114 : decode cX3_fillRow 114 = .ok (.iload_n 3, 1) := by decide +kernel
theorem dX3_fillRow_115 : decode cX3_fillRow 115 = .ok (.iaload, 1) := by decide +kernel
theorem dX3_fillRow_116 : decode cX3_fillRow 116 = .ok (.iload 8, 2) := by decide +kernel
theorem dX3_fillRow_118 : decode cX3_fillRow 118 = .ok (.ishr, 1) := by decide +kernel
theorem dX3_fillRow_119 : decode cX3_fillRow 119 = .ok (.iconst 1, 1) := by decide +kernel
theorem dX3_fillRow_120 : decode cX3_fillRow 120 = .ok (.iand, 1) := by decide +kernel
theorem dX3_fillRow_121 : decode cX3_fillRow 121 = .ok (.ifCond .eq 54, 3) := by decide +kernel
theorem dX3_fillRow_124 : decode cX3_fillRow 124 = .ok (.iload 6, 2) := by decide +kernel
theorem dX3_fillRow_126 : decode cX3_fillRow 126 = .ok (.iload 8, 2) := by decide +kernel
theorem dX3_fillRow_128 : decode cX3_fillRow 128 = .ok (.invokestatic 51, 3) := by decide +kernel
theorem dX3_fillRow_131 : decode cX3_fillRow 131 = .ok (.istore 9, 2) := by decide +kernel
theorem dX3_fillRow_133 : decode cX3_fillRow 133 = .ok (.iconst 1, 1) := by decide +kernel
theorem dX3_fillRow_134 : decode cX3_fillRow 134 = .ok (.istore 10, 2) := by decide +kernel
theorem dX3_fillRow_136 : decode cX3_fillRow 136 = .ok (.iload 10, 2) := by decide +kernel
theorem dX3_fillRow_138 : decode cX3_fillRow 138 = .ok (.iload 7, 2) := by decide +kernel
theorem dX3_fillRow_140 : decode cX3_fillRow 140 = .ok (.if_icmp .gt 35, 3) := by decide +kernel
theorem dX3_fillRow_143 : decode cX3_fillRow 143 = .ok (.aload_n 0, 1) := by decide +kernel
theorem dX3_fillRow_144 : decode cX3_fillRow 144 = .ok (.getfield 9, 3) := by decide +kernel
theorem dX3_fillRow_147 : decode cX3_fillRow 147 = .ok (.iload 4, 2) := by decide +kernel
theorem dX3_fillRow_149 : decode cX3_fillRow 149 = .ok (.iload 5, 2) := by decide +kernel
theorem dX3_fillRow_151 : decode cX3_fillRow 151 = .ok (.iadd, 1) := by decide +kernel
theorem dX3_fillRow_152 : decode cX3_fillRow 152 = .ok (.iload 10, 2) := by decide +kernel
theorem dX3_fillRow_154 : decode cX3_fillRow 154 = .ok (.iadd, 1) := by decide +kernel
theorem dX3_fillRow_155 : decode cX3_fillRow 155 = .ok (.dup2, 1) := by decide +kernel
theorem dX3_fillRow_156 : decode cX3_fillRow 156 = .ok (.laload, 1) := by decide +kernel
theorem dX3_fillRow_157 : decode cX3_fillRow 157 = .ok (.aload_n 0, 1) := by decide +kernel
theorem dX3_fillRow_158 : decode cX3_fillRow 158 = .ok (.getfield 9, 3) := by decide +kernel
theorem dX3_fillRow_161 : decode cX3_fillRow 161 = .ok (.iload 9, 2) := by decide +kernel
theorem dX3_fillRow_163 : decode cX3_fillRow 163 = .ok (.iload 10, 2) := by decide +kernel
theorem dX3_fillRow_165 : decode cX3_fillRow 165 = .ok (.iadd, 1) := by decide +kernel
theorem dX3_fillRow_166 : decode cX3_fillRow 166 = .ok (.laload, 1) := by decide +kernel
theorem dX3_fillRow_167 : decode cX3_fillRow 167 = .ok (.ladd, 1) := by decide +kernel
theorem dX3_fillRow_168 : decode cX3_fillRow 168 = .ok (.lastore, 1) := by decide +kernel
theorem dX3_fillRow_169 : decode cX3_fillRow 169 = .ok (.iinc 10 1, 3) := by decide +kernel
theorem dX3_fillRow_172 : decode cX3_fillRow 172 = .ok (.goto (-36), 3) := by decide +kernel
theorem dX3_fillRow_175 : decode cX3_fillRow 175 = .ok (.iinc 8 1, 3) := by decide +kernel
theorem dX3_fillRow_178 : decode cX3_fillRow 178 = .ok (.goto (-88), 3) := by decide +kernel
theorem dX3_fillRow_181 : decode cX3_fillRow 181 = .ok (.return_, 1) := by decide +kernel
theorem dX3_rowOf_0 : decode cX3_rowOf 0 = .ok (.iload_n 0, 1) := by decide +kernel
theorem dX3_rowOf_1 : decode cX3_rowOf 1 = .ok (.bipush 8, 2) := by decide +kernel
theorem dX3_rowOf_3 : decode cX3_rowOf 3 = .ok (.imul, 1) := by decide +kernel
theorem dX3_rowOf_4 : decode cX3_rowOf 4 = .ok (.iload_n 1, 1) := by decide +kernel
theorem dX3_rowOf_5 : decode cX3_rowOf 5 = .ok (.iadd, 1) := by decide +kernel
theorem dX3_rowOf_6 : decode cX3_rowOf 6 = .ok (.bipush 73, 2) := by decide +kernel
theorem dX3_rowOf_8 : decode cX3_rowOf 8 = .ok (.imul, 1) := by decide +kernel
theorem dX3_rowOf_9 : decode cX3_rowOf 9 = .ok (.ireturn, 1) := by decide +kernel
theorem dX3_heaviestFrom_0 : decode cX3_heaviestFrom 0 = .ok (.aload_n 0, 1) := by decide +kernel
theorem dX3_heaviestFrom_1 : decode cX3_heaviestFrom 1 = .ok (.getfield 35, 3) := by decide +kernel
theorem dX3_heaviestFrom_4 : decode cX3_heaviestFrom 4 = .ok (.iload_n 1, 1) := by decide +kernel
theorem dX3_heaviestFrom_5 : decode cX3_heaviestFrom 5 = .ok (.isub, 1) := by decide +kernel
theorem dX3_heaviestFrom_6 : decode cX3_heaviestFrom 6 = .ok (.iconst 1, 1) := by decide +kernel
theorem dX3_heaviestFrom_7 : decode cX3_heaviestFrom 7 = .ok (.iadd, 1) := by decide +kernel
theorem dX3_heaviestFrom_8 : decode cX3_heaviestFrom 8 = .ok (.iconst 3, 1) := by decide +kernel
theorem dX3_heaviestFrom_9 : decode cX3_heaviestFrom 9 = .ok (.idiv, 1) := by decide +kernel
theorem dX3_heaviestFrom_10 : decode cX3_heaviestFrom 10 = .ok (.bipush 9, 2) := by decide +kernel
theorem dX3_heaviestFrom_12 : decode cX3_heaviestFrom 12 = .ok (.imul, 1) := by decide +kernel
theorem dX3_heaviestFrom_13 : decode cX3_heaviestFrom 13 = .ok (.ireturn, 1) := by decide +kernel
theorem dX3_countWithWeight_0 : decode cX3_countWithWeight 0 = .ok (.lconst 0, 1) := by decide +kernel
theorem dX3_countWithWeight_1 : decode cX3_countWithWeight 1 = .ok (.lstore_n 3, 1) := by decide +kernel
theorem dX3_countWithWeight_2 : decode cX3_countWithWeight 2 = .ok (.iconst 0, 1) := by decide +kernel
theorem dX3_countWithWeight_3 : decode cX3_countWithWeight 3 = .ok (.istore 5, 2) := by decide +kernel
theorem dX3_countWithWeight_5 : decode cX3_countWithWeight 5 = .ok (.iload 5, 2) := by decide +kernel
theorem dX3_countWithWeight_7 : decode cX3_countWithWeight 7 = .ok (.aload_n 1, 1) := by decide +kernel
theorem dX3_countWithWeight_8 : decode cX3_countWithWeight 8 = .ok (.getfield 40, 3) := by decide +kernel
theorem dX3_countWithWeight_11 : decode cX3_countWithWeight 11 = .ok (.if_icmp .ge 35, 3) := by decide +kernel
theorem dX3_countWithWeight_14 : decode cX3_countWithWeight 14 = .ok (.aload_n 1, 1) := by decide +kernel
theorem dX3_countWithWeight_15 : decode cX3_countWithWeight 15 = .ok (.iconst 0, 1) := by decide +kernel
theorem dX3_countWithWeight_16 : decode cX3_countWithWeight 16 = .ok (.iload 5, 2) := by decide +kernel
theorem dX3_countWithWeight_18 : decode cX3_countWithWeight 18 = .ok (.invokevirtual 43, 3) := by decide +kernel
theorem dX3_countWithWeight_21 : decode cX3_countWithWeight 21 = .ok (.ifCond .eq 19, 3) := by decide +kernel
theorem dX3_countWithWeight_24 : decode cX3_countWithWeight 24 = .ok (.lload_n 3, 1) := by decide +kernel
theorem dX3_countWithWeight_25 : decode cX3_countWithWeight 25 = .ok (.aload_n 0, 1) := by decide +kernel
theorem dX3_countWithWeight_26 : decode cX3_countWithWeight 26 = .ok (.getfield 9, 3) := by decide +kernel
theorem dX3_countWithWeight_29 : decode cX3_countWithWeight 29 = .ok (.iconst 0, 1) := by decide +kernel
theorem dX3_countWithWeight_30 : decode cX3_countWithWeight 30 = .ok (.iload 5, 2) := by decide +kernel
theorem dX3_countWithWeight_32 : decode cX3_countWithWeight 32 = .ok (.invokestatic 51, 3) := by decide +kernel
theorem dX3_countWithWeight_35 : decode cX3_countWithWeight 35 = .ok (.iload_n 2, 1) := by decide +kernel
theorem dX3_countWithWeight_36 : decode cX3_countWithWeight 36 = .ok (.iadd, 1) := by decide +kernel
theorem dX3_countWithWeight_37 : decode cX3_countWithWeight 37 = .ok (.laload, 1) := by decide +kernel
theorem dX3_countWithWeight_38 : decode cX3_countWithWeight 38 = .ok (.ladd, 1) := by decide +kernel
theorem dX3_countWithWeight_39 : decode cX3_countWithWeight 39 = .ok (.lstore_n 3, 1) := by decide +kernel
theorem dX3_countWithWeight_40 : decode cX3_countWithWeight 40 = .ok (.iinc 5 1, 3) := by decide +kernel
theorem dX3_countWithWeight_43 : decode cX3_countWithWeight 43 = .ok (.goto (-38), 3) := by decide +kernel
theorem dX3_countWithWeight_46 : decode cX3_countWithWeight 46 = .ok (.lload_n 3, 1) := by decide +kernel
theorem dX3_countWithWeight_47 : decode cX3_countWithWeight 47 = .ok (.lreturn, 1) := by decide +kernel
theorem dX3_find_0 : decode cX3_find 0 = .ok (.lload_n 2, 1) := by decide +kernel
theorem dX3_find_1 : decode cX3_find 1 = .ok (.lstore 4, 2) := by decide +kernel
theorem dX3_find_3 : decode cX3_find 3 = .ok (.aload_n 0, 1) := by decide +kernel
theorem dX3_find_4 : decode cX3_find 4 = .ok (.iconst 0, 1) := by decide +kernel
theorem dX3_find_5 : decode cX3_find 5 = .ok (.putfield 26, 3) := by decide +kernel
theorem dX3_find_8 : decode cX3_find 8 = .ok (.aload_n 0, 1) := by decide +kernel
theorem dX3_find_9 : decode cX3_find 9 = .ok (.iconst 0, 1) := by decide +kernel
theorem dX3_find_10 : decode cX3_find 10 = .ok (.putfield 22, 3) := by decide +kernel
theorem dX3_find_13 : decode cX3_find 13 = .ok (.bipush 72, 2) := by decide +kernel
theorem dX3_find_15 : decode cX3_find 15 = .ok (.istore 6, 2) := by decide +kernel
theorem dX3_find_17 : decode cX3_find 17 = .ok (.iload 6, 2) := by decide +kernel
theorem dX3_find_19 : decode cX3_find 19 = .ok (.ifCond .le 49, 3) := by decide +kernel
theorem dX3_find_22 : decode cX3_find 22 = .ok (.aload_n 0, 1) := by decide +kernel
theorem dX3_find_23 : decode cX3_find 23 = .ok (.getfield 26, 3) := by decide +kernel
theorem dX3_find_26 : decode cX3_find 26 = .ok (.ifCond .ne 42, 3) := by decide +kernel
theorem dX3_find_29 : decode cX3_find 29 = .ok (.aload_n 0, 1) := by decide +kernel
theorem dX3_find_30 : decode cX3_find 30 = .ok (.aload_n 1, 1) := by decide +kernel
theorem dX3_find_31 : decode cX3_find 31 = .ok (.iload 6, 2) := by decide +kernel
theorem dX3_find_33 : decode cX3_find 33 = .ok (.invokevirtual 70, 3) := by decide +kernel
theorem dX3_find_36 : decode cX3_find 36 = .ok (.lstore 7, 2) := by decide +kernel
theorem dX3_find_38 : decode cX3_find 38 = .ok (.lload 4, 2) := by decide +kernel
theorem dX3_find_40 : decode cX3_find 40 = .ok (.lload 7, 2) := by decide +kernel
theorem dX3_find_42 : decode cX3_find 42 = .ok (.lcmp, 1) := by decide +kernel
theorem dX3_find_43 : decode cX3_find 43 = .ok (.ifCond .ge 12, 3) := by decide +kernel
theorem dX3_find_46 : decode cX3_find 46 = .ok (.aload_n 0, 1) := by decide +kernel
theorem dX3_find_47 : decode cX3_find 47 = .ok (.iload 6, 2) := by decide +kernel
theorem dX3_find_49 : decode cX3_find 49 = .ok (.putfield 26, 3) := by decide +kernel
theorem dX3_find_52 : decode cX3_find 52 = .ok (.goto 10, 3) := by decide +kernel
theorem dX3_find_55 : decode cX3_find 55 = .ok (.lload 4, 2) := by decide +kernel
theorem dX3_find_57 : decode cX3_find 57 = .ok (.lload 7, 2) := by decide +kernel
theorem dX3_find_59 : decode cX3_find 59 = .ok (.lsub, 1) := by decide +kernel
theorem dX3_find_60 : decode cX3_find 60 = .ok (.lstore 4, 2) := by decide +kernel
theorem dX3_find_62 : decode cX3_find 62 = .ok (.iinc 6 (-1), 3) := by decide +kernel
theorem dX3_find_65 : decode cX3_find 65 = .ok (.goto (-48), 3) := by decide +kernel
theorem dX3_find_68 : decode cX3_find 68 = .ok (.aload_n 0, 1) := by decide +kernel
theorem dX3_find_69 : decode cX3_find 69 = .ok (.aload_n 1, 1) := by decide +kernel
theorem dX3_find_70 : decode cX3_find 70 = .ok (.lload 4, 2) := by decide +kernel
theorem dX3_find_72 : decode cX3_find 72 = .ok (.invokevirtual 74, 3) := by decide +kernel
theorem dX3_find_75 : decode cX3_find 75 = .ok (.return_, 1) := by decide +kernel
theorem dX3_walk_0 : decode cX3_walk 0 = .ok (.lload_n 2, 1) := by decide +kernel
theorem dX3_walk_1 : decode cX3_walk 1 = .ok (.lstore 4, 2) := by decide +kernel
theorem dX3_walk_3 : decode cX3_walk 3 = .ok (.iconst 0, 1) := by decide +kernel
theorem dX3_walk_4 : decode cX3_walk 4 = .ok (.istore 6, 2) := by decide +kernel
theorem dX3_walk_6 : decode cX3_walk 6 = .ok (.aload_n 0, 1) := by decide +kernel
theorem dX3_walk_7 : decode cX3_walk 7 = .ok (.getfield 26, 3) := by decide +kernel
theorem dX3_walk_10 : decode cX3_walk 10 = .ok (.istore 7, 2) := by decide +kernel
theorem dX3_walk_12 : decode cX3_walk 12 = .ok (.aload_n 1, 1) := by decide +kernel
theorem dX3_walk_13 : decode cX3_walk 13 = .ok (.getfield 78, 3) := by decide +kernel
theorem dX3_walk_16 : decode cX3_walk 16 = .ok (.istore 8, 2) := by decide +kernel
theorem dX3_walk_18 : decode cX3_walk 18 = .ok (.iconst 0, 1) := by decide +kernel
theorem dX3_walk_19 : decode cX3_walk 19 = .ok (.istore 9, 2) := by decide +kernel
theorem dX3_walk_21 : decode cX3_walk 21 = .ok (.iload 9, 2) := by decide +kernel
theorem dX3_walk_23 : decode cX3_walk 23 = .ok (.bipush 8, 2) := by decide +kernel
theorem dX3_walk_25 : decode cX3_walk 25 = .ok (.if_icmp .ge 141, 3) := by decide +kernel
theorem dX3_walk_28 : decode cX3_walk 28 = .ok (.iload 6, 2) := by decide +kernel
theorem dX3_walk_30 : decode cX3_walk 30 = .ok (.aload_n 1, 1) := by decide +kernel
theorem dX3_walk_31 : decode cX3_walk 31 = .ok (.getfield 35, 3) := by decide +kernel
theorem dX3_walk_34 : decode cX3_walk 34 = .ok (.if_icmp .ge 132, 3) := by decide +kernel
theorem dX3_walk_37 : decode cX3_walk 37 = .ok (.iload 7, 2) := by decide +kernel
theorem dX3_walk_39 : decode cX3_walk 39 = .ok (.ifCond .le 127, 3) := by decide +kernel
theorem dX3_walk_42 : decode cX3_walk 42 = .ok (.bipush (-9), 2) := by decide +kernel
theorem dX3_walk_44 : decode cX3_walk 44 = .ok (.istore 10, 2) := by decide +kernel
theorem dX3_walk_46 : decode cX3_walk 46 = .ok (.iconst 0, 1) := by decide +kernel
theorem dX3_walk_47 : decode cX3_walk 47 = .ok (.istore 11, 2) := by decide +kernel
theorem dX3_walk_49 : decode cX3_walk 49 = .ok (.iload 11, 2) := by decide +kernel
theorem dX3_walk_51 : decode cX3_walk 51 = .ok (.aload_n 1, 1) := by decide +kernel
theorem dX3_walk_52 : decode cX3_walk 52 = .ok (.getfield 40, 3) := by decide +kernel
theorem dX3_walk_55 : decode cX3_walk 55 = .ok (.if_icmp .ge 51, 3) := by decide +kernel
theorem dX3_walk_58 : decode cX3_walk 58 = .ok (.iload 10, 2) := by decide +kernel
theorem dX3_walk_60 : decode cX3_walk 60 = .ok (.ifCond .ge 46, 3) := by decide +kernel
theorem dX3_walk_63 : decode cX3_walk 63 = .ok (.aload_n 0, 1) := by decide +kernel
theorem dX3_walk_64 : decode cX3_walk 64 = .ok (.aload_n 1, 1) := by decide +kernel
theorem dX3_walk_65 : decode cX3_walk 65 = .ok (.iload 6, 2) := by decide +kernel
theorem dX3_walk_67 : decode cX3_walk 67 = .ok (.iload 11, 2) := by decide +kernel
theorem dX3_walk_69 : decode cX3_walk 69 = .ok (.iload 8, 2) := by decide +kernel
theorem dX3_walk_71 : decode cX3_walk 71 = .ok (.iload 7, 2) := by decide +kernel
theorem dX3_walk_73 : decode cX3_walk 73 = .ok (.invokevirtual 81, 3) := by decide +kernel
theorem dX3_walk_76 : decode cX3_walk 76 = .ok (.lstore 12, 2) := by decide +kernel
theorem dX3_walk_78 : decode cX3_walk 78 = .ok (.lload 4, 2) := by decide +kernel
theorem dX3_walk_80 : decode cX3_walk 80 = .ok (.lload 12, 2) := by decide +kernel
theorem dX3_walk_82 : decode cX3_walk 82 = .ok (.lcmp, 1) := by decide +kernel
theorem dX3_walk_83 : decode cX3_walk 83 = .ok (.ifCond .ge 10, 3) := by decide +kernel
theorem dX3_walk_86 : decode cX3_walk 86 = .ok (.iload 11, 2) := by decide +kernel
theorem dX3_walk_88 : decode cX3_walk 88 = .ok (.istore 10, 2) := by decide +kernel
theorem dX3_walk_90 : decode cX3_walk 90 = .ok (.goto 10, 3) := by decide +kernel
theorem dX3_walk_93 : decode cX3_walk 93 = .ok (.lload 4, 2) := by decide +kernel
theorem dX3_walk_95 : decode cX3_walk 95 = .ok (.lload 12, 2) := by decide +kernel
theorem dX3_walk_97 : decode cX3_walk 97 = .ok (.lsub, 1) := by decide +kernel
theorem dX3_walk_98 : decode cX3_walk 98 = .ok (.lstore 4, 2) := by decide +kernel
theorem dX3_walk_100 : decode cX3_walk 100 = .ok (.iinc 11 1, 3) := by decide +kernel
theorem dX3_walk_103 : decode cX3_walk 103 = .ok (.goto (-54), 3) := by decide +kernel
theorem dX3_walk_106 : decode cX3_walk 106 = .ok (.iload 10, 2) := by decide +kernel
theorem dX3_walk_108 : decode cX3_walk 108 = .ok (.ifCond .ge 4, 3) := by decide +kernel
theorem dX3_walk_111 : decode cX3_walk 111 = .ok (.return_, 1) := by decide +kernel
theorem dX3_walk_112 : decode cX3_walk 112 = .ok (.aload_n 0, 1) := by decide +kernel
theorem dX3_walk_113 : decode cX3_walk 113 = .ok (.getfield 19, 3) := by decide +kernel
theorem dX3_walk_116 : decode cX3_walk 116 = .ok (.iload 9, 2) := by decide +kernel
theorem dX3_walk_118 : decode cX3_walk 118 = .ok (.iload 10, 2) := by decide +kernel
theorem dX3_walk_120 : decode cX3_walk 120 = .ok (.iastore, 1) := by decide +kernel
theorem dX3_walk_121 : decode cX3_walk 121 = .ok (.aload_n 0, 1) := by decide +kernel
theorem dX3_walk_122 : decode cX3_walk 122 = .ok (.iload 9, 2) := by decide +kernel
theorem dX3_walk_124 : decode cX3_walk 124 = .ok (.iconst 1, 1) := by decide +kernel
theorem dX3_walk_125 : decode cX3_walk 125 = .ok (.iadd, 1) := by decide +kernel
theorem dX3_walk_126 : decode cX3_walk 126 = .ok (.putfield 22, 3) := by decide +kernel
theorem dX3_walk_129 : decode cX3_walk 129 = .ok (.iload 7, 2) := by decide +kernel
theorem dX3_walk_131 : decode cX3_walk 131 = .ok (.aload_n 0, 1) := by decide +kernel
theorem dX3_walk_132 : decode cX3_walk 132 = .ok (.getfield 15, 3) := by decide +kernel
theorem dX3_walk_135 : decode cX3_walk 135 = .ok (.iload 10, 2) := by decide +kernel
theorem dX3_walk_137 : decode cX3_walk 137 = .ok (.iaload, 1) := by decide +kernel
theorem dX3_walk_138 : decode cX3_walk 138 = .ok (.isub, 1) := by decide +kernel
theorem dX3_walk_139 : decode cX3_walk 139 = .ok (.istore 7, 2) := by decide +kernel
theorem dX3_walk_141 : decode cX3_walk 141 = .ok (.aload_n 1, 1) := by decide +kernel
theorem dX3_walk_142 : decode cX3_walk 142 = .ok (.getfield 67, 3) := by decide +kernel
theorem dX3_walk_145 : decode cX3_walk 145 = .ok (.iload 10, 2) := by decide +kernel
theorem dX3_walk_147 : decode cX3_walk 147 = .ok (.iaload, 1) := by decide +kernel
theorem dX3_walk_148 : decode cX3_walk 148 = .ok (.istore 8, 2) := by decide +kernel
theorem dX3_walk_150 : decode cX3_walk 150 = .ok (.aload_n 1, 1) := by decide +kernel
theorem dX3_walk_151 : decode cX3_walk 151 = .ok (.iload 6, 2) := by decide +kernel
theorem dX3_walk_153 : decode cX3_walk 153 = .ok (.iload 10, 2) := by decide +kernel
theorem dX3_walk_155 : decode cX3_walk 155 = .ok (.invokevirtual 55, 3) := by decide +kernel
theorem dX3_walk_158 : decode cX3_walk 158 = .ok (.istore 6, 2) := by decide +kernel
theorem dX3_walk_160 : decode cX3_walk 160 = .ok (.iinc 9 1, 3) := by decide +kernel
theorem dX3_walk_163 : decode cX3_walk 163 = .ok (.goto (-142), 3) := by decide +kernel
theorem dX3_walk_166 : decode cX3_walk 166 = .ok (.return_, 1) := by decide +kernel
theorem dX3_endsOf_0 : decode cX3_endsOf 0 = .ok (.aload_n 1, 1) := by decide +kernel
theorem dX3_endsOf_1 : decode cX3_endsOf 1 = .ok (.iload_n 2, 1) := by decide +kernel
theorem dX3_endsOf_2 : decode cX3_endsOf 2 = .ok (.iload_n 3, 1) := by decide +kernel
theorem dX3_endsOf_3 : decode cX3_endsOf 3 = .ok (.invokevirtual 43, 3) := by decide +kernel
theorem dX3_endsOf_6 : decode cX3_endsOf 6 = .ok (.ifCond .eq 16, 3) := by decide +kernel
theorem dX3_endsOf_9 : decode cX3_endsOf 9 = .ok (.iload 4, 2) := by decide +kernel
theorem dX3_endsOf_11 : decode cX3_endsOf 11 = .ok (.iload_n 3, 1) := by decide +kernel
theorem dX3_endsOf_12 : decode cX3_endsOf 12 = .ok (.ishr, 1) := by decide +kernel
theorem dX3_endsOf_13 : decode cX3_endsOf 13 = .ok (.iconst 1, 1) := by decide +kernel
theorem dX3_endsOf_14 : decode cX3_endsOf 14 = .ok (.iand, 1) := by decide +kernel
theorem dX3_endsOf_15 : decode cX3_endsOf 15 = .ok (.ifCond .eq 7, 3) := by decide +kernel
theorem dX3_endsOf_18 : decode cX3_endsOf 18 = .ok (.iconst 1, 1) := by decide +kernel
theorem dX3_endsOf_19 : decode cX3_endsOf 19 = .ok (.goto 4, 3) := by decide +kernel
theorem dX3_endsOf_22 : decode cX3_endsOf 22 = .ok (.iconst 0, 1) := by decide +kernel
theorem dX3_endsOf_23 : decode cX3_endsOf 23 = .ok (.istore 6, 2) := by decide +kernel
theorem dX3_endsOf_25 : decode cX3_endsOf 25 = .ok (.iload 6, 2) := by decide +kernel
theorem dX3_endsOf_27 : decode cX3_endsOf 27 = .ok (.ifCond .eq 31, 3) := by decide +kernel
theorem dX3_endsOf_30 : decode cX3_endsOf 30 = .ok (.iload 5, 2) := by decide +kernel
theorem dX3_endsOf_32 : decode cX3_endsOf 32 = .ok (.ifCond .lt 26, 3) := by decide +kernel
theorem dX3_endsOf_35 : decode cX3_endsOf 35 = .ok (.iload 5, 2) := by decide +kernel
theorem dX3_endsOf_37 : decode cX3_endsOf 37 = .ok (.bipush 72, 2) := by decide +kernel
theorem dX3_endsOf_39 : decode cX3_endsOf 39 = .ok (.if_icmp .gt 19, 3) := by decide +kernel
theorem dX3_endsOf_42 : decode cX3_endsOf 42 = .ok (.aload_n 0, 1) := by decide +kernel
theorem dX3_endsOf_43 : decode cX3_endsOf 43 = .ok (.getfield 9, 3) := by decide +kernel
theorem dX3_endsOf_46 : decode cX3_endsOf 46 = .ok (.iload_n 2, 1) := by decide +kernel
theorem dX3_endsOf_47 : decode cX3_endsOf 47 = .ok (.iload_n 3, 1) := by decide +kernel
theorem dX3_endsOf_48 : decode cX3_endsOf 48 = .ok (.invokestatic 51, 3) := by decide +kernel
theorem dX3_endsOf_51 : decode cX3_endsOf 51 = .ok (.iload 5, 2) := by decide +kernel
theorem dX3_endsOf_53 : decode cX3_endsOf 53 = .ok (.iadd, 1) := by decide +kernel
theorem dX3_endsOf_54 : decode cX3_endsOf 54 = .ok (.laload, 1) := by decide +kernel
theorem dX3_endsOf_55 : decode cX3_endsOf 55 = .ok (.goto 4, 3) := by decide +kernel
theorem dX3_endsOf_58 : decode cX3_endsOf 58 = .ok (.lconst 0, 1) := by decide +kernel
theorem dX3_endsOf_59 : decode cX3_endsOf 59 = .ok (.lreturn, 1) := by decide +kernel
theorem dX3_rankOfPath_0 : decode cX3_rankOfPath 0 = .ok (.lconst 0, 1) := by decide +kernel
theorem dX3_rankOfPath_1 : decode cX3_rankOfPath 1 = .ok (.lstore_n 2, 1) := by decide +kernel
theorem dX3_rankOfPath_2 : decode cX3_rankOfPath 2 = .ok (.bipush 72, 2) := by decide +kernel
theorem dX3_rankOfPath_4 : decode cX3_rankOfPath 4 = .ok (.istore 4, 2) := by decide +kernel
theorem dX3_rankOfPath_6 : decode cX3_rankOfPath 6 = .ok (.iload 4, 2) := by decide +kernel
theorem dX3_rankOfPath_8 : decode cX3_rankOfPath 8 = .ok (.aload_n 0, 1) := by decide +kernel
theorem dX3_rankOfPath_9 : decode cX3_rankOfPath 9 = .ok (.getfield 26, 3) := by decide +kernel
theorem dX3_rankOfPath_12 : decode cX3_rankOfPath 12 = .ok (.if_icmp .le 19, 3) := by decide +kernel
theorem dX3_rankOfPath_15 : decode cX3_rankOfPath 15 = .ok (.lload_n 2, 1) := by decide +kernel
theorem dX3_rankOfPath_16 : decode cX3_rankOfPath 16 = .ok (.aload_n 0, 1) := by decide +kernel
theorem dX3_rankOfPath_17 : decode cX3_rankOfPath 17 = .ok (.aload_n 1, 1) := by decide +kernel
theorem dX3_rankOfPath_18 : decode cX3_rankOfPath 18 = .ok (.iload 4, 2) := by decide +kernel
theorem dX3_rankOfPath_20 : decode cX3_rankOfPath 20 = .ok (.invokevirtual 70, 3) := by decide +kernel
theorem dX3_rankOfPath_23 : decode cX3_rankOfPath 23 = .ok (.ladd, 1) := by decide +kernel
theorem dX3_rankOfPath_24 : decode cX3_rankOfPath 24 = .ok (.lstore_n 2, 1) := by decide +kernel
theorem dX3_rankOfPath_25 : decode cX3_rankOfPath 25 = .ok (.iinc 4 (-1), 3) := by decide +kernel
theorem dX3_rankOfPath_28 : decode cX3_rankOfPath 28 = .ok (.goto (-22), 3) := by decide +kernel
theorem dX3_rankOfPath_31 : decode cX3_rankOfPath 31 = .ok (.iconst 0, 1) := by decide +kernel
theorem dX3_rankOfPath_32 : decode cX3_rankOfPath 32 = .ok (.istore 4, 2) := by decide +kernel
theorem dX3_rankOfPath_34 : decode cX3_rankOfPath 34 = .ok (.aload_n 0, 1) := by decide +kernel
theorem dX3_rankOfPath_35 : decode cX3_rankOfPath 35 = .ok (.getfield 26, 3) := by decide +kernel
theorem dX3_rankOfPath_38 : decode cX3_rankOfPath 38 = .ok (.istore 5, 2) := by decide +kernel
theorem dX3_rankOfPath_40 : decode cX3_rankOfPath 40 = .ok (.aload_n 1, 1) := by decide +kernel
theorem dX3_rankOfPath_41 : decode cX3_rankOfPath 41 = .ok (.getfield 78, 3) := by decide +kernel
theorem dX3_rankOfPath_44 : decode cX3_rankOfPath 44 = .ok (.istore 6, 2) := by decide +kernel
theorem dX3_rankOfPath_46 : decode cX3_rankOfPath 46 = .ok (.iconst 0, 1) := by decide +kernel
theorem dX3_rankOfPath_47 : decode cX3_rankOfPath 47 = .ok (.istore 7, 2) := by decide +kernel
theorem dX3_rankOfPath_49 : decode cX3_rankOfPath 49 = .ok (.iload 7, 2) := by decide +kernel
theorem dX3_rankOfPath_51 : decode cX3_rankOfPath 51 = .ok (.aload_n 0, 1) := by decide +kernel
theorem dX3_rankOfPath_52 : decode cX3_rankOfPath 52 = .ok (.getfield 22, 3) := by decide +kernel
theorem dX3_rankOfPath_55 : decode cX3_rankOfPath 55 = .ok (.if_icmp .ge 101, 3) := by decide +kernel
theorem dX3_rankOfPath_58 : decode cX3_rankOfPath 58 = .ok (.iload 4, 2) := by decide +kernel
theorem dX3_rankOfPath_60 : decode cX3_rankOfPath 60 = .ok (.aload_n 1, 1) := by decide +kernel
theorem dX3_rankOfPath_61 : decode cX3_rankOfPath 61 = .ok (.getfield 35, 3) := by decide +kernel
theorem dX3_rankOfPath_64 : decode cX3_rankOfPath 64 = .ok (.if_icmp .ge 92, 3) := by decide +kernel
theorem dX3_rankOfPath_67 : decode cX3_rankOfPath 67 = .ok (.iconst 0, 1) := by decide +kernel
theorem dX3_rankOfPath_68 : decode cX3_rankOfPath 68 = .ok (.istore 8, 2) := by decide +kernel
theorem dX3_rankOfPath_70 : decode cX3_rankOfPath 70 = .ok (.iload 8, 2) := by decide +kernel
theorem dX3_rankOfPath_72 : decode cX3_rankOfPath 72 = .ok (.aload_n 0, 1) := by decide +kernel
theorem dX3_rankOfPath_73 : decode cX3_rankOfPath 73 = .ok (.getfield 19, 3) := by decide +kernel
theorem dX3_rankOfPath_76 : decode cX3_rankOfPath 76 = .ok (.iload 7, 2) := by decide +kernel
theorem dX3_rankOfPath_78 : decode cX3_rankOfPath 78 = .ok (.iaload, 1) := by decide +kernel
theorem dX3_rankOfPath_79 : decode cX3_rankOfPath 79 = .ok (.if_icmp .ge 25, 3) := by decide +kernel
theorem dX3_rankOfPath_82 : decode cX3_rankOfPath 82 = .ok (.lload_n 2, 1) := by decide +kernel
theorem dX3_rankOfPath_83 : decode cX3_rankOfPath 83 = .ok (.aload_n 0, 1) := by decide +kernel
theorem dX3_rankOfPath_84 : decode cX3_rankOfPath 84 = .ok (.aload_n 1, 1) := by decide +kernel
theorem dX3_rankOfPath_85 : decode cX3_rankOfPath 85 = .ok (.iload 4, 2) := by decide +kernel
theorem dX3_rankOfPath_87 : decode cX3_rankOfPath 87 = .ok (.iload 8, 2) := by decide +kernel
theorem dX3_rankOfPath_89 : decode cX3_rankOfPath 89 = .ok (.iload 6, 2) := by decide +kernel
theorem dX3_rankOfPath_91 : decode cX3_rankOfPath 91 = .ok (.iload 5, 2) := by decide +kernel
theorem dX3_rankOfPath_93 : decode cX3_rankOfPath 93 = .ok (.invokevirtual 81, 3) := by decide +kernel
theorem dX3_rankOfPath_96 : decode cX3_rankOfPath 96 = .ok (.ladd, 1) := by decide +kernel
theorem dX3_rankOfPath_97 : decode cX3_rankOfPath 97 = .ok (.lstore_n 2, 1) := by decide +kernel
theorem dX3_rankOfPath_98 : decode cX3_rankOfPath 98 = .ok (.iinc 8 1, 3) := by decide +kernel
theorem dX3_rankOfPath_101 : decode cX3_rankOfPath 101 = .ok (.goto (-31), 3) := by decide +kernel
theorem dX3_rankOfPath_104 : decode cX3_rankOfPath 104 = .ok (.iload 5, 2) := by decide +kernel
theorem dX3_rankOfPath_106 : decode cX3_rankOfPath 106 = .ok (.aload_n 0, 1) := by decide +kernel
theorem dX3_rankOfPath_107 : decode cX3_rankOfPath 107 = .ok (.getfield 15, 3) := by decide +kernel
theorem dX3_rankOfPath_110 : decode cX3_rankOfPath 110 = .ok (.aload_n 0, 1) := by decide +kernel
theorem dX3_rankOfPath_111 : decode cX3_rankOfPath 111 = .ok (.getfield 19, 3) := by decide +kernel
theorem dX3_rankOfPath_114 : decode cX3_rankOfPath 114 = .ok (.iload 7, 2) := by decide +kernel
theorem dX3_rankOfPath_116 : decode cX3_rankOfPath 116 = .ok (.iaload, 1) := by decide +kernel
theorem dX3_rankOfPath_117 : decode cX3_rankOfPath 117 = .ok (.iaload, 1) := by decide +kernel
theorem dX3_rankOfPath_118 : decode cX3_rankOfPath 118 = .ok (.isub, 1) := by decide +kernel
theorem dX3_rankOfPath_119 : decode cX3_rankOfPath 119 = .ok (.istore 5, 2) := by decide +kernel
theorem dX3_rankOfPath_121 : decode cX3_rankOfPath 121 = .ok (.aload_n 1, 1) := by decide +kernel
theorem dX3_rankOfPath_122 : decode cX3_rankOfPath 122 = .ok (.getfield 67, 3) := by decide +kernel
theorem dX3_rankOfPath_125 : decode cX3_rankOfPath 125 = .ok (.aload_n 0, 1) := by decide +kernel
theorem dX3_rankOfPath_126 : decode cX3_rankOfPath 126 = .ok (.getfield 19, 3) := by decide +kernel
theorem dX3_rankOfPath_129 : decode cX3_rankOfPath 129 = .ok (.iload 7, 2) := by decide +kernel
theorem dX3_rankOfPath_131 : decode cX3_rankOfPath 131 = .ok (.iaload, 1) := by decide +kernel
theorem dX3_rankOfPath_132 : decode cX3_rankOfPath 132 = .ok (.iaload, 1) := by decide +kernel
theorem dX3_rankOfPath_133 : decode cX3_rankOfPath 133 = .ok (.istore 6, 2) := by decide +kernel
theorem dX3_rankOfPath_135 : decode cX3_rankOfPath 135 = .ok (.aload_n 1, 1) := by decide +kernel
theorem dX3_rankOfPath_136 : decode cX3_rankOfPath 136 = .ok (.iload 4, 2) := by decide +kernel
theorem dX3_rankOfPath_138 : decode cX3_rankOfPath 138 = .ok (.aload_n 0, 1) := by decide +kernel
theorem dX3_rankOfPath_139 : decode cX3_rankOfPath 139 = .ok (.getfield 19, 3) := by decide +kernel
theorem dX3_rankOfPath_142 : decode cX3_rankOfPath 142 = .ok (.iload 7, 2) := by decide +kernel
theorem dX3_rankOfPath_144 : decode cX3_rankOfPath 144 = .ok (.iaload, 1) := by decide +kernel
theorem dX3_rankOfPath_145 : decode cX3_rankOfPath 145 = .ok (.invokevirtual 55, 3) := by decide +kernel
theorem dX3_rankOfPath_148 : decode cX3_rankOfPath 148 = .ok (.istore 4, 2) := by decide +kernel
theorem dX3_rankOfPath_150 : decode cX3_rankOfPath 150 = .ok (.iinc 7 1, 3) := by decide +kernel
theorem dX3_rankOfPath_153 : decode cX3_rankOfPath 153 = .ok (.goto (-104), 3) := by decide +kernel
theorem dX3_rankOfPath_156 : decode cX3_rankOfPath 156 = .ok (.lload_n 2, 1) := by decide +kernel
theorem dX3_rankOfPath_157 : decode cX3_rankOfPath 157 = .ok (.lreturn, 1) := by decide +kernel
theorem dX4_init_0 : decode cX4_init 0 = .ok (.aload_n 0, 1) := by decide +kernel
theorem dX4_init_1 : decode cX4_init 1 = .ok (.invokespecial 3, 3) := by decide +kernel
theorem dX4_init_4 : decode cX4_init 4 = .ok (.aload_n 0, 1) := by decide +kernel
theorem dX4_init_5 : decode cX4_init 5 = .ok (.bipush 110, 2) := by decide +kernel
theorem dX4_init_7 : decode cX4_init 7 = .ok (.newarray .int, 2) := by decide +kernel
theorem dX4_init_9 : decode cX4_init 9 = .ok (.putfield 9, 3) := by decide +kernel
theorem dX4_init_12 : decode cX4_init 12 = .ok (.aload_n 0, 1) := by decide +kernel
theorem dX4_init_13 : decode cX4_init 13 = .ok (.iconst 0, 1) := by decide +kernel
theorem dX4_init_14 : decode cX4_init 14 = .ok (.putfield 15, 3) := by decide +kernel
theorem dX4_init_17 : decode cX4_init 17 = .ok (.aload_n 0, 1) := by decide +kernel
theorem dX4_init_18 : decode cX4_init 18 = .ok (.new 19, 3) := by decide +kernel
theorem dX4_init_21 : decode cX4_init 21 = .ok (.dup, 1) := by decide +kernel
theorem dX4_init_22 : decode cX4_init 22 = .ok (.invokespecial 21, 3) := by decide +kernel
theorem dX4_init_25 : decode cX4_init 25 = .ok (.putfield 22, 3) := by decide +kernel
theorem dX4_init_28 : decode cX4_init 28 = .ok (.aload_n 0, 1) := by decide +kernel
theorem dX4_init_29 : decode cX4_init 29 = .ok (.new 26, 3) := by decide +kernel
theorem dX4_init_32 : decode cX4_init 32 = .ok (.dup, 1) := by decide +kernel
theorem dX4_init_33 : decode cX4_init 33 = .ok (.invokespecial 28, 3) := by decide +kernel
theorem dX4_init_36 : decode cX4_init 36 = .ok (.putfield 29, 3) := by decide +kernel
theorem dX4_init_39 : decode cX4_init 39 = .ok (.aload_n 0, 1) := by decide +kernel
theorem dX4_init_40 : decode cX4_init 40 = .ok (.iconst 0, 1) := by decide +kernel
theorem dX4_init_41 : decode cX4_init 41 = .ok (.putfield 33, 3) := by decide +kernel
theorem dX4_init_44 : decode cX4_init 44 = .ok (.aload_n 0, 1) := by decide +kernel
theorem dX4_init_45 : decode cX4_init 45 = .ok (.iconst 0, 1) := by decide +kernel
theorem dX4_init_46 : decode cX4_init 46 = .ok (.putfield 36, 3) := by decide +kernel
theorem dX4_init_49 : decode cX4_init 49 = .ok (.aload_n 0, 1) := by decide +kernel
theorem dX4_init_50 : decode cX4_init 50 = .ok (.iconst 0, 1) := by decide +kernel
theorem dX4_init_51 : decode cX4_init 51 = .ok (.putfield 40, 3) := by decide +kernel
theorem dX4_init_54 : decode cX4_init 54 = .ok (.return_, 1) := by decide +kernel
theorem dX4_append_0 : decode cX4_append 0 = .ok (.aload_n 0, 1) := by decide +kernel
theorem dX4_append_1 : decode cX4_append 1 = .ok (.getfield 15, 3) := by decide +kernel
theorem dX4_append_4 : decode cX4_append 4 = .ok (.ifCond .lt 32, 3) := by decide +kernel
theorem dX4_append_7 : decode cX4_append 7 = .ok (.aload_n 0, 1) := by decide +kernel
theorem dX4_append_8 : decode cX4_append 8 = .ok (.getfield 15, 3) := by decide +kernel
theorem dX4_append_11 : decode cX4_append 11 = .ok (.bipush 110, 2) := by decide +kernel
theorem dX4_append_13 : decode cX4_append 13 = .ok (.if_icmp .ge 23, 3) := by decide +kernel
theorem dX4_append_16 : decode cX4_append 16 = .ok (.aload_n 0, 1) := by decide +kernel
theorem dX4_append_17 : decode cX4_append 17 = .ok (.getfield 9, 3) := by decide +kernel
theorem dX4_append_20 : decode cX4_append 20 = .ok (.aload_n 0, 1) := by decide +kernel
theorem dX4_append_21 : decode cX4_append 21 = .ok (.getfield 15, 3) := by decide +kernel
theorem dX4_append_24 : decode cX4_append 24 = .ok (.iload_n 1, 1) := by decide +kernel
theorem dX4_append_25 : decode cX4_append 25 = .ok (.iastore, 1) := by decide +kernel
theorem dX4_append_26 : decode cX4_append 26 = .ok (.aload_n 0, 1) := by decide +kernel
theorem dX4_append_27 : decode cX4_append 27 = .ok (.dup, 1) := by decide +kernel
theorem dX4_append_28 : decode cX4_append 28 = .ok (.getfield 15, 3) := by decide +kernel
theorem dX4_append_31 : decode cX4_append 31 = .ok (.iconst 1, 1) := by decide +kernel
theorem dX4_append_32 : decode cX4_append 32 = .ok (.iadd, 1) := by decide +kernel
theorem dX4_append_33 : decode cX4_append 33 = .ok (.putfield 15, 3) := by decide +kernel
theorem dX4_append_36 : decode cX4_append 36 = .ok (.return_, 1) := by decide +kernel
theorem dX4_parse_0 : decode cX4_parse 0 = .ok (.aload_n 0, 1) := by decide +kernel
theorem dX4_parse_1 : decode cX4_parse 1 = .ok (.iconst 0, 1) := by decide +kernel
theorem dX4_parse_2 : decode cX4_parse 2 = .ok (.putfield 33, 3) := by decide +kernel
theorem dX4_parse_5 : decode cX4_parse 5 = .ok (.aload_n 0, 1) := by decide +kernel
theorem dX4_parse_6 : decode cX4_parse 6 = .ok (.iconst 0, 1) := by decide +kernel
theorem dX4_parse_7 : decode cX4_parse 7 = .ok (.putfield 36, 3) := by decide +kernel
theorem dX4_parse_10 : decode cX4_parse 10 = .ok (.aload_n 0, 1) := by decide +kernel
theorem dX4_parse_11 : decode cX4_parse 11 = .ok (.iconst 0, 1) := by decide +kernel
theorem dX4_parse_12 : decode cX4_parse 12 = .ok (.putfield 40, 3) := by decide +kernel
theorem dX4_parse_15 : decode cX4_parse 15 = .ok (.aload_n 0, 1) := by decide +kernel
theorem dX4_parse_16 : decode cX4_parse 16 = .ok (.getfield 22, 3) := by decide +kernel
theorem dX4_parse_19 : decode cX4_parse 19 = .ok (.iconst 0, 1) := by decide +kernel
theorem dX4_parse_20 : decode cX4_parse 20 = .ok (.putfield 43, 3) := by decide +kernel
theorem dX4_parse_23 : decode cX4_parse 23 = .ok (.aload_n 0, 1) := by decide +kernel
theorem dX4_parse_24 : decode cX4_parse 24 = .ok (.getfield 29, 3) := by decide +kernel
theorem dX4_parse_27 : decode cX4_parse 27 = .ok (.iconst 0, 1) := by decide +kernel
theorem dX4_parse_28 : decode cX4_parse 28 = .ok (.putfield 46, 3) := by decide +kernel
theorem dX4_parse_31 : decode cX4_parse 31 = .ok (.aload_n 0, 1) := by decide +kernel
theorem dX4_parse_32 : decode cX4_parse 32 = .ok (.getfield 29, 3) := by decide +kernel
theorem dX4_parse_35 : decode cX4_parse 35 = .ok (.iconst 0, 1) := by decide +kernel
theorem dX4_parse_36 : decode cX4_parse 36 = .ok (.putfield 49, 3) := by decide +kernel
theorem dX4_parse_39 : decode cX4_parse 39 = .ok (.aload_n 0, 1) := by decide +kernel
theorem dX4_parse_40 : decode cX4_parse 40 = .ok (.getfield 29, 3) := by decide +kernel
theorem dX4_parse_43 : decode cX4_parse 43 = .ok (.getfield 52, 3) := by decide +kernel
theorem dX4_parse_46 : decode cX4_parse 46 = .ok (.iconst 1, 1) := by decide +kernel
theorem dX4_parse_47 : decode cX4_parse 47 = .ok (.invokestatic 55, 3) := by decide +kernel
theorem dX4_parse_50 : decode cX4_parse 50 = .ok (.aload_n 0, 1) := by decide +kernel
theorem dX4_parse_51 : decode cX4_parse 51 = .ok (.invokevirtual 61, 3) := by decide +kernel
theorem dX4_parse_54 : decode cX4_parse 54 = .ok (.iconst 0, 1) := by decide +kernel
theorem dX4_parse_55 : decode cX4_parse 55 = .ok (.istore_n 1, 1) := by decide +kernel
theorem dX4_parse_56 : decode cX4_parse 56 = .ok (.iload_n 1, 1) := by decide +kernel
theorem dX4_parse_57 : decode cX4_parse 57 = .ok (.bipush 110, 2) := by decide +kernel
theorem dX4_parse_59 : decode cX4_parse 59 = .ok (.if_icmp .ge 31, 3) := by decide +kernel
theorem dX4_parse_62 : decode cX4_parse 62 = .ok (.aload_n 0, 1) := by decide +kernel
theorem dX4_parse_63 : decode cX4_parse 63 = .ok (.getfield 36, 3) := by decide +kernel
theorem dX4_parse_66 : decode cX4_parse 66 = .ok (.ifCond .ne 24, 3) := by decide +kernel
theorem dX4_parse_69 : decode cX4_parse 69 = .ok (.aload_n 0, 1) := by decide +kernel
theorem dX4_parse_70 : decode cX4_parse 70 = .ok (.getfield 33, 3) := by decide +kernel
theorem dX4_parse_73 : decode cX4_parse 73 = .ok (.aload_n 0, 1) := by decide +kernel
theorem dX4_parse_74 : decode cX4_parse 74 = .ok (.getfield 15, 3) := by decide +kernel
theorem dX4_parse_77 : decode cX4_parse 77 = .ok (.if_icmp .ge 13, 3) := by decide +kernel
theorem dX4_parse_80 : decode cX4_parse 80 = .ok (.aload_n 0, 1) := by decide +kernel
theorem dX4_parse_81 : decode cX4_parse 81 = .ok (.invokevirtual 64, 3) := by decide +kernel
theorem dX4_parse_84 : decode cX4_parse 84 = .ok (.iinc 1 1, 3) := by decide +kernel
theorem dX4_parse_87 : decode cX4_parse 87 = .ok (.goto (-31), 3) := by decide +kernel
theorem dX4_parse_90 : decode cX4_parse 90 = .ok (.aload_n 0, 1) := by decide +kernel
theorem dX4_parse_91 : decode cX4_parse 91 = .ok (.getfield 36, 3) := by decide +kernel
theorem dX4_parse_94 : decode cX4_parse 94 = .ok (.ifCond .eq 10, 3) := by decide +kernel
theorem dX4_parse_97 : decode cX4_parse 97 = .ok (.aload_n 0, 1) := by decide +kernel
theorem dX4_parse_98 : decode cX4_parse 98 = .ok (.getfield 33, 3) := by decide +kernel
theorem dX4_parse_101 : decode cX4_parse 101 = .ok (.goto 5, 3) := by decide +kernel
theorem dX4_parse_104 : decode cX4_parse 104 = .ok (.bipush (-9), 2) := by decide +kernel
theorem dX4_parse_106 : decode cX4_parse 106 = .ok (.ireturn, 1) := by decide +kernel
theorem dX4_parseWidths_0 : decode cX4_parseWidths 0 = .ok (.aload_n 0, 1) := by decide +kernel
theorem dX4_parseWidths_1 : decode cX4_parseWidths 1 = .ok (.invokevirtual 67, 3) := by decide +kernel
theorem dX4_parseWidths_4 : decode cX4_parseWidths 4 = .ok (.bipush 83, 2) := by decide +kernel
theorem dX4_parseWidths_6 : decode cX4_parseWidths 6 = .ok (.if_icmp .ne 16, 3) := by decide +kernel
theorem dX4_parseWidths_9 : decode cX4_parseWidths 9 = .ok (.aload_n 0, 1) := by decide +kernel
theorem dX4_parseWidths_10 : decode cX4_parseWidths 10 = .ok (.dup, 1) := by decide +kernel
theorem dX4_parseWidths_11 : decode cX4_parseWidths 11 = .ok (.getfield 33, 3) := by decide +kernel
theorem dX4_parseWidths_14 : decode cX4_parseWidths 14 = .ok (.iconst 1, 1) := by decide +kernel
theorem dX4_parseWidths_15 : decode cX4_parseWidths 15 = .ok (.iadd, 1) := by decide +kernel
theorem dX4_parseWidths_16 : decode cX4_parseWidths 16 = .ok (.putfield 33, 3) := by decide +kernel
theorem dX4_parseWidths_19 : decode cX4_parseWidths 19 = .ok (.goto 8, 3) := by decide +kernel
theorem dX4_parseWidths_22 : decode cX4_parseWidths 22 = .ok (.aload_n 0, 1) := by decide +kernel
theorem dX4_parseWidths_23 : decode cX4_parseWidths 23 = .ok (.iconst 1, 1) := by decide +kernel
theorem dX4_parseWidths_24 : decode cX4_parseWidths 24 = .ok (.putfield 36, 3) := by decide +kernel
theorem dX4_parseWidths_27 : decode cX4_parseWidths 27 = .ok (.iconst 0, 1) := by decide +kernel
theorem dX4_parseWidths_28 : decode cX4_parseWidths 28 = .ok (.istore_n 1, 1) := by decide +kernel
theorem dX4_parseWidths_29 : decode cX4_parseWidths 29 = .ok (.iload_n 1, 1) := by decide +kernel
theorem dX4_parseWidths_30 : decode cX4_parseWidths 30 = .ok (.bipush 6, 2) := by decide +kernel
theorem dX4_parseWidths_32 : decode cX4_parseWidths 32 = .ok (.if_icmp .ge 24, 3) := by decide +kernel
theorem dX4_parseWidths_35 : decode cX4_parseWidths 35 = .ok (.aload_n 0, 1) := by decide +kernel
theorem dX4_parseWidths_36 : decode cX4_parseWidths 36 = .ok (.getfield 22, 3) := by decide +kernel
theorem dX4_parseWidths_39 : decode cX4_parseWidths 39 = .ok (.getfield 71, 3) := by decide +kernel
theorem dX4_parseWidths_42 : decode cX4_parseWidths 42 = .ok (.iload_n 1, 1) := by decide +kernel
theorem dX4_parseWidths_43 : decode cX4_parseWidths 43 = .ok (.aload_n 0, 1) := by decide +kernel
theorem dX4_parseWidths_44 : decode cX4_parseWidths 44 = .ok (.iconst 1, 1) := by decide +kernel
theorem dX4_parseWidths_45 : decode cX4_parseWidths 45 = .ok (.iconst 3, 1) := by decide +kernel
theorem dX4_parseWidths_46 : decode cX4_parseWidths 46 = .ok (.invokevirtual 74, 3) := by decide +kernel
theorem dX4_parseWidths_49 : decode cX4_parseWidths 49 = .ok (.iastore, 1) := by decide +kernel
theorem dX4_parseWidths_50 : decode cX4_parseWidths 50 = .ok (.iinc 1 1, 3) := by decide +kernel
theorem dX4_parseWidths_53 : decode cX4_parseWidths 53 = .ok (.goto (-24), 3) := by decide +kernel
theorem dX4_parseWidths_56 : decode cX4_parseWidths 56 = .ok (.return_, 1) := by decide +kernel
theorem dX4_parsePart_0 : decode cX4_parsePart 0 = .ok (.aload_n 0, 1) := by decide +kernel
theorem dX4_parsePart_1 : decode cX4_parsePart 1 = .ok (.invokevirtual 67, 3) := by decide +kernel
theorem dX4_parsePart_4 : decode cX4_parsePart 4 = .ok (.lookupswitch 57 #[(100, 36), (108, 50), (114, 43)], 36) := by decide +kernel
theorem dX4_parsePart_40 : decode cX4_parsePart 40 = .ok (.aload_n 0, 1) := by decide +kernel
theorem dX4_parsePart_41 : decode cX4_parsePart 41 = .ok (.invokevirtual 78, 3) := by decide +kernel
theorem dX4_parsePart_44 : decode cX4_parsePart 44 = .ok (.goto 22, 3) := by decide +kernel
theorem dX4_parsePart_47 : decode cX4_parsePart 47 = .ok (.aload_n 0, 1) := by decide +kernel
theorem dX4_parsePart_48 : decode cX4_parsePart 48 = .ok (.invokevirtual 81, 3) := by decide +kernel
theorem dX4_parsePart_51 : decode cX4_parsePart 51 = .ok (.goto 15, 3) := by decide +kernel
theorem dX4_parsePart_54 : decode cX4_parsePart 54 = .ok (.aload_n 0, 1) := by decide +kernel
theorem dX4_parsePart_55 : decode cX4_parsePart 55 = .ok (.invokevirtual 84, 3) := by decide +kernel
theorem dX4_parsePart_58 : decode cX4_parsePart 58 = .ok (.goto 8, 3) := by decide +kernel
theorem dX4_parsePart_61 : decode cX4_parsePart 61 = .ok (.aload_n 0, 1) := by decide +kernel
theorem dX4_parsePart_62 : decode cX4_parsePart 62 = .ok (.iconst 1, 1) := by decide +kernel
theorem dX4_parsePart_63 : decode cX4_parsePart 63 = .ok (.putfield 36, 3) := by decide +kernel
theorem dX4_parsePart_66 : decode cX4_parsePart 66 = .ok (.return_, 1) := by decide +kernel
theorem dX4_parseWord_0 : decode cX4_parseWord 0 = .ok (.aload_n 0, 1) := by decide +kernel
theorem dX4_parseWord_1 : decode cX4_parseWord 1 = .ok (.getfield 22, 3) := by decide +kernel
theorem dX4_parseWord_4 : decode cX4_parseWord 4 = .ok (.getfield 43, 3) := by decide +kernel
theorem dX4_parseWord_7 : decode cX4_parseWord 7 = .ok (.istore_n 1, 1) := by decide +kernel
theorem dX4_parseWord_8 : decode cX4_parseWord 8 = .ok (.iload_n 1, 1) := by decide +kernel
theorem dX4_parseWord_9 : decode cX4_parseWord 9 = .ok (.ifCond .lt 9, 3) := by decide +kernel
theorem dX4_parseWord_12 : decode cX4_parseWord 12 = .ok (.iload_n 1, 1) := by decide +kernel
theorem dX4_parseWord_13 : decode cX4_parseWord 13 = .ok (.bipush 8, 2) := by decide +kernel
theorem dX4_parseWord_15 : decode cX4_parseWord 15 = .ok (.if_icmp .lt 9, 3) := by decide +kernel
theorem dX4_parseWord_18 : decode cX4_parseWord 18 = .ok (.aload_n 0, 1) := by decide +kernel
theorem dX4_parseWord_19 : decode cX4_parseWord 19 = .ok (.iconst 1, 1) := by decide +kernel
theorem dX4_parseWord_20 : decode cX4_parseWord 20 = .ok (.putfield 36, 3) := by decide +kernel
theorem dX4_parseWord_23 : decode cX4_parseWord 23 = .ok (.return_, 1) := by decide +kernel
theorem dX4_parseWord_24 : decode cX4_parseWord 24 = .ok (.aload_n 0, 1) := by decide +kernel
theorem dX4_parseWord_25 : decode cX4_parseWord 25 = .ok (.dup, 1) := by decide +kernel
theorem dX4_parseWord_26 : decode cX4_parseWord 26 = .ok (.getfield 33, 3) := by decide +kernel
theorem dX4_parseWord_29 : decode cX4_parseWord 29 = .ok (.iconst 1, 1) := by decide +kernel
theorem dX4_parseWord_30 : decode cX4_parseWord 30 = .ok (.iadd, 1) := by decide +kernel
theorem dX4_parseWord_31 : decode cX4_parseWord 31 = .ok (.putfield 33, 3) := by decide +kernel
theorem dX4_parseWord_34 : decode cX4_parseWord 34 = .ok (.iconst 0, 1) := by decide +kernel
theorem dX4_parseWord_35 : decode cX4_parseWord 35 = .ok (.istore_n 2, 1) := by decide +kernel
theorem dX4_parseWord_36 : decode cX4_parseWord 36 = .ok (.iconst 0, 1) := by decide +kernel
theorem dX4_parseWord_37 : decode cX4_parseWord 37 = .ok (.istore_n 3, 1) := by decide +kernel
theorem dX4_parseWord_38 : decode cX4_parseWord 38 = .ok (.iload_n 2, 1) := by decide +kernel
theorem dX4_parseWord_39 : decode cX4_parseWord 39 = .ok (.iconst 5, 1) := by decide +kernel
theorem dX4_parseWord_40 : decode cX4_parseWord 40 = .ok (.if_icmp .ge 65, 3) := by decide +kernel
theorem dX4_parseWord_43 : decode cX4_parseWord 43 = .ok (.aload_n 0, 1) := by decide +kernel
theorem dX4_parseWord_44 : decode cX4_parseWord 44 = .ok (.invokevirtual 67, 3) := by decide +kernel
theorem dX4_parseWord_47 : decode cX4_parseWord 47 = .ok (.invokestatic 87, 3) := by decide +kernel
theorem dX4_parseWord_50 : decode cX4_parseWord 50 = .ok (.ifCond .eq 55, 3) := by decide +kernel
theorem dX4_parseWord_53 : decode cX4_parseWord 53 = .ok (.aload_n 0, 1) := by decide +kernel
theorem dX4_parseWord_54 : decode cX4_parseWord 54 = .ok (.invokevirtual 67, 3) := by decide +kernel
theorem dX4_parseWord_57 : decode cX4_parseWord 57 = .ok (.bipush 97, 2) := by decide +kernel
theorem dX4_parseWord_59 : decode cX4_parseWord 59 = .ok (.isub, 1) := by decide +kernel
theorem dX4_parseWord_60 : decode cX4_parseWord 60 = .ok (.istore 4, 2) := by decide +kernel
theorem dX4_parseWord_62 : decode cX4_parseWord 62 = .ok (.aload_n 0, 1) := by decide +kernel
theorem dX4_parseWord_63 : decode cX4_parseWord 63 = .ok (.getfield 22, 3) := by decide +kernel
theorem dX4_parseWord_66 : decode cX4_parseWord 66 = .ok (.getfield 91, 3) := by decide +kernel
theorem dX4_parseWord_69 : decode cX4_parseWord 69 = .ok (.iload_n 1, 1) := by decide +kernel
theorem dX4_parseWord_70 : decode cX4_parseWord 70 = .ok (.iconst 5, 1) := by decide +kernel
theorem dX4_parseWord_71 : decode cX4_parseWord 71 = .ok (.imul, 1) := by decide +kernel
theorem dX4_parseWord_72 : decode cX4_parseWord 72 = .ok (.iload_n 2, 1) := by decide +kernel
theorem dX4_parseWord_73 : decode cX4_parseWord 73 = .ok (.iadd, 1) := by decide +kernel
theorem dX4_parseWord_74 : decode cX4_parseWord 74 = .ok (.iload 4, 2) := by decide +kernel
theorem dX4_parseWord_76 : decode cX4_parseWord 76 = .ok (.iastore, 1) := by decide +kernel
theorem dX4_parseWord_77 : decode cX4_parseWord 77 = .ok (.iload_n 3, 1) := by decide +kernel
theorem dX4_parseWord_78 : decode cX4_parseWord 78 = .ok (.aload_n 0, 1) := by decide +kernel
theorem dX4_parseWord_79 : decode cX4_parseWord 79 = .ok (.getfield 22, 3) := by decide +kernel
theorem dX4_parseWord_82 : decode cX4_parseWord 82 = .ok (.iload 4, 2) := by decide +kernel
theorem dX4_parseWord_84 : decode cX4_parseWord 84 = .ok (.invokevirtual 94, 3) := by decide +kernel
theorem dX4_parseWord_87 : decode cX4_parseWord 87 = .ok (.iadd, 1) := by decide +kernel
theorem dX4_parseWord_88 : decode cX4_parseWord 88 = .ok (.istore_n 3, 1) := by decide +kernel
theorem dX4_parseWord_89 : decode cX4_parseWord 89 = .ok (.iinc 2 1, 3) := by decide +kernel
theorem dX4_parseWord_92 : decode cX4_parseWord 92 = .ok (.aload_n 0, 1) := by decide +kernel
theorem dX4_parseWord_93 : decode cX4_parseWord 93 = .ok (.dup, 1) := by decide +kernel
theorem dX4_parseWord_94 : decode cX4_parseWord 94 = .ok (.getfield 33, 3) := by decide +kernel
theorem dX4_parseWord_97 : decode cX4_parseWord 97 = .ok (.iconst 1, 1) := by decide +kernel
theorem dX4_parseWord_98 : decode cX4_parseWord 98 = .ok (.iadd, 1) := by decide +kernel
theorem dX4_parseWord_99 : decode cX4_parseWord 99 = .ok (.putfield 33, 3) := by decide +kernel
theorem dX4_parseWord_102 : decode cX4_parseWord 102 = .ok (.goto (-64), 3) := by decide +kernel
theorem dX4_parseWord_105 : decode cX4_parseWord 105 = .ok (.iload_n 2, 1) := by decide +kernel
theorem dX4_parseWord_106 : decode cX4_parseWord 106 = .ok (.iconst 2, 1) := by decide +kernel
theorem dX4_parseWord_107 : decode cX4_parseWord 107 = .ok (.if_icmp .ge 8, 3) := by decide +kernel
theorem dX4_parseWord_110 : decode cX4_parseWord 110 = .ok (.aload_n 0, 1) := by decide +kernel
theorem dX4_parseWord_111 : decode cX4_parseWord 111 = .ok (.iconst 1, 1) := by decide +kernel
theorem dX4_parseWord_112 : decode cX4_parseWord 112 = .ok (.putfield 36, 3) := by decide +kernel
theorem dX4_parseWord_115 : decode cX4_parseWord 115 = .ok (.aload_n 0, 1) := by decide +kernel
theorem dX4_parseWord_116 : decode cX4_parseWord 116 = .ok (.getfield 22, 3) := by decide +kernel
theorem dX4_parseWord_119 : decode cX4_parseWord 119 = .ok (.getfield 98, 3) := by decide +kernel
theorem dX4_parseWord_122 : decode cX4_parseWord 122 = .ok (.iload_n 1, 1) := by decide +kernel
theorem dX4_parseWord_123 : decode cX4_parseWord 123 = .ok (.iload_n 2, 1) := by decide +kernel
theorem dX4_parseWord_124 : decode cX4_parseWord 124 = .ok (.iastore, 1) := by decide +kernel
theorem dX4_parseWord_125 : decode cX4_parseWord 125 = .ok (.aload_n 0, 1) := by decide +kernel
theorem dX4_parseWord_126 : decode cX4_parseWord 126 = .ok (.getfield 22, 3) := by decide +kernel
theorem dX4_parseWord_129 : decode cX4_parseWord 129 = .ok (.getfield 101, 3) := by decide +kernel
theorem dX4_parseWord_132 : decode cX4_parseWord 132 = .ok (.iload_n 1, 1) := by decide +kernel
theorem dX4_parseWord_133 : decode cX4_parseWord 133 = .ok (.iload_n 3, 1) := by decide +kernel
theorem dX4_parseWord_134 : decode cX4_parseWord 134 = .ok (.iastore, 1) := by decide +kernel
theorem dX4_parseWord_135 : decode cX4_parseWord 135 = .ok (.aload_n 0, 1) := by decide +kernel
theorem dX4_parseWord_136 : decode cX4_parseWord 136 = .ok (.getfield 22, 3) := by decide +kernel
theorem dX4_parseWord_139 : decode cX4_parseWord 139 = .ok (.getfield 104, 3) := by decide +kernel
theorem dX4_parseWord_142 : decode cX4_parseWord 142 = .ok (.iload_n 1, 1) := by decide +kernel
theorem dX4_parseWord_143 : decode cX4_parseWord 143 = .ok (.aload_n 0, 1) := by decide +kernel
theorem dX4_parseWord_144 : decode cX4_parseWord 144 = .ok (.iconst 0, 1) := by decide +kernel
theorem dX4_parseWord_145 : decode cX4_parseWord 145 = .ok (.iconst 2, 1) := by decide +kernel
theorem dX4_parseWord_146 : decode cX4_parseWord 146 = .ok (.invokevirtual 74, 3) := by decide +kernel
theorem dX4_parseWord_149 : decode cX4_parseWord 149 = .ok (.iastore, 1) := by decide +kernel
theorem dX4_parseWord_150 : decode cX4_parseWord 150 = .ok (.aload_n 0, 1) := by decide +kernel
theorem dX4_parseWord_151 : decode cX4_parseWord 151 = .ok (.getfield 22, 3) := by decide +kernel
theorem dX4_parseWord_154 : decode cX4_parseWord 154 = .ok (.getfield 107, 3) := by decide +kernel
theorem dX4_parseWord_157 : decode cX4_parseWord 157 = .ok (.iload_n 1, 1) := by decide +kernel
theorem dX4_parseWord_158 : decode cX4_parseWord 158 = .ok (.aload_n 0, 1) := by decide +kernel
theorem dX4_parseWord_159 : decode cX4_parseWord 159 = .ok (.iconst 0, 1) := by decide +kernel
theorem dX4_parseWord_160 : decode cX4_parseWord 160 = .ok (.iconst 2, 1) := by decide +kernel
theorem dX4_parseWord_161 : decode cX4_parseWord 161 = .ok (.invokevirtual 74, 3) := by decide +kernel
theorem dX4_parseWord_164 : decode cX4_parseWord 164 = .ok (.iastore, 1) := by decide +kernel
theorem dX4_parseWord_165 : decode cX4_parseWord 165 = .ok (.aload_n 0, 1) := by decide +kernel
theorem dX4_parseWord_166 : decode cX4_parseWord 166 = .ok (.getfield 29, 3) := by decide +kernel
theorem dX4_parseWord_169 : decode cX4_parseWord 169 = .ok (.getfield 110, 3) := by decide +kernel
theorem dX4_parseWord_172 : decode cX4_parseWord 172 = .ok (.iload_n 1, 1) := by decide +kernel
theorem dX4_parseWord_173 : decode cX4_parseWord 173 = .ok (.aload_n 0, 1) := by decide +kernel
theorem dX4_parseWord_174 : decode cX4_parseWord 174 = .ok (.iconst 1, 1) := by decide +kernel
theorem dX4_parseWord_175 : decode cX4_parseWord 175 = .ok (.bipush 9, 2) := by decide +kernel
theorem dX4_parseWord_177 : decode cX4_parseWord 177 = .ok (.invokevirtual 74, 3) := by decide +kernel
theorem dX4_parseWord_180 : decode cX4_parseWord 180 = .ok (.iastore, 1) := by decide +kernel
theorem dX4_parseWord_181 : decode cX4_parseWord 181 = .ok (.aload_n 0, 1) := by decide +kernel
theorem dX4_parseWord_182 : decode cX4_parseWord 182 = .ok (.getfield 22, 3) := by decide +kernel
theorem dX4_parseWord_185 : decode cX4_parseWord 185 = .ok (.iload_n 1, 1) := by decide +kernel
theorem dX4_parseWord_186 : decode cX4_parseWord 186 = .ok (.iconst 1, 1) := by decide +kernel
theorem dX4_parseWord_187 : decode cX4_parseWord 187 = .ok (.iadd, 1) := by decide +kernel
theorem dX4_parseWord_188 : decode cX4_parseWord 188 = .ok (.putfield 43, 3) := by decide +kernel
theorem dX4_parseWord_191 : decode cX4_parseWord 191 = .ok (.return_, 1) := by decide +kernel
theorem dX4_parseRule_0 : decode cX4_parseRule 0 = .ok (.sipush 511, 3) := by decide +kernel
theorem dX4_parseRule_3 : decode cX4_parseRule 3 = .ok (.istore_n 1, 1) := by decide +kernel
theorem dX4_parseRule_4 : decode cX4_parseRule 4 = .ok (.aload_n 0, 1) := by decide +kernel
theorem dX4_parseRule_5 : decode cX4_parseRule 5 = .ok (.getfield 40, 3) := by decide +kernel
theorem dX4_parseRule_8 : decode cX4_parseRule 8 = .ok (.iload_n 1, 1) := by decide +kernel
theorem dX4_parseRule_9 : decode cX4_parseRule 9 = .ok (.if_icmp .ne 9, 3) := by decide +kernel
theorem dX4_parseRule_12 : decode cX4_parseRule 12 = .ok (.aload_n 0, 1) := by decide +kernel
theorem dX4_parseRule_13 : decode cX4_parseRule 13 = .ok (.iconst 1, 1) := by decide +kernel
theorem dX4_parseRule_14 : decode cX4_parseRule 14 = .ok (.putfield 36, 3) := by decide +kernel
theorem dX4_parseRule_17 : decode cX4_parseRule 17 = .ok (.return_, 1) := by decide +kernel
theorem dX4_parseRule_18 : decode cX4_parseRule 18 = .ok (.aload_n 0, 1) := by decide +kernel
theorem dX4_parseRule_19 : decode cX4_parseRule 19 = .ok (.dup, 1) := by decide +kernel
theorem dX4_parseRule_20 : decode cX4_parseRule 20 = .ok (.getfield 33, 3) := by decide +kernel
theorem dX4_parseRule_23 : decode cX4_parseRule 23 = .ok (.iconst 1, 1) := by decide +kernel
theorem dX4_parseRule_24 : decode cX4_parseRule 24 = .ok (.iadd, 1) := by decide +kernel
theorem dX4_parseRule_25 : decode cX4_parseRule 25 = .ok (.putfield 33, 3) := by decide +kernel
theorem dX4_parseRule_28 : decode cX4_parseRule 28 = .ok (.aload_n 0, 1) := by decide +kernel
theorem dX4_parseRule_29 : decode cX4_parseRule 29 = .ok (.iconst 0, 1) := by decide +kernel
theorem dX4_parseRule_30 : decode cX4_parseRule 30 = .ok (.iconst 2, 1) := by decide +kernel
theorem dX4_parseRule_31 : decode cX4_parseRule 31 = .ok (.invokevirtual 74, 3) := by decide +kernel
theorem dX4_parseRule_34 : decode cX4_parseRule 34 = .ok (.istore_n 2, 1) := by decide +kernel
theorem dX4_parseRule_35 : decode cX4_parseRule 35 = .ok (.bipush 7, 2) := by decide +kernel
theorem dX4_parseRule_37 : decode cX4_parseRule 37 = .ok (.istore_n 3, 1) := by decide +kernel
theorem dX4_parseRule_38 : decode cX4_parseRule 38 = .ok (.aload_n 0, 1) := by decide +kernel
theorem dX4_parseRule_39 : decode cX4_parseRule 39 = .ok (.getfield 36, 3) := by decide +kernel
theorem dX4_parseRule_42 : decode cX4_parseRule 42 = .ok (.ifCond .ne 21, 3) := by decide +kernel
theorem dX4_parseRule_45 : decode cX4_parseRule 45 = .ok (.aload_n 0, 1) := by decide +kernel
theorem dX4_parseRule_46 : decode cX4_parseRule 46 = .ok (.getfield 40, 3) := by decide +kernel
theorem dX4_parseRule_49 : decode cX4_parseRule 49 = .ok (.iload_n 2, 1) := by decide +kernel
theorem dX4_parseRule_50 : decode cX4_parseRule 50 = .ok (.iconst 3, 1) := by decide +kernel
theorem dX4_parseRule_51 : decode cX4_parseRule 51 = .ok (.imul, 1) := by decide +kernel
theorem dX4_parseRule_52 : decode cX4_parseRule 52 = .ok (.ishr, 1) := by decide +kernel
theorem dX4_parseRule_53 : decode cX4_parseRule 53 = .ok (.iload_n 3, 1) := by decide +kernel
theorem dX4_parseRule_54 : decode cX4_parseRule 54 = .ok (.iand, 1) := by decide +kernel
theorem dX4_parseRule_55 : decode cX4_parseRule 55 = .ok (.iload_n 3, 1) := by decide +kernel
theorem dX4_parseRule_56 : decode cX4_parseRule 56 = .ok (.if_icmp .ne 7, 3) := by decide +kernel
theorem dX4_parseRule_59 : decode cX4_parseRule 59 = .ok (.aload_n 0, 1) := by decide +kernel
theorem dX4_parseRule_60 : decode cX4_parseRule 60 = .ok (.invokevirtual 113, 3) := by decide +kernel
theorem dX4_parseRule_63 : decode cX4_parseRule 63 = .ok (.aload_n 0, 1) := by decide +kernel
theorem dX4_parseRule_64 : decode cX4_parseRule 64 = .ok (.iconst 0, 1) := by decide +kernel
theorem dX4_parseRule_65 : decode cX4_parseRule 65 = .ok (.iconst 2, 1) := by decide +kernel
theorem dX4_parseRule_66 : decode cX4_parseRule 66 = .ok (.invokevirtual 74, 3) := by decide +kernel
theorem dX4_parseRule_69 : decode cX4_parseRule 69 = .ok (.istore 4, 2) := by decide +kernel
theorem dX4_parseRule_71 : decode cX4_parseRule 71 = .ok (.iconst 1, 1) := by decide +kernel
theorem dX4_parseRule_72 : decode cX4_parseRule 72 = .ok (.iload_n 2, 1) := by decide +kernel
theorem dX4_parseRule_73 : decode cX4_parseRule 73 = .ok (.iconst 3, 1) := by decide +kernel
theorem dX4_parseRule_74 : decode cX4_parseRule 74 = .ok (.imul, 1) := by decide +kernel
theorem dX4_parseRule_75 : decode cX4_parseRule 75 = .ok (.iload 4, 2) := by decide +kernel
theorem dX4_parseRule_77 : decode cX4_parseRule 77 = .ok (.iadd, 1) := by decide +kernel
theorem dX4_parseRule_78 : decode cX4_parseRule 78 = .ok (.ishl, 1) := by decide +kernel
theorem dX4_parseRule_79 : decode cX4_parseRule 79 = .ok (.istore 5, 2) := by decide +kernel
theorem dX4_parseRule_81 : decode cX4_parseRule 81 = .ok (.aload_n 0, 1) := by decide +kernel
theorem dX4_parseRule_82 : decode cX4_parseRule 82 = .ok (.getfield 36, 3) := by decide +kernel
theorem dX4_parseRule_85 : decode cX4_parseRule 85 = .ok (.ifCond .ne 17, 3) := by decide +kernel
theorem dX4_parseRule_88 : decode cX4_parseRule 88 = .ok (.aload_n 0, 1) := by decide +kernel
theorem dX4_parseRule_89 : decode cX4_parseRule 89 = .ok (.getfield 40, 3) := by decide +kernel
theorem dX4_parseRule_92 : decode cX4_parseRule 92 = .ok (.iload 5, 2) := by decide +kernel
theorem dX4_parseRule_94 : decode cX4_parseRule 94 = .ok (.iand, 1) := by decide +kernel
theorem dX4_parseRule_95 : decode cX4_parseRule 95 = .ok (.ifCond .eq 7, 3) := by decide +kernel
theorem dX4_parseRule_98 : decode cX4_parseRule 98 = .ok (.aload_n 0, 1) := by decide +kernel
theorem dX4_parseRule_99 : decode cX4_parseRule 99 = .ok (.invokevirtual 113, 3) := by decide +kernel
theorem dX4_parseRule_102 : decode cX4_parseRule 102 = .ok (.aload_n 0, 1) := by decide +kernel
theorem dX4_parseRule_103 : decode cX4_parseRule 103 = .ok (.iconst 0, 1) := by decide +kernel
theorem dX4_parseRule_104 : decode cX4_parseRule 104 = .ok (.iconst 2, 1) := by decide +kernel
theorem dX4_parseRule_105 : decode cX4_parseRule 105 = .ok (.invokevirtual 74, 3) := by decide +kernel
theorem dX4_parseRule_108 : decode cX4_parseRule 108 = .ok (.istore 6, 2) := by decide +kernel
theorem dX4_parseRule_110 : decode cX4_parseRule 110 = .ok (.aload_n 0, 1) := by decide +kernel
theorem dX4_parseRule_111 : decode cX4_parseRule 111 = .ok (.getfield 29, 3) := by decide +kernel
theorem dX4_parseRule_114 : decode cX4_parseRule 114 = .ok (.iload_n 2, 1) := by decide +kernel
theorem dX4_parseRule_115 : decode cX4_parseRule 115 = .ok (.iload 4, 2) := by decide +kernel
theorem dX4_parseRule_117 : decode cX4_parseRule 117 = .ok (.iload 6, 2) := by decide +kernel
theorem dX4_parseRule_119 : decode cX4_parseRule 119 = .ok (.invokevirtual 116, 3) := by decide +kernel
theorem dX4_parseRule_122 : decode cX4_parseRule 122 = .ok (.pop, 1) := by decide +kernel
theorem dX4_parseRule_123 : decode cX4_parseRule 123 = .ok (.aload_n 0, 1) := by decide +kernel
theorem dX4_parseRule_124 : decode cX4_parseRule 124 = .ok (.dup, 1) := by decide +kernel
theorem dX4_parseRule_125 : decode cX4_parseRule 125 = .ok (.getfield 40, 3) := by decide +kernel
theorem dX4_parseRule_128 : decode cX4_parseRule 128 = .ok (.iload 5, 2) := by decide +kernel
theorem dX4_parseRule_130 : decode cX4_parseRule 130 = .ok (.ior, 1) := by decide +kernel
theorem dX4_parseRule_131 : decode cX4_parseRule 131 = .ok (.putfield 40, 3) := by decide +kernel
theorem dX4_parseRule_134 : decode cX4_parseRule 134 = .ok (.return_, 1) := by decide +kernel
theorem dX4_parseLine_0 : decode cX4_parseLine 0 = .ok (.aload_n 0, 1) := by decide +kernel
theorem dX4_parseLine_1 : decode cX4_parseLine 1 = .ok (.dup, 1) := by decide +kernel
theorem dX4_parseLine_2 : decode cX4_parseLine 2 = .ok (.getfield 33, 3) := by decide +kernel
theorem dX4_parseLine_5 : decode cX4_parseLine 5 = .ok (.iconst 1, 1) := by decide +kernel
theorem dX4_parseLine_6 : decode cX4_parseLine 6 = .ok (.iadd, 1) := by decide +kernel
theorem dX4_parseLine_7 : decode cX4_parseLine 7 = .ok (.putfield 33, 3) := by decide +kernel
theorem dX4_parseLine_10 : decode cX4_parseLine 10 = .ok (.aload_n 0, 1) := by decide +kernel
theorem dX4_parseLine_11 : decode cX4_parseLine 11 = .ok (.getfield 33, 3) := by decide +kernel
theorem dX4_parseLine_14 : decode cX4_parseLine 14 = .ok (.aload_n 0, 1) := by decide +kernel
theorem dX4_parseLine_15 : decode cX4_parseLine 15 = .ok (.getfield 15, 3) := by decide +kernel
theorem dX4_parseLine_18 : decode cX4_parseLine 18 = .ok (.if_icmp .lt 8, 3) := by decide +kernel
theorem dX4_parseLine_21 : decode cX4_parseLine 21 = .ok (.aload_n 0, 1) := by decide +kernel
theorem dX4_parseLine_22 : decode cX4_parseLine 22 = .ok (.iconst 1, 1) := by decide +kernel
theorem dX4_parseLine_23 : decode cX4_parseLine 23 = .ok (.putfield 36, 3) := by decide +kernel
theorem dX4_parseLine_26 : decode cX4_parseLine 26 = .ok (.iconst 0, 1) := by decide +kernel
theorem dX4_parseLine_27 : decode cX4_parseLine 27 = .ok (.istore_n 1, 1) := by decide +kernel
theorem dX4_parseLine_28 : decode cX4_parseLine 28 = .ok (.iload_n 1, 1) := by decide +kernel
theorem dX4_parseLine_29 : decode cX4_parseLine 29 = .ok (.bipush 110, 2) := by decide +kernel
theorem dX4_parseLine_31 : decode cX4_parseLine 31 = .ok (.if_icmp .ge 35, 3) := by decide +kernel
theorem dX4_parseLine_34 : decode cX4_parseLine 34 = .ok (.aload_n 0, 1) := by decide +kernel
theorem dX4_parseLine_35 : decode cX4_parseLine 35 = .ok (.getfield 36, 3) := by decide +kernel
theorem dX4_parseLine_38 : decode cX4_parseLine 38 = .ok (.ifCond .ne 28, 3) := by decide +kernel
theorem dX4_parseLine_41 : decode cX4_parseLine 41 = .ok (.aload_n 0, 1) := by decide +kernel
theorem dX4_parseLine_42 : decode cX4_parseLine 42 = .ok (.getfield 33, 3) := by decide +kernel
theorem dX4_parseLine_45 : decode cX4_parseLine 45 = .ok (.aload_n 0, 1) := by decide +kernel
theorem dX4_parseLine_46 : decode cX4_parseLine 46 = .ok (.getfield 15, 3) := by decide +kernel
theorem dX4_parseLine_49 : decode cX4_parseLine 49 = .ok (.if_icmp .ge 17, 3) := by decide +kernel
theorem dX4_parseLine_52 : decode cX4_parseLine 52 = .ok (.aload_n 0, 1) := by decide +kernel
theorem dX4_parseLine_53 : decode cX4_parseLine 53 = .ok (.aload_n 0, 1) := by decide +kernel
theorem dX4_parseLine_54 : decode cX4_parseLine 54 = .ok (.invokevirtual 67, 3) := by decide +kernel
theorem dX4_parseLine_57 : decode cX4_parseLine 57 = .ok (.invokevirtual 120, 3) := by decide +kernel
theorem dX4_parseLine_60 : decode cX4_parseLine 60 = .ok (.iinc 1 1, 3) := by decide +kernel
theorem dX4_parseLine_63 : decode cX4_parseLine 63 = .ok (.goto (-35), 3) := by decide +kernel
theorem dX4_parseLine_66 : decode cX4_parseLine 66 = .ok (.return_, 1) := by decide +kernel
theorem dX4_parseSign_0 : decode cX4_parseSign 0 = .ok (.bipush 7, 2) := by decide +kernel
theorem dX4_parseSign_2 : decode cX4_parseSign 2 = .ok (.istore_n 2, 1) := by decide +kernel
theorem dX4_parseSign_3 : decode cX4_parseSign 3 = .ok (.iload_n 1, 1) := by decide +kernel
theorem dX4_parseSign_4 : decode cX4_parseSign 4 = .ok (.bipush 48, 2) := by decide +kernel
theorem dX4_parseSign_6 : decode cX4_parseSign 6 = .ok (.isub, 1) := by decide +kernel
theorem dX4_parseSign_7 : decode cX4_parseSign 7 = .ok (.istore_n 3, 1) := by decide +kernel
theorem dX4_parseSign_8 : decode cX4_parseSign 8 = .ok (.iload_n 1, 1) := by decide +kernel
theorem dX4_parseSign_9 : decode cX4_parseSign 9 = .ok (.invokestatic 87, 3) := by decide +kernel
theorem dX4_parseSign_12 : decode cX4_parseSign 12 = .ok (.ifCond .eq 20, 3) := by decide +kernel
theorem dX4_parseSign_15 : decode cX4_parseSign 15 = .ok (.iload_n 1, 1) := by decide +kernel
theorem dX4_parseSign_16 : decode cX4_parseSign 16 = .ok (.bipush 97, 2) := by decide +kernel
theorem dX4_parseSign_18 : decode cX4_parseSign 18 = .ok (.isub, 1) := by decide +kernel
theorem dX4_parseSign_19 : decode cX4_parseSign 19 = .ok (.istore_n 2, 1) := by decide +kernel
theorem dX4_parseSign_20 : decode cX4_parseSign 20 = .ok (.aload_n 0, 1) := by decide +kernel
theorem dX4_parseSign_21 : decode cX4_parseSign 21 = .ok (.getfield 22, 3) := by decide +kernel
theorem dX4_parseSign_24 : decode cX4_parseSign 24 = .ok (.iload_n 2, 1) := by decide +kernel
theorem dX4_parseSign_25 : decode cX4_parseSign 25 = .ok (.invokevirtual 94, 3) := by decide +kernel
theorem dX4_parseSign_28 : decode cX4_parseSign 28 = .ok (.istore_n 3, 1) := by decide +kernel
theorem dX4_parseSign_29 : decode cX4_parseSign 29 = .ok (.goto 14, 3) := by decide +kernel
theorem dX4_parseSign_32 : decode cX4_parseSign 32 = .ok (.iload_n 1, 1) := by decide +kernel
theorem dX4_parseSign_33 : decode cX4_parseSign 33 = .ok (.bipush 46, 2) := by decide +kernel
theorem dX4_parseSign_35 : decode cX4_parseSign 35 = .ok (.if_icmp .ne 8, 3) := by decide +kernel
theorem dX4_parseSign_38 : decode cX4_parseSign 38 = .ok (.bipush 6, 2) := by decide +kernel
theorem dX4_parseSign_40 : decode cX4_parseSign 40 = .ok (.istore_n 2, 1) := by decide +kernel
theorem dX4_parseSign_41 : decode cX4_parseSign 41 = .ok (.iconst 1, 1) := by decide +kernel
theorem dX4_parseSign_42 : decode cX4_parseSign 42 = .ok (.istore_n 3, 1) := by decide +kernel
theorem dX4_parseSign_43 : decode cX4_parseSign 43 = .ok (.iload_n 3, 1) := by decide +kernel
theorem dX4_parseSign_44 : decode cX4_parseSign 44 = .ok (.iconst 1, 1) := by decide +kernel
theorem dX4_parseSign_45 : decode cX4_parseSign 45 = .ok (.if_icmp .lt 23, 3) := by decide +kernel
theorem dX4_parseSign_48 : decode cX4_parseSign 48 = .ok (.iload_n 3, 1) := by decide +kernel
theorem dX4_parseSign_49 : decode cX4_parseSign 49 = .ok (.bipush 9, 2) := by decide +kernel
theorem dX4_parseSign_51 : decode cX4_parseSign 51 = .ok (.if_icmp .gt 17, 3) := by decide +kernel
theorem dX4_parseSign_54 : decode cX4_parseSign 54 = .ok (.aload_n 0, 1) := by decide +kernel
theorem dX4_parseSign_55 : decode cX4_parseSign 55 = .ok (.getfield 29, 3) := by decide +kernel
theorem dX4_parseSign_58 : decode cX4_parseSign 58 = .ok (.getfield 46, 3) := by decide +kernel
theorem dX4_parseSign_61 : decode cX4_parseSign 61 = .ok (.iload_n 3, 1) := by decide +kernel
theorem dX4_parseSign_62 : decode cX4_parseSign 62 = .ok (.iadd, 1) := by decide +kernel
theorem dX4_parseSign_63 : decode cX4_parseSign 63 = .ok (.bipush 24, 2) := by decide +kernel
theorem dX4_parseSign_65 : decode cX4_parseSign 65 = .ok (.if_icmp .le 9, 3) := by decide +kernel
theorem dX4_parseSign_68 : decode cX4_parseSign 68 = .ok (.aload_n 0, 1) := by decide +kernel
theorem dX4_parseSign_69 : decode cX4_parseSign 69 = .ok (.iconst 1, 1) := by decide +kernel
theorem dX4_parseSign_70 : decode cX4_parseSign 70 = .ok (.putfield 36, 3) := by decide +kernel
theorem dX4_parseSign_73 : decode cX4_parseSign 73 = .ok (.return_, 1) := by decide +kernel
theorem dX4_parseSign_74 : decode cX4_parseSign 74 = .ok (.aload_n 0, 1) := by decide +kernel
theorem dX4_parseSign_75 : decode cX4_parseSign 75 = .ok (.getfield 29, 3) := by decide +kernel
theorem dX4_parseSign_78 : decode cX4_parseSign 78 = .ok (.getfield 46, 3) := by decide +kernel
theorem dX4_parseSign_81 : decode cX4_parseSign 81 = .ok (.istore 4, 2) := by decide +kernel
theorem dX4_parseSign_83 : decode cX4_parseSign 83 = .ok (.aload_n 0, 1) := by decide +kernel
theorem dX4_parseSign_84 : decode cX4_parseSign 84 = .ok (.getfield 29, 3) := by decide +kernel
theorem dX4_parseSign_87 : decode cX4_parseSign 87 = .ok (.iload 4, 2) := by decide +kernel
theorem dX4_parseSign_89 : decode cX4_parseSign 89 = .ok (.iload_n 3, 1) := by decide +kernel
theorem dX4_parseSign_90 : decode cX4_parseSign 90 = .ok (.iadd, 1) := by decide +kernel
theorem dX4_parseSign_91 : decode cX4_parseSign 91 = .ok (.putfield 46, 3) := by decide +kernel
theorem dX4_parseSign_94 : decode cX4_parseSign 94 = .ok (.iload_n 2, 1) := by decide +kernel
theorem dX4_parseSign_95 : decode cX4_parseSign 95 = .ok (.bipush 7, 2) := by decide +kernel
theorem dX4_parseSign_97 : decode cX4_parseSign 97 = .ok (.if_icmp .ne 16, 3) := by decide +kernel
theorem dX4_parseSign_100 : decode cX4_parseSign 100 = .ok (.aload_n 0, 1) := by decide +kernel
theorem dX4_parseSign_101 : decode cX4_parseSign 101 = .ok (.getfield 29, 3) := by decide +kernel
theorem dX4_parseSign_104 : decode cX4_parseSign 104 = .ok (.iload 4, 2) := by decide +kernel
theorem dX4_parseSign_106 : decode cX4_parseSign 106 = .ok (.iload_n 3, 1) := by decide +kernel
theorem dX4_parseSign_107 : decode cX4_parseSign 107 = .ok (.invokevirtual 124, 3) := by decide +kernel
theorem dX4_parseSign_110 : decode cX4_parseSign 110 = .ok (.goto 14, 3) := by decide +kernel
theorem dX4_parseSign_113 : decode cX4_parseSign 113 = .ok (.aload_n 0, 1) := by decide +kernel
theorem dX4_parseSign_114 : decode cX4_parseSign 114 = .ok (.getfield 29, 3) := by decide +kernel
theorem dX4_parseSign_117 : decode cX4_parseSign 117 = .ok (.iload 4, 2) := by decide +kernel
theorem dX4_parseSign_119 : decode cX4_parseSign 119 = .ok (.iload_n 2, 1) := by decide +kernel
theorem dX4_parseSign_120 : decode cX4_parseSign 120 = .ok (.iload_n 3, 1) := by decide +kernel
theorem dX4_parseSign_121 : decode cX4_parseSign 121 = .ok (.invokevirtual 128, 3) := by decide +kernel
theorem dX4_parseSign_124 : decode cX4_parseSign 124 = .ok (.aload_n 0, 1) := by decide +kernel
theorem dX4_parseSign_125 : decode cX4_parseSign 125 = .ok (.dup, 1) := by decide +kernel
theorem dX4_parseSign_126 : decode cX4_parseSign 126 = .ok (.getfield 33, 3) := by decide +kernel
theorem dX4_parseSign_129 : decode cX4_parseSign 129 = .ok (.iconst 1, 1) := by decide +kernel
theorem dX4_parseSign_130 : decode cX4_parseSign 130 = .ok (.iadd, 1) := by decide +kernel
theorem dX4_parseSign_131 : decode cX4_parseSign 131 = .ok (.putfield 33, 3) := by decide +kernel
theorem dX4_parseSign_134 : decode cX4_parseSign 134 = .ok (.return_, 1) := by decide +kernel
theorem dX4_peek_0 : decode cX4_peek 0 = .ok (.aload_n 0, 1) := by decide +kernel
theorem dX4_peek_1 : decode cX4_peek 1 = .ok (.getfield 33, 3) := by decide +kernel
theorem dX4_peek_4 : decode cX4_peek 4 = .ok (.ifCond .lt 35, 3) := by decide +kernel
theorem dX4_peek_7 : decode cX4_peek 7 = .ok (.aload_n 0, 1) := by decide +kernel
theorem dX4_peek_8 : decode cX4_peek 8 = .ok (.getfield 33, 3) := by decide +kernel
theorem dX4_peek_11 : decode cX4_peek 11 = .ok (.aload_n 0, 1) := by decide +kernel
theorem dX4_peek_12 : decode cX4_peek 12 = .ok (.getfield 15, 3) := by decide +kernel
theorem dX4_peek_15 : decode cX4_peek 15 = .ok (.if_icmp .ge 24, 3) := by decide +kernel
theorem dX4_peek_18 : decode cX4_peek 18 = .ok (.aload_n 0, 1) := by decide +kernel
theorem dX4_peek_19 : decode cX4_peek 19 = .ok (.getfield 33, 3) := by decide +kernel
theorem dX4_peek_22 : decode cX4_peek 22 = .ok (.bipush 110, 2) := by decide +kernel
theorem dX4_peek_24 : decode cX4_peek 24 = .ok (.if_icmp .ge 15, 3) := by decide +kernel
theorem dX4_peek_27 : decode cX4_peek 27 = .ok (.aload_n 0, 1) := by decide +kernel
theorem dX4_peek_28 : decode cX4_peek 28 = .ok (.getfield 9, 3) := by decide +kernel
theorem dX4_peek_31 : decode cX4_peek 31 = .ok (.aload_n 0, 1) := by decide +kernel
theorem dX4_peek_32 : decode cX4_peek 32 = .ok (.getfield 33, 3) := by decide +kernel
theorem dX4_peek_35 : decode cX4_peek 35 = .ok (.iaload, 1) := by decide +kernel
theorem dX4_peek_36 : decode cX4_peek 36 = .ok (.goto 5, 3) := by decide +kernel
theorem dX4_peek_39 : decode cX4_peek 39 = .ok (.bipush (-9), 2) := by decide +kernel
theorem dX4_peek_41 : decode cX4_peek 41 = .ok (.ireturn, 1) := by decide +kernel
theorem dX4_isLetter_0 : decode cX4_isLetter 0 = .ok (.iload_n 0, 1) := by decide +kernel
theorem dX4_isLetter_1 : decode cX4_isLetter 1 = .ok (.bipush 97, 2) := by decide +kernel
theorem dX4_isLetter_3 : decode cX4_isLetter 3 = .ok (.if_icmp .lt 13, 3) := by decide +kernel
theorem dX4_isLetter_6 : decode cX4_isLetter 6 = .ok (.iload_n 0, 1) := by decide +kernel
theorem dX4_isLetter_7 : decode cX4_isLetter 7 = .ok (.bipush 103, 2) := by decide +kernel
theorem dX4_isLetter_9 : decode cX4_isLetter 9 = .ok (.if_icmp .ge 7, 3) := by decide +kernel
theorem dX4_isLetter_12 : decode cX4_isLetter 12 = .ok (.iconst 1, 1) := by decide +kernel
end
section
theorem dX4_isLetter_13 : decode cX4_isLetter 13 = .ok (.goto 4, 3) := by decide +kernel
theorem dX4_isLetter_16 : decode cX4_isLetter 16 = .ok (.iconst 0, 1) := by decide +kernel
theorem dX4_isLetter_17 : decode cX4_isLetter 17 = .ok (.ireturn, 1) := by decide +kernel
theorem dX4_takeDigit_0 : decode cX4_takeDigit 0 = .ok (.aload_n 0, 1) := by decide +kernel
theorem dX4_takeDigit_1 : decode cX4_takeDigit 1 = .ok (.invokevirtual 67, 3) := by decide +kernel
theorem dX4_takeDigit_4 : decode cX4_takeDigit 4 = .ok (.bipush 48, 2) := by decide +kernel
theorem dX4_takeDigit_6 : decode cX4_takeDigit 6 = .ok (.isub, 1) := by decide +kernel
theorem dX4_takeDigit_7 : decode cX4_takeDigit 7 = .ok (.istore_n 3, 1) := by decide +kernel
theorem dX4_takeDigit_8 : decode cX4_takeDigit 8 = .ok (.aload_n 0, 1) := by decide +kernel
theorem dX4_takeDigit_9 : decode cX4_takeDigit 9 = .ok (.getfield 36, 3) := by decide +kernel
theorem dX4_takeDigit_12 : decode cX4_takeDigit 12 = .ok (.ifCond .ne 13, 3) := by decide +kernel
theorem dX4_takeDigit_15 : decode cX4_takeDigit 15 = .ok (.iload_n 3, 1) := by decide +kernel
theorem dX4_takeDigit_16 : decode cX4_takeDigit 16 = .ok (.iload_n 1, 1) := by decide +kernel
theorem dX4_takeDigit_17 : decode cX4_takeDigit 17 = .ok (.if_icmp .lt 8, 3) := by decide +kernel
theorem dX4_takeDigit_20 : decode cX4_takeDigit 20 = .ok (.iload_n 3, 1) := by decide +kernel
theorem dX4_takeDigit_21 : decode cX4_takeDigit 21 = .ok (.iload_n 2, 1) := by decide +kernel
theorem dX4_takeDigit_22 : decode cX4_takeDigit 22 = .ok (.if_icmp .le 10, 3) := by decide +kernel
theorem dX4_takeDigit_25 : decode cX4_takeDigit 25 = .ok (.aload_n 0, 1) := by decide +kernel
theorem dX4_takeDigit_26 : decode cX4_takeDigit 26 = .ok (.iconst 1, 1) := by decide +kernel
theorem dX4_takeDigit_27 : decode cX4_takeDigit 27 = .ok (.putfield 36, 3) := by decide +kernel
theorem dX4_takeDigit_30 : decode cX4_takeDigit 30 = .ok (.iload_n 1, 1) := by decide +kernel
theorem dX4_takeDigit_31 : decode cX4_takeDigit 31 = .ok (.ireturn, 1) := by decide +kernel
theorem dX4_takeDigit_32 : decode cX4_takeDigit 32 = .ok (.aload_n 0, 1) := by decide +kernel
theorem dX4_takeDigit_33 : decode cX4_takeDigit 33 = .ok (.dup, 1) := by decide +kernel
theorem dX4_takeDigit_34 : decode cX4_takeDigit 34 = .ok (.getfield 33, 3) := by decide +kernel
theorem dX4_takeDigit_37 : decode cX4_takeDigit 37 = .ok (.iconst 1, 1) := by decide +kernel
theorem dX4_takeDigit_38 : decode cX4_takeDigit 38 = .ok (.iadd, 1) := by decide +kernel
theorem dX4_takeDigit_39 : decode cX4_takeDigit 39 = .ok (.putfield 33, 3) := by decide +kernel
theorem dX4_takeDigit_42 : decode cX4_takeDigit 42 = .ok (.iload_n 3, 1) := by decide +kernel
theorem dX4_takeDigit_43 : decode cX4_takeDigit 43 = .ok (.ireturn, 1) := by decide +kernel
theorem dX4_refuseLast_0 : decode cX4_refuseLast 0 = .ok (.aload_n 0, 1) := by decide +kernel
theorem dX4_refuseLast_1 : decode cX4_refuseLast 1 = .ok (.iconst 1, 1) := by decide +kernel
theorem dX4_refuseLast_2 : decode cX4_refuseLast 2 = .ok (.putfield 36, 3) := by decide +kernel
theorem dX4_refuseLast_5 : decode cX4_refuseLast 5 = .ok (.aload_n 0, 1) := by decide +kernel
theorem dX4_refuseLast_6 : decode cX4_refuseLast 6 = .ok (.dup, 1) := by decide +kernel
theorem dX4_refuseLast_7 : decode cX4_refuseLast 7 = .ok (.getfield 33, 3) := by decide +kernel
theorem dX4_refuseLast_10 : decode cX4_refuseLast 10 = .ok (.iconst 1, 1) := by decide +kernel
theorem dX4_refuseLast_11 : decode cX4_refuseLast 11 = .ok (.isub, 1) := by decide +kernel
theorem dX4_refuseLast_12 : decode cX4_refuseLast 12 = .ok (.putfield 33, 3) := by decide +kernel
theorem dX4_refuseLast_15 : decode cX4_refuseLast 15 = .ok (.return_, 1) := by decide +kernel
theorem dX5_init_0 : decode cX5_init 0 = .ok (.aload_n 0, 1) := by decide +kernel
theorem dX5_init_1 : decode cX5_init 1 = .ok (.invokespecial 3, 3) := by decide +kernel
theorem dX5_init_4 : decode cX5_init 4 = .ok (.aload_n 0, 1) := by decide +kernel
theorem dX5_init_5 : decode cX5_init 5 = .ok (.bipush 6, 2) := by decide +kernel
theorem dX5_init_7 : decode cX5_init 7 = .ok (.newarray .int, 2) := by decide +kernel
theorem dX5_init_9 : decode cX5_init 9 = .ok (.putfield 9, 3) := by decide +kernel
theorem dX5_init_12 : decode cX5_init 12 = .ok (.aload_n 0, 1) := by decide +kernel
theorem dX5_init_13 : decode cX5_init 13 = .ok (.bipush 6, 2) := by decide +kernel
theorem dX5_init_15 : decode cX5_init 15 = .ok (.newarray .int, 2) := by decide +kernel
theorem dX5_init_17 : decode cX5_init 17 = .ok (.putfield 15, 3) := by decide +kernel
theorem dX5_init_20 : decode cX5_init 20 = .ok (.aload_n 0, 1) := by decide +kernel
theorem dX5_init_21 : decode cX5_init 21 = .ok (.bipush 6, 2) := by decide +kernel
theorem dX5_init_23 : decode cX5_init 23 = .ok (.newarray .boolean, 2) := by decide +kernel
theorem dX5_init_25 : decode cX5_init 25 = .ok (.putfield 18, 3) := by decide +kernel
theorem dX5_init_28 : decode cX5_init 28 = .ok (.aload_n 0, 1) := by decide +kernel
theorem dX5_init_29 : decode cX5_init 29 = .ok (.iconst 0, 1) := by decide +kernel
theorem dX5_init_30 : decode cX5_init 30 = .ok (.putfield 22, 3) := by decide +kernel
theorem dX5_init_33 : decode cX5_init 33 = .ok (.return_, 1) := by decide +kernel
theorem dX5_append_0 : decode cX5_append 0 = .ok (.aload_n 0, 1) := by decide +kernel
theorem dX5_append_1 : decode cX5_append 1 = .ok (.getfield 22, 3) := by decide +kernel
theorem dX5_append_4 : decode cX5_append 4 = .ok (.ifCond .lt 52, 3) := by decide +kernel
theorem dX5_append_7 : decode cX5_append 7 = .ok (.aload_n 0, 1) := by decide +kernel
theorem dX5_append_8 : decode cX5_append 8 = .ok (.getfield 22, 3) := by decide +kernel
theorem dX5_append_11 : decode cX5_append 11 = .ok (.bipush 6, 2) := by decide +kernel
theorem dX5_append_13 : decode cX5_append 13 = .ok (.if_icmp .ge 43, 3) := by decide +kernel
theorem dX5_append_16 : decode cX5_append 16 = .ok (.aload_n 0, 1) := by decide +kernel
theorem dX5_append_17 : decode cX5_append 17 = .ok (.getfield 9, 3) := by decide +kernel
theorem dX5_append_20 : decode cX5_append 20 = .ok (.aload_n 0, 1) := by decide +kernel
theorem dX5_append_21 : decode cX5_append 21 = .ok (.getfield 22, 3) := by decide +kernel
theorem dX5_append_24 : decode cX5_append 24 = .ok (.iload_n 1, 1) := by decide +kernel
theorem dX5_append_25 : decode cX5_append 25 = .ok (.iastore, 1) := by decide +kernel
theorem dX5_append_26 : decode cX5_append 26 = .ok (.aload_n 0, 1) := by decide +kernel
theorem dX5_append_27 : decode cX5_append 27 = .ok (.getfield 15, 3) := by decide +kernel
theorem dX5_append_30 : decode cX5_append 30 = .ok (.aload_n 0, 1) := by decide +kernel
theorem dX5_append_31 : decode cX5_append 31 = .ok (.getfield 22, 3) := by decide +kernel
theorem dX5_append_34 : decode cX5_append 34 = .ok (.iload_n 2, 1) := by decide +kernel
theorem dX5_append_35 : decode cX5_append 35 = .ok (.iastore, 1) := by decide +kernel
theorem dX5_append_36 : decode cX5_append 36 = .ok (.aload_n 0, 1) := by decide +kernel
theorem dX5_append_37 : decode cX5_append 37 = .ok (.getfield 18, 3) := by decide +kernel
theorem dX5_append_40 : decode cX5_append 40 = .ok (.aload_n 0, 1) := by decide +kernel
theorem dX5_append_41 : decode cX5_append 41 = .ok (.getfield 22, 3) := by decide +kernel
theorem dX5_append_44 : decode cX5_append 44 = .ok (.iload_n 3, 1) := by decide +kernel
theorem dX5_append_45 : decode cX5_append 45 = .ok (.bastore, 1) := by decide +kernel
theorem dX5_append_46 : decode cX5_append 46 = .ok (.aload_n 0, 1) := by decide +kernel
theorem dX5_append_47 : decode cX5_append 47 = .ok (.dup, 1) := by decide +kernel
theorem dX5_append_48 : decode cX5_append 48 = .ok (.getfield 22, 3) := by decide +kernel
theorem dX5_append_51 : decode cX5_append 51 = .ok (.iconst 1, 1) := by decide +kernel
theorem dX5_append_52 : decode cX5_append 52 = .ok (.iadd, 1) := by decide +kernel
theorem dX5_append_53 : decode cX5_append 53 = .ok (.putfield 22, 3) := by decide +kernel
theorem dX5_append_56 : decode cX5_append 56 = .ok (.return_, 1) := by decide +kernel
theorem dX6_init_0 : decode cX6_init 0 = .ok (.aload_n 0, 1) := by decide +kernel
theorem dX6_init_1 : decode cX6_init 1 = .ok (.invokespecial 3, 3) := by decide +kernel
theorem dX6_init_4 : decode cX6_init 4 = .ok (.aload_n 0, 1) := by decide +kernel
theorem dX6_init_5 : decode cX6_init 5 = .ok (.bipush 24, 2) := by decide +kernel
theorem dX6_init_7 : decode cX6_init 7 = .ok (.newarray .int, 2) := by decide +kernel
theorem dX6_init_9 : decode cX6_init 9 = .ok (.putfield 9, 3) := by decide +kernel
theorem dX6_init_12 : decode cX6_init 12 = .ok (.aload_n 0, 1) := by decide +kernel
theorem dX6_init_13 : decode cX6_init 13 = .ok (.bipush 9, 2) := by decide +kernel
theorem dX6_init_15 : decode cX6_init 15 = .ok (.newarray .int, 2) := by decide +kernel
theorem dX6_init_17 : decode cX6_init 17 = .ok (.putfield 15, 3) := by decide +kernel
theorem dX6_init_20 : decode cX6_init 20 = .ok (.aload_n 0, 1) := by decide +kernel
theorem dX6_init_21 : decode cX6_init 21 = .ok (.bipush 8, 2) := by decide +kernel
theorem dX6_init_23 : decode cX6_init 23 = .ok (.newarray .int, 2) := by decide +kernel
theorem dX6_init_25 : decode cX6_init 25 = .ok (.putfield 18, 3) := by decide +kernel
theorem dX6_init_28 : decode cX6_init 28 = .ok (.aload_n 0, 1) := by decide +kernel
theorem dX6_init_29 : decode cX6_init 29 = .ok (.iconst 0, 1) := by decide +kernel
theorem dX6_init_30 : decode cX6_init 30 = .ok (.putfield 21, 3) := by decide +kernel
theorem dX6_init_33 : decode cX6_init 33 = .ok (.aload_n 0, 1) := by decide +kernel
theorem dX6_init_34 : decode cX6_init 34 = .ok (.iconst 0, 1) := by decide +kernel
theorem dX6_init_35 : decode cX6_init 35 = .ok (.putfield 25, 3) := by decide +kernel
theorem dX6_init_38 : decode cX6_init 38 = .ok (.aload_n 0, 1) := by decide +kernel
theorem dX6_init_39 : decode cX6_init 39 = .ok (.getfield 15, 3) := by decide +kernel
theorem dX6_init_42 : decode cX6_init 42 = .ok (.iconst 1, 1) := by decide +kernel
theorem dX6_init_43 : decode cX6_init 43 = .ok (.invokestatic 28, 3) := by decide +kernel
theorem dX6_init_46 : decode cX6_init 46 = .ok (.return_, 1) := by decide +kernel
theorem dX6_copyFrom_0 : decode cX6_copyFrom 0 = .ok (.aload_n 1, 1) := by decide +kernel
theorem dX6_copyFrom_1 : decode cX6_copyFrom 1 = .ok (.getfield 9, 3) := by decide +kernel
theorem dX6_copyFrom_4 : decode cX6_copyFrom 4 = .ok (.iconst 0, 1) := by decide +kernel
theorem dX6_copyFrom_5 : decode cX6_copyFrom 5 = .ok (.aload_n 0, 1) := by decide +kernel
theorem dX6_copyFrom_6 : decode cX6_copyFrom 6 = .ok (.getfield 9, 3) := by decide +kernel
theorem dX6_copyFrom_9 : decode cX6_copyFrom 9 = .ok (.iconst 0, 1) := by decide +kernel
theorem dX6_copyFrom_10 : decode cX6_copyFrom 10 = .ok (.bipush 24, 2) := by decide +kernel
theorem dX6_copyFrom_12 : decode cX6_copyFrom 12 = .ok (.invokestatic 34, 3) := by decide +kernel
theorem dX6_copyFrom_15 : decode cX6_copyFrom 15 = .ok (.aload_n 1, 1) := by decide +kernel
theorem dX6_copyFrom_16 : decode cX6_copyFrom 16 = .ok (.getfield 15, 3) := by decide +kernel
theorem dX6_copyFrom_19 : decode cX6_copyFrom 19 = .ok (.iconst 0, 1) := by decide +kernel
theorem dX6_copyFrom_20 : decode cX6_copyFrom 20 = .ok (.aload_n 0, 1) := by decide +kernel
theorem dX6_copyFrom_21 : decode cX6_copyFrom 21 = .ok (.getfield 15, 3) := by decide +kernel
theorem dX6_copyFrom_24 : decode cX6_copyFrom 24 = .ok (.iconst 0, 1) := by decide +kernel
theorem dX6_copyFrom_25 : decode cX6_copyFrom 25 = .ok (.bipush 9, 2) := by decide +kernel
theorem dX6_copyFrom_27 : decode cX6_copyFrom 27 = .ok (.invokestatic 34, 3) := by decide +kernel
theorem dX6_copyFrom_30 : decode cX6_copyFrom 30 = .ok (.aload_n 1, 1) := by decide +kernel
theorem dX6_copyFrom_31 : decode cX6_copyFrom 31 = .ok (.getfield 18, 3) := by decide +kernel
theorem dX6_copyFrom_34 : decode cX6_copyFrom 34 = .ok (.iconst 0, 1) := by decide +kernel
theorem dX6_copyFrom_35 : decode cX6_copyFrom 35 = .ok (.aload_n 0, 1) := by decide +kernel
theorem dX6_copyFrom_36 : decode cX6_copyFrom 36 = .ok (.getfield 18, 3) := by decide +kernel
theorem dX6_copyFrom_39 : decode cX6_copyFrom 39 = .ok (.iconst 0, 1) := by decide +kernel
theorem dX6_copyFrom_40 : decode cX6_copyFrom 40 = .ok (.bipush 8, 2) := by decide +kernel
theorem dX6_copyFrom_42 : decode cX6_copyFrom 42 = .ok (.invokestatic 34, 3) := by decide +kernel
theorem dX6_copyFrom_45 : decode cX6_copyFrom 45 = .ok (.aload_n 0, 1) := by decide +kernel
theorem dX6_copyFrom_46 : decode cX6_copyFrom 46 = .ok (.aload_n 1, 1) := by decide +kernel
theorem dX6_copyFrom_47 : decode cX6_copyFrom 47 = .ok (.getfield 21, 3) := by decide +kernel
theorem dX6_copyFrom_50 : decode cX6_copyFrom 50 = .ok (.putfield 21, 3) := by decide +kernel
theorem dX6_copyFrom_53 : decode cX6_copyFrom 53 = .ok (.aload_n 0, 1) := by decide +kernel
theorem dX6_copyFrom_54 : decode cX6_copyFrom 54 = .ok (.aload_n 1, 1) := by decide +kernel
theorem dX6_copyFrom_55 : decode cX6_copyFrom 55 = .ok (.getfield 25, 3) := by decide +kernel
theorem dX6_copyFrom_58 : decode cX6_copyFrom 58 = .ok (.putfield 25, 3) := by decide +kernel
theorem dX6_copyFrom_61 : decode cX6_copyFrom 61 = .ok (.return_, 1) := by decide +kernel
theorem dX6_hasUnit_0 : decode cX6_hasUnit 0 = .ok (.iload_n 1, 1) := by decide +kernel
theorem dX6_hasUnit_1 : decode cX6_hasUnit 1 = .ok (.ifCond .lt 15, 3) := by decide +kernel
theorem dX6_hasUnit_4 : decode cX6_hasUnit 4 = .ok (.iload_n 1, 1) := by decide +kernel
theorem dX6_hasUnit_5 : decode cX6_hasUnit 5 = .ok (.aload_n 0, 1) := by decide +kernel
theorem dX6_hasUnit_6 : decode cX6_hasUnit 6 = .ok (.getfield 21, 3) := by decide +kernel
theorem dX6_hasUnit_9 : decode cX6_hasUnit 9 = .ok (.if_icmp .ge 7, 3) := by decide +kernel
theorem dX6_hasUnit_12 : decode cX6_hasUnit 12 = .ok (.iconst 1, 1) := by decide +kernel
theorem dX6_hasUnit_13 : decode cX6_hasUnit 13 = .ok (.goto 4, 3) := by decide +kernel
theorem dX6_hasUnit_16 : decode cX6_hasUnit 16 = .ok (.iconst 0, 1) := by decide +kernel
theorem dX6_hasUnit_17 : decode cX6_hasUnit 17 = .ok (.ireturn, 1) := by decide +kernel
theorem dX6_countGaps_0 : decode cX6_countGaps 0 = .ok (.iconst 0, 1) := by decide +kernel
theorem dX6_countGaps_1 : decode cX6_countGaps 1 = .ok (.istore_n 1, 1) := by decide +kernel
theorem dX6_countGaps_2 : decode cX6_countGaps 2 = .ok (.iconst 0, 1) := by decide +kernel
theorem dX6_countGaps_3 : decode cX6_countGaps 3 = .ok (.istore_n 2, 1) := by decide +kernel
theorem dX6_countGaps_4 : decode cX6_countGaps 4 = .ok (.iload_n 2, 1) := by decide +kernel
theorem dX6_countGaps_5 : decode cX6_countGaps 5 = .ok (.aload_n 0, 1) := by decide +kernel
theorem dX6_countGaps_6 : decode cX6_countGaps 6 = .ok (.getfield 21, 3) := by decide +kernel
theorem dX6_countGaps_9 : decode cX6_countGaps 9 = .ok (.if_icmp .ge 23, 3) := by decide +kernel
theorem dX6_countGaps_12 : decode cX6_countGaps 12 = .ok (.aload_n 0, 1) := by decide +kernel
theorem dX6_countGaps_13 : decode cX6_countGaps 13 = .ok (.getfield 9, 3) := by decide +kernel
theorem dX6_countGaps_16 : decode cX6_countGaps 16 = .ok (.iload_n 2, 1) := by decide +kernel
theorem dX6_countGaps_17 : decode cX6_countGaps 17 = .ok (.iaload, 1) := by decide +kernel
theorem dX6_countGaps_18 : decode cX6_countGaps 18 = .ok (.bipush 7, 2) := by decide +kernel
theorem dX6_countGaps_20 : decode cX6_countGaps 20 = .ok (.if_icmp .ne 6, 3) := by decide +kernel
theorem dX6_countGaps_23 : decode cX6_countGaps 23 = .ok (.iinc 1 1, 3) := by decide +kernel
theorem dX6_countGaps_26 : decode cX6_countGaps 26 = .ok (.iinc 2 1, 3) := by decide +kernel
theorem dX6_countGaps_29 : decode cX6_countGaps 29 = .ok (.goto (-25), 3) := by decide +kernel
theorem dX6_countGaps_32 : decode cX6_countGaps 32 = .ok (.iload_n 1, 1) := by decide +kernel
theorem dX6_countGaps_33 : decode cX6_countGaps 33 = .ok (.ireturn, 1) := by decide +kernel
theorem dX6_isFree_0 : decode cX6_isFree 0 = .ok (.iload_n 1, 1) := by decide +kernel
theorem dX6_isFree_1 : decode cX6_isFree 1 = .ok (.ifCond .lt 13, 3) := by decide +kernel
theorem dX6_isFree_4 : decode cX6_isFree 4 = .ok (.iload_n 1, 1) := by decide +kernel
theorem dX6_isFree_5 : decode cX6_isFree 5 = .ok (.iload_n 2, 1) := by decide +kernel
theorem dX6_isFree_6 : decode cX6_isFree 6 = .ok (.iadd, 1) := by decide +kernel
theorem dX6_isFree_7 : decode cX6_isFree 7 = .ok (.aload_n 0, 1) := by decide +kernel
theorem dX6_isFree_8 : decode cX6_isFree 8 = .ok (.getfield 21, 3) := by decide +kernel
theorem dX6_isFree_11 : decode cX6_isFree 11 = .ok (.if_icmp .le 5, 3) := by decide +kernel
theorem dX6_isFree_14 : decode cX6_isFree 14 = .ok (.iconst 0, 1) := by decide +kernel
theorem dX6_isFree_15 : decode cX6_isFree 15 = .ok (.ireturn, 1) := by decide +kernel
theorem dX6_isFree_16 : decode cX6_isFree 16 = .ok (.iconst 0, 1) := by decide +kernel
theorem dX6_isFree_17 : decode cX6_isFree 17 = .ok (.istore_n 3, 1) := by decide +kernel
theorem dX6_isFree_18 : decode cX6_isFree 18 = .ok (.iload_n 3, 1) := by decide +kernel
theorem dX6_isFree_19 : decode cX6_isFree 19 = .ok (.iload_n 2, 1) := by decide +kernel
theorem dX6_isFree_20 : decode cX6_isFree 20 = .ok (.if_icmp .ge 24, 3) := by decide +kernel
theorem dX6_isFree_23 : decode cX6_isFree 23 = .ok (.aload_n 0, 1) := by decide +kernel
theorem dX6_isFree_24 : decode cX6_isFree 24 = .ok (.getfield 9, 3) := by decide +kernel
theorem dX6_isFree_27 : decode cX6_isFree 27 = .ok (.iload_n 1, 1) := by decide +kernel
theorem dX6_isFree_28 : decode cX6_isFree 28 = .ok (.iload_n 3, 1) := by decide +kernel
theorem dX6_isFree_29 : decode cX6_isFree 29 = .ok (.iadd, 1) := by decide +kernel
theorem dX6_isFree_30 : decode cX6_isFree 30 = .ok (.iaload, 1) := by decide +kernel
theorem dX6_isFree_31 : decode cX6_isFree 31 = .ok (.bipush 7, 2) := by decide +kernel
theorem dX6_isFree_33 : decode cX6_isFree 33 = .ok (.if_icmp .eq 5, 3) := by decide +kernel
theorem dX6_isFree_36 : decode cX6_isFree 36 = .ok (.iconst 0, 1) := by decide +kernel
theorem dX6_isFree_37 : decode cX6_isFree 37 = .ok (.ireturn, 1) := by decide +kernel
theorem dX6_isFree_38 : decode cX6_isFree 38 = .ok (.iinc 3 1, 3) := by decide +kernel
theorem dX6_isFree_41 : decode cX6_isFree 41 = .ok (.goto (-23), 3) := by decide +kernel
theorem dX6_isFree_44 : decode cX6_isFree 44 = .ok (.iconst 1, 1) := by decide +kernel
theorem dX6_isFree_45 : decode cX6_isFree 45 = .ok (.ireturn, 1) := by decide +kernel
theorem dX6_putSign_0 : decode cX6_putSign 0 = .ok (.iconst 0, 1) := by decide +kernel
theorem dX6_putSign_1 : decode cX6_putSign 1 = .ok (.istore 4, 2) := by decide +kernel
theorem dX6_putSign_3 : decode cX6_putSign 3 = .ok (.iload 4, 2) := by decide +kernel
theorem dX6_putSign_5 : decode cX6_putSign 5 = .ok (.iload_n 3, 1) := by decide +kernel
theorem dX6_putSign_6 : decode cX6_putSign 6 = .ok (.if_icmp .ge 40, 3) := by decide +kernel
theorem dX6_putSign_9 : decode cX6_putSign 9 = .ok (.aload_n 0, 1) := by decide +kernel
theorem dX6_putSign_10 : decode cX6_putSign 10 = .ok (.iload_n 1, 1) := by decide +kernel
theorem dX6_putSign_11 : decode cX6_putSign 11 = .ok (.iload 4, 2) := by decide +kernel
theorem dX6_putSign_13 : decode cX6_putSign 13 = .ok (.iadd, 1) := by decide +kernel
theorem dX6_putSign_14 : decode cX6_putSign 14 = .ok (.invokevirtual 40, 3) := by decide +kernel
theorem dX6_putSign_17 : decode cX6_putSign 17 = .ok (.ifCond .eq 29, 3) := by decide +kernel
theorem dX6_putSign_20 : decode cX6_putSign 20 = .ok (.aload_n 0, 1) := by decide +kernel
theorem dX6_putSign_21 : decode cX6_putSign 21 = .ok (.getfield 9, 3) := by decide +kernel
theorem dX6_putSign_24 : decode cX6_putSign 24 = .ok (.iload_n 1, 1) := by decide +kernel
theorem dX6_putSign_25 : decode cX6_putSign 25 = .ok (.iload 4, 2) := by decide +kernel
theorem dX6_putSign_27 : decode cX6_putSign 27 = .ok (.iadd, 1) := by decide +kernel
theorem dX6_putSign_28 : decode cX6_putSign 28 = .ok (.iload 4, 2) := by decide +kernel
theorem dX6_putSign_30 : decode cX6_putSign 30 = .ok (.ifCond .ne 7, 3) := by decide +kernel
theorem dX6_putSign_33 : decode cX6_putSign 33 = .ok (.iload_n 2, 1) := by decide +kernel
theorem dX6_putSign_34 : decode cX6_putSign 34 = .ok (.goto 5, 3) := by decide +kernel
theorem dX6_putSign_37 : decode cX6_putSign 37 = .ok (.bipush 8, 2) := by decide +kernel
theorem dX6_putSign_39 : decode cX6_putSign 39 = .ok (.iastore, 1) := by decide +kernel
theorem dX6_putSign_40 : decode cX6_putSign 40 = .ok (.iinc 4 1, 3) := by decide +kernel
theorem dX6_putSign_43 : decode cX6_putSign 43 = .ok (.goto (-40), 3) := by decide +kernel
theorem dX6_putSign_46 : decode cX6_putSign 46 = .ok (.return_, 1) := by decide +kernel
theorem dX6_putGap_0 : decode cX6_putGap 0 = .ok (.iconst 0, 1) := by decide +kernel
theorem dX6_putGap_1 : decode cX6_putGap 1 = .ok (.istore_n 3, 1) := by decide +kernel
theorem dX6_putGap_2 : decode cX6_putGap 2 = .ok (.iload_n 3, 1) := by decide +kernel
theorem dX6_putGap_3 : decode cX6_putGap 3 = .ok (.iload_n 2, 1) := by decide +kernel
theorem dX6_putGap_4 : decode cX6_putGap 4 = .ok (.if_icmp .ge 29, 3) := by decide +kernel
theorem dX6_putGap_7 : decode cX6_putGap 7 = .ok (.aload_n 0, 1) := by decide +kernel
theorem dX6_putGap_8 : decode cX6_putGap 8 = .ok (.iload_n 1, 1) := by decide +kernel
theorem dX6_putGap_9 : decode cX6_putGap 9 = .ok (.iload_n 3, 1) := by decide +kernel
theorem dX6_putGap_10 : decode cX6_putGap 10 = .ok (.iadd, 1) := by decide +kernel
theorem dX6_putGap_11 : decode cX6_putGap 11 = .ok (.invokevirtual 40, 3) := by decide +kernel
theorem dX6_putGap_14 : decode cX6_putGap 14 = .ok (.ifCond .eq 19, 3) := by decide +kernel
theorem dX6_putGap_17 : decode cX6_putGap 17 = .ok (.aload_n 0, 1) := by decide +kernel
theorem dX6_putGap_18 : decode cX6_putGap 18 = .ok (.getfield 9, 3) := by decide +kernel
theorem dX6_putGap_21 : decode cX6_putGap 21 = .ok (.iload_n 1, 1) := by decide +kernel
theorem dX6_putGap_22 : decode cX6_putGap 22 = .ok (.iload_n 3, 1) := by decide +kernel
theorem dX6_putGap_23 : decode cX6_putGap 23 = .ok (.iadd, 1) := by decide +kernel
theorem dX6_putGap_24 : decode cX6_putGap 24 = .ok (.bipush 7, 2) := by decide +kernel
theorem dX6_putGap_26 : decode cX6_putGap 26 = .ok (.iastore, 1) := by decide +kernel
theorem dX6_putGap_27 : decode cX6_putGap 27 = .ok (.iinc 3 1, 3) := by decide +kernel
theorem dX6_putGap_30 : decode cX6_putGap 30 = .ok (.goto (-28), 3) := by decide +kernel
theorem dX6_putGap_33 : decode cX6_putGap 33 = .ok (.return_, 1) := by decide +kernel
theorem dX6_holdsBlank_0 : decode cX6_holdsBlank 0 = .ok (.aload_n 0, 1) := by decide +kernel
theorem dX6_holdsBlank_1 : decode cX6_holdsBlank 1 = .ok (.iload_n 1, 1) := by decide +kernel
theorem dX6_holdsBlank_2 : decode cX6_holdsBlank 2 = .ok (.invokevirtual 40, 3) := by decide +kernel
theorem dX6_holdsBlank_5 : decode cX6_holdsBlank 5 = .ok (.ifCond .eq 29, 3) := by decide +kernel
theorem dX6_holdsBlank_8 : decode cX6_holdsBlank 8 = .ok (.aload_n 0, 1) := by decide +kernel
theorem dX6_holdsBlank_9 : decode cX6_holdsBlank 9 = .ok (.getfield 9, 3) := by decide +kernel
theorem dX6_holdsBlank_12 : decode cX6_holdsBlank 12 = .ok (.iload_n 1, 1) := by decide +kernel
theorem dX6_holdsBlank_13 : decode cX6_holdsBlank 13 = .ok (.iaload, 1) := by decide +kernel
theorem dX6_holdsBlank_14 : decode cX6_holdsBlank 14 = .ok (.bipush 6, 2) := by decide +kernel
theorem dX6_holdsBlank_16 : decode cX6_holdsBlank 16 = .ok (.if_icmp .eq 14, 3) := by decide +kernel
theorem dX6_holdsBlank_19 : decode cX6_holdsBlank 19 = .ok (.aload_n 0, 1) := by decide +kernel
theorem dX6_holdsBlank_20 : decode cX6_holdsBlank 20 = .ok (.getfield 9, 3) := by decide +kernel
theorem dX6_holdsBlank_23 : decode cX6_holdsBlank 23 = .ok (.iload_n 1, 1) := by decide +kernel
theorem dX6_holdsBlank_24 : decode cX6_holdsBlank 24 = .ok (.iaload, 1) := by decide +kernel
theorem dX6_holdsBlank_25 : decode cX6_holdsBlank 25 = .ok (.bipush 7, 2) := by decide +kernel
theorem dX6_holdsBlank_27 : decode cX6_holdsBlank 27 = .ok (.if_icmp .ne 7, 3) := by decide +kernel
theorem dX6_holdsBlank_30 : decode cX6_holdsBlank 30 = .ok (.iconst 1, 1) := by decide +kernel
theorem dX6_holdsBlank_31 : decode cX6_holdsBlank 31 = .ok (.goto 4, 3) := by decide +kernel
theorem dX6_holdsBlank_34 : decode cX6_holdsBlank 34 = .ok (.iconst 0, 1) := by decide +kernel
theorem dX6_holdsBlank_35 : decode cX6_holdsBlank 35 = .ok (.ireturn, 1) := by decide +kernel
theorem dX6_holdsWord_0 : decode cX6_holdsWord 0 = .ok (.aload_n 1, 1) := by decide +kernel
theorem dX6_holdsWord_1 : decode cX6_holdsWord 1 = .ok (.iload_n 2, 1) := by decide +kernel
theorem dX6_holdsWord_2 : decode cX6_holdsWord 2 = .ok (.invokevirtual 44, 3) := by decide +kernel
theorem dX6_holdsWord_5 : decode cX6_holdsWord 5 = .ok (.ifCond .ne 5, 3) := by decide +kernel
theorem dX6_holdsWord_8 : decode cX6_holdsWord 8 = .ok (.iconst 0, 1) := by decide +kernel
theorem dX6_holdsWord_9 : decode cX6_holdsWord 9 = .ok (.ireturn, 1) := by decide +kernel
theorem dX6_holdsWord_10 : decode cX6_holdsWord 10 = .ok (.iload_n 3, 1) := by decide +kernel
theorem dX6_holdsWord_11 : decode cX6_holdsWord 11 = .ok (.istore 4, 2) := by decide +kernel
theorem dX6_holdsWord_13 : decode cX6_holdsWord 13 = .ok (.iconst 0, 1) := by decide +kernel
theorem dX6_holdsWord_14 : decode cX6_holdsWord 14 = .ok (.istore 5, 2) := by decide +kernel
theorem dX6_holdsWord_16 : decode cX6_holdsWord 16 = .ok (.iload 5, 2) := by decide +kernel
theorem dX6_holdsWord_18 : decode cX6_holdsWord 18 = .ok (.aload_n 1, 1) := by decide +kernel
theorem dX6_holdsWord_19 : decode cX6_holdsWord 19 = .ok (.getfield 49, 3) := by decide +kernel
theorem dX6_holdsWord_22 : decode cX6_holdsWord 22 = .ok (.iload_n 2, 1) := by decide +kernel
theorem dX6_holdsWord_23 : decode cX6_holdsWord 23 = .ok (.iaload, 1) := by decide +kernel
theorem dX6_holdsWord_24 : decode cX6_holdsWord 24 = .ok (.if_icmp .ge 79, 3) := by decide +kernel
theorem dX6_holdsWord_27 : decode cX6_holdsWord 27 = .ok (.aload_n 1, 1) := by decide +kernel
theorem dX6_holdsWord_28 : decode cX6_holdsWord 28 = .ok (.iload_n 2, 1) := by decide +kernel
theorem dX6_holdsWord_29 : decode cX6_holdsWord 29 = .ok (.iload 5, 2) := by decide +kernel
theorem dX6_holdsWord_31 : decode cX6_holdsWord 31 = .ok (.invokevirtual 52, 3) := by decide +kernel
theorem dX6_holdsWord_34 : decode cX6_holdsWord 34 = .ok (.istore 6, 2) := by decide +kernel
theorem dX6_holdsWord_36 : decode cX6_holdsWord 36 = .ok (.aload_n 1, 1) := by decide +kernel
theorem dX6_holdsWord_37 : decode cX6_holdsWord 37 = .ok (.iload 6, 2) := by decide +kernel
theorem dX6_holdsWord_39 : decode cX6_holdsWord 39 = .ok (.invokevirtual 56, 3) := by decide +kernel
theorem dX6_holdsWord_42 : decode cX6_holdsWord 42 = .ok (.istore 7, 2) := by decide +kernel
theorem dX6_holdsWord_44 : decode cX6_holdsWord 44 = .ok (.aload_n 0, 1) := by decide +kernel
theorem dX6_holdsWord_45 : decode cX6_holdsWord 45 = .ok (.iload 4, 2) := by decide +kernel
theorem dX6_holdsWord_47 : decode cX6_holdsWord 47 = .ok (.invokevirtual 40, 3) := by decide +kernel
theorem dX6_holdsWord_50 : decode cX6_holdsWord 50 = .ok (.ifCond .eq 19, 3) := by decide +kernel
theorem dX6_holdsWord_53 : decode cX6_holdsWord 53 = .ok (.aload_n 0, 1) := by decide +kernel
theorem dX6_holdsWord_54 : decode cX6_holdsWord 54 = .ok (.getfield 9, 3) := by decide +kernel
theorem dX6_holdsWord_57 : decode cX6_holdsWord 57 = .ok (.iload 4, 2) := by decide +kernel
theorem dX6_holdsWord_59 : decode cX6_holdsWord 59 = .ok (.iaload, 1) := by decide +kernel
theorem dX6_holdsWord_60 : decode cX6_holdsWord 60 = .ok (.iload 6, 2) := by decide +kernel
theorem dX6_holdsWord_62 : decode cX6_holdsWord 62 = .ok (.if_icmp .ne 7, 3) := by decide +kernel
theorem dX6_holdsWord_65 : decode cX6_holdsWord 65 = .ok (.iconst 1, 1) := by decide +kernel
theorem dX6_holdsWord_66 : decode cX6_holdsWord 66 = .ok (.goto 4, 3) := by decide +kernel
theorem dX6_holdsWord_69 : decode cX6_holdsWord 69 = .ok (.iconst 0, 1) := by decide +kernel
theorem dX6_holdsWord_70 : decode cX6_holdsWord 70 = .ok (.istore 8, 2) := by decide +kernel
theorem dX6_holdsWord_72 : decode cX6_holdsWord 72 = .ok (.iload 8, 2) := by decide +kernel
theorem dX6_holdsWord_74 : decode cX6_holdsWord 74 = .ok (.ifCond .ne 16, 3) := by decide +kernel
theorem dX6_holdsWord_77 : decode cX6_holdsWord 77 = .ok (.aload_n 0, 1) := by decide +kernel
theorem dX6_holdsWord_78 : decode cX6_holdsWord 78 = .ok (.iload 4, 2) := by decide +kernel
theorem dX6_holdsWord_80 : decode cX6_holdsWord 80 = .ok (.iload 7, 2) := by decide +kernel
theorem dX6_holdsWord_82 : decode cX6_holdsWord 82 = .ok (.invokevirtual 60, 3) := by decide +kernel
theorem dX6_holdsWord_85 : decode cX6_holdsWord 85 = .ok (.ifCond .ne 5, 3) := by decide +kernel
theorem dX6_holdsWord_88 : decode cX6_holdsWord 88 = .ok (.iconst 0, 1) := by decide +kernel
theorem dX6_holdsWord_89 : decode cX6_holdsWord 89 = .ok (.ireturn, 1) := by decide +kernel
theorem dX6_holdsWord_90 : decode cX6_holdsWord 90 = .ok (.iload 4, 2) := by decide +kernel
theorem dX6_holdsWord_92 : decode cX6_holdsWord 92 = .ok (.iload 7, 2) := by decide +kernel
theorem dX6_holdsWord_94 : decode cX6_holdsWord 94 = .ok (.iadd, 1) := by decide +kernel
theorem dX6_holdsWord_95 : decode cX6_holdsWord 95 = .ok (.istore 4, 2) := by decide +kernel
theorem dX6_holdsWord_97 : decode cX6_holdsWord 97 = .ok (.iinc 5 1, 3) := by decide +kernel
theorem dX6_holdsWord_100 : decode cX6_holdsWord 100 = .ok (.goto (-84), 3) := by decide +kernel
theorem dX6_holdsWord_103 : decode cX6_holdsWord 103 = .ok (.iconst 1, 1) := by decide +kernel
theorem dX6_holdsWord_104 : decode cX6_holdsWord 104 = .ok (.ireturn, 1) := by decide +kernel
theorem dX6_removeSign_0 : decode cX6_removeSign 0 = .ok (.aload_n 0, 1) := by decide +kernel
theorem dX6_removeSign_1 : decode cX6_removeSign 1 = .ok (.iload_n 2, 1) := by decide +kernel
theorem dX6_removeSign_2 : decode cX6_removeSign 2 = .ok (.invokevirtual 40, 3) := by decide +kernel
theorem dX6_removeSign_5 : decode cX6_removeSign 5 = .ok (.ifCond .ne 5, 3) := by decide +kernel
theorem dX6_removeSign_8 : decode cX6_removeSign 8 = .ok (.iconst (-1), 1) := by decide +kernel
theorem dX6_removeSign_9 : decode cX6_removeSign 9 = .ok (.ireturn, 1) := by decide +kernel
theorem dX6_removeSign_10 : decode cX6_removeSign 10 = .ok (.aload_n 0, 1) := by decide +kernel
theorem dX6_removeSign_11 : decode cX6_removeSign 11 = .ok (.getfield 9, 3) := by decide +kernel
theorem dX6_removeSign_14 : decode cX6_removeSign 14 = .ok (.iload_n 2, 1) := by decide +kernel
theorem dX6_removeSign_15 : decode cX6_removeSign 15 = .ok (.iaload, 1) := by decide +kernel
theorem dX6_removeSign_16 : decode cX6_removeSign 16 = .ok (.istore_n 3, 1) := by decide +kernel
theorem dX6_removeSign_17 : decode cX6_removeSign 17 = .ok (.iload_n 3, 1) := by decide +kernel
theorem dX6_removeSign_18 : decode cX6_removeSign 18 = .ok (.invokestatic 64, 3) := by decide +kernel
theorem dX6_removeSign_21 : decode cX6_removeSign 21 = .ok (.ifCond .ne 6, 3) := by decide +kernel
theorem dX6_removeSign_24 : decode cX6_removeSign 24 = .ok (.bipush (-3), 2) := by decide +kernel
theorem dX6_removeSign_26 : decode cX6_removeSign 26 = .ok (.ireturn, 1) := by decide +kernel
theorem dX6_removeSign_27 : decode cX6_removeSign 27 = .ok (.aload_n 0, 1) := by decide +kernel
theorem dX6_removeSign_28 : decode cX6_removeSign 28 = .ok (.iload_n 2, 1) := by decide +kernel
theorem dX6_removeSign_29 : decode cX6_removeSign 29 = .ok (.aload_n 1, 1) := by decide +kernel
theorem dX6_removeSign_30 : decode cX6_removeSign 30 = .ok (.iload_n 3, 1) := by decide +kernel
theorem dX6_removeSign_31 : decode cX6_removeSign 31 = .ok (.invokevirtual 56, 3) := by decide +kernel
theorem dX6_removeSign_34 : decode cX6_removeSign 34 = .ok (.invokevirtual 67, 3) := by decide +kernel
theorem dX6_removeSign_37 : decode cX6_removeSign 37 = .ok (.iload_n 3, 1) := by decide +kernel
theorem dX6_removeSign_38 : decode cX6_removeSign 38 = .ok (.ireturn, 1) := by decide +kernel
theorem dX6_insertSign_0 : decode cX6_insertSign 0 = .ok (.aload_n 0, 1) := by decide +kernel
theorem dX6_insertSign_1 : decode cX6_insertSign 1 = .ok (.iload_n 2, 1) := by decide +kernel
theorem dX6_insertSign_2 : decode cX6_insertSign 2 = .ok (.invokevirtual 40, 3) := by decide +kernel
theorem dX6_insertSign_5 : decode cX6_insertSign 5 = .ok (.ifCond .ne 5, 3) := by decide +kernel
theorem dX6_insertSign_8 : decode cX6_insertSign 8 = .ok (.iconst (-1), 1) := by decide +kernel
theorem dX6_insertSign_9 : decode cX6_insertSign 9 = .ok (.ireturn, 1) := by decide +kernel
theorem dX6_insertSign_10 : decode cX6_insertSign 10 = .ok (.iload_n 3, 1) := by decide +kernel
theorem dX6_insertSign_11 : decode cX6_insertSign 11 = .ok (.invokestatic 64, 3) := by decide +kernel
theorem dX6_insertSign_14 : decode cX6_insertSign 14 = .ok (.ifCond .ne 6, 3) := by decide +kernel
theorem dX6_insertSign_17 : decode cX6_insertSign 17 = .ok (.bipush (-2), 2) := by decide +kernel
theorem dX6_insertSign_19 : decode cX6_insertSign 19 = .ok (.ireturn, 1) := by decide +kernel
theorem dX6_insertSign_20 : decode cX6_insertSign 20 = .ok (.aload_n 1, 1) := by decide +kernel
theorem dX6_insertSign_21 : decode cX6_insertSign 21 = .ok (.iload_n 3, 1) := by decide +kernel
theorem dX6_insertSign_22 : decode cX6_insertSign 22 = .ok (.invokevirtual 56, 3) := by decide +kernel
theorem dX6_insertSign_25 : decode cX6_insertSign 25 = .ok (.istore 4, 2) := by decide +kernel
theorem dX6_insertSign_27 : decode cX6_insertSign 27 = .ok (.aload_n 0, 1) := by decide +kernel
theorem dX6_insertSign_28 : decode cX6_insertSign 28 = .ok (.iload_n 2, 1) := by decide +kernel
theorem dX6_insertSign_29 : decode cX6_insertSign 29 = .ok (.iload 4, 2) := by decide +kernel
theorem dX6_insertSign_31 : decode cX6_insertSign 31 = .ok (.invokevirtual 60, 3) := by decide +kernel
theorem dX6_insertSign_34 : decode cX6_insertSign 34 = .ok (.ifCond .ne 6, 3) := by decide +kernel
theorem dX6_insertSign_37 : decode cX6_insertSign 37 = .ok (.bipush (-3), 2) := by decide +kernel
theorem dX6_insertSign_39 : decode cX6_insertSign 39 = .ok (.ireturn, 1) := by decide +kernel
theorem dX6_insertSign_40 : decode cX6_insertSign 40 = .ok (.aload_n 0, 1) := by decide +kernel
theorem dX6_insertSign_41 : decode cX6_insertSign 41 = .ok (.iload_n 2, 1) := by decide +kernel
theorem dX6_insertSign_42 : decode cX6_insertSign 42 = .ok (.iload_n 3, 1) := by decide +kernel
theorem dX6_insertSign_43 : decode cX6_insertSign 43 = .ok (.iload 4, 2) := by decide +kernel
theorem dX6_insertSign_45 : decode cX6_insertSign 45 = .ok (.invokevirtual 71, 3) := by decide +kernel
theorem dX6_insertSign_48 : decode cX6_insertSign 48 = .ok (.aload_n 0, 1) := by decide +kernel
theorem dX6_insertSign_49 : decode cX6_insertSign 49 = .ok (.invokevirtual 75, 3) := by decide +kernel
theorem dX6_insertSign_52 : decode cX6_insertSign 52 = .ok (.ireturn, 1) := by decide +kernel
theorem dX6_flipWord_0 : decode cX6_flipWord 0 = .ok (.aload_n 1, 1) := by decide +kernel
theorem dX6_flipWord_1 : decode cX6_flipWord 1 = .ok (.iload_n 2, 1) := by decide +kernel
theorem dX6_flipWord_2 : decode cX6_flipWord 2 = .ok (.invokevirtual 44, 3) := by decide +kernel
theorem dX6_flipWord_5 : decode cX6_flipWord 5 = .ok (.ifCond .ne 5, 3) := by decide +kernel
theorem dX6_flipWord_8 : decode cX6_flipWord 8 = .ok (.iconst (-1), 1) := by decide +kernel
theorem dX6_flipWord_9 : decode cX6_flipWord 9 = .ok (.ireturn, 1) := by decide +kernel
theorem dX6_flipWord_10 : decode cX6_flipWord 10 = .ok (.aload_n 0, 1) := by decide +kernel
theorem dX6_flipWord_11 : decode cX6_flipWord 11 = .ok (.dup, 1) := by decide +kernel
theorem dX6_flipWord_12 : decode cX6_flipWord 12 = .ok (.getfield 25, 3) := by decide +kernel
theorem dX6_flipWord_15 : decode cX6_flipWord 15 = .ok (.iconst 1, 1) := by decide +kernel
theorem dX6_flipWord_16 : decode cX6_flipWord 16 = .ok (.iload_n 2, 1) := by decide +kernel
theorem dX6_flipWord_17 : decode cX6_flipWord 17 = .ok (.ishl, 1) := by decide +kernel
theorem dX6_flipWord_18 : decode cX6_flipWord 18 = .ok (.ixor, 1) := by decide +kernel
theorem dX6_flipWord_19 : decode cX6_flipWord 19 = .ok (.putfield 25, 3) := by decide +kernel
theorem dX6_flipWord_22 : decode cX6_flipWord 22 = .ok (.aload_n 0, 1) := by decide +kernel
theorem dX6_flipWord_23 : decode cX6_flipWord 23 = .ok (.getfield 25, 3) := by decide +kernel
theorem dX6_flipWord_26 : decode cX6_flipWord 26 = .ok (.iload_n 2, 1) := by decide +kernel
theorem dX6_flipWord_27 : decode cX6_flipWord 27 = .ok (.ishr, 1) := by decide +kernel
theorem dX6_flipWord_28 : decode cX6_flipWord 28 = .ok (.iconst 1, 1) := by decide +kernel
theorem dX6_flipWord_29 : decode cX6_flipWord 29 = .ok (.iand, 1) := by decide +kernel
theorem dX6_flipWord_30 : decode cX6_flipWord 30 = .ok (.ireturn, 1) := by decide +kernel
theorem dX6_changeRule_0 : decode cX6_changeRule 0 = .ok (.iload_n 1, 1) := by decide +kernel
theorem dX6_changeRule_1 : decode cX6_changeRule 1 = .ok (.invokestatic 79, 3) := by decide +kernel
theorem dX6_changeRule_4 : decode cX6_changeRule 4 = .ok (.ifCond .eq 19, 3) := by decide +kernel
theorem dX6_changeRule_7 : decode cX6_changeRule 7 = .ok (.iload_n 2, 1) := by decide +kernel
theorem dX6_changeRule_8 : decode cX6_changeRule 8 = .ok (.invokestatic 79, 3) := by decide +kernel
theorem dX6_changeRule_11 : decode cX6_changeRule 11 = .ok (.ifCond .eq 12, 3) := by decide +kernel
theorem dX6_changeRule_14 : decode cX6_changeRule 14 = .ok (.iload_n 3, 1) := by decide +kernel
theorem dX6_changeRule_15 : decode cX6_changeRule 15 = .ok (.ifCond .lt 8, 3) := by decide +kernel
theorem dX6_changeRule_18 : decode cX6_changeRule 18 = .ok (.iload_n 3, 1) := by decide +kernel
theorem dX6_changeRule_19 : decode cX6_changeRule 19 = .ok (.iconst 2, 1) := by decide +kernel
theorem dX6_changeRule_20 : decode cX6_changeRule 20 = .ok (.if_icmp .le 6, 3) := by decide +kernel
theorem dX6_changeRule_23 : decode cX6_changeRule 23 = .ok (.bipush (-2), 2) := by decide +kernel
theorem dX6_changeRule_25 : decode cX6_changeRule 25 = .ok (.ireturn, 1) := by decide +kernel
theorem dX6_changeRule_26 : decode cX6_changeRule 26 = .ok (.aload_n 0, 1) := by decide +kernel
theorem dX6_changeRule_27 : decode cX6_changeRule 27 = .ok (.getfield 15, 3) := by decide +kernel
theorem dX6_changeRule_30 : decode cX6_changeRule 30 = .ok (.iload_n 1, 1) := by decide +kernel
theorem dX6_changeRule_31 : decode cX6_changeRule 31 = .ok (.iconst 3, 1) := by decide +kernel
theorem dX6_changeRule_32 : decode cX6_changeRule 32 = .ok (.imul, 1) := by decide +kernel
theorem dX6_changeRule_33 : decode cX6_changeRule 33 = .ok (.iload_n 2, 1) := by decide +kernel
theorem dX6_changeRule_34 : decode cX6_changeRule 34 = .ok (.iadd, 1) := by decide +kernel
theorem dX6_changeRule_35 : decode cX6_changeRule 35 = .ok (.iaload, 1) := by decide +kernel
theorem dX6_changeRule_36 : decode cX6_changeRule 36 = .ok (.istore 4, 2) := by decide +kernel
theorem dX6_changeRule_38 : decode cX6_changeRule 38 = .ok (.aload_n 0, 1) := by decide +kernel
theorem dX6_changeRule_39 : decode cX6_changeRule 39 = .ok (.getfield 15, 3) := by decide +kernel
theorem dX6_changeRule_42 : decode cX6_changeRule 42 = .ok (.iload_n 1, 1) := by decide +kernel
theorem dX6_changeRule_43 : decode cX6_changeRule 43 = .ok (.iconst 3, 1) := by decide +kernel
theorem dX6_changeRule_44 : decode cX6_changeRule 44 = .ok (.imul, 1) := by decide +kernel
theorem dX6_changeRule_45 : decode cX6_changeRule 45 = .ok (.iload_n 2, 1) := by decide +kernel
theorem dX6_changeRule_46 : decode cX6_changeRule 46 = .ok (.iadd, 1) := by decide +kernel
theorem dX6_changeRule_47 : decode cX6_changeRule 47 = .ok (.iload_n 3, 1) := by decide +kernel
theorem dX6_changeRule_48 : decode cX6_changeRule 48 = .ok (.iastore, 1) := by decide +kernel
theorem dX6_changeRule_49 : decode cX6_changeRule 49 = .ok (.iload 4, 2) := by decide +kernel
theorem dX6_changeRule_51 : decode cX6_changeRule 51 = .ok (.ireturn, 1) := by decide +kernel
theorem dX7_init_0 : decode cX7_init 0 = .ok (.aload_n 0, 1) := by decide +kernel
theorem dX7_init_1 : decode cX7_init 1 = .ok (.invokespecial 3, 3) := by decide +kernel
theorem dX7_init_4 : decode cX7_init 4 = .ok (.aload_n 0, 1) := by decide +kernel
theorem dX7_init_5 : decode cX7_init 5 = .ok (.new 9, 3) := by decide +kernel
theorem dX7_init_8 : decode cX7_init 8 = .ok (.dup, 1) := by decide +kernel
theorem dX7_init_9 : decode cX7_init 9 = .ok (.invokespecial 11, 3) := by decide +kernel
theorem dX7_init_12 : decode cX7_init 12 = .ok (.putfield 12, 3) := by decide +kernel
theorem dX7_init_15 : decode cX7_init 15 = .ok (.aload_n 0, 1) := by decide +kernel
theorem dX7_init_16 : decode cX7_init 16 = .ok (.new 16, 3) := by decide +kernel
theorem dX7_init_19 : decode cX7_init 19 = .ok (.dup, 1) := by decide +kernel
theorem dX7_init_20 : decode cX7_init 20 = .ok (.invokespecial 18, 3) := by decide +kernel
theorem dX7_init_23 : decode cX7_init 23 = .ok (.putfield 19, 3) := by decide +kernel
theorem dX7_init_26 : decode cX7_init 26 = .ok (.aload_n 0, 1) := by decide +kernel
theorem dX7_init_27 : decode cX7_init 27 = .ok (.new 23, 3) := by decide +kernel
theorem dX7_init_30 : decode cX7_init 30 = .ok (.dup, 1) := by decide +kernel
theorem dX7_init_31 : decode cX7_init 31 = .ok (.invokespecial 25, 3) := by decide +kernel
theorem dX7_init_34 : decode cX7_init 34 = .ok (.putfield 26, 3) := by decide +kernel
theorem dX7_init_37 : decode cX7_init 37 = .ok (.aload_n 0, 1) := by decide +kernel
theorem dX7_init_38 : decode cX7_init 38 = .ok (.new 23, 3) := by decide +kernel
theorem dX7_init_41 : decode cX7_init 41 = .ok (.dup, 1) := by decide +kernel
theorem dX7_init_42 : decode cX7_init 42 = .ok (.invokespecial 25, 3) := by decide +kernel
theorem dX7_init_45 : decode cX7_init 45 = .ok (.putfield 30, 3) := by decide +kernel
theorem dX7_init_48 : decode cX7_init 48 = .ok (.aload_n 0, 1) := by decide +kernel
theorem dX7_init_49 : decode cX7_init 49 = .ok (.new 33, 3) := by decide +kernel
theorem dX7_init_52 : decode cX7_init 52 = .ok (.dup, 1) := by decide +kernel
theorem dX7_init_53 : decode cX7_init 53 = .ok (.invokespecial 35, 3) := by decide +kernel
theorem dX7_init_56 : decode cX7_init 56 = .ok (.putfield 36, 3) := by decide +kernel
theorem dX7_init_59 : decode cX7_init 59 = .ok (.aload_n 0, 1) := by decide +kernel
theorem dX7_init_60 : decode cX7_init 60 = .ok (.new 40, 3) := by decide +kernel
theorem dX7_init_63 : decode cX7_init 63 = .ok (.dup, 1) := by decide +kernel
theorem dX7_init_64 : decode cX7_init 64 = .ok (.invokespecial 42, 3) := by decide +kernel
theorem dX7_init_67 : decode cX7_init 67 = .ok (.putfield 43, 3) := by decide +kernel
theorem dX7_init_70 : decode cX7_init 70 = .ok (.aload_n 0, 1) := by decide +kernel
theorem dX7_init_71 : decode cX7_init 71 = .ok (.new 47, 3) := by decide +kernel
theorem dX7_init_74 : decode cX7_init 74 = .ok (.dup, 1) := by decide +kernel
theorem dX7_init_75 : decode cX7_init 75 = .ok (.invokespecial 49, 3) := by decide +kernel
theorem dX7_init_78 : decode cX7_init 78 = .ok (.putfield 50, 3) := by decide +kernel
theorem dX7_init_81 : decode cX7_init 81 = .ok (.aload_n 0, 1) := by decide +kernel
theorem dX7_init_82 : decode cX7_init 82 = .ok (.new 54, 3) := by decide +kernel
theorem dX7_init_85 : decode cX7_init 85 = .ok (.dup, 1) := by decide +kernel
theorem dX7_init_86 : decode cX7_init 86 = .ok (.invokespecial 56, 3) := by decide +kernel
theorem dX7_init_89 : decode cX7_init 89 = .ok (.putfield 57, 3) := by decide +kernel
theorem dX7_init_92 : decode cX7_init 92 = .ok (.aload_n 0, 1) := by decide +kernel
theorem dX7_init_93 : decode cX7_init 93 = .ok (.new 23, 3) := by decide +kernel
theorem dX7_init_96 : decode cX7_init 96 = .ok (.dup, 1) := by decide +kernel
theorem dX7_init_97 : decode cX7_init 97 = .ok (.invokespecial 25, 3) := by decide +kernel
theorem dX7_init_100 : decode cX7_init 100 = .ok (.putfield 61, 3) := by decide +kernel
theorem dX7_init_103 : decode cX7_init 103 = .ok (.aload_n 0, 1) := by decide +kernel
theorem dX7_init_104 : decode cX7_init 104 = .ok (.new 23, 3) := by decide +kernel
theorem dX7_init_107 : decode cX7_init 107 = .ok (.dup, 1) := by decide +kernel
theorem dX7_init_108 : decode cX7_init 108 = .ok (.invokespecial 25, 3) := by decide +kernel
theorem dX7_init_111 : decode cX7_init 111 = .ok (.putfield 64, 3) := by decide +kernel
theorem dX7_init_114 : decode cX7_init 114 = .ok (.aload_n 0, 1) := by decide +kernel
theorem dX7_init_115 : decode cX7_init 115 = .ok (.iconst 0, 1) := by decide +kernel
theorem dX7_init_116 : decode cX7_init 116 = .ok (.putfield 67, 3) := by decide +kernel
theorem dX7_init_119 : decode cX7_init 119 = .ok (.aload_n 0, 1) := by decide +kernel
theorem dX7_init_120 : decode cX7_init 120 = .ok (.iconst 0, 1) := by decide +kernel
theorem dX7_init_121 : decode cX7_init 121 = .ok (.putfield 71, 3) := by decide +kernel
theorem dX7_init_124 : decode cX7_init 124 = .ok (.aload_n 0, 1) := by decide +kernel
theorem dX7_init_125 : decode cX7_init 125 = .ok (.lconst 0, 1) := by decide +kernel
theorem dX7_init_126 : decode cX7_init 126 = .ok (.putfield 74, 3) := by decide +kernel
theorem dX7_init_129 : decode cX7_init 129 = .ok (.return_, 1) := by decide +kernel
theorem dX7_write_0 : decode cX7_write 0 = .ok (.iload_n 1, 1) := by decide +kernel
theorem dX7_write_1 : decode cX7_write 1 = .ok (.ifCond .lt 10, 3) := by decide +kernel
theorem dX7_write_4 : decode cX7_write 4 = .ok (.iload_n 1, 1) := by decide +kernel
theorem dX7_write_5 : decode cX7_write 5 = .ok (.sipush 255, 3) := by decide +kernel
theorem dX7_write_8 : decode cX7_write 8 = .ok (.if_icmp .le 6, 3) := by decide +kernel
theorem dX7_write_11 : decode cX7_write 11 = .ok (.bipush (-2), 2) := by decide +kernel
theorem dX7_write_13 : decode cX7_write 13 = .ok (.ireturn, 1) := by decide +kernel
theorem dX7_write_14 : decode cX7_write 14 = .ok (.aload_n 0, 1) := by decide +kernel
theorem dX7_write_15 : decode cX7_write 15 = .ok (.getfield 12, 3) := by decide +kernel
theorem dX7_write_18 : decode cX7_write 18 = .ok (.getfield 78, 3) := by decide +kernel
theorem dX7_write_21 : decode cX7_write 21 = .ok (.bipush 110, 2) := by decide +kernel
theorem dX7_write_23 : decode cX7_write 23 = .ok (.if_icmp .lt 6, 3) := by decide +kernel
theorem dX7_write_26 : decode cX7_write 26 = .ok (.bipush (-4), 2) := by decide +kernel
theorem dX7_write_28 : decode cX7_write 28 = .ok (.ireturn, 1) := by decide +kernel
theorem dX7_write_29 : decode cX7_write 29 = .ok (.aload_n 0, 1) := by decide +kernel
theorem dX7_write_30 : decode cX7_write 30 = .ok (.getfield 12, 3) := by decide +kernel
theorem dX7_write_33 : decode cX7_write 33 = .ok (.iload_n 1, 1) := by decide +kernel
theorem dX7_write_34 : decode cX7_write 34 = .ok (.invokevirtual 82, 3) := by decide +kernel
theorem dX7_write_37 : decode cX7_write 37 = .ok (.aload_n 0, 1) := by decide +kernel
theorem dX7_write_38 : decode cX7_write 38 = .ok (.getfield 12, 3) := by decide +kernel
theorem dX7_write_41 : decode cX7_write 41 = .ok (.getfield 78, 3) := by decide +kernel
theorem dX7_write_44 : decode cX7_write 44 = .ok (.ireturn, 1) := by decide +kernel
theorem dX7_wipe_0 : decode cX7_wipe 0 = .ok (.aload_n 0, 1) := by decide +kernel
theorem dX7_wipe_1 : decode cX7_wipe 1 = .ok (.getfield 12, 3) := by decide +kernel
theorem dX7_wipe_4 : decode cX7_wipe 4 = .ok (.getfield 78, 3) := by decide +kernel
theorem dX7_wipe_7 : decode cX7_wipe 7 = .ok (.istore_n 1, 1) := by decide +kernel
theorem dX7_wipe_8 : decode cX7_wipe 8 = .ok (.aload_n 0, 1) := by decide +kernel
theorem dX7_wipe_9 : decode cX7_wipe 9 = .ok (.getfield 12, 3) := by decide +kernel
theorem dX7_wipe_12 : decode cX7_wipe 12 = .ok (.iconst 0, 1) := by decide +kernel
theorem dX7_wipe_13 : decode cX7_wipe 13 = .ok (.putfield 78, 3) := by decide +kernel
theorem dX7_wipe_16 : decode cX7_wipe 16 = .ok (.iload_n 1, 1) := by decide +kernel
theorem dX7_wipe_17 : decode cX7_wipe 17 = .ok (.ireturn, 1) := by decide +kernel
theorem dX7_fault_0 : decode cX7_fault 0 = .ok (.aload_n 0, 1) := by decide +kernel
theorem dX7_fault_1 : decode cX7_fault 1 = .ok (.getfield 12, 3) := by decide +kernel
theorem dX7_fault_4 : decode cX7_fault 4 = .ok (.invokevirtual 86, 3) := by decide +kernel
theorem dX7_fault_7 : decode cX7_fault 7 = .ok (.ireturn, 1) := by decide +kernel
theorem dX7_stone_0 : decode cX7_stone 0 = .ok (.aload_n 0, 1) := by decide +kernel
theorem dX7_stone_1 : decode cX7_stone 1 = .ok (.getfield 12, 3) := by decide +kernel
theorem dX7_stone_4 : decode cX7_stone 4 = .ok (.invokevirtual 86, 3) := by decide +kernel
theorem dX7_stone_7 : decode cX7_stone 7 = .ok (.bipush (-9), 2) := by decide +kernel
theorem dX7_stone_9 : decode cX7_stone 9 = .ok (.if_icmp .eq 6, 3) := by decide +kernel
theorem dX7_stone_12 : decode cX7_stone 12 = .ok (.bipush (-3), 2) := by decide +kernel
theorem dX7_stone_14 : decode cX7_stone 14 = .ok (.ireturn, 1) := by decide +kernel
theorem dX7_stone_15 : decode cX7_stone 15 = .ok (.aload_n 0, 1) := by decide +kernel
theorem dX7_stone_16 : decode cX7_stone 16 = .ok (.getfield 19, 3) := by decide +kernel
theorem dX7_stone_19 : decode cX7_stone 19 = .ok (.aload_n 0, 1) := by decide +kernel
theorem dX7_stone_20 : decode cX7_stone 20 = .ok (.getfield 12, 3) := by decide +kernel
theorem dX7_stone_23 : decode cX7_stone 23 = .ok (.getfield 90, 3) := by decide +kernel
theorem dX7_stone_26 : decode cX7_stone 26 = .ok (.invokevirtual 91, 3) := by decide +kernel
theorem dX7_stone_29 : decode cX7_stone 29 = .ok (.aload_n 0, 1) := by decide +kernel
theorem dX7_stone_30 : decode cX7_stone 30 = .ok (.getfield 26, 3) := by decide +kernel
theorem dX7_stone_33 : decode cX7_stone 33 = .ok (.aload_n 0, 1) := by decide +kernel
theorem dX7_stone_34 : decode cX7_stone 34 = .ok (.getfield 12, 3) := by decide +kernel
theorem dX7_stone_37 : decode cX7_stone 37 = .ok (.getfield 95, 3) := by decide +kernel
theorem dX7_stone_40 : decode cX7_stone 40 = .ok (.invokevirtual 96, 3) := by decide +kernel
theorem dX7_stone_43 : decode cX7_stone 43 = .ok (.aload_n 0, 1) := by decide +kernel
theorem dX7_stone_44 : decode cX7_stone 44 = .ok (.getfield 36, 3) := by decide +kernel
theorem dX7_stone_47 : decode cX7_stone 47 = .ok (.invokevirtual 99, 3) := by decide +kernel
theorem dX7_stone_50 : decode cX7_stone 50 = .ok (.aload_n 0, 1) := by decide +kernel
theorem dX7_stone_51 : decode cX7_stone 51 = .ok (.iconst 0, 1) := by decide +kernel
theorem dX7_stone_52 : decode cX7_stone 52 = .ok (.putfield 67, 3) := by decide +kernel
theorem dX7_stone_55 : decode cX7_stone 55 = .ok (.aload_n 0, 1) := by decide +kernel
theorem dX7_stone_56 : decode cX7_stone 56 = .ok (.iconst 0, 1) := by decide +kernel
theorem dX7_stone_57 : decode cX7_stone 57 = .ok (.putfield 71, 3) := by decide +kernel
theorem dX7_stone_60 : decode cX7_stone 60 = .ok (.aload_n 0, 1) := by decide +kernel
theorem dX7_stone_61 : decode cX7_stone 61 = .ok (.getfield 26, 3) := by decide +kernel
theorem dX7_stone_64 : decode cX7_stone 64 = .ok (.getfield 102, 3) := by decide +kernel
theorem dX7_stone_67 : decode cX7_stone 67 = .ok (.ireturn, 1) := by decide +kernel
theorem dX7_word_0 : decode cX7_word 0 = .ok (.aload_n 0, 1) := by decide +kernel
theorem dX7_word_1 : decode cX7_word 1 = .ok (.getfield 19, 3) := by decide +kernel
theorem dX7_word_4 : decode cX7_word 4 = .ok (.iload_n 1, 1) := by decide +kernel
theorem dX7_word_5 : decode cX7_word 5 = .ok (.invokevirtual 105, 3) := by decide +kernel
theorem dX7_word_8 : decode cX7_word 8 = .ok (.ifCond .ne 5, 3) := by decide +kernel
theorem dX7_word_11 : decode cX7_word 11 = .ok (.iconst (-1), 1) := by decide +kernel
theorem dX7_word_12 : decode cX7_word 12 = .ok (.ireturn, 1) := by decide +kernel
theorem dX7_word_13 : decode cX7_word 13 = .ok (.iload_n 2, 1) := by decide +kernel
theorem dX7_word_14 : decode cX7_word 14 = .ok (.tableswitch 124 0 6 #[42, 52, 62, 72, 82, 92, 104], 42) := by decide +kernel
theorem dX7_word_56 : decode cX7_word 56 = .ok (.aload_n 0, 1) := by decide +kernel
theorem dX7_word_57 : decode cX7_word 57 = .ok (.getfield 19, 3) := by decide +kernel
theorem dX7_word_60 : decode cX7_word 60 = .ok (.getfield 109, 3) := by decide +kernel
theorem dX7_word_63 : decode cX7_word 63 = .ok (.iload_n 1, 1) := by decide +kernel
theorem dX7_word_64 : decode cX7_word 64 = .ok (.iaload, 1) := by decide +kernel
theorem dX7_word_65 : decode cX7_word 65 = .ok (.ireturn, 1) := by decide +kernel
theorem dX7_word_66 : decode cX7_word 66 = .ok (.aload_n 0, 1) := by decide +kernel
theorem dX7_word_67 : decode cX7_word 67 = .ok (.getfield 19, 3) := by decide +kernel
theorem dX7_word_70 : decode cX7_word 70 = .ok (.getfield 113, 3) := by decide +kernel
theorem dX7_word_73 : decode cX7_word 73 = .ok (.iload_n 1, 1) := by decide +kernel
theorem dX7_word_74 : decode cX7_word 74 = .ok (.iaload, 1) := by decide +kernel
theorem dX7_word_75 : decode cX7_word 75 = .ok (.ireturn, 1) := by decide +kernel
theorem dX7_word_76 : decode cX7_word 76 = .ok (.aload_n 0, 1) := by decide +kernel
theorem dX7_word_77 : decode cX7_word 77 = .ok (.getfield 19, 3) := by decide +kernel
theorem dX7_word_80 : decode cX7_word 80 = .ok (.getfield 116, 3) := by decide +kernel
theorem dX7_word_83 : decode cX7_word 83 = .ok (.iload_n 1, 1) := by decide +kernel
theorem dX7_word_84 : decode cX7_word 84 = .ok (.iaload, 1) := by decide +kernel
theorem dX7_word_85 : decode cX7_word 85 = .ok (.ireturn, 1) := by decide +kernel
theorem dX7_word_86 : decode cX7_word 86 = .ok (.aload_n 0, 1) := by decide +kernel
theorem dX7_word_87 : decode cX7_word 87 = .ok (.getfield 26, 3) := by decide +kernel
theorem dX7_word_90 : decode cX7_word 90 = .ok (.getfield 119, 3) := by decide +kernel
theorem dX7_word_93 : decode cX7_word 93 = .ok (.iload_n 1, 1) := by decide +kernel
theorem dX7_word_94 : decode cX7_word 94 = .ok (.iaload, 1) := by decide +kernel
theorem dX7_word_95 : decode cX7_word 95 = .ok (.ireturn, 1) := by decide +kernel
theorem dX7_word_96 : decode cX7_word 96 = .ok (.aload_n 0, 1) := by decide +kernel
theorem dX7_word_97 : decode cX7_word 97 = .ok (.getfield 19, 3) := by decide +kernel
theorem dX7_word_100 : decode cX7_word 100 = .ok (.getfield 122, 3) := by decide +kernel
theorem dX7_word_103 : decode cX7_word 103 = .ok (.iload_n 1, 1) := by decide +kernel
theorem dX7_word_104 : decode cX7_word 104 = .ok (.iaload, 1) := by decide +kernel
theorem dX7_word_105 : decode cX7_word 105 = .ok (.ireturn, 1) := by decide +kernel
theorem dX7_word_106 : decode cX7_word 106 = .ok (.aload_n 0, 1) := by decide +kernel
theorem dX7_word_107 : decode cX7_word 107 = .ok (.getfield 26, 3) := by decide +kernel
theorem dX7_word_110 : decode cX7_word 110 = .ok (.getfield 125, 3) := by decide +kernel
theorem dX7_word_113 : decode cX7_word 113 = .ok (.iload_n 1, 1) := by decide +kernel
theorem dX7_word_114 : decode cX7_word 114 = .ok (.ishr, 1) := by decide +kernel
theorem dX7_word_115 : decode cX7_word 115 = .ok (.iconst 1, 1) := by decide +kernel
theorem dX7_word_116 : decode cX7_word 116 = .ok (.iand, 1) := by decide +kernel
theorem dX7_word_117 : decode cX7_word 117 = .ok (.ireturn, 1) := by decide +kernel
theorem dX7_word_118 : decode cX7_word 118 = .ok (.aload_n 0, 1) := by decide +kernel
theorem dX7_word_119 : decode cX7_word 119 = .ok (.getfield 19, 3) := by decide +kernel
theorem dX7_word_122 : decode cX7_word 122 = .ok (.iload_n 1, 1) := by decide +kernel
theorem dX7_word_123 : decode cX7_word 123 = .ok (.aload_n 0, 1) := by decide +kernel
theorem dX7_word_124 : decode cX7_word 124 = .ok (.getfield 19, 3) := by decide +kernel
theorem dX7_word_127 : decode cX7_word 127 = .ok (.getfield 109, 3) := by decide +kernel
theorem dX7_word_130 : decode cX7_word 130 = .ok (.iload_n 1, 1) := by decide +kernel
theorem dX7_word_131 : decode cX7_word 131 = .ok (.iaload, 1) := by decide +kernel
theorem dX7_word_132 : decode cX7_word 132 = .ok (.iconst 1, 1) := by decide +kernel
theorem dX7_word_133 : decode cX7_word 133 = .ok (.isub, 1) := by decide +kernel
theorem dX7_word_134 : decode cX7_word 134 = .ok (.invokevirtual 128, 3) := by decide +kernel
theorem dX7_word_137 : decode cX7_word 137 = .ok (.ireturn, 1) := by decide +kernel
theorem dX7_word_138 : decode cX7_word 138 = .ok (.bipush (-2), 2) := by decide +kernel
theorem dX7_word_140 : decode cX7_word 140 = .ok (.ireturn, 1) := by decide +kernel
theorem dX7_line_0 : decode cX7_line 0 = .ok (.aload_n 0, 1) := by decide +kernel
theorem dX7_line_1 : decode cX7_line 1 = .ok (.getfield 26, 3) := by decide +kernel
theorem dX7_line_4 : decode cX7_line 4 = .ok (.iload_n 1, 1) := by decide +kernel
theorem dX7_line_5 : decode cX7_line 5 = .ok (.invokevirtual 132, 3) := by decide +kernel
theorem dX7_line_8 : decode cX7_line 8 = .ok (.ifCond .eq 15, 3) := by decide +kernel
theorem dX7_line_11 : decode cX7_line 11 = .ok (.aload_n 0, 1) := by decide +kernel
theorem dX7_line_12 : decode cX7_line 12 = .ok (.getfield 26, 3) := by decide +kernel
theorem dX7_line_15 : decode cX7_line 15 = .ok (.getfield 135, 3) := by decide +kernel
theorem dX7_line_18 : decode cX7_line 18 = .ok (.iload_n 1, 1) := by decide +kernel
theorem dX7_line_19 : decode cX7_line 19 = .ok (.iaload, 1) := by decide +kernel
theorem dX7_line_20 : decode cX7_line 20 = .ok (.goto 4, 3) := by decide +kernel
theorem dX7_line_23 : decode cX7_line 23 = .ok (.iconst (-1), 1) := by decide +kernel
theorem dX7_line_24 : decode cX7_line 24 = .ok (.ireturn, 1) := by decide +kernel
theorem dX7_rule_0 : decode cX7_rule 0 = .ok (.iload_n 1, 1) := by decide +kernel
theorem dX7_rule_1 : decode cX7_rule 1 = .ok (.invokestatic 138, 3) := by decide +kernel
theorem dX7_rule_4 : decode cX7_rule 4 = .ok (.ifCond .eq 26, 3) := by decide +kernel
theorem dX7_rule_7 : decode cX7_rule 7 = .ok (.iload_n 2, 1) := by decide +kernel
theorem dX7_rule_8 : decode cX7_rule 8 = .ok (.invokestatic 138, 3) := by decide +kernel
theorem dX7_rule_11 : decode cX7_rule 11 = .ok (.ifCond .eq 19, 3) := by decide +kernel
theorem dX7_rule_14 : decode cX7_rule 14 = .ok (.aload_n 0, 1) := by decide +kernel
theorem dX7_rule_15 : decode cX7_rule 15 = .ok (.getfield 26, 3) := by decide +kernel
theorem dX7_rule_18 : decode cX7_rule 18 = .ok (.getfield 141, 3) := by decide +kernel
theorem dX7_rule_21 : decode cX7_rule 21 = .ok (.iload_n 1, 1) := by decide +kernel
theorem dX7_rule_22 : decode cX7_rule 22 = .ok (.iconst 3, 1) := by decide +kernel
theorem dX7_rule_23 : decode cX7_rule 23 = .ok (.imul, 1) := by decide +kernel
theorem dX7_rule_24 : decode cX7_rule 24 = .ok (.iload_n 2, 1) := by decide +kernel
theorem dX7_rule_25 : decode cX7_rule 25 = .ok (.iadd, 1) := by decide +kernel
theorem dX7_rule_26 : decode cX7_rule 26 = .ok (.iaload, 1) := by decide +kernel
theorem dX7_rule_27 : decode cX7_rule 27 = .ok (.goto 5, 3) := by decide +kernel
theorem dX7_rule_30 : decode cX7_rule 30 = .ok (.bipush (-2), 2) := by decide +kernel
theorem dX7_rule_32 : decode cX7_rule 32 = .ok (.ireturn, 1) := by decide +kernel
theorem dX7_wear_0 : decode cX7_wear 0 = .ok (.aload_n 0, 1) := by decide +kernel
theorem dX7_wear_1 : decode cX7_wear 1 = .ok (.getfield 26, 3) := by decide +kernel
theorem dX7_wear_4 : decode cX7_wear 4 = .ok (.aload_n 0, 1) := by decide +kernel
theorem dX7_wear_5 : decode cX7_wear 5 = .ok (.getfield 19, 3) := by decide +kernel
theorem dX7_wear_8 : decode cX7_wear 8 = .ok (.iload_n 1, 1) := by decide +kernel
theorem dX7_wear_9 : decode cX7_wear 9 = .ok (.invokevirtual 144, 3) := by decide +kernel
theorem dX7_wear_12 : decode cX7_wear 12 = .ok (.istore_n 2, 1) := by decide +kernel
theorem dX7_wear_13 : decode cX7_wear 13 = .ok (.iload_n 2, 1) := by decide +kernel
theorem dX7_wear_14 : decode cX7_wear 14 = .ok (.ifCond .lt 13, 3) := by decide +kernel
theorem dX7_wear_17 : decode cX7_wear 17 = .ok (.aload_n 0, 1) := by decide +kernel
theorem dX7_wear_18 : decode cX7_wear 18 = .ok (.getfield 36, 3) := by decide +kernel
theorem dX7_wear_21 : decode cX7_wear 21 = .ok (.iconst 0, 1) := by decide +kernel
theorem dX7_wear_22 : decode cX7_wear 22 = .ok (.iload_n 1, 1) := by decide +kernel
theorem dX7_wear_23 : decode cX7_wear 23 = .ok (.iload_n 2, 1) := by decide +kernel
theorem dX7_wear_24 : decode cX7_wear 24 = .ok (.invokevirtual 148, 3) := by decide +kernel
theorem dX7_wear_27 : decode cX7_wear 27 = .ok (.iload_n 2, 1) := by decide +kernel
theorem dX7_wear_28 : decode cX7_wear 28 = .ok (.ireturn, 1) := by decide +kernel
theorem dX7_carve_0 : decode cX7_carve 0 = .ok (.aload_n 0, 1) := by decide +kernel
theorem dX7_carve_1 : decode cX7_carve 1 = .ok (.getfield 26, 3) := by decide +kernel
theorem dX7_carve_4 : decode cX7_carve 4 = .ok (.aload_n 0, 1) := by decide +kernel
theorem dX7_carve_5 : decode cX7_carve 5 = .ok (.getfield 19, 3) := by decide +kernel
theorem dX7_carve_8 : decode cX7_carve 8 = .ok (.iload_n 1, 1) := by decide +kernel
theorem dX7_carve_9 : decode cX7_carve 9 = .ok (.iload_n 2, 1) := by decide +kernel
theorem dX7_carve_10 : decode cX7_carve 10 = .ok (.invokevirtual 152, 3) := by decide +kernel
theorem dX7_carve_13 : decode cX7_carve 13 = .ok (.istore_n 3, 1) := by decide +kernel
theorem dX7_carve_14 : decode cX7_carve 14 = .ok (.iload_n 3, 1) := by decide +kernel
theorem dX7_carve_15 : decode cX7_carve 15 = .ok (.ifCond .lt 13, 3) := by decide +kernel
theorem dX7_carve_18 : decode cX7_carve 18 = .ok (.aload_n 0, 1) := by decide +kernel
theorem dX7_carve_19 : decode cX7_carve 19 = .ok (.getfield 36, 3) := by decide +kernel
theorem dX7_carve_22 : decode cX7_carve 22 = .ok (.iconst 1, 1) := by decide +kernel
theorem dX7_carve_23 : decode cX7_carve 23 = .ok (.iload_n 1, 1) := by decide +kernel
theorem dX7_carve_24 : decode cX7_carve 24 = .ok (.iload_n 2, 1) := by decide +kernel
theorem dX7_carve_25 : decode cX7_carve 25 = .ok (.invokevirtual 148, 3) := by decide +kernel
theorem dX7_carve_28 : decode cX7_carve 28 = .ok (.iload_n 3, 1) := by decide +kernel
theorem dX7_carve_29 : decode cX7_carve 29 = .ok (.ireturn, 1) := by decide +kernel
theorem dX7_bar_0 : decode cX7_bar 0 = .ok (.aload_n 0, 1) := by decide +kernel
theorem dX7_bar_1 : decode cX7_bar 1 = .ok (.getfield 26, 3) := by decide +kernel
theorem dX7_bar_4 : decode cX7_bar 4 = .ok (.aload_n 0, 1) := by decide +kernel
theorem dX7_bar_5 : decode cX7_bar 5 = .ok (.getfield 19, 3) := by decide +kernel
theorem dX7_bar_8 : decode cX7_bar 8 = .ok (.iload_n 1, 1) := by decide +kernel
theorem dX7_bar_9 : decode cX7_bar 9 = .ok (.invokevirtual 156, 3) := by decide +kernel
theorem dX7_bar_12 : decode cX7_bar 12 = .ok (.istore_n 2, 1) := by decide +kernel
theorem dX7_bar_13 : decode cX7_bar 13 = .ok (.iload_n 2, 1) := by decide +kernel
theorem dX7_bar_14 : decode cX7_bar 14 = .ok (.ifCond .lt 13, 3) := by decide +kernel
theorem dX7_bar_17 : decode cX7_bar 17 = .ok (.aload_n 0, 1) := by decide +kernel
theorem dX7_bar_18 : decode cX7_bar 18 = .ok (.getfield 36, 3) := by decide +kernel
theorem dX7_bar_21 : decode cX7_bar 21 = .ok (.iconst 2, 1) := by decide +kernel
theorem dX7_bar_22 : decode cX7_bar 22 = .ok (.iload_n 1, 1) := by decide +kernel
theorem dX7_bar_23 : decode cX7_bar 23 = .ok (.iconst 0, 1) := by decide +kernel
theorem dX7_bar_24 : decode cX7_bar 24 = .ok (.invokevirtual 148, 3) := by decide +kernel
theorem dX7_bar_27 : decode cX7_bar 27 = .ok (.iload_n 2, 1) := by decide +kernel
theorem dX7_bar_28 : decode cX7_bar 28 = .ok (.ireturn, 1) := by decide +kernel
theorem dX7_setRule_0 : decode cX7_setRule 0 = .ok (.aload_n 0, 1) := by decide +kernel
theorem dX7_setRule_1 : decode cX7_setRule 1 = .ok (.getfield 26, 3) := by decide +kernel
theorem dX7_setRule_4 : decode cX7_setRule 4 = .ok (.iload_n 1, 1) := by decide +kernel
theorem dX7_setRule_5 : decode cX7_setRule 5 = .ok (.iload_n 2, 1) := by decide +kernel
theorem dX7_setRule_6 : decode cX7_setRule 6 = .ok (.iload_n 3, 1) := by decide +kernel
theorem dX7_setRule_7 : decode cX7_setRule 7 = .ok (.invokevirtual 159, 3) := by decide +kernel
theorem dX7_setRule_10 : decode cX7_setRule 10 = .ok (.istore 4, 2) := by decide +kernel
theorem dX7_setRule_12 : decode cX7_setRule 12 = .ok (.iload 4, 2) := by decide +kernel
theorem dX7_setRule_14 : decode cX7_setRule 14 = .ok (.ifCond .lt 18, 3) := by decide +kernel
theorem dX7_setRule_17 : decode cX7_setRule 17 = .ok (.aload_n 0, 1) := by decide +kernel
theorem dX7_setRule_18 : decode cX7_setRule 18 = .ok (.getfield 36, 3) := by decide +kernel
theorem dX7_setRule_21 : decode cX7_setRule 21 = .ok (.iconst 3, 1) := by decide +kernel
theorem dX7_setRule_22 : decode cX7_setRule 22 = .ok (.iload_n 1, 1) := by decide +kernel
theorem dX7_setRule_23 : decode cX7_setRule 23 = .ok (.iconst 3, 1) := by decide +kernel
theorem dX7_setRule_24 : decode cX7_setRule 24 = .ok (.imul, 1) := by decide +kernel
theorem dX7_setRule_25 : decode cX7_setRule 25 = .ok (.iload_n 2, 1) := by decide +kernel
theorem dX7_setRule_26 : decode cX7_setRule 26 = .ok (.iadd, 1) := by decide +kernel
theorem dX7_setRule_27 : decode cX7_setRule 27 = .ok (.iload 4, 2) := by decide +kernel
theorem dX7_setRule_29 : decode cX7_setRule 29 = .ok (.invokevirtual 148, 3) := by decide +kernel
theorem dX7_setRule_32 : decode cX7_setRule 32 = .ok (.iload 4, 2) := by decide +kernel
theorem dX7_setRule_34 : decode cX7_setRule 34 = .ok (.ireturn, 1) := by decide +kernel
theorem dX7_weigh_0 : decode cX7_weigh 0 = .ok (.aload_n 0, 1) := by decide +kernel
theorem dX7_weigh_1 : decode cX7_weigh 1 = .ok (.getfield 19, 3) := by decide +kernel
theorem dX7_weigh_4 : decode cX7_weigh 4 = .ok (.iload_n 1, 1) := by decide +kernel
theorem dX7_weigh_5 : decode cX7_weigh 5 = .ok (.invokevirtual 105, 3) := by decide +kernel
theorem dX7_weigh_8 : decode cX7_weigh 8 = .ok (.ifCond .ne 5, 3) := by decide +kernel
theorem dX7_weigh_11 : decode cX7_weigh 11 = .ok (.iconst (-1), 1) := by decide +kernel
theorem dX7_weigh_12 : decode cX7_weigh 12 = .ok (.ireturn, 1) := by decide +kernel
theorem dX7_weigh_13 : decode cX7_weigh 13 = .ok (.iload_n 2, 1) := by decide +kernel
theorem dX7_weigh_14 : decode cX7_weigh 14 = .ok (.iconst 1, 1) := by decide +kernel
theorem dX7_weigh_15 : decode cX7_weigh 15 = .ok (.if_icmp .lt 9, 3) := by decide +kernel
theorem dX7_weigh_18 : decode cX7_weigh 18 = .ok (.iload_n 2, 1) := by decide +kernel
theorem dX7_weigh_19 : decode cX7_weigh 19 = .ok (.bipush 9, 2) := by decide +kernel
theorem dX7_weigh_21 : decode cX7_weigh 21 = .ok (.if_icmp .le 6, 3) := by decide +kernel
theorem dX7_weigh_24 : decode cX7_weigh 24 = .ok (.bipush (-2), 2) := by decide +kernel
theorem dX7_weigh_26 : decode cX7_weigh 26 = .ok (.ireturn, 1) := by decide +kernel
theorem dX7_weigh_27 : decode cX7_weigh 27 = .ok (.aload_n 0, 1) := by decide +kernel
theorem dX7_weigh_28 : decode cX7_weigh 28 = .ok (.getfield 26, 3) := by decide +kernel
theorem dX7_weigh_31 : decode cX7_weigh 31 = .ok (.getfield 119, 3) := by decide +kernel
theorem dX7_weigh_34 : decode cX7_weigh 34 = .ok (.iload_n 1, 1) := by decide +kernel
theorem dX7_weigh_35 : decode cX7_weigh 35 = .ok (.iaload, 1) := by decide +kernel
theorem dX7_weigh_36 : decode cX7_weigh 36 = .ok (.istore_n 3, 1) := by decide +kernel
theorem dX7_weigh_37 : decode cX7_weigh 37 = .ok (.aload_n 0, 1) := by decide +kernel
theorem dX7_weigh_38 : decode cX7_weigh 38 = .ok (.getfield 26, 3) := by decide +kernel
theorem dX7_weigh_41 : decode cX7_weigh 41 = .ok (.getfield 119, 3) := by decide +kernel
theorem dX7_weigh_44 : decode cX7_weigh 44 = .ok (.iload_n 1, 1) := by decide +kernel
theorem dX7_weigh_45 : decode cX7_weigh 45 = .ok (.iload_n 2, 1) := by decide +kernel
theorem dX7_weigh_46 : decode cX7_weigh 46 = .ok (.iastore, 1) := by decide +kernel
theorem dX7_weigh_47 : decode cX7_weigh 47 = .ok (.aload_n 0, 1) := by decide +kernel
theorem dX7_weigh_48 : decode cX7_weigh 48 = .ok (.getfield 36, 3) := by decide +kernel
theorem dX7_weigh_51 : decode cX7_weigh 51 = .ok (.iconst 4, 1) := by decide +kernel
theorem dX7_weigh_52 : decode cX7_weigh 52 = .ok (.iload_n 1, 1) := by decide +kernel
theorem dX7_weigh_53 : decode cX7_weigh 53 = .ok (.iload_n 3, 1) := by decide +kernel
theorem dX7_weigh_54 : decode cX7_weigh 54 = .ok (.invokevirtual 148, 3) := by decide +kernel
theorem dX7_weigh_57 : decode cX7_weigh 57 = .ok (.iload_n 3, 1) := by decide +kernel
theorem dX7_weigh_58 : decode cX7_weigh 58 = .ok (.ireturn, 1) := by decide +kernel
theorem dX7_undo_0 : decode cX7_undo 0 = .ok (.aload_n 0, 1) := by decide +kernel
theorem dX7_undo_1 : decode cX7_undo 1 = .ok (.getfield 36, 3) := by decide +kernel
theorem dX7_undo_4 : decode cX7_undo 4 = .ok (.getfield 163, 3) := by decide +kernel
theorem dX7_undo_7 : decode cX7_undo 7 = .ok (.ifCond .ne 6, 3) := by decide +kernel
theorem dX7_undo_10 : decode cX7_undo 10 = .ok (.bipush (-3), 2) := by decide +kernel
theorem dX7_undo_12 : decode cX7_undo 12 = .ok (.ireturn, 1) := by decide +kernel
theorem dX7_undo_13 : decode cX7_undo 13 = .ok (.aload_n 0, 1) := by decide +kernel
theorem dX7_undo_14 : decode cX7_undo 14 = .ok (.getfield 36, 3) := by decide +kernel
theorem dX7_undo_17 : decode cX7_undo 17 = .ok (.aload_n 0, 1) := by decide +kernel
theorem dX7_undo_18 : decode cX7_undo 18 = .ok (.getfield 19, 3) := by decide +kernel
theorem dX7_undo_21 : decode cX7_undo 21 = .ok (.aload_n 0, 1) := by decide +kernel
theorem dX7_undo_22 : decode cX7_undo 22 = .ok (.getfield 26, 3) := by decide +kernel
theorem dX7_undo_25 : decode cX7_undo 25 = .ok (.invokevirtual 166, 3) := by decide +kernel
theorem dX7_undo_28 : decode cX7_undo 28 = .ok (.aload_n 0, 1) := by decide +kernel
theorem dX7_undo_29 : decode cX7_undo 29 = .ok (.getfield 36, 3) := by decide +kernel
theorem dX7_undo_32 : decode cX7_undo 32 = .ok (.getfield 163, 3) := by decide +kernel
theorem dX7_undo_35 : decode cX7_undo 35 = .ok (.ireturn, 1) := by decide +kernel
theorem dX7_lies_0 : decode cX7_lies 0 = .ok (.aload_n 0, 1) := by decide +kernel
theorem dX7_lies_1 : decode cX7_lies 1 = .ok (.getfield 19, 3) := by decide +kernel
theorem dX7_lies_4 : decode cX7_lies 4 = .ok (.iload_n 1, 1) := by decide +kernel
theorem dX7_lies_5 : decode cX7_lies 5 = .ok (.invokevirtual 105, 3) := by decide +kernel
theorem dX7_lies_8 : decode cX7_lies 8 = .ok (.ifCond .eq 14, 3) := by decide +kernel
theorem dX7_lies_11 : decode cX7_lies 11 = .ok (.aload_n 0, 1) := by decide +kernel
theorem dX7_lies_12 : decode cX7_lies 12 = .ok (.getfield 26, 3) := by decide +kernel
theorem dX7_lies_15 : decode cX7_lies 15 = .ok (.iload_n 2, 1) := by decide +kernel
theorem dX7_lies_16 : decode cX7_lies 16 = .ok (.invokevirtual 132, 3) := by decide +kernel
theorem dX7_lies_19 : decode cX7_lies 19 = .ok (.ifCond .ne 5, 3) := by decide +kernel
theorem dX7_lies_22 : decode cX7_lies 22 = .ok (.iconst (-1), 1) := by decide +kernel
theorem dX7_lies_23 : decode cX7_lies 23 = .ok (.ireturn, 1) := by decide +kernel
theorem dX7_lies_24 : decode cX7_lies 24 = .ok (.aload_n 0, 1) := by decide +kernel
theorem dX7_lies_25 : decode cX7_lies 25 = .ok (.getfield 26, 3) := by decide +kernel
theorem dX7_lies_28 : decode cX7_lies 28 = .ok (.aload_n 0, 1) := by decide +kernel
theorem dX7_lies_29 : decode cX7_lies 29 = .ok (.getfield 19, 3) := by decide +kernel
theorem dX7_lies_32 : decode cX7_lies 32 = .ok (.iload_n 1, 1) := by decide +kernel
theorem dX7_lies_33 : decode cX7_lies 33 = .ok (.iload_n 2, 1) := by decide +kernel
theorem dX7_lies_34 : decode cX7_lies 34 = .ok (.invokevirtual 170, 3) := by decide +kernel
theorem dX7_lies_37 : decode cX7_lies 37 = .ok (.ifCond .eq 7, 3) := by decide +kernel
theorem dX7_lies_40 : decode cX7_lies 40 = .ok (.iconst 1, 1) := by decide +kernel
theorem dX7_lies_41 : decode cX7_lies 41 = .ok (.goto 4, 3) := by decide +kernel
theorem dX7_lies_44 : decode cX7_lies 44 = .ok (.iconst 0, 1) := by decide +kernel
theorem dX7_lies_45 : decode cX7_lies 45 = .ok (.ireturn, 1) := by decide +kernel
theorem dX7_readings_0 : decode cX7_readings 0 = .ok (.aload_n 0, 1) := by decide +kernel
theorem dX7_readings_1 : decode cX7_readings 1 = .ok (.getfield 50, 3) := by decide +kernel
theorem dX7_readings_4 : decode cX7_readings 4 = .ok (.aload_n 0, 1) := by decide +kernel
theorem dX7_readings_5 : decode cX7_readings 5 = .ok (.getfield 19, 3) := by decide +kernel
theorem dX7_readings_8 : decode cX7_readings 8 = .ok (.aload_n 0, 1) := by decide +kernel
theorem dX7_readings_9 : decode cX7_readings 9 = .ok (.getfield 26, 3) := by decide +kernel
theorem dX7_readings_12 : decode cX7_readings 12 = .ok (.invokevirtual 174, 3) := by decide +kernel
theorem dX7_readings_15 : decode cX7_readings 15 = .ok (.lreturn, 1) := by decide +kernel
theorem dX7_rank_0 : decode cX7_rank 0 = .ok (.iload_n 3, 1) := by decide +kernel
theorem dX7_rank_1 : decode cX7_rank 1 = .ok (.bipush (-2), 2) := by decide +kernel
theorem dX7_rank_3 : decode cX7_rank 3 = .ok (.if_icmp .ge 6, 3) := by decide +kernel
theorem dX7_rank_6 : decode cX7_rank 6 = .ok (.bipush (-2), 2) := by decide +kernel
theorem dX7_rank_8 : decode cX7_rank 8 = .ok (.ireturn, 1) := by decide +kernel
theorem dX7_rank_9 : decode cX7_rank 9 = .ok (.aload_n 0, 1) := by decide +kernel
theorem dX7_rank_10 : decode cX7_rank 10 = .ok (.getfield 50, 3) := by decide +kernel
theorem dX7_rank_13 : decode cX7_rank 13 = .ok (.aload_n 0, 1) := by decide +kernel
theorem dX7_rank_14 : decode cX7_rank 14 = .ok (.getfield 19, 3) := by decide +kernel
theorem dX7_rank_17 : decode cX7_rank 17 = .ok (.aload_n 0, 1) := by decide +kernel
theorem dX7_rank_18 : decode cX7_rank 18 = .ok (.getfield 26, 3) := by decide +kernel
theorem dX7_rank_21 : decode cX7_rank 21 = .ok (.invokevirtual 174, 3) := by decide +kernel
theorem dX7_rank_24 : decode cX7_rank 24 = .ok (.lstore 4, 2) := by decide +kernel
theorem dX7_rank_26 : decode cX7_rank 26 = .ok (.lload_n 1, 1) := by decide +kernel
theorem dX7_rank_27 : decode cX7_rank 27 = .ok (.lconst 0, 1) := by decide +kernel
theorem dX7_rank_28 : decode cX7_rank 28 = .ok (.lcmp, 1) := by decide +kernel
theorem dX7_rank_29 : decode cX7_rank 29 = .ok (.ifCond .lt 10, 3) := by decide +kernel
theorem dX7_rank_32 : decode cX7_rank 32 = .ok (.lload_n 1, 1) := by decide +kernel
theorem dX7_rank_33 : decode cX7_rank 33 = .ok (.lload 4, 2) := by decide +kernel
theorem dX7_rank_35 : decode cX7_rank 35 = .ok (.lcmp, 1) := by decide +kernel
theorem dX7_rank_36 : decode cX7_rank 36 = .ok (.ifCond .lt 6, 3) := by decide +kernel
theorem dX7_rank_39 : decode cX7_rank 39 = .ok (.bipush (-9), 2) := by decide +kernel
theorem dX7_rank_41 : decode cX7_rank 41 = .ok (.ireturn, 1) := by decide +kernel
theorem dX7_rank_42 : decode cX7_rank 42 = .ok (.aload_n 0, 1) := by decide +kernel
theorem dX7_rank_43 : decode cX7_rank 43 = .ok (.getfield 57, 3) := by decide +kernel
theorem dX7_rank_46 : decode cX7_rank 46 = .ok (.aload_n 0, 1) := by decide +kernel
theorem dX7_rank_47 : decode cX7_rank 47 = .ok (.getfield 50, 3) := by decide +kernel
theorem dX7_rank_50 : decode cX7_rank 50 = .ok (.aload_n 0, 1) := by decide +kernel
theorem dX7_rank_51 : decode cX7_rank 51 = .ok (.getfield 26, 3) := by decide +kernel
theorem dX7_rank_54 : decode cX7_rank 54 = .ok (.getfield 119, 3) := by decide +kernel
theorem dX7_rank_57 : decode cX7_rank 57 = .ok (.invokevirtual 178, 3) := by decide +kernel
theorem dX7_rank_60 : decode cX7_rank 60 = .ok (.aload_n 0, 1) := by decide +kernel
theorem dX7_rank_61 : decode cX7_rank 61 = .ok (.getfield 57, 3) := by decide +kernel
theorem dX7_rank_64 : decode cX7_rank 64 = .ok (.aload_n 0, 1) := by decide +kernel
theorem dX7_rank_65 : decode cX7_rank 65 = .ok (.getfield 50, 3) := by decide +kernel
theorem dX7_rank_68 : decode cX7_rank 68 = .ok (.lload_n 1, 1) := by decide +kernel
theorem dX7_rank_69 : decode cX7_rank 69 = .ok (.invokevirtual 182, 3) := by decide +kernel
theorem dX7_rank_72 : decode cX7_rank 72 = .ok (.iload_n 3, 1) := by decide +kernel
theorem dX7_rank_73 : decode cX7_rank 73 = .ok (.iconst (-1), 1) := by decide +kernel
theorem dX7_rank_74 : decode cX7_rank 74 = .ok (.if_icmp .ne 11, 3) := by decide +kernel
theorem dX7_rank_77 : decode cX7_rank 77 = .ok (.aload_n 0, 1) := by decide +kernel
theorem dX7_rank_78 : decode cX7_rank 78 = .ok (.getfield 57, 3) := by decide +kernel
theorem dX7_rank_81 : decode cX7_rank 81 = .ok (.getfield 186, 3) := by decide +kernel
theorem dX7_rank_84 : decode cX7_rank 84 = .ok (.ireturn, 1) := by decide +kernel
theorem dX7_rank_85 : decode cX7_rank 85 = .ok (.iload_n 3, 1) := by decide +kernel
theorem dX7_rank_86 : decode cX7_rank 86 = .ok (.bipush (-2), 2) := by decide +kernel
theorem dX7_rank_88 : decode cX7_rank 88 = .ok (.if_icmp .ne 11, 3) := by decide +kernel
theorem dX7_rank_91 : decode cX7_rank 91 = .ok (.aload_n 0, 1) := by decide +kernel
theorem dX7_rank_92 : decode cX7_rank 92 = .ok (.getfield 57, 3) := by decide +kernel
theorem dX7_rank_95 : decode cX7_rank 95 = .ok (.getfield 189, 3) := by decide +kernel
theorem dX7_rank_98 : decode cX7_rank 98 = .ok (.ireturn, 1) := by decide +kernel
theorem dX7_rank_99 : decode cX7_rank 99 = .ok (.iload_n 3, 1) := by decide +kernel
theorem dX7_rank_100 : decode cX7_rank 100 = .ok (.aload_n 0, 1) := by decide +kernel
theorem dX7_rank_101 : decode cX7_rank 101 = .ok (.getfield 57, 3) := by decide +kernel
theorem dX7_rank_104 : decode cX7_rank 104 = .ok (.getfield 189, 3) := by decide +kernel
theorem dX7_rank_107 : decode cX7_rank 107 = .ok (.if_icmp .ge 15, 3) := by decide +kernel
theorem dX7_rank_110 : decode cX7_rank 110 = .ok (.aload_n 0, 1) := by decide +kernel
theorem dX7_rank_111 : decode cX7_rank 111 = .ok (.getfield 57, 3) := by decide +kernel
theorem dX7_rank_114 : decode cX7_rank 114 = .ok (.getfield 190, 3) := by decide +kernel
theorem dX7_rank_117 : decode cX7_rank 117 = .ok (.iload_n 3, 1) := by decide +kernel
theorem dX7_rank_118 : decode cX7_rank 118 = .ok (.iaload, 1) := by decide +kernel
theorem dX7_rank_119 : decode cX7_rank 119 = .ok (.goto 5, 3) := by decide +kernel
theorem dX7_rank_122 : decode cX7_rank 122 = .ok (.bipush (-9), 2) := by decide +kernel
theorem dX7_rank_124 : decode cX7_rank 124 = .ok (.ireturn, 1) := by decide +kernel
theorem dX7_stands_0 : decode cX7_stands 0 = .ok (.aload_n 0, 1) := by decide +kernel
theorem dX7_stands_1 : decode cX7_stands 1 = .ok (.getfield 26, 3) := by decide +kernel
theorem dX7_stands_4 : decode cX7_stands 4 = .ok (.iload_n 1, 1) := by decide +kernel
theorem dX7_stands_5 : decode cX7_stands 5 = .ok (.invokevirtual 132, 3) := by decide +kernel
theorem dX7_stands_8 : decode cX7_stands 8 = .ok (.ifCond .ne 7, 3) := by decide +kernel
theorem dX7_stands_11 : decode cX7_stands 11 = .ok (.ldc2_w 193, 3) := by decide +kernel
theorem dX7_stands_14 : decode cX7_stands 14 = .ok (.lreturn, 1) := by decide +kernel
theorem dX7_stands_15 : decode cX7_stands 15 = .ok (.iload_n 2, 1) := by decide +kernel
theorem dX7_stands_16 : decode cX7_stands 16 = .ok (.invokestatic 195, 3) := by decide +kernel
theorem dX7_stands_19 : decode cX7_stands 19 = .ok (.ifCond .ne 7, 3) := by decide +kernel
theorem dX7_stands_22 : decode cX7_stands 22 = .ok (.ldc2_w 198, 3) := by decide +kernel
theorem dX7_stands_25 : decode cX7_stands 25 = .ok (.lreturn, 1) := by decide +kernel
theorem dX7_stands_26 : decode cX7_stands 26 = .ok (.aload_n 0, 1) := by decide +kernel
theorem dX7_stands_27 : decode cX7_stands 27 = .ok (.getfield 50, 3) := by decide +kernel
theorem dX7_stands_30 : decode cX7_stands 30 = .ok (.aload_n 0, 1) := by decide +kernel
theorem dX7_stands_31 : decode cX7_stands 31 = .ok (.getfield 19, 3) := by decide +kernel
theorem dX7_stands_34 : decode cX7_stands 34 = .ok (.aload_n 0, 1) := by decide +kernel
theorem dX7_stands_35 : decode cX7_stands 35 = .ok (.getfield 26, 3) := by decide +kernel
theorem dX7_stands_38 : decode cX7_stands 38 = .ok (.invokevirtual 174, 3) := by decide +kernel
theorem dX7_stands_41 : decode cX7_stands 41 = .ok (.pop2, 1) := by decide +kernel
theorem dX7_stands_42 : decode cX7_stands 42 = .ok (.aload_n 0, 1) := by decide +kernel
theorem dX7_stands_43 : decode cX7_stands 43 = .ok (.getfield 50, 3) := by decide +kernel
theorem dX7_stands_46 : decode cX7_stands 46 = .ok (.invokevirtual 200, 3) := by decide +kernel
theorem dX7_stands_49 : decode cX7_stands 49 = .ok (.aload_n 0, 1) := by decide +kernel
theorem dX7_stands_50 : decode cX7_stands 50 = .ok (.getfield 50, 3) := by decide +kernel
theorem dX7_stands_53 : decode cX7_stands 53 = .ok (.aload_n 0, 1) := by decide +kernel
theorem dX7_stands_54 : decode cX7_stands 54 = .ok (.getfield 19, 3) := by decide +kernel
theorem dX7_stands_57 : decode cX7_stands 57 = .ok (.iload_n 1, 1) := by decide +kernel
theorem dX7_stands_58 : decode cX7_stands 58 = .ok (.iload_n 2, 1) := by decide +kernel
theorem dX7_stands_59 : decode cX7_stands 59 = .ok (.invokevirtual 203, 3) := by decide +kernel
theorem dX7_stands_62 : decode cX7_stands 62 = .ok (.lreturn, 1) := by decide +kernel
theorem dX7_begins_0 : decode cX7_begins 0 = .ok (.aload_n 0, 1) := by decide +kernel
theorem dX7_begins_1 : decode cX7_begins 1 = .ok (.getfield 19, 3) := by decide +kernel
theorem dX7_begins_4 : decode cX7_begins 4 = .ok (.iload_n 1, 1) := by decide +kernel
theorem dX7_begins_5 : decode cX7_begins 5 = .ok (.invokevirtual 105, 3) := by decide +kernel
theorem dX7_begins_8 : decode cX7_begins 8 = .ok (.ifCond .eq 14, 3) := by decide +kernel
theorem dX7_begins_11 : decode cX7_begins 11 = .ok (.aload_n 0, 1) := by decide +kernel
theorem dX7_begins_12 : decode cX7_begins 12 = .ok (.getfield 26, 3) := by decide +kernel
theorem dX7_begins_15 : decode cX7_begins 15 = .ok (.iload_n 2, 1) := by decide +kernel
theorem dX7_begins_16 : decode cX7_begins 16 = .ok (.invokevirtual 132, 3) := by decide +kernel
theorem dX7_begins_19 : decode cX7_begins 19 = .ok (.ifCond .ne 7, 3) := by decide +kernel
theorem dX7_begins_22 : decode cX7_begins 22 = .ok (.ldc2_w 193, 3) := by decide +kernel
theorem dX7_begins_25 : decode cX7_begins 25 = .ok (.lreturn, 1) := by decide +kernel
theorem dX7_begins_26 : decode cX7_begins 26 = .ok (.aload_n 0, 1) := by decide +kernel
theorem dX7_begins_27 : decode cX7_begins 27 = .ok (.getfield 50, 3) := by decide +kernel
theorem dX7_begins_30 : decode cX7_begins 30 = .ok (.aload_n 0, 1) := by decide +kernel
theorem dX7_begins_31 : decode cX7_begins 31 = .ok (.getfield 19, 3) := by decide +kernel
theorem dX7_begins_34 : decode cX7_begins 34 = .ok (.aload_n 0, 1) := by decide +kernel
theorem dX7_begins_35 : decode cX7_begins 35 = .ok (.getfield 26, 3) := by decide +kernel
theorem dX7_begins_38 : decode cX7_begins 38 = .ok (.invokevirtual 174, 3) := by decide +kernel
theorem dX7_begins_41 : decode cX7_begins 41 = .ok (.pop2, 1) := by decide +kernel
theorem dX7_begins_42 : decode cX7_begins 42 = .ok (.aload_n 0, 1) := by decide +kernel
theorem dX7_begins_43 : decode cX7_begins 43 = .ok (.getfield 50, 3) := by decide +kernel
theorem dX7_begins_46 : decode cX7_begins 46 = .ok (.invokevirtual 200, 3) := by decide +kernel
theorem dX7_begins_49 : decode cX7_begins 49 = .ok (.aload_n 0, 1) := by decide +kernel
theorem dX7_begins_50 : decode cX7_begins 50 = .ok (.getfield 50, 3) := by decide +kernel
theorem dX7_begins_53 : decode cX7_begins 53 = .ok (.iload_n 2, 1) := by decide +kernel
theorem dX7_begins_54 : decode cX7_begins 54 = .ok (.iload_n 1, 1) := by decide +kernel
theorem dX7_begins_55 : decode cX7_begins 55 = .ok (.invokevirtual 207, 3) := by decide +kernel
theorem dX7_begins_58 : decode cX7_begins 58 = .ok (.lreturn, 1) := by decide +kernel
theorem dX7_sure_0 : decode cX7_sure 0 = .ok (.aload_n 0, 1) := by decide +kernel
theorem dX7_sure_1 : decode cX7_sure 1 = .ok (.getfield 26, 3) := by decide +kernel
theorem dX7_sure_4 : decode cX7_sure 4 = .ok (.iload_n 1, 1) := by decide +kernel
theorem dX7_sure_5 : decode cX7_sure 5 = .ok (.invokevirtual 132, 3) := by decide +kernel
theorem dX7_sure_8 : decode cX7_sure 8 = .ok (.ifCond .eq 15, 3) := by decide +kernel
theorem dX7_sure_11 : decode cX7_sure 11 = .ok (.aload_n 0, 1) := by decide +kernel
theorem dX7_sure_12 : decode cX7_sure 12 = .ok (.aload_n 0, 1) := by decide +kernel
theorem dX7_sure_13 : decode cX7_sure 13 = .ok (.getfield 26, 3) := by decide +kernel
theorem dX7_sure_16 : decode cX7_sure 16 = .ok (.iload_n 1, 1) := by decide +kernel
theorem dX7_sure_17 : decode cX7_sure 17 = .ok (.invokevirtual 211, 3) := by decide +kernel
theorem dX7_sure_20 : decode cX7_sure 20 = .ok (.goto 4, 3) := by decide +kernel
theorem dX7_sure_23 : decode cX7_sure 23 = .ok (.iconst (-1), 1) := by decide +kernel
theorem dX7_sure_24 : decode cX7_sure 24 = .ok (.ireturn, 1) := by decide +kernel
theorem dX7_certainSign_0 : decode cX7_certainSign 0 = .ok (.aload_n 0, 1) := by decide +kernel
theorem dX7_certainSign_1 : decode cX7_certainSign 1 = .ok (.getfield 50, 3) := by decide +kernel
theorem dX7_certainSign_4 : decode cX7_certainSign 4 = .ok (.aload_n 0, 1) := by decide +kernel
theorem dX7_certainSign_5 : decode cX7_certainSign 5 = .ok (.getfield 19, 3) := by decide +kernel
theorem dX7_certainSign_8 : decode cX7_certainSign 8 = .ok (.aload_n 1, 1) := by decide +kernel
theorem dX7_certainSign_9 : decode cX7_certainSign 9 = .ok (.invokevirtual 174, 3) := by decide +kernel
theorem dX7_certainSign_12 : decode cX7_certainSign 12 = .ok (.lstore_n 3, 1) := by decide +kernel
theorem dX7_certainSign_13 : decode cX7_certainSign 13 = .ok (.aload_n 0, 1) := by decide +kernel
theorem dX7_certainSign_14 : decode cX7_certainSign 14 = .ok (.getfield 50, 3) := by decide +kernel
theorem dX7_certainSign_17 : decode cX7_certainSign 17 = .ok (.invokevirtual 200, 3) := by decide +kernel
theorem dX7_certainSign_20 : decode cX7_certainSign 20 = .ok (.iconst 0, 1) := by decide +kernel
theorem dX7_certainSign_21 : decode cX7_certainSign 21 = .ok (.istore 5, 2) := by decide +kernel
theorem dX7_certainSign_23 : decode cX7_certainSign 23 = .ok (.iload 5, 2) := by decide +kernel
theorem dX7_certainSign_25 : decode cX7_certainSign 25 = .ok (.bipush 7, 2) := by decide +kernel
theorem dX7_certainSign_27 : decode cX7_certainSign 27 = .ok (.if_icmp .ge 37, 3) := by decide +kernel
theorem dX7_certainSign_30 : decode cX7_certainSign 30 = .ok (.lload_n 3, 1) := by decide +kernel
theorem dX7_certainSign_31 : decode cX7_certainSign 31 = .ok (.lconst 0, 1) := by decide +kernel
theorem dX7_certainSign_32 : decode cX7_certainSign 32 = .ok (.lcmp, 1) := by decide +kernel
theorem dX7_certainSign_33 : decode cX7_certainSign 33 = .ok (.ifCond .le 25, 3) := by decide +kernel
theorem dX7_certainSign_36 : decode cX7_certainSign 36 = .ok (.aload_n 0, 1) := by decide +kernel
theorem dX7_certainSign_37 : decode cX7_certainSign 37 = .ok (.getfield 50, 3) := by decide +kernel
theorem dX7_certainSign_40 : decode cX7_certainSign 40 = .ok (.aload_n 0, 1) := by decide +kernel
theorem dX7_certainSign_41 : decode cX7_certainSign 41 = .ok (.getfield 19, 3) := by decide +kernel
theorem dX7_certainSign_44 : decode cX7_certainSign 44 = .ok (.iload_n 2, 1) := by decide +kernel
theorem dX7_certainSign_45 : decode cX7_certainSign 45 = .ok (.iload 5, 2) := by decide +kernel
theorem dX7_certainSign_47 : decode cX7_certainSign 47 = .ok (.invokevirtual 203, 3) := by decide +kernel
theorem dX7_certainSign_50 : decode cX7_certainSign 50 = .ok (.lload_n 3, 1) := by decide +kernel
theorem dX7_certainSign_51 : decode cX7_certainSign 51 = .ok (.lcmp, 1) := by decide +kernel
theorem dX7_certainSign_52 : decode cX7_certainSign 52 = .ok (.ifCond .ne 6, 3) := by decide +kernel
theorem dX7_certainSign_55 : decode cX7_certainSign 55 = .ok (.iload 5, 2) := by decide +kernel
theorem dX7_certainSign_57 : decode cX7_certainSign 57 = .ok (.ireturn, 1) := by decide +kernel
theorem dX7_certainSign_58 : decode cX7_certainSign 58 = .ok (.iinc 5 1, 3) := by decide +kernel
theorem dX7_certainSign_61 : decode cX7_certainSign 61 = .ok (.goto (-38), 3) := by decide +kernel
theorem dX7_certainSign_64 : decode cX7_certainSign 64 = .ok (.bipush (-9), 2) := by decide +kernel
theorem dX7_certainSign_66 : decode cX7_certainSign 66 = .ok (.ireturn, 1) := by decide +kernel
theorem dX7_judge_0 : decode cX7_judge 0 = .ok (.iload_n 1, 1) := by decide +kernel
theorem dX7_judge_1 : decode cX7_judge 1 = .ok (.iconst 1, 1) := by decide +kernel
theorem dX7_judge_2 : decode cX7_judge 2 = .ok (.if_icmp .lt 14, 3) := by decide +kernel
theorem dX7_judge_5 : decode cX7_judge 5 = .ok (.iload_n 1, 1) := by decide +kernel
theorem dX7_judge_6 : decode cX7_judge 6 = .ok (.iconst 3, 1) := by decide +kernel
theorem dX7_judge_7 : decode cX7_judge 7 = .ok (.if_icmp .gt 9, 3) := by decide +kernel
theorem dX7_judge_10 : decode cX7_judge 10 = .ok (.lload_n 2, 1) := by decide +kernel
theorem dX7_judge_11 : decode cX7_judge 11 = .ok (.lconst 0, 1) := by decide +kernel
theorem dX7_judge_12 : decode cX7_judge 12 = .ok (.lcmp, 1) := by decide +kernel
theorem dX7_judge_13 : decode cX7_judge 13 = .ok (.ifCond .ge 6, 3) := by decide +kernel
theorem dX7_judge_16 : decode cX7_judge 16 = .ok (.bipush (-2), 2) := by decide +kernel
theorem dX7_judge_18 : decode cX7_judge 18 = .ok (.ireturn, 1) := by decide +kernel
theorem dX7_judge_19 : decode cX7_judge 19 = .ok (.lconst 1, 1) := by decide +kernel
theorem dX7_judge_20 : decode cX7_judge 20 = .ok (.lstore 4, 2) := by decide +kernel
theorem dX7_judge_22 : decode cX7_judge 22 = .ok (.iconst 1, 1) := by decide +kernel
theorem dX7_judge_23 : decode cX7_judge 23 = .ok (.istore 6, 2) := by decide +kernel
theorem dX7_judge_25 : decode cX7_judge 25 = .ok (.iload 6, 2) := by decide +kernel
theorem dX7_judge_27 : decode cX7_judge 27 = .ok (.iload_n 1, 1) := by decide +kernel
theorem dX7_judge_28 : decode cX7_judge 28 = .ok (.if_icmp .ge 17, 3) := by decide +kernel
theorem dX7_judge_31 : decode cX7_judge 31 = .ok (.lload 4, 2) := by decide +kernel
theorem dX7_judge_33 : decode cX7_judge 33 = .ok (.ldc2_w 215, 3) := by decide +kernel
theorem dX7_judge_36 : decode cX7_judge 36 = .ok (.lmul, 1) := by decide +kernel
theorem dX7_judge_37 : decode cX7_judge 37 = .ok (.lstore 4, 2) := by decide +kernel
theorem dX7_judge_39 : decode cX7_judge 39 = .ok (.iinc 6 1, 3) := by decide +kernel
theorem dX7_judge_42 : decode cX7_judge 42 = .ok (.goto (-17), 3) := by decide +kernel
theorem dX7_judge_45 : decode cX7_judge 45 = .ok (.lload_n 2, 1) := by decide +kernel
theorem dX7_judge_46 : decode cX7_judge 46 = .ok (.lload 4, 2) := by decide +kernel
theorem dX7_judge_48 : decode cX7_judge 48 = .ok (.ldiv, 1) := by decide +kernel
theorem dX7_judge_49 : decode cX7_judge 49 = .ok (.ldc2_w 215, 3) := by decide +kernel
theorem dX7_judge_52 : decode cX7_judge 52 = .ok (.lcmp, 1) := by decide +kernel
theorem dX7_judge_53 : decode cX7_judge 53 = .ok (.ifCond .lt 6, 3) := by decide +kernel
theorem dX7_judge_56 : decode cX7_judge 56 = .ok (.bipush (-2), 2) := by decide +kernel
theorem dX7_judge_58 : decode cX7_judge 58 = .ok (.ireturn, 1) := by decide +kernel
theorem dX7_judge_59 : decode cX7_judge 59 = .ok (.aload_n 0, 1) := by decide +kernel
theorem dX7_judge_60 : decode cX7_judge 60 = .ok (.getfield 30, 3) := by decide +kernel
theorem dX7_judge_63 : decode cX7_judge 63 = .ok (.aload_n 0, 1) := by decide +kernel
theorem dX7_judge_64 : decode cX7_judge 64 = .ok (.getfield 26, 3) := by decide +kernel
theorem dX7_judge_67 : decode cX7_judge 67 = .ok (.invokevirtual 96, 3) := by decide +kernel
theorem dX7_judge_70 : decode cX7_judge 70 = .ok (.lload_n 2, 1) := by decide +kernel
theorem dX7_judge_71 : decode cX7_judge 71 = .ok (.lstore 6, 2) := by decide +kernel
theorem dX7_judge_73 : decode cX7_judge 73 = .ok (.iconst 0, 1) := by decide +kernel
theorem dX7_judge_74 : decode cX7_judge 74 = .ok (.istore 8, 2) := by decide +kernel
theorem dX7_judge_76 : decode cX7_judge 76 = .ok (.iload 8, 2) := by decide +kernel
theorem dX7_judge_78 : decode cX7_judge 78 = .ok (.iload_n 1, 1) := by decide +kernel
theorem dX7_judge_79 : decode cX7_judge 79 = .ok (.if_icmp .ge 47, 3) := by decide +kernel
theorem dX7_judge_82 : decode cX7_judge 82 = .ok (.lload 4, 2) := by decide +kernel
theorem dX7_judge_84 : decode cX7_judge 84 = .ok (.lconst 0, 1) := by decide +kernel
theorem dX7_judge_85 : decode cX7_judge 85 = .ok (.lcmp, 1) := by decide +kernel
theorem dX7_judge_86 : decode cX7_judge 86 = .ok (.ifCond .le 40, 3) := by decide +kernel
theorem dX7_judge_89 : decode cX7_judge 89 = .ok (.aload_n 0, 1) := by decide +kernel
theorem dX7_judge_90 : decode cX7_judge 90 = .ok (.lload 6, 2) := by decide +kernel
theorem dX7_judge_92 : decode cX7_judge 92 = .ok (.lload 4, 2) := by decide +kernel
theorem dX7_judge_94 : decode cX7_judge 94 = .ok (.ldiv, 1) := by decide +kernel
theorem dX7_judge_95 : decode cX7_judge 95 = .ok (.l2i, 1) := by decide +kernel
theorem dX7_judge_96 : decode cX7_judge 96 = .ok (.invokevirtual 217, 3) := by decide +kernel
theorem dX7_judge_99 : decode cX7_judge 99 = .ok (.ifCond .ne 6, 3) := by decide +kernel
theorem dX7_judge_102 : decode cX7_judge 102 = .ok (.iload 8, 2) := by decide +kernel
theorem dX7_judge_104 : decode cX7_judge 104 = .ok (.ireturn, 1) := by decide +kernel
theorem dX7_judge_105 : decode cX7_judge 105 = .ok (.lload 6, 2) := by decide +kernel
theorem dX7_judge_107 : decode cX7_judge 107 = .ok (.lload 4, 2) := by decide +kernel
theorem dX7_judge_109 : decode cX7_judge 109 = .ok (.lrem, 1) := by decide +kernel
theorem dX7_judge_110 : decode cX7_judge 110 = .ok (.lstore 6, 2) := by decide +kernel
theorem dX7_judge_112 : decode cX7_judge 112 = .ok (.lload 4, 2) := by decide +kernel
theorem dX7_judge_114 : decode cX7_judge 114 = .ok (.ldc2_w 215, 3) := by decide +kernel
theorem dX7_judge_117 : decode cX7_judge 117 = .ok (.ldiv, 1) := by decide +kernel
theorem dX7_judge_118 : decode cX7_judge 118 = .ok (.lstore 4, 2) := by decide +kernel
theorem dX7_judge_120 : decode cX7_judge 120 = .ok (.iinc 8 1, 3) := by decide +kernel
theorem dX7_judge_123 : decode cX7_judge 123 = .ok (.goto (-47), 3) := by decide +kernel
theorem dX7_judge_126 : decode cX7_judge 126 = .ok (.bipush (-9), 2) := by decide +kernel
theorem dX7_judge_128 : decode cX7_judge 128 = .ok (.ireturn, 1) := by decide +kernel
theorem dX7_accepts_0 : decode cX7_accepts 0 = .ok (.iload_n 1, 1) := by decide +kernel
theorem dX7_accepts_1 : decode cX7_accepts 1 = .ok (.sipush 10000, 3) := by decide +kernel
theorem dX7_accepts_4 : decode cX7_accepts 4 = .ok (.idiv, 1) := by decide +kernel
theorem dX7_accepts_5 : decode cX7_accepts 5 = .ok (.istore_n 2, 1) := by decide +kernel
theorem dX7_accepts_6 : decode cX7_accepts 6 = .ok (.iload_n 1, 1) := by decide +kernel
theorem dX7_accepts_7 : decode cX7_accepts 7 = .ok (.sipush 1000, 3) := by decide +kernel
theorem dX7_accepts_10 : decode cX7_accepts 10 = .ok (.idiv, 1) := by decide +kernel
theorem dX7_accepts_11 : decode cX7_accepts 11 = .ok (.bipush 10, 2) := by decide +kernel
theorem dX7_accepts_13 : decode cX7_accepts 13 = .ok (.irem, 1) := by decide +kernel
theorem dX7_accepts_14 : decode cX7_accepts 14 = .ok (.istore_n 3, 1) := by decide +kernel
theorem dX7_accepts_15 : decode cX7_accepts 15 = .ok (.iload_n 1, 1) := by decide +kernel
theorem dX7_accepts_16 : decode cX7_accepts 16 = .ok (.bipush 100, 2) := by decide +kernel
theorem dX7_accepts_18 : decode cX7_accepts 18 = .ok (.idiv, 1) := by decide +kernel
theorem dX7_accepts_19 : decode cX7_accepts 19 = .ok (.bipush 10, 2) := by decide +kernel
theorem dX7_accepts_21 : decode cX7_accepts 21 = .ok (.irem, 1) := by decide +kernel
theorem dX7_accepts_22 : decode cX7_accepts 22 = .ok (.istore 4, 2) := by decide +kernel
theorem dX7_accepts_24 : decode cX7_accepts 24 = .ok (.iload_n 1, 1) := by decide +kernel
theorem dX7_accepts_25 : decode cX7_accepts 25 = .ok (.bipush 10, 2) := by decide +kernel
theorem dX7_accepts_27 : decode cX7_accepts 27 = .ok (.idiv, 1) := by decide +kernel
theorem dX7_accepts_28 : decode cX7_accepts 28 = .ok (.bipush 10, 2) := by decide +kernel
theorem dX7_accepts_30 : decode cX7_accepts 30 = .ok (.irem, 1) := by decide +kernel
theorem dX7_accepts_31 : decode cX7_accepts 31 = .ok (.istore 5, 2) := by decide +kernel
theorem dX7_accepts_33 : decode cX7_accepts 33 = .ok (.iload_n 1, 1) := by decide +kernel
theorem dX7_accepts_34 : decode cX7_accepts 34 = .ok (.bipush 10, 2) := by decide +kernel
theorem dX7_accepts_36 : decode cX7_accepts 36 = .ok (.irem, 1) := by decide +kernel
theorem dX7_accepts_37 : decode cX7_accepts 37 = .ok (.istore 6, 2) := by decide +kernel
theorem dX7_accepts_39 : decode cX7_accepts 39 = .ok (.iload_n 3, 1) := by decide +kernel
theorem dX7_accepts_40 : decode cX7_accepts 40 = .ok (.bipush 10, 2) := by decide +kernel
theorem dX7_accepts_42 : decode cX7_accepts 42 = .ok (.imul, 1) := by decide +kernel
theorem dX7_accepts_43 : decode cX7_accepts 43 = .ok (.iload 4, 2) := by decide +kernel
theorem dX7_accepts_45 : decode cX7_accepts 45 = .ok (.iadd, 1) := by decide +kernel
theorem dX7_accepts_46 : decode cX7_accepts 46 = .ok (.istore 7, 2) := by decide +kernel
theorem dX7_accepts_48 : decode cX7_accepts 48 = .ok (.iload 6, 2) := by decide +kernel
theorem dX7_accepts_50 : decode cX7_accepts 50 = .ok (.ifCond .eq 5, 3) := by decide +kernel
theorem dX7_accepts_53 : decode cX7_accepts 53 = .ok (.iconst 0, 1) := by decide +kernel
theorem dX7_accepts_54 : decode cX7_accepts 54 = .ok (.ireturn, 1) := by decide +kernel
theorem dX7_accepts_55 : decode cX7_accepts 55 = .ok (.iload_n 2, 1) := by decide +kernel
theorem dX7_accepts_56 : decode cX7_accepts 56 = .ok (.tableswitch 242 1 7 #[44, 71, 95, 126, 147, 168, 201], 44) := by decide +kernel
theorem dX7_accepts_100 : decode cX7_accepts 100 = .ok (.iload 5, 2) := by decide +kernel
theorem dX7_accepts_102 : decode cX7_accepts 102 = .ok (.ifCond .ne 23, 3) := by decide +kernel
theorem dX7_accepts_105 : decode cX7_accepts 105 = .ok (.aload_n 0, 1) := by decide +kernel
theorem dX7_accepts_106 : decode cX7_accepts 106 = .ok (.getfield 30, 3) := by decide +kernel
theorem dX7_accepts_109 : decode cX7_accepts 109 = .ok (.aload_n 0, 1) := by decide +kernel
theorem dX7_accepts_110 : decode cX7_accepts 110 = .ok (.getfield 19, 3) := by decide +kernel
theorem dX7_accepts_113 : decode cX7_accepts 113 = .ok (.iload 7, 2) := by decide +kernel
theorem dX7_accepts_115 : decode cX7_accepts 115 = .ok (.invokevirtual 144, 3) := by decide +kernel
theorem dX7_accepts_118 : decode cX7_accepts 118 = .ok (.ifCond .lt 7, 3) := by decide +kernel
theorem dX7_accepts_121 : decode cX7_accepts 121 = .ok (.iconst 1, 1) := by decide +kernel
theorem dX7_accepts_122 : decode cX7_accepts 122 = .ok (.goto 4, 3) := by decide +kernel
theorem dX7_accepts_125 : decode cX7_accepts 125 = .ok (.iconst 0, 1) := by decide +kernel
theorem dX7_accepts_126 : decode cX7_accepts 126 = .ok (.ireturn, 1) := by decide +kernel
theorem dX7_accepts_127 : decode cX7_accepts 127 = .ok (.aload_n 0, 1) := by decide +kernel
theorem dX7_accepts_128 : decode cX7_accepts 128 = .ok (.getfield 30, 3) := by decide +kernel
theorem dX7_accepts_131 : decode cX7_accepts 131 = .ok (.aload_n 0, 1) := by decide +kernel
theorem dX7_accepts_132 : decode cX7_accepts 132 = .ok (.getfield 19, 3) := by decide +kernel
theorem dX7_accepts_135 : decode cX7_accepts 135 = .ok (.iload 7, 2) := by decide +kernel
theorem dX7_accepts_137 : decode cX7_accepts 137 = .ok (.iload 5, 2) := by decide +kernel
theorem dX7_accepts_139 : decode cX7_accepts 139 = .ok (.invokevirtual 152, 3) := by decide +kernel
theorem dX7_accepts_142 : decode cX7_accepts 142 = .ok (.ifCond .lt 7, 3) := by decide +kernel
theorem dX7_accepts_145 : decode cX7_accepts 145 = .ok (.iconst 1, 1) := by decide +kernel
theorem dX7_accepts_146 : decode cX7_accepts 146 = .ok (.goto 4, 3) := by decide +kernel
theorem dX7_accepts_149 : decode cX7_accepts 149 = .ok (.iconst 0, 1) := by decide +kernel
theorem dX7_accepts_150 : decode cX7_accepts 150 = .ok (.ireturn, 1) := by decide +kernel
theorem dX7_accepts_151 : decode cX7_accepts 151 = .ok (.iload 4, 2) := by decide +kernel
theorem dX7_accepts_153 : decode cX7_accepts 153 = .ok (.ifCond .ne 27, 3) := by decide +kernel
theorem dX7_accepts_156 : decode cX7_accepts 156 = .ok (.iload 5, 2) := by decide +kernel
theorem dX7_accepts_158 : decode cX7_accepts 158 = .ok (.ifCond .ne 22, 3) := by decide +kernel
theorem dX7_accepts_161 : decode cX7_accepts 161 = .ok (.aload_n 0, 1) := by decide +kernel
theorem dX7_accepts_162 : decode cX7_accepts 162 = .ok (.getfield 30, 3) := by decide +kernel
theorem dX7_accepts_165 : decode cX7_accepts 165 = .ok (.aload_n 0, 1) := by decide +kernel
theorem dX7_accepts_166 : decode cX7_accepts 166 = .ok (.getfield 19, 3) := by decide +kernel
theorem dX7_accepts_169 : decode cX7_accepts 169 = .ok (.iload_n 3, 1) := by decide +kernel
theorem dX7_accepts_170 : decode cX7_accepts 170 = .ok (.invokevirtual 156, 3) := by decide +kernel
theorem dX7_accepts_173 : decode cX7_accepts 173 = .ok (.ifCond .lt 7, 3) := by decide +kernel
theorem dX7_accepts_176 : decode cX7_accepts 176 = .ok (.iconst 1, 1) := by decide +kernel
theorem dX7_accepts_177 : decode cX7_accepts 177 = .ok (.goto 4, 3) := by decide +kernel
theorem dX7_accepts_180 : decode cX7_accepts 180 = .ok (.iconst 0, 1) := by decide +kernel
theorem dX7_accepts_181 : decode cX7_accepts 181 = .ok (.ireturn, 1) := by decide +kernel
theorem dX7_accepts_182 : decode cX7_accepts 182 = .ok (.aload_n 0, 1) := by decide +kernel
theorem dX7_accepts_183 : decode cX7_accepts 183 = .ok (.getfield 30, 3) := by decide +kernel
theorem dX7_accepts_186 : decode cX7_accepts 186 = .ok (.iload_n 3, 1) := by decide +kernel
theorem dX7_accepts_187 : decode cX7_accepts 187 = .ok (.iload 4, 2) := by decide +kernel
theorem dX7_accepts_189 : decode cX7_accepts 189 = .ok (.iload 5, 2) := by decide +kernel
theorem dX7_accepts_191 : decode cX7_accepts 191 = .ok (.invokevirtual 159, 3) := by decide +kernel
theorem dX7_accepts_194 : decode cX7_accepts 194 = .ok (.ifCond .lt 7, 3) := by decide +kernel
theorem dX7_accepts_197 : decode cX7_accepts 197 = .ok (.iconst 1, 1) := by decide +kernel
theorem dX7_accepts_198 : decode cX7_accepts 198 = .ok (.goto 4, 3) := by decide +kernel
theorem dX7_accepts_201 : decode cX7_accepts 201 = .ok (.iconst 0, 1) := by decide +kernel
theorem dX7_accepts_202 : decode cX7_accepts 202 = .ok (.ireturn, 1) := by decide +kernel
theorem dX7_accepts_203 : decode cX7_accepts 203 = .ok (.aload_n 0, 1) := by decide +kernel
theorem dX7_accepts_204 : decode cX7_accepts 204 = .ok (.getfield 30, 3) := by decide +kernel
theorem dX7_accepts_207 : decode cX7_accepts 207 = .ok (.aload_n 0, 1) := by decide +kernel
theorem dX7_accepts_208 : decode cX7_accepts 208 = .ok (.getfield 19, 3) := by decide +kernel
theorem dX7_accepts_211 : decode cX7_accepts 211 = .ok (.iload_n 3, 1) := by decide +kernel
theorem dX7_accepts_212 : decode cX7_accepts 212 = .ok (.iload 4, 2) := by decide +kernel
theorem dX7_accepts_214 : decode cX7_accepts 214 = .ok (.bipush 10, 2) := by decide +kernel
theorem dX7_accepts_216 : decode cX7_accepts 216 = .ok (.imul, 1) := by decide +kernel
theorem dX7_accepts_217 : decode cX7_accepts 217 = .ok (.iload 5, 2) := by decide +kernel
theorem dX7_accepts_219 : decode cX7_accepts 219 = .ok (.iadd, 1) := by decide +kernel
theorem dX7_accepts_220 : decode cX7_accepts 220 = .ok (.invokevirtual 170, 3) := by decide +kernel
theorem dX7_accepts_223 : decode cX7_accepts 223 = .ok (.ireturn, 1) := by decide +kernel
theorem dX7_accepts_224 : decode cX7_accepts 224 = .ok (.iload 5, 2) := by decide +kernel
theorem dX7_accepts_226 : decode cX7_accepts 226 = .ok (.ifCond .ne 29, 3) := by decide +kernel
theorem dX7_accepts_229 : decode cX7_accepts 229 = .ok (.aload_n 0, 1) := by decide +kernel
theorem dX7_accepts_230 : decode cX7_accepts 230 = .ok (.getfield 50, 3) := by decide +kernel
theorem dX7_accepts_233 : decode cX7_accepts 233 = .ok (.aload_n 0, 1) := by decide +kernel
theorem dX7_accepts_234 : decode cX7_accepts 234 = .ok (.getfield 19, 3) := by decide +kernel
theorem dX7_accepts_237 : decode cX7_accepts 237 = .ok (.aload_n 0, 1) := by decide +kernel
theorem dX7_accepts_238 : decode cX7_accepts 238 = .ok (.getfield 30, 3) := by decide +kernel
theorem dX7_accepts_241 : decode cX7_accepts 241 = .ok (.invokevirtual 174, 3) := by decide +kernel
theorem dX7_accepts_244 : decode cX7_accepts 244 = .ok (.iload 7, 2) := by decide +kernel
theorem dX7_accepts_246 : decode cX7_accepts 246 = .ok (.i2l, 1) := by decide +kernel
theorem dX7_accepts_247 : decode cX7_accepts 247 = .ok (.lcmp, 1) := by decide +kernel
theorem dX7_accepts_248 : decode cX7_accepts 248 = .ok (.ifCond .gt 7, 3) := by decide +kernel
theorem dX7_accepts_251 : decode cX7_accepts 251 = .ok (.iconst 1, 1) := by decide +kernel
theorem dX7_accepts_252 : decode cX7_accepts 252 = .ok (.goto 4, 3) := by decide +kernel
theorem dX7_accepts_255 : decode cX7_accepts 255 = .ok (.iconst 0, 1) := by decide +kernel
theorem dX7_accepts_256 : decode cX7_accepts 256 = .ok (.ireturn, 1) := by decide +kernel
theorem dX7_accepts_257 : decode cX7_accepts 257 = .ok (.aload_n 0, 1) := by decide +kernel
theorem dX7_accepts_258 : decode cX7_accepts 258 = .ok (.getfield 30, 3) := by decide +kernel
theorem dX7_accepts_261 : decode cX7_accepts 261 = .ok (.iload 7, 2) := by decide +kernel
theorem dX7_accepts_263 : decode cX7_accepts 263 = .ok (.invokevirtual 132, 3) := by decide +kernel
theorem dX7_accepts_266 : decode cX7_accepts 266 = .ok (.ifCond .eq 30, 3) := by decide +kernel
theorem dX7_accepts_269 : decode cX7_accepts 269 = .ok (.iload 5, 2) := by decide +kernel
theorem dX7_accepts_271 : decode cX7_accepts 271 = .ok (.invokestatic 195, 3) := by decide +kernel
theorem dX7_accepts_274 : decode cX7_accepts 274 = .ok (.ifCond .eq 22, 3) := by decide +kernel
theorem dX7_accepts_277 : decode cX7_accepts 277 = .ok (.aload_n 0, 1) := by decide +kernel
theorem dX7_accepts_278 : decode cX7_accepts 278 = .ok (.aload_n 0, 1) := by decide +kernel
theorem dX7_accepts_279 : decode cX7_accepts 279 = .ok (.getfield 30, 3) := by decide +kernel
theorem dX7_accepts_282 : decode cX7_accepts 282 = .ok (.iload 7, 2) := by decide +kernel
theorem dX7_accepts_284 : decode cX7_accepts 284 = .ok (.invokevirtual 211, 3) := by decide +kernel
theorem dX7_accepts_287 : decode cX7_accepts 287 = .ok (.iload 5, 2) := by decide +kernel
theorem dX7_accepts_289 : decode cX7_accepts 289 = .ok (.if_icmp .ne 7, 3) := by decide +kernel
theorem dX7_accepts_292 : decode cX7_accepts 292 = .ok (.iconst 1, 1) := by decide +kernel
theorem dX7_accepts_293 : decode cX7_accepts 293 = .ok (.goto 4, 3) := by decide +kernel
theorem dX7_accepts_296 : decode cX7_accepts 296 = .ok (.iconst 0, 1) := by decide +kernel
theorem dX7_accepts_297 : decode cX7_accepts 297 = .ok (.ireturn, 1) := by decide +kernel
theorem dX7_accepts_298 : decode cX7_accepts 298 = .ok (.iconst 0, 1) := by decide +kernel
theorem dX7_accepts_299 : decode cX7_accepts 299 = .ok (.ireturn, 1) := by decide +kernel
theorem dX7_see_0 : decode cX7_see 0 = .ok (.aload_n 0, 1) := by decide +kernel
theorem dX7_see_1 : decode cX7_see 1 = .ok (.getfield 19, 3) := by decide +kernel
theorem dX7_see_4 : decode cX7_see 4 = .ok (.iload_n 1, 1) := by decide +kernel
theorem dX7_see_5 : decode cX7_see 5 = .ok (.invokevirtual 105, 3) := by decide +kernel
theorem dX7_see_8 : decode cX7_see 8 = .ok (.ifCond .eq 14, 3) := by decide +kernel
theorem dX7_see_11 : decode cX7_see 11 = .ok (.aload_n 0, 1) := by decide +kernel
theorem dX7_see_12 : decode cX7_see 12 = .ok (.getfield 26, 3) := by decide +kernel
theorem dX7_see_15 : decode cX7_see 15 = .ok (.iload_n 2, 1) := by decide +kernel
theorem dX7_see_16 : decode cX7_see 16 = .ok (.invokevirtual 132, 3) := by decide +kernel
theorem dX7_see_19 : decode cX7_see 19 = .ok (.ifCond .ne 5, 3) := by decide +kernel
theorem dX7_see_22 : decode cX7_see 22 = .ok (.iconst (-1), 1) := by decide +kernel
theorem dX7_see_23 : decode cX7_see 23 = .ok (.ireturn, 1) := by decide +kernel
theorem dX7_see_24 : decode cX7_see 24 = .ok (.iload_n 3, 1) := by decide +kernel
theorem dX7_see_25 : decode cX7_see 25 = .ok (.ifCond .eq 11, 3) := by decide +kernel
theorem dX7_see_28 : decode cX7_see 28 = .ok (.iload_n 3, 1) := by decide +kernel
theorem dX7_see_29 : decode cX7_see 29 = .ok (.iconst 1, 1) := by decide +kernel
theorem dX7_see_30 : decode cX7_see 30 = .ok (.if_icmp .eq 6, 3) := by decide +kernel
theorem dX7_see_33 : decode cX7_see 33 = .ok (.bipush (-2), 2) := by decide +kernel
theorem dX7_see_35 : decode cX7_see 35 = .ok (.ireturn, 1) := by decide +kernel
theorem dX7_see_36 : decode cX7_see 36 = .ok (.aload_n 0, 1) := by decide +kernel
theorem dX7_see_37 : decode cX7_see 37 = .ok (.getfield 43, 3) := by decide +kernel
theorem dX7_see_40 : decode cX7_see 40 = .ok (.getfield 220, 3) := by decide +kernel
theorem dX7_see_43 : decode cX7_see 43 = .ok (.bipush 6, 2) := by decide +kernel
theorem dX7_see_45 : decode cX7_see 45 = .ok (.if_icmp .lt 6, 3) := by decide +kernel
theorem dX7_see_48 : decode cX7_see 48 = .ok (.bipush (-4), 2) := by decide +kernel
theorem dX7_see_50 : decode cX7_see 50 = .ok (.ireturn, 1) := by decide +kernel
theorem dX7_see_51 : decode cX7_see 51 = .ok (.aload_n 0, 1) := by decide +kernel
theorem dX7_see_52 : decode cX7_see 52 = .ok (.getfield 43, 3) := by decide +kernel
theorem dX7_see_55 : decode cX7_see 55 = .ok (.iload_n 1, 1) := by decide +kernel
theorem dX7_see_56 : decode cX7_see 56 = .ok (.iload_n 2, 1) := by decide +kernel
theorem dX7_see_57 : decode cX7_see 57 = .ok (.iload_n 3, 1) := by decide +kernel
theorem dX7_see_58 : decode cX7_see 58 = .ok (.iconst 1, 1) := by decide +kernel
theorem dX7_see_59 : decode cX7_see 59 = .ok (.if_icmp .ne 7, 3) := by decide +kernel
theorem dX7_see_62 : decode cX7_see 62 = .ok (.iconst 1, 1) := by decide +kernel
theorem dX7_see_63 : decode cX7_see 63 = .ok (.goto 4, 3) := by decide +kernel
theorem dX7_see_66 : decode cX7_see 66 = .ok (.iconst 0, 1) := by decide +kernel
theorem dX7_see_67 : decode cX7_see 67 = .ok (.invokevirtual 223, 3) := by decide +kernel
theorem dX7_see_70 : decode cX7_see 70 = .ok (.aload_n 0, 1) := by decide +kernel
theorem dX7_see_71 : decode cX7_see 71 = .ok (.getfield 43, 3) := by decide +kernel
theorem dX7_see_74 : decode cX7_see 74 = .ok (.getfield 220, 3) := by decide +kernel
theorem dX7_see_77 : decode cX7_see 77 = .ok (.ireturn, 1) := by decide +kernel
theorem dX7_unsee_0 : decode cX7_unsee 0 = .ok (.aload_n 0, 1) := by decide +kernel
theorem dX7_unsee_1 : decode cX7_unsee 1 = .ok (.getfield 43, 3) := by decide +kernel
theorem dX7_unsee_4 : decode cX7_unsee 4 = .ok (.getfield 220, 3) := by decide +kernel
theorem dX7_unsee_7 : decode cX7_unsee 7 = .ok (.istore_n 1, 1) := by decide +kernel
theorem dX7_unsee_8 : decode cX7_unsee 8 = .ok (.aload_n 0, 1) := by decide +kernel
theorem dX7_unsee_9 : decode cX7_unsee 9 = .ok (.getfield 43, 3) := by decide +kernel
theorem dX7_unsee_12 : decode cX7_unsee 12 = .ok (.iconst 0, 1) := by decide +kernel
theorem dX7_unsee_13 : decode cX7_unsee 13 = .ok (.putfield 220, 3) := by decide +kernel
theorem dX7_unsee_16 : decode cX7_unsee 16 = .ok (.iload_n 1, 1) := by decide +kernel
theorem dX7_unsee_17 : decode cX7_unsee 17 = .ok (.ireturn, 1) := by decide +kernel
theorem dX7_which_0 : decode cX7_which 0 = .ok (.iload_n 1, 1) := by decide +kernel
theorem dX7_which_1 : decode cX7_which 1 = .ok (.ifCond .eq 12, 3) := by decide +kernel
theorem dX7_which_4 : decode cX7_which 4 = .ok (.iload_n 1, 1) := by decide +kernel
theorem dX7_which_5 : decode cX7_which 5 = .ok (.iconst 1, 1) := by decide +kernel
theorem dX7_which_6 : decode cX7_which 6 = .ok (.if_icmp .eq 7, 3) := by decide +kernel
theorem dX7_which_9 : decode cX7_which 9 = .ok (.ldc2_w 198, 3) := by decide +kernel
theorem dX7_which_12 : decode cX7_which 12 = .ok (.lreturn, 1) := by decide +kernel
theorem dX7_which_13 : decode cX7_which 13 = .ok (.aload_n 0, 1) := by decide +kernel
theorem dX7_which_14 : decode cX7_which 14 = .ok (.getfield 50, 3) := by decide +kernel
theorem dX7_which_17 : decode cX7_which 17 = .ok (.aload_n 0, 1) := by decide +kernel
theorem dX7_which_18 : decode cX7_which 18 = .ok (.getfield 19, 3) := by decide +kernel
theorem dX7_which_21 : decode cX7_which 21 = .ok (.aload_n 0, 1) := by decide +kernel
theorem dX7_which_22 : decode cX7_which 22 = .ok (.getfield 26, 3) := by decide +kernel
theorem dX7_which_25 : decode cX7_which 25 = .ok (.aload_n 0, 1) := by decide +kernel
theorem dX7_which_26 : decode cX7_which 26 = .ok (.getfield 43, 3) := by decide +kernel
theorem dX7_which_29 : decode cX7_which 29 = .ok (.invokevirtual 226, 3) := by decide +kernel
theorem dX7_which_32 : decode cX7_which 32 = .ok (.lstore_n 2, 1) := by decide +kernel
theorem dX7_which_33 : decode cX7_which 33 = .ok (.iload_n 1, 1) := by decide +kernel
theorem dX7_which_34 : decode cX7_which 34 = .ok (.ifCond .ne 5, 3) := by decide +kernel
theorem dX7_which_37 : decode cX7_which 37 = .ok (.lload_n 2, 1) := by decide +kernel
theorem dX7_which_38 : decode cX7_which 38 = .ok (.lreturn, 1) := by decide +kernel
theorem dX7_which_39 : decode cX7_which 39 = .ok (.lload_n 2, 1) := by decide +kernel
theorem dX7_which_40 : decode cX7_which 40 = .ok (.lconst 0, 1) := by decide +kernel
theorem dX7_which_41 : decode cX7_which 41 = .ok (.lcmp, 1) := by decide +kernel
theorem dX7_which_42 : decode cX7_which 42 = .ok (.ifCond .ne 7, 3) := by decide +kernel
theorem dX7_which_45 : decode cX7_which 45 = .ok (.ldc2_w 230, 3) := by decide +kernel
theorem dX7_which_48 : decode cX7_which 48 = .ok (.lreturn, 1) := by decide +kernel
theorem dX7_which_49 : decode cX7_which 49 = .ok (.aload_n 0, 1) := by decide +kernel
theorem dX7_which_50 : decode cX7_which 50 = .ok (.getfield 57, 3) := by decide +kernel
theorem dX7_which_53 : decode cX7_which 53 = .ok (.aload_n 0, 1) := by decide +kernel
theorem dX7_which_54 : decode cX7_which 54 = .ok (.getfield 50, 3) := by decide +kernel
theorem dX7_which_57 : decode cX7_which 57 = .ok (.aload_n 0, 1) := by decide +kernel
theorem dX7_which_58 : decode cX7_which 58 = .ok (.getfield 26, 3) := by decide +kernel
theorem dX7_which_61 : decode cX7_which 61 = .ok (.getfield 119, 3) := by decide +kernel
theorem dX7_which_64 : decode cX7_which 64 = .ok (.invokevirtual 178, 3) := by decide +kernel
theorem dX7_which_67 : decode cX7_which 67 = .ok (.aload_n 0, 1) := by decide +kernel
theorem dX7_which_68 : decode cX7_which 68 = .ok (.getfield 57, 3) := by decide +kernel
theorem dX7_which_71 : decode cX7_which 71 = .ok (.aload_n 0, 1) := by decide +kernel
theorem dX7_which_72 : decode cX7_which 72 = .ok (.getfield 50, 3) := by decide +kernel
theorem dX7_which_75 : decode cX7_which 75 = .ok (.lconst 0, 1) := by decide +kernel
theorem dX7_which_76 : decode cX7_which 76 = .ok (.invokevirtual 182, 3) := by decide +kernel
theorem dX7_which_79 : decode cX7_which 79 = .ok (.aload_n 0, 1) := by decide +kernel
theorem dX7_which_80 : decode cX7_which 80 = .ok (.getfield 50, 3) := by decide +kernel
theorem dX7_which_83 : decode cX7_which 83 = .ok (.aload_n 0, 1) := by decide +kernel
theorem dX7_which_84 : decode cX7_which 84 = .ok (.getfield 19, 3) := by decide +kernel
theorem dX7_which_87 : decode cX7_which 87 = .ok (.aload_n 0, 1) := by decide +kernel
theorem dX7_which_88 : decode cX7_which 88 = .ok (.getfield 26, 3) := by decide +kernel
theorem dX7_which_91 : decode cX7_which 91 = .ok (.invokevirtual 174, 3) := by decide +kernel
theorem dX7_which_94 : decode cX7_which 94 = .ok (.pop2, 1) := by decide +kernel
theorem dX7_which_95 : decode cX7_which 95 = .ok (.aload_n 0, 1) := by decide +kernel
theorem dX7_which_96 : decode cX7_which 96 = .ok (.getfield 57, 3) := by decide +kernel
theorem dX7_which_99 : decode cX7_which 99 = .ok (.aload_n 0, 1) := by decide +kernel
theorem dX7_which_100 : decode cX7_which 100 = .ok (.getfield 50, 3) := by decide +kernel
theorem dX7_which_103 : decode cX7_which 103 = .ok (.aload_n 0, 1) := by decide +kernel
theorem dX7_which_104 : decode cX7_which 104 = .ok (.getfield 26, 3) := by decide +kernel
theorem dX7_which_107 : decode cX7_which 107 = .ok (.getfield 119, 3) := by decide +kernel
theorem dX7_which_110 : decode cX7_which 110 = .ok (.invokevirtual 178, 3) := by decide +kernel
theorem dX7_which_113 : decode cX7_which 113 = .ok (.aload_n 0, 1) := by decide +kernel
theorem dX7_which_114 : decode cX7_which 114 = .ok (.getfield 57, 3) := by decide +kernel
theorem dX7_which_117 : decode cX7_which 117 = .ok (.aload_n 0, 1) := by decide +kernel
theorem dX7_which_118 : decode cX7_which 118 = .ok (.getfield 50, 3) := by decide +kernel
theorem dX7_which_121 : decode cX7_which 121 = .ok (.invokevirtual 232, 3) := by decide +kernel
theorem dX7_which_124 : decode cX7_which 124 = .ok (.lreturn, 1) := by decide +kernel
theorem dX7_share_0 : decode cX7_share 0 = .ok (.aload_n 0, 1) := by decide +kernel
theorem dX7_share_1 : decode cX7_share 1 = .ok (.getfield 19, 3) := by decide +kernel
theorem dX7_share_4 : decode cX7_share 4 = .ok (.iload_n 1, 1) := by decide +kernel
theorem dX7_share_5 : decode cX7_share 5 = .ok (.invokevirtual 105, 3) := by decide +kernel
theorem dX7_share_8 : decode cX7_share 8 = .ok (.ifCond .ne 7, 3) := by decide +kernel
theorem dX7_share_11 : decode cX7_share 11 = .ok (.ldc2_w 193, 3) := by decide +kernel
theorem dX7_share_14 : decode cX7_share 14 = .ok (.lreturn, 1) := by decide +kernel
theorem dX7_share_15 : decode cX7_share 15 = .ok (.aload_n 0, 1) := by decide +kernel
theorem dX7_share_16 : decode cX7_share 16 = .ok (.getfield 50, 3) := by decide +kernel
theorem dX7_share_19 : decode cX7_share 19 = .ok (.aload_n 0, 1) := by decide +kernel
theorem dX7_share_20 : decode cX7_share 20 = .ok (.getfield 19, 3) := by decide +kernel
theorem dX7_share_23 : decode cX7_share 23 = .ok (.aload_n 0, 1) := by decide +kernel
theorem dX7_share_24 : decode cX7_share 24 = .ok (.getfield 26, 3) := by decide +kernel
theorem dX7_share_27 : decode cX7_share 27 = .ok (.invokevirtual 174, 3) := by decide +kernel
theorem dX7_share_30 : decode cX7_share 30 = .ok (.pop2, 1) := by decide +kernel
theorem dX7_share_31 : decode cX7_share 31 = .ok (.iconst 1, 1) := by decide +kernel
theorem dX7_share_32 : decode cX7_share 32 = .ok (.iload_n 1, 1) := by decide +kernel
theorem dX7_share_33 : decode cX7_share 33 = .ok (.ishl, 1) := by decide +kernel
theorem dX7_share_34 : decode cX7_share 34 = .ok (.istore_n 3, 1) := by decide +kernel
theorem dX7_share_35 : decode cX7_share 35 = .ok (.aload_n 0, 1) := by decide +kernel
theorem dX7_share_36 : decode cX7_share 36 = .ok (.getfield 50, 3) := by decide +kernel
theorem dX7_share_39 : decode cX7_share 39 = .ok (.getfield 236, 3) := by decide +kernel
theorem dX7_share_42 : decode cX7_share 42 = .ok (.istore 4, 2) := by decide +kernel
theorem dX7_share_44 : decode cX7_share 44 = .ok (.iload 4, 2) := by decide +kernel
theorem dX7_share_46 : decode cX7_share 46 = .ok (.iload_n 3, 1) := by decide +kernel
theorem dX7_share_47 : decode cX7_share 47 = .ok (.iand, 1) := by decide +kernel
theorem dX7_share_48 : decode cX7_share 48 = .ok (.ifCond .ne 10, 3) := by decide +kernel
theorem dX7_share_51 : decode cX7_share 51 = .ok (.lconst 0, 1) := by decide +kernel
theorem dX7_share_52 : decode cX7_share 52 = .ok (.lconst 1, 1) := by decide +kernel
theorem dX7_share_53 : decode cX7_share 53 = .ok (.iload_n 2, 1) := by decide +kernel
theorem dX7_share_54 : decode cX7_share 54 = .ok (.invokestatic 239, 3) := by decide +kernel
theorem dX7_share_57 : decode cX7_share 57 = .ok (.lreturn, 1) := by decide +kernel
theorem dX7_share_58 : decode cX7_share 58 = .ok (.iload 4, 2) := by decide +kernel
theorem dX7_share_60 : decode cX7_share 60 = .ok (.invokestatic 243, 3) := by decide +kernel
theorem dX7_share_63 : decode cX7_share 63 = .ok (.istore 5, 2) := by decide +kernel
theorem dX7_share_65 : decode cX7_share 65 = .ok (.lconst 0, 1) := by decide +kernel
theorem dX7_share_66 : decode cX7_share 66 = .ok (.lstore 6, 2) := by decide +kernel
theorem dX7_share_68 : decode cX7_share 68 = .ok (.iconst 0, 1) := by decide +kernel
theorem dX7_share_69 : decode cX7_share 69 = .ok (.istore 8, 2) := by decide +kernel
theorem dX7_share_71 : decode cX7_share 71 = .ok (.iload 8, 2) := by decide +kernel
theorem dX7_share_73 : decode cX7_share 73 = .ok (.iload 4, 2) := by decide +kernel
theorem dX7_share_75 : decode cX7_share 75 = .ok (.if_icmp .gt 80, 3) := by decide +kernel
theorem dX7_share_78 : decode cX7_share 78 = .ok (.iload 8, 2) := by decide +kernel
theorem dX7_share_80 : decode cX7_share 80 = .ok (.iload 4, 2) := by decide +kernel
theorem dX7_share_82 : decode cX7_share 82 = .ok (.iconst (-1), 1) := by decide +kernel
theorem dX7_share_83 : decode cX7_share 83 = .ok (.ixor, 1) := by decide +kernel
theorem dX7_share_84 : decode cX7_share 84 = .ok (.iand, 1) := by decide +kernel
theorem dX7_share_85 : decode cX7_share 85 = .ok (.ifCond .ne 64, 3) := by decide +kernel
theorem dX7_share_88 : decode cX7_share 88 = .ok (.iload 8, 2) := by decide +kernel
theorem dX7_share_90 : decode cX7_share 90 = .ok (.iload_n 3, 1) := by decide +kernel
theorem dX7_share_91 : decode cX7_share 91 = .ok (.iand, 1) := by decide +kernel
theorem dX7_share_92 : decode cX7_share 92 = .ok (.ifCond .ne 57, 3) := by decide +kernel
theorem dX7_share_95 : decode cX7_share 95 = .ok (.iload 8, 2) := by decide +kernel
theorem dX7_share_97 : decode cX7_share 97 = .ok (.invokestatic 243, 3) := by decide +kernel
theorem dX7_share_100 : decode cX7_share 100 = .ok (.istore 9, 2) := by decide +kernel
theorem dX7_share_102 : decode cX7_share 102 = .ok (.iload 9, 2) := by decide +kernel
theorem dX7_share_104 : decode cX7_share 104 = .ok (.invokestatic 249, 3) := by decide +kernel
theorem dX7_share_107 : decode cX7_share 107 = .ok (.iload 5, 2) := by decide +kernel
theorem dX7_share_109 : decode cX7_share 109 = .ok (.iconst 1, 1) := by decide +kernel
theorem dX7_share_110 : decode cX7_share 110 = .ok (.isub, 1) := by decide +kernel
theorem dX7_share_111 : decode cX7_share 111 = .ok (.iload 9, 2) := by decide +kernel
theorem dX7_share_113 : decode cX7_share 113 = .ok (.isub, 1) := by decide +kernel
theorem dX7_share_114 : decode cX7_share 114 = .ok (.invokestatic 249, 3) := by decide +kernel
theorem dX7_share_117 : decode cX7_share 117 = .ok (.lmul, 1) := by decide +kernel
theorem dX7_share_118 : decode cX7_share 118 = .ok (.lstore 10, 2) := by decide +kernel
theorem dX7_share_120 : decode cX7_share 120 = .ok (.lload 6, 2) := by decide +kernel
theorem dX7_share_122 : decode cX7_share 122 = .ok (.lload 10, 2) := by decide +kernel
theorem dX7_share_124 : decode cX7_share 124 = .ok (.aload_n 0, 1) := by decide +kernel
theorem dX7_share_125 : decode cX7_share 125 = .ok (.getfield 50, 3) := by decide +kernel
theorem dX7_share_128 : decode cX7_share 128 = .ok (.iload 8, 2) := by decide +kernel
theorem dX7_share_130 : decode cX7_share 130 = .ok (.iload_n 3, 1) := by decide +kernel
theorem dX7_share_131 : decode cX7_share 131 = .ok (.ior, 1) := by decide +kernel
theorem dX7_share_132 : decode cX7_share 132 = .ok (.invokevirtual 253, 3) := by decide +kernel
theorem dX7_share_135 : decode cX7_share 135 = .ok (.aload_n 0, 1) := by decide +kernel
theorem dX7_share_136 : decode cX7_share 136 = .ok (.getfield 50, 3) := by decide +kernel
theorem dX7_share_139 : decode cX7_share 139 = .ok (.iload 8, 2) := by decide +kernel
theorem dX7_share_141 : decode cX7_share 141 = .ok (.invokevirtual 253, 3) := by decide +kernel
theorem dX7_share_144 : decode cX7_share 144 = .ok (.lsub, 1) := by decide +kernel
theorem dX7_share_145 : decode cX7_share 145 = .ok (.lmul, 1) := by decide +kernel
theorem dX7_share_146 : decode cX7_share 146 = .ok (.ladd, 1) := by decide +kernel
theorem dX7_share_147 : decode cX7_share 147 = .ok (.lstore 6, 2) := by decide +kernel
theorem dX7_share_149 : decode cX7_share 149 = .ok (.iinc 8 1, 3) := by decide +kernel
theorem dX7_share_152 : decode cX7_share 152 = .ok (.goto (-81), 3) := by decide +kernel
theorem dX7_share_155 : decode cX7_share 155 = .ok (.lload 6, 2) := by decide +kernel
theorem dX7_share_157 : decode cX7_share 157 = .ok (.iload 5, 2) := by decide +kernel
theorem dX7_share_159 : decode cX7_share 159 = .ok (.invokestatic 249, 3) := by decide +kernel
theorem dX7_share_162 : decode cX7_share 162 = .ok (.iload_n 2, 1) := by decide +kernel
theorem dX7_share_163 : decode cX7_share 163 = .ok (.invokestatic 239, 3) := by decide +kernel
theorem dX7_share_166 : decode cX7_share 166 = .ok (.lreturn, 1) := by decide +kernel
theorem dX7_lost_0 : decode cX7_lost 0 = .ok (.iload_n 1, 1) := by decide +kernel
theorem dX7_lost_1 : decode cX7_lost 1 = .ok (.ifCond .lt 9, 3) := by decide +kernel
theorem dX7_lost_4 : decode cX7_lost 4 = .ok (.iload_n 1, 1) := by decide +kernel
theorem dX7_lost_5 : decode cX7_lost 5 = .ok (.bipush 10, 2) := by decide +kernel
theorem dX7_lost_7 : decode cX7_lost 7 = .ok (.if_icmp .le 6, 3) := by decide +kernel
theorem dX7_lost_10 : decode cX7_lost 10 = .ok (.bipush (-2), 2) := by decide +kernel
theorem dX7_lost_12 : decode cX7_lost 12 = .ok (.ireturn, 1) := by decide +kernel
theorem dX7_lost_13 : decode cX7_lost 13 = .ok (.aload_n 0, 1) := by decide +kernel
theorem dX7_lost_14 : decode cX7_lost 14 = .ok (.getfield 50, 3) := by decide +kernel
theorem dX7_lost_17 : decode cX7_lost 17 = .ok (.aload_n 0, 1) := by decide +kernel
theorem dX7_lost_18 : decode cX7_lost 18 = .ok (.getfield 19, 3) := by decide +kernel
theorem dX7_lost_21 : decode cX7_lost 21 = .ok (.aload_n 0, 1) := by decide +kernel
theorem dX7_lost_22 : decode cX7_lost 22 = .ok (.getfield 26, 3) := by decide +kernel
theorem dX7_lost_25 : decode cX7_lost 25 = .ok (.invokevirtual 174, 3) := by decide +kernel
theorem dX7_lost_28 : decode cX7_lost 28 = .ok (.pop2, 1) := by decide +kernel
theorem dX7_lost_29 : decode cX7_lost 29 = .ok (.aload_n 0, 1) := by decide +kernel
theorem dX7_lost_30 : decode cX7_lost 30 = .ok (.getfield 50, 3) := by decide +kernel
theorem dX7_lost_33 : decode cX7_lost 33 = .ok (.getfield 236, 3) := by decide +kernel
theorem dX7_lost_36 : decode cX7_lost 36 = .ok (.istore_n 3, 1) := by decide +kernel
theorem dX7_lost_37 : decode cX7_lost 37 = .ok (.iload_n 3, 1) := by decide +kernel
theorem dX7_lost_38 : decode cX7_lost 38 = .ok (.invokestatic 243, 3) := by decide +kernel
theorem dX7_lost_41 : decode cX7_lost 41 = .ok (.istore 4, 2) := by decide +kernel
theorem dX7_lost_43 : decode cX7_lost 43 = .ok (.lconst 0, 1) := by decide +kernel
theorem dX7_lost_44 : decode cX7_lost 44 = .ok (.lstore 5, 2) := by decide +kernel
theorem dX7_lost_46 : decode cX7_lost 46 = .ok (.iconst 0, 1) := by decide +kernel
theorem dX7_lost_47 : decode cX7_lost 47 = .ok (.istore 7, 2) := by decide +kernel
theorem dX7_lost_49 : decode cX7_lost 49 = .ok (.iload 7, 2) := by decide +kernel
theorem dX7_lost_51 : decode cX7_lost 51 = .ok (.iload_n 3, 1) := by decide +kernel
theorem dX7_lost_52 : decode cX7_lost 52 = .ok (.if_icmp .gt 63, 3) := by decide +kernel
theorem dX7_lost_55 : decode cX7_lost 55 = .ok (.iload 7, 2) := by decide +kernel
theorem dX7_lost_57 : decode cX7_lost 57 = .ok (.iload_n 3, 1) := by decide +kernel
theorem dX7_lost_58 : decode cX7_lost 58 = .ok (.iconst (-1), 1) := by decide +kernel
theorem dX7_lost_59 : decode cX7_lost 59 = .ok (.ixor, 1) := by decide +kernel
theorem dX7_lost_60 : decode cX7_lost 60 = .ok (.iand, 1) := by decide +kernel
theorem dX7_lost_61 : decode cX7_lost 61 = .ok (.ifCond .ne 48, 3) := by decide +kernel
theorem dX7_lost_64 : decode cX7_lost 64 = .ok (.aload_n 0, 1) := by decide +kernel
theorem dX7_lost_65 : decode cX7_lost 65 = .ok (.getfield 50, 3) := by decide +kernel
theorem dX7_lost_68 : decode cX7_lost 68 = .ok (.iload 7, 2) := by decide +kernel
theorem dX7_lost_70 : decode cX7_lost 70 = .ok (.invokevirtual 253, 3) := by decide +kernel
theorem dX7_lost_73 : decode cX7_lost 73 = .ok (.lconst 0, 1) := by decide +kernel
theorem dX7_lost_74 : decode cX7_lost 74 = .ok (.lcmp, 1) := by decide +kernel
theorem dX7_lost_75 : decode cX7_lost 75 = .ok (.ifCond .le 34, 3) := by decide +kernel
theorem dX7_lost_78 : decode cX7_lost 78 = .ok (.iload 7, 2) := by decide +kernel
theorem dX7_lost_80 : decode cX7_lost 80 = .ok (.invokestatic 243, 3) := by decide +kernel
theorem dX7_lost_83 : decode cX7_lost 83 = .ok (.istore 8, 2) := by decide +kernel
theorem dX7_lost_85 : decode cX7_lost 85 = .ok (.lload 5, 2) := by decide +kernel
theorem dX7_lost_87 : decode cX7_lost 87 = .ok (.bipush 10, 2) := by decide +kernel
theorem dX7_lost_89 : decode cX7_lost 89 = .ok (.iload_n 1, 1) := by decide +kernel
theorem dX7_lost_90 : decode cX7_lost 90 = .ok (.isub, 1) := by decide +kernel
theorem dX7_lost_91 : decode cX7_lost 91 = .ok (.iload 8, 2) := by decide +kernel
theorem dX7_lost_93 : decode cX7_lost 93 = .ok (.invokestatic 256, 3) := by decide +kernel
theorem dX7_lost_96 : decode cX7_lost 96 = .ok (.iload_n 1, 1) := by decide +kernel
theorem dX7_lost_97 : decode cX7_lost 97 = .ok (.iload 4, 2) := by decide +kernel
theorem dX7_lost_99 : decode cX7_lost 99 = .ok (.iload 8, 2) := by decide +kernel
theorem dX7_lost_101 : decode cX7_lost 101 = .ok (.isub, 1) := by decide +kernel
theorem dX7_lost_102 : decode cX7_lost 102 = .ok (.invokestatic 256, 3) := by decide +kernel
theorem dX7_lost_105 : decode cX7_lost 105 = .ok (.lmul, 1) := by decide +kernel
theorem dX7_lost_106 : decode cX7_lost 106 = .ok (.ladd, 1) := by decide +kernel
theorem dX7_lost_107 : decode cX7_lost 107 = .ok (.lstore 5, 2) := by decide +kernel
theorem dX7_lost_109 : decode cX7_lost 109 = .ok (.iinc 7 1, 3) := by decide +kernel
theorem dX7_lost_112 : decode cX7_lost 112 = .ok (.goto (-63), 3) := by decide +kernel
theorem dX7_lost_115 : decode cX7_lost 115 = .ok (.lload 5, 2) := by decide +kernel
theorem dX7_lost_117 : decode cX7_lost 117 = .ok (.bipush 10, 2) := by decide +kernel
theorem dX7_lost_119 : decode cX7_lost 119 = .ok (.iload 4, 2) := by decide +kernel
theorem dX7_lost_121 : decode cX7_lost 121 = .ok (.invokestatic 256, 3) := by decide +kernel
theorem dX7_lost_124 : decode cX7_lost 124 = .ok (.iload_n 2, 1) := by decide +kernel
theorem dX7_lost_125 : decode cX7_lost 125 = .ok (.invokestatic 239, 3) := by decide +kernel
theorem dX7_lost_128 : decode cX7_lost 128 = .ok (.l2i, 1) := by decide +kernel
theorem dX7_lost_129 : decode cX7_lost 129 = .ok (.ireturn, 1) := by decide +kernel
theorem dX7_seed_0 : decode cX7_seed 0 = .ok (.aload_n 0, 1) := by decide +kernel
theorem dX7_seed_1 : decode cX7_seed 1 = .ok (.getfield 74, 3) := by decide +kernel
theorem dX7_seed_4 : decode cX7_seed 4 = .ok (.lstore_n 3, 1) := by decide +kernel
theorem dX7_seed_5 : decode cX7_seed 5 = .ok (.aload_n 0, 1) := by decide +kernel
theorem dX7_seed_6 : decode cX7_seed 6 = .ok (.lload_n 1, 1) := by decide +kernel
theorem dX7_seed_7 : decode cX7_seed 7 = .ok (.putfield 74, 3) := by decide +kernel
theorem dX7_seed_10 : decode cX7_seed 10 = .ok (.lload_n 3, 1) := by decide +kernel
theorem dX7_seed_11 : decode cX7_seed 11 = .ok (.lreturn, 1) := by decide +kernel
theorem dX7_drawn_0 : decode cX7_drawn 0 = .ok (.iload_n 1, 1) := by decide +kernel
theorem dX7_drawn_1 : decode cX7_drawn 1 = .ok (.iconst 1, 1) := by decide +kernel
theorem dX7_drawn_2 : decode cX7_drawn 2 = .ok (.if_icmp .lt 9, 3) := by decide +kernel
theorem dX7_drawn_5 : decode cX7_drawn 5 = .ok (.iload_n 1, 1) := by decide +kernel
theorem dX7_drawn_6 : decode cX7_drawn 6 = .ok (.bipush 20, 2) := by decide +kernel
theorem dX7_drawn_8 : decode cX7_drawn 8 = .ok (.if_icmp .le 6, 3) := by decide +kernel
theorem dX7_drawn_11 : decode cX7_drawn 11 = .ok (.bipush (-2), 2) := by decide +kernel
theorem dX7_drawn_13 : decode cX7_drawn 13 = .ok (.ireturn, 1) := by decide +kernel
theorem dX7_drawn_14 : decode cX7_drawn 14 = .ok (.aload_n 0, 1) := by decide +kernel
theorem dX7_drawn_15 : decode cX7_drawn 15 = .ok (.getfield 50, 3) := by decide +kernel
theorem dX7_drawn_18 : decode cX7_drawn 18 = .ok (.aload_n 0, 1) := by decide +kernel
theorem dX7_drawn_19 : decode cX7_drawn 19 = .ok (.getfield 19, 3) := by decide +kernel
theorem dX7_drawn_22 : decode cX7_drawn 22 = .ok (.aload_n 0, 1) := by decide +kernel
theorem dX7_drawn_23 : decode cX7_drawn 23 = .ok (.getfield 26, 3) := by decide +kernel
theorem dX7_drawn_26 : decode cX7_drawn 26 = .ok (.invokevirtual 174, 3) := by decide +kernel
theorem dX7_drawn_29 : decode cX7_drawn 29 = .ok (.lstore_n 2, 1) := by decide +kernel
theorem dX7_drawn_30 : decode cX7_drawn 30 = .ok (.lload_n 2, 1) := by decide +kernel
theorem dX7_drawn_31 : decode cX7_drawn 31 = .ok (.lconst 0, 1) := by decide +kernel
theorem dX7_drawn_32 : decode cX7_drawn 32 = .ok (.lcmp, 1) := by decide +kernel
theorem dX7_drawn_33 : decode cX7_drawn 33 = .ok (.ifCond .le 21, 3) := by decide +kernel
theorem dX7_drawn_36 : decode cX7_drawn 36 = .ok (.aload_n 0, 1) := by decide +kernel
theorem dX7_drawn_37 : decode cX7_drawn 37 = .ok (.getfield 57, 3) := by decide +kernel
theorem dX7_drawn_40 : decode cX7_drawn 40 = .ok (.aload_n 0, 1) := by decide +kernel
theorem dX7_drawn_41 : decode cX7_drawn 41 = .ok (.getfield 50, 3) := by decide +kernel
theorem dX7_drawn_44 : decode cX7_drawn 44 = .ok (.aload_n 0, 1) := by decide +kernel
theorem dX7_drawn_45 : decode cX7_drawn 45 = .ok (.getfield 26, 3) := by decide +kernel
theorem dX7_drawn_48 : decode cX7_drawn 48 = .ok (.getfield 119, 3) := by decide +kernel
theorem dX7_drawn_51 : decode cX7_drawn 51 = .ok (.invokevirtual 178, 3) := by decide +kernel
theorem dX7_drawn_54 : decode cX7_drawn 54 = .ok (.iconst 0, 1) := by decide +kernel
theorem dX7_drawn_55 : decode cX7_drawn 55 = .ok (.istore 4, 2) := by decide +kernel
theorem dX7_drawn_57 : decode cX7_drawn 57 = .ok (.iconst 0, 1) := by decide +kernel
theorem dX7_drawn_58 : decode cX7_drawn 58 = .ok (.istore 5, 2) := by decide +kernel
theorem dX7_drawn_60 : decode cX7_drawn 60 = .ok (.iload 5, 2) := by decide +kernel
theorem dX7_drawn_62 : decode cX7_drawn 62 = .ok (.iload_n 1, 1) := by decide +kernel
theorem dX7_drawn_63 : decode cX7_drawn 63 = .ok (.if_icmp .ge 63, 3) := by decide +kernel
theorem dX7_drawn_66 : decode cX7_drawn 66 = .ok (.aload_n 0, 1) := by decide +kernel
theorem dX7_drawn_67 : decode cX7_drawn 67 = .ok (.aload_n 0, 1) := by decide +kernel
theorem dX7_drawn_68 : decode cX7_drawn 68 = .ok (.getfield 74, 3) := by decide +kernel
theorem dX7_drawn_71 : decode cX7_drawn 71 = .ok (.ldc2_w 259, 3) := by decide +kernel
theorem dX7_drawn_74 : decode cX7_drawn 74 = .ok (.lmul, 1) := by decide +kernel
theorem dX7_drawn_75 : decode cX7_drawn 75 = .ok (.ldc2_w 261, 3) := by decide +kernel
theorem dX7_drawn_78 : decode cX7_drawn 78 = .ok (.ladd, 1) := by decide +kernel
theorem dX7_drawn_79 : decode cX7_drawn 79 = .ok (.putfield 74, 3) := by decide +kernel
theorem dX7_drawn_82 : decode cX7_drawn 82 = .ok (.lload_n 2, 1) := by decide +kernel
theorem dX7_drawn_83 : decode cX7_drawn 83 = .ok (.lconst 0, 1) := by decide +kernel
theorem dX7_drawn_84 : decode cX7_drawn 84 = .ok (.lcmp, 1) := by decide +kernel
theorem dX7_drawn_85 : decode cX7_drawn 85 = .ok (.ifCond .le 35, 3) := by decide +kernel
theorem dX7_drawn_88 : decode cX7_drawn 88 = .ok (.aload_n 0, 1) := by decide +kernel
theorem dX7_drawn_89 : decode cX7_drawn 89 = .ok (.getfield 57, 3) := by decide +kernel
theorem dX7_drawn_92 : decode cX7_drawn 92 = .ok (.aload_n 0, 1) := by decide +kernel
theorem dX7_drawn_93 : decode cX7_drawn 93 = .ok (.getfield 50, 3) := by decide +kernel
theorem dX7_drawn_96 : decode cX7_drawn 96 = .ok (.aload_n 0, 1) := by decide +kernel
theorem dX7_drawn_97 : decode cX7_drawn 97 = .ok (.getfield 74, 3) := by decide +kernel
theorem dX7_drawn_100 : decode cX7_drawn 100 = .ok (.bipush 33, 2) := by decide +kernel
theorem dX7_drawn_102 : decode cX7_drawn 102 = .ok (.lushr, 1) := by decide +kernel
theorem dX7_drawn_103 : decode cX7_drawn 103 = .ok (.lload_n 2, 1) := by decide +kernel
theorem dX7_drawn_104 : decode cX7_drawn 104 = .ok (.lrem, 1) := by decide +kernel
theorem dX7_drawn_105 : decode cX7_drawn 105 = .ok (.invokevirtual 182, 3) := by decide +kernel
theorem dX7_drawn_108 : decode cX7_drawn 108 = .ok (.iload 4, 2) := by decide +kernel
theorem dX7_drawn_110 : decode cX7_drawn 110 = .ok (.aload_n 0, 1) := by decide +kernel
theorem dX7_drawn_111 : decode cX7_drawn 111 = .ok (.getfield 57, 3) := by decide +kernel
theorem dX7_drawn_114 : decode cX7_drawn 114 = .ok (.getfield 186, 3) := by decide +kernel
theorem dX7_drawn_117 : decode cX7_drawn 117 = .ok (.iadd, 1) := by decide +kernel
theorem dX7_drawn_118 : decode cX7_drawn 118 = .ok (.istore 4, 2) := by decide +kernel
theorem dX7_drawn_120 : decode cX7_drawn 120 = .ok (.iinc 5 1, 3) := by decide +kernel
theorem dX7_drawn_123 : decode cX7_drawn 123 = .ok (.goto (-63), 3) := by decide +kernel
theorem dX7_drawn_126 : decode cX7_drawn 126 = .ok (.iload 4, 2) := by decide +kernel
theorem dX7_drawn_128 : decode cX7_drawn 128 = .ok (.ireturn, 1) := by decide +kernel
theorem dX7_keep_0 : decode cX7_keep 0 = .ok (.iload_n 1, 1) := by decide +kernel
theorem dX7_keep_1 : decode cX7_keep 1 = .ok (.ifCond .lt 8, 3) := by decide +kernel
theorem dX7_keep_4 : decode cX7_keep 4 = .ok (.iload_n 1, 1) := by decide +kernel
theorem dX7_keep_5 : decode cX7_keep 5 = .ok (.iconst 2, 1) := by decide +kernel
theorem dX7_keep_6 : decode cX7_keep 6 = .ok (.if_icmp .lt 5, 3) := by decide +kernel
theorem dX7_keep_9 : decode cX7_keep 9 = .ok (.iconst (-1), 1) := by decide +kernel
theorem dX7_keep_10 : decode cX7_keep 10 = .ok (.ireturn, 1) := by decide +kernel
theorem dX7_keep_11 : decode cX7_keep 11 = .ok (.iload_n 1, 1) := by decide +kernel
theorem dX7_keep_12 : decode cX7_keep 12 = .ok (.ifCond .ne 22, 3) := by decide +kernel
theorem dX7_keep_15 : decode cX7_keep 15 = .ok (.aload_n 0, 1) := by decide +kernel
theorem dX7_keep_16 : decode cX7_keep 16 = .ok (.getfield 61, 3) := by decide +kernel
theorem dX7_keep_19 : decode cX7_keep 19 = .ok (.aload_n 0, 1) := by decide +kernel
theorem dX7_keep_20 : decode cX7_keep 20 = .ok (.getfield 26, 3) := by decide +kernel
theorem dX7_keep_23 : decode cX7_keep 23 = .ok (.invokevirtual 96, 3) := by decide +kernel
theorem dX7_keep_26 : decode cX7_keep 26 = .ok (.aload_n 0, 1) := by decide +kernel
theorem dX7_keep_27 : decode cX7_keep 27 = .ok (.iconst 1, 1) := by decide +kernel
theorem dX7_keep_28 : decode cX7_keep 28 = .ok (.putfield 67, 3) := by decide +kernel
theorem dX7_keep_31 : decode cX7_keep 31 = .ok (.goto 19, 3) := by decide +kernel
theorem dX7_keep_34 : decode cX7_keep 34 = .ok (.aload_n 0, 1) := by decide +kernel
theorem dX7_keep_35 : decode cX7_keep 35 = .ok (.getfield 64, 3) := by decide +kernel
theorem dX7_keep_38 : decode cX7_keep 38 = .ok (.aload_n 0, 1) := by decide +kernel
theorem dX7_keep_39 : decode cX7_keep 39 = .ok (.getfield 26, 3) := by decide +kernel
theorem dX7_keep_42 : decode cX7_keep 42 = .ok (.invokevirtual 96, 3) := by decide +kernel
theorem dX7_keep_45 : decode cX7_keep 45 = .ok (.aload_n 0, 1) := by decide +kernel
theorem dX7_keep_46 : decode cX7_keep 46 = .ok (.iconst 1, 1) := by decide +kernel
theorem dX7_keep_47 : decode cX7_keep 47 = .ok (.putfield 71, 3) := by decide +kernel
theorem dX7_keep_50 : decode cX7_keep 50 = .ok (.aload_n 0, 1) := by decide +kernel
theorem dX7_keep_51 : decode cX7_keep 51 = .ok (.getfield 19, 3) := by decide +kernel
theorem dX7_keep_54 : decode cX7_keep 54 = .ok (.getfield 263, 3) := by decide +kernel
theorem dX7_keep_57 : decode cX7_keep 57 = .ok (.ireturn, 1) := by decide +kernel
theorem dX7_again_0 : decode cX7_again 0 = .ok (.iload_n 1, 1) := by decide +kernel
theorem dX7_again_1 : decode cX7_again 1 = .ok (.ifCond .lt 8, 3) := by decide +kernel
theorem dX7_again_4 : decode cX7_again 4 = .ok (.iload_n 1, 1) := by decide +kernel
theorem dX7_again_5 : decode cX7_again 5 = .ok (.iconst 2, 1) := by decide +kernel
theorem dX7_again_6 : decode cX7_again 6 = .ok (.if_icmp .lt 5, 3) := by decide +kernel
theorem dX7_again_9 : decode cX7_again 9 = .ok (.iconst (-1), 1) := by decide +kernel
theorem dX7_again_10 : decode cX7_again 10 = .ok (.ireturn, 1) := by decide +kernel
theorem dX7_again_11 : decode cX7_again 11 = .ok (.iload_n 1, 1) := by decide +kernel
theorem dX7_again_12 : decode cX7_again 12 = .ok (.ifCond .ne 10, 3) := by decide +kernel
theorem dX7_again_15 : decode cX7_again 15 = .ok (.aload_n 0, 1) := by decide +kernel
theorem dX7_again_16 : decode cX7_again 16 = .ok (.getfield 67, 3) := by decide +kernel
theorem dX7_again_19 : decode cX7_again 19 = .ok (.goto 7, 3) := by decide +kernel
theorem dX7_again_22 : decode cX7_again 22 = .ok (.aload_n 0, 1) := by decide +kernel
theorem dX7_again_23 : decode cX7_again 23 = .ok (.getfield 71, 3) := by decide +kernel
theorem dX7_again_26 : decode cX7_again 26 = .ok (.istore_n 2, 1) := by decide +kernel
theorem dX7_again_27 : decode cX7_again 27 = .ok (.iload_n 2, 1) := by decide +kernel
theorem dX7_again_28 : decode cX7_again 28 = .ok (.ifCond .ne 6, 3) := by decide +kernel
theorem dX7_again_31 : decode cX7_again 31 = .ok (.bipush (-3), 2) := by decide +kernel
theorem dX7_again_33 : decode cX7_again 33 = .ok (.ireturn, 1) := by decide +kernel
theorem dX7_again_34 : decode cX7_again 34 = .ok (.aload_n 0, 1) := by decide +kernel
theorem dX7_again_35 : decode cX7_again 35 = .ok (.getfield 26, 3) := by decide +kernel
theorem dX7_again_38 : decode cX7_again 38 = .ok (.iload_n 1, 1) := by decide +kernel
theorem dX7_again_39 : decode cX7_again 39 = .ok (.ifCond .ne 10, 3) := by decide +kernel
theorem dX7_again_42 : decode cX7_again 42 = .ok (.aload_n 0, 1) := by decide +kernel
theorem dX7_again_43 : decode cX7_again 43 = .ok (.getfield 61, 3) := by decide +kernel
theorem dX7_again_46 : decode cX7_again 46 = .ok (.goto 7, 3) := by decide +kernel
theorem dX7_again_49 : decode cX7_again 49 = .ok (.aload_n 0, 1) := by decide +kernel
theorem dX7_again_50 : decode cX7_again 50 = .ok (.getfield 64, 3) := by decide +kernel
theorem dX7_again_53 : decode cX7_again 53 = .ok (.invokevirtual 96, 3) := by decide +kernel
theorem dX7_again_56 : decode cX7_again 56 = .ok (.aload_n 0, 1) := by decide +kernel
theorem dX7_again_57 : decode cX7_again 57 = .ok (.getfield 36, 3) := by decide +kernel
theorem dX7_again_60 : decode cX7_again 60 = .ok (.invokevirtual 99, 3) := by decide +kernel
theorem dX7_again_63 : decode cX7_again 63 = .ok (.aload_n 0, 1) := by decide +kernel
theorem dX7_again_64 : decode cX7_again 64 = .ok (.getfield 19, 3) := by decide +kernel
theorem dX7_again_67 : decode cX7_again 67 = .ok (.getfield 263, 3) := by decide +kernel
theorem dX7_again_70 : decode cX7_again 70 = .ok (.ireturn, 1) := by decide +kernel
theorem dX7_count_0 : decode cX7_count 0 = .ok (.iload_n 1, 1) := by decide +kernel
theorem dX7_count_1 : decode cX7_count 1 = .ok (.tableswitch 99 0 6 #[43, 51, 59, 67, 75, 83, 91], 43) := by decide +kernel
theorem dX7_count_44 : decode cX7_count 44 = .ok (.aload_n 0, 1) := by decide +kernel
theorem dX7_count_45 : decode cX7_count 45 = .ok (.getfield 12, 3) := by decide +kernel
theorem dX7_count_48 : decode cX7_count 48 = .ok (.getfield 78, 3) := by decide +kernel
theorem dX7_count_51 : decode cX7_count 51 = .ok (.ireturn, 1) := by decide +kernel
theorem dX7_count_52 : decode cX7_count 52 = .ok (.aload_n 0, 1) := by decide +kernel
theorem dX7_count_53 : decode cX7_count 53 = .ok (.getfield 19, 3) := by decide +kernel
theorem dX7_count_56 : decode cX7_count 56 = .ok (.getfield 263, 3) := by decide +kernel
theorem dX7_count_59 : decode cX7_count 59 = .ok (.ireturn, 1) := by decide +kernel
theorem dX7_count_60 : decode cX7_count 60 = .ok (.aload_n 0, 1) := by decide +kernel
theorem dX7_count_61 : decode cX7_count 61 = .ok (.getfield 26, 3) := by decide +kernel
theorem dX7_count_64 : decode cX7_count 64 = .ok (.getfield 102, 3) := by decide +kernel
theorem dX7_count_67 : decode cX7_count 67 = .ok (.ireturn, 1) := by decide +kernel
theorem dX7_count_68 : decode cX7_count 68 = .ok (.aload_n 0, 1) := by decide +kernel
theorem dX7_count_69 : decode cX7_count 69 = .ok (.getfield 26, 3) := by decide +kernel
theorem dX7_count_72 : decode cX7_count 72 = .ok (.invokevirtual 266, 3) := by decide +kernel
theorem dX7_count_75 : decode cX7_count 75 = .ok (.ireturn, 1) := by decide +kernel
theorem dX7_count_76 : decode cX7_count 76 = .ok (.aload_n 0, 1) := by decide +kernel
theorem dX7_count_77 : decode cX7_count 77 = .ok (.getfield 26, 3) := by decide +kernel
theorem dX7_count_80 : decode cX7_count 80 = .ok (.getfield 125, 3) := by decide +kernel
theorem dX7_count_83 : decode cX7_count 83 = .ok (.ireturn, 1) := by decide +kernel
theorem dX7_count_84 : decode cX7_count 84 = .ok (.aload_n 0, 1) := by decide +kernel
theorem dX7_count_85 : decode cX7_count 85 = .ok (.getfield 36, 3) := by decide +kernel
theorem dX7_count_88 : decode cX7_count 88 = .ok (.getfield 163, 3) := by decide +kernel
theorem dX7_count_91 : decode cX7_count 91 = .ok (.ireturn, 1) := by decide +kernel
theorem dX7_count_92 : decode cX7_count 92 = .ok (.aload_n 0, 1) := by decide +kernel
theorem dX7_count_93 : decode cX7_count 93 = .ok (.getfield 43, 3) := by decide +kernel
theorem dX7_count_96 : decode cX7_count 96 = .ok (.getfield 220, 3) := by decide +kernel
theorem dX7_count_99 : decode cX7_count 99 = .ok (.ireturn, 1) := by decide +kernel
theorem dX7_count_100 : decode cX7_count 100 = .ok (.bipush (-2), 2) := by decide +kernel
theorem dX7_count_102 : decode cX7_count 102 = .ok (.ireturn, 1) := by decide +kernel
theorem dX7_isKind_0 : decode cX7_isKind 0 = .ok (.iload_n 0, 1) := by decide +kernel
theorem dX7_isKind_1 : decode cX7_isKind 1 = .ok (.ifCond .lt 12, 3) := by decide +kernel
theorem dX7_isKind_4 : decode cX7_isKind 4 = .ok (.iload_n 0, 1) := by decide +kernel
theorem dX7_isKind_5 : decode cX7_isKind 5 = .ok (.iconst 3, 1) := by decide +kernel
theorem dX7_isKind_6 : decode cX7_isKind 6 = .ok (.if_icmp .ge 7, 3) := by decide +kernel
theorem dX7_isKind_9 : decode cX7_isKind 9 = .ok (.iconst 1, 1) := by decide +kernel
theorem dX7_isKind_10 : decode cX7_isKind 10 = .ok (.goto 4, 3) := by decide +kernel
theorem dX7_isKind_13 : decode cX7_isKind 13 = .ok (.iconst 0, 1) := by decide +kernel
theorem dX7_isKind_14 : decode cX7_isKind 14 = .ok (.ireturn, 1) := by decide +kernel
theorem dX7_isSign_0 : decode cX7_isSign 0 = .ok (.iload_n 0, 1) := by decide +kernel
theorem dX7_isSign_1 : decode cX7_isSign 1 = .ok (.ifCond .lt 13, 3) := by decide +kernel
theorem dX7_isSign_4 : decode cX7_isSign 4 = .ok (.iload_n 0, 1) := by decide +kernel
theorem dX7_isSign_5 : decode cX7_isSign 5 = .ok (.bipush 7, 2) := by decide +kernel
theorem dX7_isSign_7 : decode cX7_isSign 7 = .ok (.if_icmp .ge 7, 3) := by decide +kernel
theorem dX7_isSign_10 : decode cX7_isSign 10 = .ok (.iconst 1, 1) := by decide +kernel
theorem dX7_isSign_11 : decode cX7_isSign 11 = .ok (.goto 4, 3) := by decide +kernel
theorem dX7_isSign_14 : decode cX7_isSign 14 = .ok (.iconst 0, 1) := by decide +kernel
theorem dX7_isSign_15 : decode cX7_isSign 15 = .ok (.ireturn, 1) := by decide +kernel
theorem dX7_factorial_0 : decode cX7_factorial 0 = .ok (.iload_n 0, 1) := by decide +kernel
theorem dX7_factorial_1 : decode cX7_factorial 1 = .ok (.ifCond .lt 19, 3) := by decide +kernel
theorem dX7_factorial_4 : decode cX7_factorial 4 = .ok (.iload_n 0, 1) := by decide +kernel
theorem dX7_factorial_5 : decode cX7_factorial 5 = .ok (.getstatic 269, 3) := by decide +kernel
theorem dX7_factorial_8 : decode cX7_factorial 8 = .ok (.arraylength, 1) := by decide +kernel
theorem dX7_factorial_9 : decode cX7_factorial 9 = .ok (.if_icmp .ge 11, 3) := by decide +kernel
theorem dX7_factorial_12 : decode cX7_factorial 12 = .ok (.getstatic 269, 3) := by decide +kernel
theorem dX7_factorial_15 : decode cX7_factorial 15 = .ok (.iload_n 0, 1) := by decide +kernel
theorem dX7_factorial_16 : decode cX7_factorial 16 = .ok (.laload, 1) := by decide +kernel
theorem dX7_factorial_17 : decode cX7_factorial 17 = .ok (.goto 4, 3) := by decide +kernel
theorem dX7_factorial_20 : decode cX7_factorial 20 = .ok (.lconst 1, 1) := by decide +kernel
theorem dX7_factorial_21 : decode cX7_factorial 21 = .ok (.lreturn, 1) := by decide +kernel
theorem dX7_power_0 : decode cX7_power 0 = .ok (.lconst 1, 1) := by decide +kernel
theorem dX7_power_1 : decode cX7_power 1 = .ok (.lstore_n 2, 1) := by decide +kernel
theorem dX7_power_2 : decode cX7_power 2 = .ok (.iconst 0, 1) := by decide +kernel
theorem dX7_power_3 : decode cX7_power 3 = .ok (.istore 4, 2) := by decide +kernel
theorem dX7_power_5 : decode cX7_power 5 = .ok (.iload 4, 2) := by decide +kernel
theorem dX7_power_7 : decode cX7_power 7 = .ok (.iload_n 1, 1) := by decide +kernel
theorem dX7_power_8 : decode cX7_power 8 = .ok (.if_icmp .ge 14, 3) := by decide +kernel
theorem dX7_power_11 : decode cX7_power 11 = .ok (.lload_n 2, 1) := by decide +kernel
theorem dX7_power_12 : decode cX7_power 12 = .ok (.iload_n 0, 1) := by decide +kernel
theorem dX7_power_13 : decode cX7_power 13 = .ok (.i2l, 1) := by decide +kernel
theorem dX7_power_14 : decode cX7_power 14 = .ok (.lmul, 1) := by decide +kernel
theorem dX7_power_15 : decode cX7_power 15 = .ok (.lstore_n 2, 1) := by decide +kernel
theorem dX7_power_16 : decode cX7_power 16 = .ok (.iinc 4 1, 3) := by decide +kernel
theorem dX7_power_19 : decode cX7_power 19 = .ok (.goto (-14), 3) := by decide +kernel
theorem dX7_power_22 : decode cX7_power 22 = .ok (.lload_n 2, 1) := by decide +kernel
theorem dX7_power_23 : decode cX7_power 23 = .ok (.lreturn, 1) := by decide +kernel
theorem dX7_lowestTerms_0 : decode cX7_lowestTerms 0 = .ok (.lload_n 0, 1) := by decide +kernel
theorem dX7_lowestTerms_1 : decode cX7_lowestTerms 1 = .ok (.lstore 5, 2) := by decide +kernel
theorem dX7_lowestTerms_3 : decode cX7_lowestTerms 3 = .ok (.lload_n 2, 1) := by decide +kernel
theorem dX7_lowestTerms_4 : decode cX7_lowestTerms 4 = .ok (.lstore 7, 2) := by decide +kernel
theorem dX7_lowestTerms_6 : decode cX7_lowestTerms 6 = .ok (.iconst 0, 1) := by decide +kernel
theorem dX7_lowestTerms_7 : decode cX7_lowestTerms 7 = .ok (.istore 9, 2) := by decide +kernel
theorem dX7_lowestTerms_9 : decode cX7_lowestTerms 9 = .ok (.iload 9, 2) := by decide +kernel
theorem dX7_lowestTerms_11 : decode cX7_lowestTerms 11 = .ok (.sipush 200, 3) := by decide +kernel
theorem dX7_lowestTerms_14 : decode cX7_lowestTerms 14 = .ok (.if_icmp .ge 31, 3) := by decide +kernel
theorem dX7_lowestTerms_17 : decode cX7_lowestTerms 17 = .ok (.lload 7, 2) := by decide +kernel
theorem dX7_lowestTerms_19 : decode cX7_lowestTerms 19 = .ok (.lconst 0, 1) := by decide +kernel
theorem dX7_lowestTerms_20 : decode cX7_lowestTerms 20 = .ok (.lcmp, 1) := by decide +kernel
theorem dX7_lowestTerms_21 : decode cX7_lowestTerms 21 = .ok (.ifCond .eq 24, 3) := by decide +kernel
theorem dX7_lowestTerms_24 : decode cX7_lowestTerms 24 = .ok (.lload 5, 2) := by decide +kernel
theorem dX7_lowestTerms_26 : decode cX7_lowestTerms 26 = .ok (.lload 7, 2) := by decide +kernel
theorem dX7_lowestTerms_28 : decode cX7_lowestTerms 28 = .ok (.lrem, 1) := by decide +kernel
theorem dX7_lowestTerms_29 : decode cX7_lowestTerms 29 = .ok (.lstore 10, 2) := by decide +kernel
theorem dX7_lowestTerms_31 : decode cX7_lowestTerms 31 = .ok (.lload 7, 2) := by decide +kernel
theorem dX7_lowestTerms_33 : decode cX7_lowestTerms 33 = .ok (.lstore 5, 2) := by decide +kernel
theorem dX7_lowestTerms_35 : decode cX7_lowestTerms 35 = .ok (.lload 10, 2) := by decide +kernel
theorem dX7_lowestTerms_37 : decode cX7_lowestTerms 37 = .ok (.lstore 7, 2) := by decide +kernel
theorem dX7_lowestTerms_39 : decode cX7_lowestTerms 39 = .ok (.iinc 9 1, 3) := by decide +kernel
theorem dX7_lowestTerms_42 : decode cX7_lowestTerms 42 = .ok (.goto (-33), 3) := by decide +kernel
theorem dX7_lowestTerms_45 : decode cX7_lowestTerms 45 = .ok (.iload 4, 2) := by decide +kernel
theorem dX7_lowestTerms_47 : decode cX7_lowestTerms 47 = .ok (.ifCond .eq 7, 3) := by decide +kernel
theorem dX7_lowestTerms_50 : decode cX7_lowestTerms 50 = .ok (.lload_n 0, 1) := by decide +kernel
theorem dX7_lowestTerms_51 : decode cX7_lowestTerms 51 = .ok (.goto 4, 3) := by decide +kernel
theorem dX7_lowestTerms_54 : decode cX7_lowestTerms 54 = .ok (.lload_n 2, 1) := by decide +kernel
theorem dX7_lowestTerms_55 : decode cX7_lowestTerms 55 = .ok (.lstore 9, 2) := by decide +kernel
theorem dX7_lowestTerms_57 : decode cX7_lowestTerms 57 = .ok (.lload 5, 2) := by decide +kernel
theorem dX7_lowestTerms_59 : decode cX7_lowestTerms 59 = .ok (.lconst 0, 1) := by decide +kernel
theorem dX7_lowestTerms_60 : decode cX7_lowestTerms 60 = .ok (.lcmp, 1) := by decide +kernel
theorem dX7_lowestTerms_61 : decode cX7_lowestTerms 61 = .ok (.ifCond .ne 8, 3) := by decide +kernel
theorem dX7_lowestTerms_64 : decode cX7_lowestTerms 64 = .ok (.lload 9, 2) := by decide +kernel
theorem dX7_lowestTerms_66 : decode cX7_lowestTerms 66 = .ok (.goto 8, 3) := by decide +kernel
theorem dX7_lowestTerms_69 : decode cX7_lowestTerms 69 = .ok (.lload 9, 2) := by decide +kernel
theorem dX7_lowestTerms_71 : decode cX7_lowestTerms 71 = .ok (.lload 5, 2) := by decide +kernel
theorem dX7_lowestTerms_73 : decode cX7_lowestTerms 73 = .ok (.ldiv, 1) := by decide +kernel
theorem dX7_lowestTerms_74 : decode cX7_lowestTerms 74 = .ok (.lreturn, 1) := by decide +kernel
theorem dX8_init_0 : decode cX8_init 0 = .ok (.aload_n 0, 1) := by decide +kernel
theorem dX8_init_1 : decode cX8_init 1 = .ok (.invokespecial 1, 3) := by decide +kernel
theorem dX8_init_4 : decode cX8_init 4 = .ok (.aload_n 0, 1) := by decide +kernel
theorem dX8_init_5 : decode cX8_init 5 = .ok (.bipush 110, 2) := by decide +kernel
theorem dX8_init_7 : decode cX8_init 7 = .ok (.newarray .int, 2) := by decide +kernel
theorem dX8_init_9 : decode cX8_init 9 = .ok (.putfield 7, 3) := by decide +kernel
theorem dX8_init_12 : decode cX8_init 12 = .ok (.aload_n 0, 1) := by decide +kernel
theorem dX8_init_13 : decode cX8_init 13 = .ok (.bipush 7, 2) := by decide +kernel
theorem dX8_init_15 : decode cX8_init 15 = .ok (.newarray .int, 2) := by decide +kernel
theorem dX8_init_17 : decode cX8_init 17 = .ok (.putfield 13, 3) := by decide +kernel
theorem dX8_init_20 : decode cX8_init 20 = .ok (.aload_n 0, 1) := by decide +kernel
theorem dX8_init_21 : decode cX8_init 21 = .ok (.bipush 8, 2) := by decide +kernel
theorem dX8_init_23 : decode cX8_init 23 = .ok (.newarray .int, 2) := by decide +kernel
theorem dX8_init_25 : decode cX8_init 25 = .ok (.putfield 16, 3) := by decide +kernel
theorem dX8_init_28 : decode cX8_init 28 = .ok (.aload_n 0, 1) := by decide +kernel
theorem dX8_init_29 : decode cX8_init 29 = .ok (.bipush 40, 2) := by decide +kernel
theorem dX8_init_31 : decode cX8_init 31 = .ok (.newarray .int, 2) := by decide +kernel
theorem dX8_init_33 : decode cX8_init 33 = .ok (.putfield 19, 3) := by decide +kernel
theorem dX8_init_36 : decode cX8_init 36 = .ok (.aload_n 0, 1) := by decide +kernel
theorem dX8_init_37 : decode cX8_init 37 = .ok (.bipush 8, 2) := by decide +kernel
theorem dX8_init_39 : decode cX8_init 39 = .ok (.newarray .int, 2) := by decide +kernel
theorem dX8_init_41 : decode cX8_init 41 = .ok (.putfield 22, 3) := by decide +kernel
theorem dX8_init_44 : decode cX8_init 44 = .ok (.aload_n 0, 1) := by decide +kernel
theorem dX8_init_45 : decode cX8_init 45 = .ok (.bipush 8, 2) := by decide +kernel
theorem dX8_init_47 : decode cX8_init 47 = .ok (.newarray .int, 2) := by decide +kernel
theorem dX8_init_49 : decode cX8_init 49 = .ok (.putfield 25, 3) := by decide +kernel
theorem dX8_init_52 : decode cX8_init 52 = .ok (.aload_n 0, 1) := by decide +kernel
theorem dX8_init_53 : decode cX8_init 53 = .ok (.bipush 7, 2) := by decide +kernel
theorem dX8_init_55 : decode cX8_init 55 = .ok (.newarray .int, 2) := by decide +kernel
theorem dX8_init_57 : decode cX8_init 57 = .ok (.putfield 28, 3) := by decide +kernel
theorem dX8_init_60 : decode cX8_init 60 = .ok (.aload_n 0, 1) := by decide +kernel
theorem dX8_init_61 : decode cX8_init 61 = .ok (.bipush 8, 2) := by decide +kernel
theorem dX8_init_63 : decode cX8_init 63 = .ok (.newarray .int, 2) := by decide +kernel
theorem dX8_init_65 : decode cX8_init 65 = .ok (.putfield 31, 3) := by decide +kernel
theorem dX8_init_68 : decode cX8_init 68 = .ok (.aload_n 0, 1) := by decide +kernel
theorem dX8_init_69 : decode cX8_init 69 = .ok (.bipush 40, 2) := by decide +kernel
theorem dX8_init_71 : decode cX8_init 71 = .ok (.newarray .int, 2) := by decide +kernel
theorem dX8_init_73 : decode cX8_init 73 = .ok (.putfield 34, 3) := by decide +kernel
theorem dX8_init_76 : decode cX8_init 76 = .ok (.aload_n 0, 1) := by decide +kernel
theorem dX8_init_77 : decode cX8_init 77 = .ok (.bipush 8, 2) := by decide +kernel
theorem dX8_init_79 : decode cX8_init 79 = .ok (.newarray .int, 2) := by decide +kernel
theorem dX8_init_81 : decode cX8_init 81 = .ok (.putfield 37, 3) := by decide +kernel
theorem dX8_init_84 : decode cX8_init 84 = .ok (.aload_n 0, 1) := by decide +kernel
theorem dX8_init_85 : decode cX8_init 85 = .ok (.bipush 8, 2) := by decide +kernel
theorem dX8_init_87 : decode cX8_init 87 = .ok (.newarray .int, 2) := by decide +kernel
theorem dX8_init_89 : decode cX8_init 89 = .ok (.putfield 40, 3) := by decide +kernel
theorem dX8_init_92 : decode cX8_init 92 = .ok (.aload_n 0, 1) := by decide +kernel
theorem dX8_init_93 : decode cX8_init 93 = .ok (.bipush 9, 2) := by decide +kernel
theorem dX8_init_95 : decode cX8_init 95 = .ok (.newarray .boolean, 2) := by decide +kernel
theorem dX8_init_97 : decode cX8_init 97 = .ok (.putfield 43, 3) := by decide +kernel
theorem dX8_init_100 : decode cX8_init 100 = .ok (.aload_n 0, 1) := by decide +kernel
theorem dX8_init_101 : decode cX8_init 101 = .ok (.bipush 43, 2) := by decide +kernel
theorem dX8_init_103 : decode cX8_init 103 = .ok (.newarray .int, 2) := by decide +kernel
theorem dX8_init_105 : decode cX8_init 105 = .ok (.putfield 47, 3) := by decide +kernel
theorem dX8_init_108 : decode cX8_init 108 = .ok (.aload_n 0, 1) := by decide +kernel
theorem dX8_init_109 : decode cX8_init 109 = .ok (.bipush 43, 2) := by decide +kernel
theorem dX8_init_111 : decode cX8_init 111 = .ok (.newarray .int, 2) := by decide +kernel
theorem dX8_init_113 : decode cX8_init 113 = .ok (.putfield 50, 3) := by decide +kernel
theorem dX8_init_116 : decode cX8_init 116 = .ok (.aload_n 0, 1) := by decide +kernel
theorem dX8_init_117 : decode cX8_init 117 = .ok (.bipush 43, 2) := by decide +kernel
theorem dX8_init_119 : decode cX8_init 119 = .ok (.newarray .int, 2) := by decide +kernel
theorem dX8_init_121 : decode cX8_init 121 = .ok (.putfield 53, 3) := by decide +kernel
theorem dX8_init_124 : decode cX8_init 124 = .ok (.aload_n 0, 1) := by decide +kernel
theorem dX8_init_125 : decode cX8_init 125 = .ok (.sipush 602, 3) := by decide +kernel
theorem dX8_init_128 : decode cX8_init 128 = .ok (.newarray .int, 2) := by decide +kernel
theorem dX8_init_130 : decode cX8_init 130 = .ok (.putfield 56, 3) := by decide +kernel
theorem dX8_init_133 : decode cX8_init 133 = .ok (.aload_n 0, 1) := by decide +kernel
theorem dX8_init_134 : decode cX8_init 134 = .ok (.bipush 86, 2) := by decide +kernel
theorem dX8_init_136 : decode cX8_init 136 = .ok (.newarray .int, 2) := by decide +kernel
theorem dX8_init_138 : decode cX8_init 138 = .ok (.putfield 59, 3) := by decide +kernel
theorem dX8_init_141 : decode cX8_init 141 = .ok (.aload_n 0, 1) := by decide +kernel
theorem dX8_init_142 : decode cX8_init 142 = .ok (.iconst 2, 1) := by decide +kernel
theorem dX8_init_143 : decode cX8_init 143 = .ok (.newarray .boolean, 2) := by decide +kernel
theorem dX8_init_145 : decode cX8_init 145 = .ok (.putfield 62, 3) := by decide +kernel
theorem dX8_init_148 : decode cX8_init 148 = .ok (.aload_n 0, 1) := by decide +kernel
theorem dX8_init_149 : decode cX8_init 149 = .ok (.bipush 6, 2) := by decide +kernel
theorem dX8_init_151 : decode cX8_init 151 = .ok (.newarray .int, 2) := by decide +kernel
theorem dX8_init_153 : decode cX8_init 153 = .ok (.putfield 65, 3) := by decide +kernel
theorem dX8_init_156 : decode cX8_init 156 = .ok (.aload_n 0, 1) := by decide +kernel
theorem dX8_init_157 : decode cX8_init 157 = .ok (.bipush 6, 2) := by decide +kernel
theorem dX8_init_159 : decode cX8_init 159 = .ok (.newarray .int, 2) := by decide +kernel
theorem dX8_init_161 : decode cX8_init 161 = .ok (.putfield 68, 3) := by decide +kernel
theorem dX8_init_164 : decode cX8_init 164 = .ok (.aload_n 0, 1) := by decide +kernel
theorem dX8_init_165 : decode cX8_init 165 = .ok (.bipush 6, 2) := by decide +kernel
theorem dX8_init_167 : decode cX8_init 167 = .ok (.newarray .int, 2) := by decide +kernel
theorem dX8_init_169 : decode cX8_init 169 = .ok (.putfield 71, 3) := by decide +kernel
theorem dX8_init_172 : decode cX8_init 172 = .ok (.aload_n 0, 1) := by decide +kernel
theorem dX8_init_173 : decode cX8_init 173 = .ok (.sipush 16425, 3) := by decide +kernel
theorem dX8_init_176 : decode cX8_init 176 = .ok (.newarray .long, 2) := by decide +kernel
theorem dX8_init_178 : decode cX8_init 178 = .ok (.putfield 74, 3) := by decide +kernel
theorem dX8_init_181 : decode cX8_init 181 = .ok (.aload_n 0, 1) := by decide +kernel
theorem dX8_init_182 : decode cX8_init 182 = .ok (.sipush 225, 3) := by decide +kernel
theorem dX8_init_185 : decode cX8_init 185 = .ok (.newarray .long, 2) := by decide +kernel
theorem dX8_init_187 : decode cX8_init 187 = .ok (.putfield 78, 3) := by decide +kernel
theorem dX8_init_190 : decode cX8_init 190 = .ok (.aload_n 0, 1) := by decide +kernel
theorem dX8_init_191 : decode cX8_init 191 = .ok (.sipush 225, 3) := by decide +kernel
theorem dX8_init_194 : decode cX8_init 194 = .ok (.newarray .long, 2) := by decide +kernel
theorem dX8_init_196 : decode cX8_init 196 = .ok (.putfield 81, 3) := by decide +kernel
theorem dX8_init_199 : decode cX8_init 199 = .ok (.aload_n 0, 1) := by decide +kernel
theorem dX8_init_200 : decode cX8_init 200 = .ok (.bipush 8, 2) := by decide +kernel
theorem dX8_init_202 : decode cX8_init 202 = .ok (.newarray .int, 2) := by decide +kernel
theorem dX8_init_204 : decode cX8_init 204 = .ok (.putfield 84, 3) := by decide +kernel
theorem dX8_init_207 : decode cX8_init 207 = .ok (.aload_n 0, 1) := by decide +kernel
theorem dX8_init_208 : decode cX8_init 208 = .ok (.sipush 256, 3) := by decide +kernel
theorem dX8_init_211 : decode cX8_init 211 = .ok (.newarray .long, 2) := by decide +kernel
theorem dX8_init_213 : decode cX8_init 213 = .ok (.putfield 87, 3) := by decide +kernel
theorem dX8_init_216 : decode cX8_init 216 = .ok (.iconst 0, 1) := by decide +kernel
theorem dX8_init_217 : decode cX8_init 217 = .ok (.istore_n 1, 1) := by decide +kernel
theorem dX8_init_218 : decode cX8_init 218 = .ok (.iload_n 1, 1) := by decide +kernel
theorem dX8_init_219 : decode cX8_init 219 = .ok (.bipush 7, 2) := by decide +kernel
theorem dX8_init_221 : decode cX8_init 221 = .ok (.if_icmp .ge 16, 3) := by decide +kernel
theorem dX8_init_224 : decode cX8_init 224 = .ok (.aload_n 0, 1) := by decide +kernel
theorem dX8_init_225 : decode cX8_init 225 = .ok (.getfield 13, 3) := by decide +kernel
theorem dX8_init_228 : decode cX8_init 228 = .ok (.iload_n 1, 1) := by decide +kernel
theorem dX8_init_229 : decode cX8_init 229 = .ok (.iconst 1, 1) := by decide +kernel
theorem dX8_init_230 : decode cX8_init 230 = .ok (.iastore, 1) := by decide +kernel
theorem dX8_init_231 : decode cX8_init 231 = .ok (.iinc 1 1, 3) := by decide +kernel
theorem dX8_init_234 : decode cX8_init 234 = .ok (.goto (-16), 3) := by decide +kernel
theorem dX8_init_237 : decode cX8_init 237 = .ok (.aload_n 0, 1) := by decide +kernel
theorem dX8_init_238 : decode cX8_init 238 = .ok (.getfield 50, 3) := by decide +kernel
theorem dX8_init_241 : decode cX8_init 241 = .ok (.invokestatic 90, 3) := by decide +kernel
theorem dX8_init_244 : decode cX8_init 244 = .ok (.return_, 1) := by decide +kernel
theorem dX8_begin_0 : decode cX8_begin 0 = .ok (.iconst 0, 1) := by decide +kernel
theorem dX8_begin_1 : decode cX8_begin 1 = .ok (.istore_n 1, 1) := by decide +kernel
theorem dX8_begin_2 : decode cX8_begin 2 = .ok (.iload_n 1, 1) := by decide +kernel
theorem dX8_begin_3 : decode cX8_begin 3 = .ok (.bipush 43, 2) := by decide +kernel
theorem dX8_begin_5 : decode cX8_begin 5 = .ok (.if_icmp .ge 28, 3) := by decide +kernel
theorem dX8_begin_8 : decode cX8_begin 8 = .ok (.aload_n 0, 1) := by decide +kernel
theorem dX8_begin_9 : decode cX8_begin 9 = .ok (.iload_n 1, 1) := by decide +kernel
theorem dX8_begin_10 : decode cX8_begin 10 = .ok (.iload_n 1, 1) := by decide +kernel
theorem dX8_begin_11 : decode cX8_begin 11 = .ok (.iconst 2, 1) := by decide +kernel
theorem dX8_begin_12 : decode cX8_begin 12 = .ok (.if_icmp .lt 13, 3) := by decide +kernel
theorem dX8_begin_15 : decode cX8_begin 15 = .ok (.iload_n 1, 1) := by decide +kernel
theorem dX8_begin_16 : decode cX8_begin 16 = .ok (.bipush 11, 2) := by decide +kernel
theorem dX8_begin_18 : decode cX8_begin 18 = .ok (.if_icmp .ge 7, 3) := by decide +kernel
theorem dX8_begin_21 : decode cX8_begin 21 = .ok (.iconst 1, 1) := by decide +kernel
theorem dX8_begin_22 : decode cX8_begin 22 = .ok (.goto 4, 3) := by decide +kernel
theorem dX8_begin_25 : decode cX8_begin 25 = .ok (.iconst 0, 1) := by decide +kernel
theorem dX8_begin_26 : decode cX8_begin 26 = .ok (.iastore, 1) := by decide +kernel
theorem dX8_begin_27 : decode cX8_begin 27 = .ok (.iinc 1 1, 3) := by decide +kernel
theorem dX8_begin_30 : decode cX8_begin 30 = .ok (.goto (-28), 3) := by decide +kernel
theorem dX8_begin_33 : decode cX8_begin 33 = .ok (.return_, 1) := by decide +kernel
theorem dX8_in_0 : decode cX8_in 0 = .ok (.lload_n 0, 1) := by decide +kernel
theorem dX8_in_1 : decode cX8_in 1 = .ok (.lload_n 2, 1) := by decide +kernel
theorem dX8_in_2 : decode cX8_in 2 = .ok (.lcmp, 1) := by decide +kernel
theorem dX8_in_3 : decode cX8_in 3 = .ok (.ifCond .lt 14, 3) := by decide +kernel
theorem dX8_in_6 : decode cX8_in 6 = .ok (.lload_n 0, 1) := by decide +kernel
theorem dX8_in_7 : decode cX8_in 7 = .ok (.lload 4, 2) := by decide +kernel
theorem dX8_in_9 : decode cX8_in 9 = .ok (.lcmp, 1) := by decide +kernel
theorem dX8_in_10 : decode cX8_in 10 = .ok (.ifCond .gt 7, 3) := by decide +kernel
theorem dX8_in_13 : decode cX8_in 13 = .ok (.iconst 1, 1) := by decide +kernel
theorem dX8_in_14 : decode cX8_in 14 = .ok (.goto 4, 3) := by decide +kernel
theorem dX8_in_17 : decode cX8_in 17 = .ok (.iconst 0, 1) := by decide +kernel
theorem dX8_in_18 : decode cX8_in 18 = .ok (.ireturn, 1) := by decide +kernel
theorem dX8_has_0 : decode cX8_has 0 = .ok (.iload_n 0, 1) := by decide +kernel
theorem dX8_has_1 : decode cX8_has 1 = .ok (.iload_n 1, 1) := by decide +kernel
theorem dX8_has_2 : decode cX8_has 2 = .ok (.ishr, 1) := by decide +kernel
theorem dX8_has_3 : decode cX8_has 3 = .ok (.iconst 1, 1) := by decide +kernel
theorem dX8_has_4 : decode cX8_has 4 = .ok (.iand, 1) := by decide +kernel
theorem dX8_has_5 : decode cX8_has 5 = .ok (.iconst 1, 1) := by decide +kernel
theorem dX8_has_6 : decode cX8_has 6 = .ok (.if_icmp .ne 7, 3) := by decide +kernel
theorem dX8_has_9 : decode cX8_has 9 = .ok (.iconst 1, 1) := by decide +kernel
theorem dX8_has_10 : decode cX8_has 10 = .ok (.goto 4, 3) := by decide +kernel
theorem dX8_has_13 : decode cX8_has 13 = .ok (.iconst 0, 1) := by decide +kernel
theorem dX8_has_14 : decode cX8_has 14 = .ok (.ireturn, 1) := by decide +kernel
theorem dX8_ones_0 : decode cX8_ones 0 = .ok (.iconst 0, 1) := by decide +kernel
theorem dX8_ones_1 : decode cX8_ones 1 = .ok (.istore_n 1, 1) := by decide +kernel
theorem dX8_ones_2 : decode cX8_ones 2 = .ok (.iconst 0, 1) := by decide +kernel
theorem dX8_ones_3 : decode cX8_ones 3 = .ok (.istore_n 2, 1) := by decide +kernel
theorem dX8_ones_4 : decode cX8_ones 4 = .ok (.iload_n 2, 1) := by decide +kernel
theorem dX8_ones_5 : decode cX8_ones 5 = .ok (.bipush 8, 2) := by decide +kernel
theorem dX8_ones_7 : decode cX8_ones 7 = .ok (.if_icmp .ge 17, 3) := by decide +kernel
theorem dX8_ones_10 : decode cX8_ones 10 = .ok (.iload_n 1, 1) := by decide +kernel
theorem dX8_ones_11 : decode cX8_ones 11 = .ok (.iload_n 0, 1) := by decide +kernel
theorem dX8_ones_12 : decode cX8_ones 12 = .ok (.iload_n 2, 1) := by decide +kernel
theorem dX8_ones_13 : decode cX8_ones 13 = .ok (.ishr, 1) := by decide +kernel
theorem dX8_ones_14 : decode cX8_ones 14 = .ok (.iconst 1, 1) := by decide +kernel
theorem dX8_ones_15 : decode cX8_ones 15 = .ok (.iand, 1) := by decide +kernel
theorem dX8_ones_16 : decode cX8_ones 16 = .ok (.iadd, 1) := by decide +kernel
theorem dX8_ones_17 : decode cX8_ones 17 = .ok (.istore_n 1, 1) := by decide +kernel
theorem dX8_ones_18 : decode cX8_ones 18 = .ok (.iinc 2 1, 3) := by decide +kernel
theorem dX8_ones_21 : decode cX8_ones 21 = .ok (.goto (-17), 3) := by decide +kernel
theorem dX8_ones_24 : decode cX8_ones 24 = .ok (.iload_n 1, 1) := by decide +kernel
theorem dX8_ones_25 : decode cX8_ones 25 = .ok (.ireturn, 1) := by decide +kernel
theorem dX8_power_0 : decode cX8_power 0 = .ok (.iconst 1, 1) := by decide +kernel
theorem dX8_power_1 : decode cX8_power 1 = .ok (.istore_n 2, 1) := by decide +kernel
theorem dX8_power_2 : decode cX8_power 2 = .ok (.iconst 0, 1) := by decide +kernel
theorem dX8_power_3 : decode cX8_power 3 = .ok (.istore_n 3, 1) := by decide +kernel
theorem dX8_power_4 : decode cX8_power 4 = .ok (.iload_n 3, 1) := by decide +kernel
theorem dX8_power_5 : decode cX8_power 5 = .ok (.iload_n 1, 1) := by decide +kernel
theorem dX8_power_6 : decode cX8_power 6 = .ok (.if_icmp .ge 13, 3) := by decide +kernel
theorem dX8_power_9 : decode cX8_power 9 = .ok (.iload_n 2, 1) := by decide +kernel
theorem dX8_power_10 : decode cX8_power 10 = .ok (.iload_n 0, 1) := by decide +kernel
theorem dX8_power_11 : decode cX8_power 11 = .ok (.imul, 1) := by decide +kernel
theorem dX8_power_12 : decode cX8_power 12 = .ok (.istore_n 2, 1) := by decide +kernel
theorem dX8_power_13 : decode cX8_power 13 = .ok (.iinc 3 1, 3) := by decide +kernel
theorem dX8_power_16 : decode cX8_power 16 = .ok (.goto (-12), 3) := by decide +kernel
theorem dX8_power_19 : decode cX8_power 19 = .ok (.iload_n 2, 1) := by decide +kernel
theorem dX8_power_20 : decode cX8_power 20 = .ok (.ireturn, 1) := by decide +kernel
theorem dX8_lay_0 : decode cX8_lay 0 = .ok (.iconst 0, 1) := by decide +kernel
theorem dX8_lay_1 : decode cX8_lay 1 = .ok (.istore_n 2, 1) := by decide +kernel
theorem dX8_lay_2 : decode cX8_lay 2 = .ok (.iload_n 2, 1) := by decide +kernel
theorem dX8_lay_3 : decode cX8_lay 3 = .ok (.bipush 43, 2) := by decide +kernel
theorem dX8_lay_5 : decode cX8_lay 5 = .ok (.if_icmp .ge 15, 3) := by decide +kernel
theorem dX8_lay_8 : decode cX8_lay 8 = .ok (.aload_n 0, 1) := by decide +kernel
theorem dX8_lay_9 : decode cX8_lay 9 = .ok (.iload_n 2, 1) := by decide +kernel
theorem dX8_lay_10 : decode cX8_lay 10 = .ok (.aload_n 1, 1) := by decide +kernel
theorem dX8_lay_11 : decode cX8_lay 11 = .ok (.iload_n 2, 1) := by decide +kernel
theorem dX8_lay_12 : decode cX8_lay 12 = .ok (.iaload, 1) := by decide +kernel
theorem dX8_lay_13 : decode cX8_lay 13 = .ok (.iastore, 1) := by decide +kernel
theorem dX8_lay_14 : decode cX8_lay 14 = .ok (.iinc 2 1, 3) := by decide +kernel
theorem dX8_lay_17 : decode cX8_lay 17 = .ok (.goto (-15), 3) := by decide +kernel
theorem dX8_lay_20 : decode cX8_lay 20 = .ok (.return_, 1) := by decide +kernel
theorem dX8_noWord_0 : decode cX8_noWord 0 = .ok (.iload_n 1, 1) := by decide +kernel
theorem dX8_noWord_1 : decode cX8_noWord 1 = .ok (.i2l, 1) := by decide +kernel
theorem dX8_noWord_2 : decode cX8_noWord 2 = .ok (.lconst 0, 1) := by decide +kernel
theorem dX8_noWord_3 : decode cX8_noWord 3 = .ok (.aload_n 0, 1) := by decide +kernel
theorem dX8_noWord_4 : decode cX8_noWord 4 = .ok (.getfield 98, 3) := by decide +kernel
theorem dX8_noWord_7 : decode cX8_noWord 7 = .ok (.iconst 1, 1) := by decide +kernel
theorem dX8_noWord_8 : decode cX8_noWord 8 = .ok (.isub, 1) := by decide +kernel
theorem dX8_noWord_9 : decode cX8_noWord 9 = .ok (.i2l, 1) := by decide +kernel
theorem dX8_noWord_10 : decode cX8_noWord 10 = .ok (.invokestatic 101, 3) := by decide +kernel
theorem dX8_noWord_13 : decode cX8_noWord 13 = .ok (.ifCond .ne 7, 3) := by decide +kernel
theorem dX8_noWord_16 : decode cX8_noWord 16 = .ok (.iconst 1, 1) := by decide +kernel
theorem dX8_noWord_17 : decode cX8_noWord 17 = .ok (.goto 4, 3) := by decide +kernel
theorem dX8_noWord_20 : decode cX8_noWord 20 = .ok (.iconst 0, 1) := by decide +kernel
theorem dX8_noWord_21 : decode cX8_noWord 21 = .ok (.ireturn, 1) := by decide +kernel
theorem dX8_noUnit_0 : decode cX8_noUnit 0 = .ok (.iload_n 1, 1) := by decide +kernel
theorem dX8_noUnit_1 : decode cX8_noUnit 1 = .ok (.i2l, 1) := by decide +kernel
theorem dX8_noUnit_2 : decode cX8_noUnit 2 = .ok (.lconst 0, 1) := by decide +kernel
theorem dX8_noUnit_3 : decode cX8_noUnit 3 = .ok (.aload_n 0, 1) := by decide +kernel
theorem dX8_noUnit_4 : decode cX8_noUnit 4 = .ok (.getfield 50, 3) := by decide +kernel
theorem dX8_noUnit_7 : decode cX8_noUnit 7 = .ok (.iconst 0, 1) := by decide +kernel
theorem dX8_noUnit_8 : decode cX8_noUnit 8 = .ok (.iaload, 1) := by decide +kernel
theorem dX8_noUnit_9 : decode cX8_noUnit 9 = .ok (.iconst 1, 1) := by decide +kernel
theorem dX8_noUnit_10 : decode cX8_noUnit 10 = .ok (.isub, 1) := by decide +kernel
theorem dX8_noUnit_11 : decode cX8_noUnit 11 = .ok (.i2l, 1) := by decide +kernel
theorem dX8_noUnit_12 : decode cX8_noUnit 12 = .ok (.invokestatic 101, 3) := by decide +kernel
theorem dX8_noUnit_15 : decode cX8_noUnit 15 = .ok (.ifCond .ne 7, 3) := by decide +kernel
theorem dX8_noUnit_18 : decode cX8_noUnit 18 = .ok (.iconst 1, 1) := by decide +kernel
theorem dX8_noUnit_19 : decode cX8_noUnit 19 = .ok (.goto 4, 3) := by decide +kernel
theorem dX8_noUnit_22 : decode cX8_noUnit 22 = .ok (.iconst 0, 1) := by decide +kernel
theorem dX8_noUnit_23 : decode cX8_noUnit 23 = .ok (.ireturn, 1) := by decide +kernel
theorem dX8_write_0 : decode cX8_write 0 = .ok (.aload_n 0, 1) := by decide +kernel
theorem dX8_write_1 : decode cX8_write 1 = .ok (.iconst 0, 1) := by decide +kernel
theorem dX8_write_2 : decode cX8_write 2 = .ok (.putfield 94, 3) := by decide +kernel
theorem dX8_write_5 : decode cX8_write 5 = .ok (.iload_n 1, 1) := by decide +kernel
theorem dX8_write_6 : decode cX8_write 6 = .ok (.i2l, 1) := by decide +kernel
theorem dX8_write_7 : decode cX8_write 7 = .ok (.lconst 0, 1) := by decide +kernel
theorem dX8_write_8 : decode cX8_write 8 = .ok (.ldc2_w 105, 3) := by decide +kernel
theorem dX8_write_11 : decode cX8_write 11 = .ok (.invokestatic 101, 3) := by decide +kernel
theorem dX8_write_14 : decode cX8_write 14 = .ok (.ifCond .ne 6, 3) := by decide +kernel
theorem dX8_write_17 : decode cX8_write 17 = .ok (.bipush (-2), 2) := by decide +kernel
theorem dX8_write_19 : decode cX8_write 19 = .ok (.ireturn, 1) := by decide +kernel
theorem dX8_write_20 : decode cX8_write 20 = .ok (.aload_n 0, 1) := by decide +kernel
theorem dX8_write_21 : decode cX8_write 21 = .ok (.getfield 107, 3) := by decide +kernel
theorem dX8_write_24 : decode cX8_write 24 = .ok (.bipush 110, 2) := by decide +kernel
theorem dX8_write_26 : decode cX8_write 26 = .ok (.if_icmp .ne 6, 3) := by decide +kernel
theorem dX8_write_29 : decode cX8_write 29 = .ok (.bipush (-4), 2) := by decide +kernel
theorem dX8_write_31 : decode cX8_write 31 = .ok (.ireturn, 1) := by decide +kernel
theorem dX8_write_32 : decode cX8_write 32 = .ok (.aload_n 0, 1) := by decide +kernel
theorem dX8_write_33 : decode cX8_write 33 = .ok (.getfield 7, 3) := by decide +kernel
theorem dX8_write_36 : decode cX8_write 36 = .ok (.aload_n 0, 1) := by decide +kernel
theorem dX8_write_37 : decode cX8_write 37 = .ok (.getfield 107, 3) := by decide +kernel
theorem dX8_write_40 : decode cX8_write 40 = .ok (.iload_n 1, 1) := by decide +kernel
theorem dX8_write_41 : decode cX8_write 41 = .ok (.iastore, 1) := by decide +kernel
theorem dX8_write_42 : decode cX8_write 42 = .ok (.aload_n 0, 1) := by decide +kernel
theorem dX8_write_43 : decode cX8_write 43 = .ok (.dup, 1) := by decide +kernel
theorem dX8_write_44 : decode cX8_write 44 = .ok (.getfield 107, 3) := by decide +kernel
theorem dX8_write_47 : decode cX8_write 47 = .ok (.iconst 1, 1) := by decide +kernel
theorem dX8_write_48 : decode cX8_write 48 = .ok (.iadd, 1) := by decide +kernel
theorem dX8_write_49 : decode cX8_write 49 = .ok (.putfield 107, 3) := by decide +kernel
theorem dX8_write_52 : decode cX8_write 52 = .ok (.aload_n 0, 1) := by decide +kernel
end
section
theorem dX8_write_53 : decode cX8_write 53 = .ok (.getfield 107, 3) := by decide +kernel
theorem dX8_write_56 : decode cX8_write 56 = .ok (.ireturn, 1) := by decide +kernel
theorem dX8_wipe_0 : decode cX8_wipe 0 = .ok (.aload_n 0, 1) := by decide +kernel
theorem dX8_wipe_1 : decode cX8_wipe 1 = .ok (.iconst 0, 1) := by decide +kernel
theorem dX8_wipe_2 : decode cX8_wipe 2 = .ok (.putfield 94, 3) := by decide +kernel
theorem dX8_wipe_5 : decode cX8_wipe 5 = .ok (.aload_n 0, 1) := by decide +kernel
theorem dX8_wipe_6 : decode cX8_wipe 6 = .ok (.getfield 107, 3) := by decide +kernel
theorem dX8_wipe_9 : decode cX8_wipe 9 = .ok (.istore_n 1, 1) := by decide +kernel
theorem dX8_wipe_10 : decode cX8_wipe 10 = .ok (.aload_n 0, 1) := by decide +kernel
theorem dX8_wipe_11 : decode cX8_wipe 11 = .ok (.iconst 0, 1) := by decide +kernel
theorem dX8_wipe_12 : decode cX8_wipe 12 = .ok (.putfield 107, 3) := by decide +kernel
theorem dX8_wipe_15 : decode cX8_wipe 15 = .ok (.iload_n 1, 1) := by decide +kernel
theorem dX8_wipe_16 : decode cX8_wipe 16 = .ok (.ireturn, 1) := by decide +kernel
theorem dX8_isNext_0 : decode cX8_isNext 0 = .ok (.aload_n 0, 1) := by decide +kernel
theorem dX8_isNext_1 : decode cX8_isNext 1 = .ok (.getfield 110, 3) := by decide +kernel
theorem dX8_isNext_4 : decode cX8_isNext 4 = .ok (.aload_n 0, 1) := by decide +kernel
theorem dX8_isNext_5 : decode cX8_isNext 5 = .ok (.getfield 107, 3) := by decide +kernel
theorem dX8_isNext_8 : decode cX8_isNext 8 = .ok (.if_icmp .ge 29, 3) := by decide +kernel
theorem dX8_isNext_11 : decode cX8_isNext 11 = .ok (.aload_n 0, 1) := by decide +kernel
theorem dX8_isNext_12 : decode cX8_isNext 12 = .ok (.getfield 7, 3) := by decide +kernel
theorem dX8_isNext_15 : decode cX8_isNext 15 = .ok (.aload_n 0, 1) := by decide +kernel
theorem dX8_isNext_16 : decode cX8_isNext 16 = .ok (.getfield 110, 3) := by decide +kernel
theorem dX8_isNext_19 : decode cX8_isNext 19 = .ok (.iaload, 1) := by decide +kernel
theorem dX8_isNext_20 : decode cX8_isNext 20 = .ok (.iload_n 1, 1) := by decide +kernel
theorem dX8_isNext_21 : decode cX8_isNext 21 = .ok (.isub, 1) := by decide +kernel
theorem dX8_isNext_22 : decode cX8_isNext 22 = .ok (.i2l, 1) := by decide +kernel
theorem dX8_isNext_23 : decode cX8_isNext 23 = .ok (.iload_n 2, 1) := by decide +kernel
theorem dX8_isNext_24 : decode cX8_isNext 24 = .ok (.i2l, 1) := by decide +kernel
theorem dX8_isNext_25 : decode cX8_isNext 25 = .ok (.iload_n 3, 1) := by decide +kernel
theorem dX8_isNext_26 : decode cX8_isNext 26 = .ok (.i2l, 1) := by decide +kernel
theorem dX8_isNext_27 : decode cX8_isNext 27 = .ok (.invokestatic 101, 3) := by decide +kernel
theorem dX8_isNext_30 : decode cX8_isNext 30 = .ok (.ifCond .eq 7, 3) := by decide +kernel
theorem dX8_isNext_33 : decode cX8_isNext 33 = .ok (.iconst 1, 1) := by decide +kernel
theorem dX8_isNext_34 : decode cX8_isNext 34 = .ok (.goto 4, 3) := by decide +kernel
theorem dX8_isNext_37 : decode cX8_isNext 37 = .ok (.iconst 0, 1) := by decide +kernel
theorem dX8_isNext_38 : decode cX8_isNext 38 = .ok (.ireturn, 1) := by decide +kernel
theorem dX8_readWord_0 : decode cX8_readWord 0 = .ok (.aload_n 0, 1) := by decide +kernel
theorem dX8_readWord_1 : decode cX8_readWord 1 = .ok (.getfield 113, 3) := by decide +kernel
theorem dX8_readWord_4 : decode cX8_readWord 4 = .ok (.bipush 8, 2) := by decide +kernel
theorem dX8_readWord_6 : decode cX8_readWord 6 = .ok (.if_icmp .ne 5, 3) := by decide +kernel
theorem dX8_readWord_9 : decode cX8_readWord 9 = .ok (.iconst 0, 1) := by decide +kernel
theorem dX8_readWord_10 : decode cX8_readWord 10 = .ok (.ireturn, 1) := by decide +kernel
theorem dX8_readWord_11 : decode cX8_readWord 11 = .ok (.aload_n 0, 1) := by decide +kernel
theorem dX8_readWord_12 : decode cX8_readWord 12 = .ok (.dup, 1) := by decide +kernel
theorem dX8_readWord_13 : decode cX8_readWord 13 = .ok (.getfield 110, 3) := by decide +kernel
theorem dX8_readWord_16 : decode cX8_readWord 16 = .ok (.iconst 1, 1) := by decide +kernel
theorem dX8_readWord_17 : decode cX8_readWord 17 = .ok (.iadd, 1) := by decide +kernel
theorem dX8_readWord_18 : decode cX8_readWord 18 = .ok (.putfield 110, 3) := by decide +kernel
theorem dX8_readWord_21 : decode cX8_readWord 21 = .ok (.aload_n 0, 1) := by decide +kernel
theorem dX8_readWord_22 : decode cX8_readWord 22 = .ok (.getfield 113, 3) := by decide +kernel
theorem dX8_readWord_25 : decode cX8_readWord 25 = .ok (.istore_n 1, 1) := by decide +kernel
theorem dX8_readWord_26 : decode cX8_readWord 26 = .ok (.aload_n 0, 1) := by decide +kernel
theorem dX8_readWord_27 : decode cX8_readWord 27 = .ok (.getfield 31, 3) := by decide +kernel
theorem dX8_readWord_30 : decode cX8_readWord 30 = .ok (.iload_n 1, 1) := by decide +kernel
theorem dX8_readWord_31 : decode cX8_readWord 31 = .ok (.iconst 0, 1) := by decide +kernel
theorem dX8_readWord_32 : decode cX8_readWord 32 = .ok (.iastore, 1) := by decide +kernel
theorem dX8_readWord_33 : decode cX8_readWord 33 = .ok (.aload_n 0, 1) := by decide +kernel
theorem dX8_readWord_34 : decode cX8_readWord 34 = .ok (.getfield 31, 3) := by decide +kernel
theorem dX8_readWord_37 : decode cX8_readWord 37 = .ok (.iload_n 1, 1) := by decide +kernel
theorem dX8_readWord_38 : decode cX8_readWord 38 = .ok (.iaload, 1) := by decide +kernel
theorem dX8_readWord_39 : decode cX8_readWord 39 = .ok (.iconst 5, 1) := by decide +kernel
theorem dX8_readWord_40 : decode cX8_readWord 40 = .ok (.if_icmp .ge 64, 3) := by decide +kernel
theorem dX8_readWord_43 : decode cX8_readWord 43 = .ok (.aload_n 0, 1) := by decide +kernel
theorem dX8_readWord_44 : decode cX8_readWord 44 = .ok (.bipush 97, 2) := by decide +kernel
theorem dX8_readWord_46 : decode cX8_readWord 46 = .ok (.iconst 0, 1) := by decide +kernel
theorem dX8_readWord_47 : decode cX8_readWord 47 = .ok (.iconst 5, 1) := by decide +kernel
theorem dX8_readWord_48 : decode cX8_readWord 48 = .ok (.invokevirtual 116, 3) := by decide +kernel
theorem dX8_readWord_51 : decode cX8_readWord 51 = .ok (.ifCond .eq 53, 3) := by decide +kernel
theorem dX8_readWord_54 : decode cX8_readWord 54 = .ok (.aload_n 0, 1) := by decide +kernel
theorem dX8_readWord_55 : decode cX8_readWord 55 = .ok (.getfield 34, 3) := by decide +kernel
theorem dX8_readWord_58 : decode cX8_readWord 58 = .ok (.iconst 5, 1) := by decide +kernel
theorem dX8_readWord_59 : decode cX8_readWord 59 = .ok (.iload_n 1, 1) := by decide +kernel
theorem dX8_readWord_60 : decode cX8_readWord 60 = .ok (.imul, 1) := by decide +kernel
theorem dX8_readWord_61 : decode cX8_readWord 61 = .ok (.aload_n 0, 1) := by decide +kernel
theorem dX8_readWord_62 : decode cX8_readWord 62 = .ok (.getfield 31, 3) := by decide +kernel
theorem dX8_readWord_65 : decode cX8_readWord 65 = .ok (.iload_n 1, 1) := by decide +kernel
theorem dX8_readWord_66 : decode cX8_readWord 66 = .ok (.iaload, 1) := by decide +kernel
theorem dX8_readWord_67 : decode cX8_readWord 67 = .ok (.iadd, 1) := by decide +kernel
theorem dX8_readWord_68 : decode cX8_readWord 68 = .ok (.aload_n 0, 1) := by decide +kernel
theorem dX8_readWord_69 : decode cX8_readWord 69 = .ok (.getfield 7, 3) := by decide +kernel
theorem dX8_readWord_72 : decode cX8_readWord 72 = .ok (.aload_n 0, 1) := by decide +kernel
theorem dX8_readWord_73 : decode cX8_readWord 73 = .ok (.getfield 110, 3) := by decide +kernel
theorem dX8_readWord_76 : decode cX8_readWord 76 = .ok (.iaload, 1) := by decide +kernel
theorem dX8_readWord_77 : decode cX8_readWord 77 = .ok (.bipush 97, 2) := by decide +kernel
theorem dX8_readWord_79 : decode cX8_readWord 79 = .ok (.isub, 1) := by decide +kernel
theorem dX8_readWord_80 : decode cX8_readWord 80 = .ok (.iastore, 1) := by decide +kernel
theorem dX8_readWord_81 : decode cX8_readWord 81 = .ok (.aload_n 0, 1) := by decide +kernel
theorem dX8_readWord_82 : decode cX8_readWord 82 = .ok (.getfield 31, 3) := by decide +kernel
theorem dX8_readWord_85 : decode cX8_readWord 85 = .ok (.iload_n 1, 1) := by decide +kernel
theorem dX8_readWord_86 : decode cX8_readWord 86 = .ok (.dup2, 1) := by decide +kernel
theorem dX8_readWord_87 : decode cX8_readWord 87 = .ok (.iaload, 1) := by decide +kernel
theorem dX8_readWord_88 : decode cX8_readWord 88 = .ok (.iconst 1, 1) := by decide +kernel
theorem dX8_readWord_89 : decode cX8_readWord 89 = .ok (.iadd, 1) := by decide +kernel
theorem dX8_readWord_90 : decode cX8_readWord 90 = .ok (.iastore, 1) := by decide +kernel
theorem dX8_readWord_91 : decode cX8_readWord 91 = .ok (.aload_n 0, 1) := by decide +kernel
theorem dX8_readWord_92 : decode cX8_readWord 92 = .ok (.dup, 1) := by decide +kernel
theorem dX8_readWord_93 : decode cX8_readWord 93 = .ok (.getfield 110, 3) := by decide +kernel
theorem dX8_readWord_96 : decode cX8_readWord 96 = .ok (.iconst 1, 1) := by decide +kernel
theorem dX8_readWord_97 : decode cX8_readWord 97 = .ok (.iadd, 1) := by decide +kernel
theorem dX8_readWord_98 : decode cX8_readWord 98 = .ok (.putfield 110, 3) := by decide +kernel
theorem dX8_readWord_101 : decode cX8_readWord 101 = .ok (.goto (-68), 3) := by decide +kernel
theorem dX8_readWord_104 : decode cX8_readWord 104 = .ok (.aload_n 0, 1) := by decide +kernel
theorem dX8_readWord_105 : decode cX8_readWord 105 = .ok (.getfield 31, 3) := by decide +kernel
theorem dX8_readWord_108 : decode cX8_readWord 108 = .ok (.iload_n 1, 1) := by decide +kernel
theorem dX8_readWord_109 : decode cX8_readWord 109 = .ok (.iaload, 1) := by decide +kernel
theorem dX8_readWord_110 : decode cX8_readWord 110 = .ok (.iconst 2, 1) := by decide +kernel
theorem dX8_readWord_111 : decode cX8_readWord 111 = .ok (.if_icmp .ge 5, 3) := by decide +kernel
theorem dX8_readWord_114 : decode cX8_readWord 114 = .ok (.iconst 0, 1) := by decide +kernel
theorem dX8_readWord_115 : decode cX8_readWord 115 = .ok (.ireturn, 1) := by decide +kernel
theorem dX8_readWord_116 : decode cX8_readWord 116 = .ok (.iconst 0, 1) := by decide +kernel
theorem dX8_readWord_117 : decode cX8_readWord 117 = .ok (.istore_n 2, 1) := by decide +kernel
theorem dX8_readWord_118 : decode cX8_readWord 118 = .ok (.iload_n 2, 1) := by decide +kernel
theorem dX8_readWord_119 : decode cX8_readWord 119 = .ok (.iconst 3, 1) := by decide +kernel
theorem dX8_readWord_120 : decode cX8_readWord 120 = .ok (.if_icmp .ge 103, 3) := by decide +kernel
theorem dX8_readWord_123 : decode cX8_readWord 123 = .ok (.aload_n 0, 1) := by decide +kernel
theorem dX8_readWord_124 : decode cX8_readWord 124 = .ok (.bipush 48, 2) := by decide +kernel
theorem dX8_readWord_126 : decode cX8_readWord 126 = .ok (.iload_n 2, 1) := by decide +kernel
theorem dX8_readWord_127 : decode cX8_readWord 127 = .ok (.iconst 2, 1) := by decide +kernel
theorem dX8_readWord_128 : decode cX8_readWord 128 = .ok (.if_icmp .ne 7, 3) := by decide +kernel
theorem dX8_readWord_131 : decode cX8_readWord 131 = .ok (.iconst 1, 1) := by decide +kernel
theorem dX8_readWord_132 : decode cX8_readWord 132 = .ok (.goto 4, 3) := by decide +kernel
theorem dX8_readWord_135 : decode cX8_readWord 135 = .ok (.iconst 0, 1) := by decide +kernel
theorem dX8_readWord_136 : decode cX8_readWord 136 = .ok (.iload_n 2, 1) := by decide +kernel
theorem dX8_readWord_137 : decode cX8_readWord 137 = .ok (.iconst 2, 1) := by decide +kernel
theorem dX8_readWord_138 : decode cX8_readWord 138 = .ok (.if_icmp .ne 8, 3) := by decide +kernel
theorem dX8_readWord_141 : decode cX8_readWord 141 = .ok (.bipush 9, 2) := by decide +kernel
theorem dX8_readWord_143 : decode cX8_readWord 143 = .ok (.goto 4, 3) := by decide +kernel
theorem dX8_readWord_146 : decode cX8_readWord 146 = .ok (.iconst 2, 1) := by decide +kernel
theorem dX8_readWord_147 : decode cX8_readWord 147 = .ok (.invokevirtual 116, 3) := by decide +kernel
theorem dX8_readWord_150 : decode cX8_readWord 150 = .ok (.ifCond .ne 5, 3) := by decide +kernel
theorem dX8_readWord_153 : decode cX8_readWord 153 = .ok (.iconst 0, 1) := by decide +kernel
theorem dX8_readWord_154 : decode cX8_readWord 154 = .ok (.ireturn, 1) := by decide +kernel
theorem dX8_readWord_155 : decode cX8_readWord 155 = .ok (.aload_n 0, 1) := by decide +kernel
theorem dX8_readWord_156 : decode cX8_readWord 156 = .ok (.getfield 7, 3) := by decide +kernel
theorem dX8_readWord_159 : decode cX8_readWord 159 = .ok (.aload_n 0, 1) := by decide +kernel
theorem dX8_readWord_160 : decode cX8_readWord 160 = .ok (.getfield 110, 3) := by decide +kernel
theorem dX8_readWord_163 : decode cX8_readWord 163 = .ok (.iaload, 1) := by decide +kernel
theorem dX8_readWord_164 : decode cX8_readWord 164 = .ok (.bipush 48, 2) := by decide +kernel
theorem dX8_readWord_166 : decode cX8_readWord 166 = .ok (.isub, 1) := by decide +kernel
theorem dX8_readWord_167 : decode cX8_readWord 167 = .ok (.istore_n 3, 1) := by decide +kernel
theorem dX8_readWord_168 : decode cX8_readWord 168 = .ok (.iload_n 2, 1) := by decide +kernel
theorem dX8_readWord_169 : decode cX8_readWord 169 = .ok (.ifCond .ne 13, 3) := by decide +kernel
theorem dX8_readWord_172 : decode cX8_readWord 172 = .ok (.aload_n 0, 1) := by decide +kernel
theorem dX8_readWord_173 : decode cX8_readWord 173 = .ok (.getfield 37, 3) := by decide +kernel
theorem dX8_readWord_176 : decode cX8_readWord 176 = .ok (.iload_n 1, 1) := by decide +kernel
theorem dX8_readWord_177 : decode cX8_readWord 177 = .ok (.iload_n 3, 1) := by decide +kernel
theorem dX8_readWord_178 : decode cX8_readWord 178 = .ok (.iastore, 1) := by decide +kernel
theorem dX8_readWord_179 : decode cX8_readWord 179 = .ok (.goto 28, 3) := by decide +kernel
theorem dX8_readWord_182 : decode cX8_readWord 182 = .ok (.iload_n 2, 1) := by decide +kernel
theorem dX8_readWord_183 : decode cX8_readWord 183 = .ok (.iconst 1, 1) := by decide +kernel
theorem dX8_readWord_184 : decode cX8_readWord 184 = .ok (.if_icmp .ne 13, 3) := by decide +kernel
theorem dX8_readWord_187 : decode cX8_readWord 187 = .ok (.aload_n 0, 1) := by decide +kernel
theorem dX8_readWord_188 : decode cX8_readWord 188 = .ok (.getfield 40, 3) := by decide +kernel
theorem dX8_readWord_191 : decode cX8_readWord 191 = .ok (.iload_n 1, 1) := by decide +kernel
theorem dX8_readWord_192 : decode cX8_readWord 192 = .ok (.iload_n 3, 1) := by decide +kernel
theorem dX8_readWord_193 : decode cX8_readWord 193 = .ok (.iastore, 1) := by decide +kernel
theorem dX8_readWord_194 : decode cX8_readWord 194 = .ok (.goto 13, 3) := by decide +kernel
theorem dX8_readWord_197 : decode cX8_readWord 197 = .ok (.aload_n 0, 1) := by decide +kernel
theorem dX8_readWord_198 : decode cX8_readWord 198 = .ok (.getfield 47, 3) := by decide +kernel
theorem dX8_readWord_201 : decode cX8_readWord 201 = .ok (.bipush 11, 2) := by decide +kernel
theorem dX8_readWord_203 : decode cX8_readWord 203 = .ok (.iload_n 1, 1) := by decide +kernel
theorem dX8_readWord_204 : decode cX8_readWord 204 = .ok (.iadd, 1) := by decide +kernel
theorem dX8_readWord_205 : decode cX8_readWord 205 = .ok (.iload_n 3, 1) := by decide +kernel
theorem dX8_readWord_206 : decode cX8_readWord 206 = .ok (.iastore, 1) := by decide +kernel
theorem dX8_readWord_207 : decode cX8_readWord 207 = .ok (.aload_n 0, 1) := by decide +kernel
theorem dX8_readWord_208 : decode cX8_readWord 208 = .ok (.dup, 1) := by decide +kernel
theorem dX8_readWord_209 : decode cX8_readWord 209 = .ok (.getfield 110, 3) := by decide +kernel
theorem dX8_readWord_212 : decode cX8_readWord 212 = .ok (.iconst 1, 1) := by decide +kernel
theorem dX8_readWord_213 : decode cX8_readWord 213 = .ok (.iadd, 1) := by decide +kernel
theorem dX8_readWord_214 : decode cX8_readWord 214 = .ok (.putfield 110, 3) := by decide +kernel
theorem dX8_readWord_217 : decode cX8_readWord 217 = .ok (.iinc 2 1, 3) := by decide +kernel
theorem dX8_readWord_220 : decode cX8_readWord 220 = .ok (.goto (-102), 3) := by decide +kernel
theorem dX8_readWord_223 : decode cX8_readWord 223 = .ok (.aload_n 0, 1) := by decide +kernel
theorem dX8_readWord_224 : decode cX8_readWord 224 = .ok (.dup, 1) := by decide +kernel
theorem dX8_readWord_225 : decode cX8_readWord 225 = .ok (.getfield 113, 3) := by decide +kernel
theorem dX8_readWord_228 : decode cX8_readWord 228 = .ok (.iconst 1, 1) := by decide +kernel
theorem dX8_readWord_229 : decode cX8_readWord 229 = .ok (.iadd, 1) := by decide +kernel
theorem dX8_readWord_230 : decode cX8_readWord 230 = .ok (.putfield 113, 3) := by decide +kernel
theorem dX8_readWord_233 : decode cX8_readWord 233 = .ok (.iconst 1, 1) := by decide +kernel
theorem dX8_readWord_234 : decode cX8_readWord 234 = .ok (.ireturn, 1) := by decide +kernel
theorem dX8_toldOf_0 : decode cX8_toldOf 0 = .ok (.aload_n 0, 1) := by decide +kernel
theorem dX8_toldOf_1 : decode cX8_toldOf 1 = .ok (.getfield 43, 3) := by decide +kernel
theorem dX8_toldOf_4 : decode cX8_toldOf 4 = .ok (.iconst 3, 1) := by decide +kernel
theorem dX8_toldOf_5 : decode cX8_toldOf 5 = .ok (.iload_n 1, 1) := by decide +kernel
theorem dX8_toldOf_6 : decode cX8_toldOf 6 = .ok (.imul, 1) := by decide +kernel
theorem dX8_toldOf_7 : decode cX8_toldOf 7 = .ok (.baload, 1) := by decide +kernel
theorem dX8_toldOf_8 : decode cX8_toldOf 8 = .ok (.ifCond .eq 7, 3) := by decide +kernel
theorem dX8_toldOf_11 : decode cX8_toldOf 11 = .ok (.iconst 1, 1) := by decide +kernel
theorem dX8_toldOf_12 : decode cX8_toldOf 12 = .ok (.goto 4, 3) := by decide +kernel
theorem dX8_toldOf_15 : decode cX8_toldOf 15 = .ok (.iconst 0, 1) := by decide +kernel
theorem dX8_toldOf_16 : decode cX8_toldOf 16 = .ok (.aload_n 0, 1) := by decide +kernel
theorem dX8_toldOf_17 : decode cX8_toldOf 17 = .ok (.getfield 43, 3) := by decide +kernel
theorem dX8_toldOf_20 : decode cX8_toldOf 20 = .ok (.iconst 3, 1) := by decide +kernel
theorem dX8_toldOf_21 : decode cX8_toldOf 21 = .ok (.iload_n 1, 1) := by decide +kernel
theorem dX8_toldOf_22 : decode cX8_toldOf 22 = .ok (.imul, 1) := by decide +kernel
theorem dX8_toldOf_23 : decode cX8_toldOf 23 = .ok (.iconst 1, 1) := by decide +kernel
theorem dX8_toldOf_24 : decode cX8_toldOf 24 = .ok (.iadd, 1) := by decide +kernel
theorem dX8_toldOf_25 : decode cX8_toldOf 25 = .ok (.baload, 1) := by decide +kernel
theorem dX8_toldOf_26 : decode cX8_toldOf 26 = .ok (.ifCond .eq 7, 3) := by decide +kernel
theorem dX8_toldOf_29 : decode cX8_toldOf 29 = .ok (.iconst 1, 1) := by decide +kernel
theorem dX8_toldOf_30 : decode cX8_toldOf 30 = .ok (.goto 4, 3) := by decide +kernel
theorem dX8_toldOf_33 : decode cX8_toldOf 33 = .ok (.iconst 0, 1) := by decide +kernel
theorem dX8_toldOf_34 : decode cX8_toldOf 34 = .ok (.iadd, 1) := by decide +kernel
theorem dX8_toldOf_35 : decode cX8_toldOf 35 = .ok (.aload_n 0, 1) := by decide +kernel
theorem dX8_toldOf_36 : decode cX8_toldOf 36 = .ok (.getfield 43, 3) := by decide +kernel
theorem dX8_toldOf_39 : decode cX8_toldOf 39 = .ok (.iconst 3, 1) := by decide +kernel
theorem dX8_toldOf_40 : decode cX8_toldOf 40 = .ok (.iload_n 1, 1) := by decide +kernel
theorem dX8_toldOf_41 : decode cX8_toldOf 41 = .ok (.imul, 1) := by decide +kernel
theorem dX8_toldOf_42 : decode cX8_toldOf 42 = .ok (.iconst 2, 1) := by decide +kernel
theorem dX8_toldOf_43 : decode cX8_toldOf 43 = .ok (.iadd, 1) := by decide +kernel
theorem dX8_toldOf_44 : decode cX8_toldOf 44 = .ok (.baload, 1) := by decide +kernel
theorem dX8_toldOf_45 : decode cX8_toldOf 45 = .ok (.ifCond .eq 7, 3) := by decide +kernel
theorem dX8_toldOf_48 : decode cX8_toldOf 48 = .ok (.iconst 1, 1) := by decide +kernel
theorem dX8_toldOf_49 : decode cX8_toldOf 49 = .ok (.goto 4, 3) := by decide +kernel
theorem dX8_toldOf_52 : decode cX8_toldOf 52 = .ok (.iconst 0, 1) := by decide +kernel
theorem dX8_toldOf_53 : decode cX8_toldOf 53 = .ok (.iadd, 1) := by decide +kernel
theorem dX8_toldOf_54 : decode cX8_toldOf 54 = .ok (.ireturn, 1) := by decide +kernel
theorem dX8_readOneRule_0 : decode cX8_readOneRule 0 = .ok (.aload_n 0, 1) := by decide +kernel
theorem dX8_readOneRule_1 : decode cX8_readOneRule 1 = .ok (.iconst 0, 1) := by decide +kernel
theorem dX8_readOneRule_2 : decode cX8_readOneRule 2 = .ok (.invokevirtual 120, 3) := by decide +kernel
theorem dX8_readOneRule_5 : decode cX8_readOneRule 5 = .ok (.aload_n 0, 1) := by decide +kernel
theorem dX8_readOneRule_6 : decode cX8_readOneRule 6 = .ok (.iconst 1, 1) := by decide +kernel
theorem dX8_readOneRule_7 : decode cX8_readOneRule 7 = .ok (.invokevirtual 120, 3) := by decide +kernel
theorem dX8_readOneRule_10 : decode cX8_readOneRule 10 = .ok (.iadd, 1) := by decide +kernel
theorem dX8_readOneRule_11 : decode cX8_readOneRule 11 = .ok (.aload_n 0, 1) := by decide +kernel
theorem dX8_readOneRule_12 : decode cX8_readOneRule 12 = .ok (.iconst 2, 1) := by decide +kernel
theorem dX8_readOneRule_13 : decode cX8_readOneRule 13 = .ok (.invokevirtual 120, 3) := by decide +kernel
theorem dX8_readOneRule_16 : decode cX8_readOneRule 16 = .ok (.iadd, 1) := by decide +kernel
theorem dX8_readOneRule_17 : decode cX8_readOneRule 17 = .ok (.bipush 9, 2) := by decide +kernel
theorem dX8_readOneRule_19 : decode cX8_readOneRule 19 = .ok (.if_icmp .ne 5, 3) := by decide +kernel
theorem dX8_readOneRule_22 : decode cX8_readOneRule 22 = .ok (.iconst 0, 1) := by decide +kernel
theorem dX8_readOneRule_23 : decode cX8_readOneRule 23 = .ok (.ireturn, 1) := by decide +kernel
theorem dX8_readOneRule_24 : decode cX8_readOneRule 24 = .ok (.aload_n 0, 1) := by decide +kernel
theorem dX8_readOneRule_25 : decode cX8_readOneRule 25 = .ok (.dup, 1) := by decide +kernel
theorem dX8_readOneRule_26 : decode cX8_readOneRule 26 = .ok (.getfield 110, 3) := by decide +kernel
theorem dX8_readOneRule_29 : decode cX8_readOneRule 29 = .ok (.iconst 1, 1) := by decide +kernel
theorem dX8_readOneRule_30 : decode cX8_readOneRule 30 = .ok (.iadd, 1) := by decide +kernel
theorem dX8_readOneRule_31 : decode cX8_readOneRule 31 = .ok (.putfield 110, 3) := by decide +kernel
theorem dX8_readOneRule_34 : decode cX8_readOneRule 34 = .ok (.aload_n 0, 1) := by decide +kernel
theorem dX8_readOneRule_35 : decode cX8_readOneRule 35 = .ok (.bipush 48, 2) := by decide +kernel
theorem dX8_readOneRule_37 : decode cX8_readOneRule 37 = .ok (.iconst 0, 1) := by decide +kernel
theorem dX8_readOneRule_38 : decode cX8_readOneRule 38 = .ok (.iconst 2, 1) := by decide +kernel
theorem dX8_readOneRule_39 : decode cX8_readOneRule 39 = .ok (.invokevirtual 116, 3) := by decide +kernel
theorem dX8_readOneRule_42 : decode cX8_readOneRule 42 = .ok (.ifCond .eq 23, 3) := by decide +kernel
theorem dX8_readOneRule_45 : decode cX8_readOneRule 45 = .ok (.aload_n 0, 1) := by decide +kernel
theorem dX8_readOneRule_46 : decode cX8_readOneRule 46 = .ok (.aload_n 0, 1) := by decide +kernel
theorem dX8_readOneRule_47 : decode cX8_readOneRule 47 = .ok (.getfield 7, 3) := by decide +kernel
theorem dX8_readOneRule_50 : decode cX8_readOneRule 50 = .ok (.aload_n 0, 1) := by decide +kernel
theorem dX8_readOneRule_51 : decode cX8_readOneRule 51 = .ok (.getfield 110, 3) := by decide +kernel
theorem dX8_readOneRule_54 : decode cX8_readOneRule 54 = .ok (.iaload, 1) := by decide +kernel
theorem dX8_readOneRule_55 : decode cX8_readOneRule 55 = .ok (.bipush 48, 2) := by decide +kernel
theorem dX8_readOneRule_57 : decode cX8_readOneRule 57 = .ok (.isub, 1) := by decide +kernel
theorem dX8_readOneRule_58 : decode cX8_readOneRule 58 = .ok (.invokevirtual 120, 3) := by decide +kernel
theorem dX8_readOneRule_61 : decode cX8_readOneRule 61 = .ok (.iconst 3, 1) := by decide +kernel
theorem dX8_readOneRule_62 : decode cX8_readOneRule 62 = .ok (.if_icmp .ne 5, 3) := by decide +kernel
theorem dX8_readOneRule_65 : decode cX8_readOneRule 65 = .ok (.iconst 0, 1) := by decide +kernel
theorem dX8_readOneRule_66 : decode cX8_readOneRule 66 = .ok (.ireturn, 1) := by decide +kernel
theorem dX8_readOneRule_67 : decode cX8_readOneRule 67 = .ok (.aload_n 0, 1) := by decide +kernel
theorem dX8_readOneRule_68 : decode cX8_readOneRule 68 = .ok (.getfield 7, 3) := by decide +kernel
theorem dX8_readOneRule_71 : decode cX8_readOneRule 71 = .ok (.aload_n 0, 1) := by decide +kernel
theorem dX8_readOneRule_72 : decode cX8_readOneRule 72 = .ok (.getfield 110, 3) := by decide +kernel
theorem dX8_readOneRule_75 : decode cX8_readOneRule 75 = .ok (.iaload, 1) := by decide +kernel
theorem dX8_readOneRule_76 : decode cX8_readOneRule 76 = .ok (.bipush 48, 2) := by decide +kernel
theorem dX8_readOneRule_78 : decode cX8_readOneRule 78 = .ok (.isub, 1) := by decide +kernel
theorem dX8_readOneRule_79 : decode cX8_readOneRule 79 = .ok (.istore_n 1, 1) := by decide +kernel
theorem dX8_readOneRule_80 : decode cX8_readOneRule 80 = .ok (.aload_n 0, 1) := by decide +kernel
theorem dX8_readOneRule_81 : decode cX8_readOneRule 81 = .ok (.dup, 1) := by decide +kernel
theorem dX8_readOneRule_82 : decode cX8_readOneRule 82 = .ok (.getfield 110, 3) := by decide +kernel
theorem dX8_readOneRule_85 : decode cX8_readOneRule 85 = .ok (.iconst 1, 1) := by decide +kernel
theorem dX8_readOneRule_86 : decode cX8_readOneRule 86 = .ok (.iadd, 1) := by decide +kernel
theorem dX8_readOneRule_87 : decode cX8_readOneRule 87 = .ok (.putfield 110, 3) := by decide +kernel
theorem dX8_readOneRule_90 : decode cX8_readOneRule 90 = .ok (.aload_n 0, 1) := by decide +kernel
theorem dX8_readOneRule_91 : decode cX8_readOneRule 91 = .ok (.bipush 48, 2) := by decide +kernel
theorem dX8_readOneRule_93 : decode cX8_readOneRule 93 = .ok (.iconst 0, 1) := by decide +kernel
theorem dX8_readOneRule_94 : decode cX8_readOneRule 94 = .ok (.iconst 2, 1) := by decide +kernel
theorem dX8_readOneRule_95 : decode cX8_readOneRule 95 = .ok (.invokevirtual 116, 3) := by decide +kernel
theorem dX8_readOneRule_98 : decode cX8_readOneRule 98 = .ok (.ifCond .eq 27, 3) := by decide +kernel
theorem dX8_readOneRule_101 : decode cX8_readOneRule 101 = .ok (.aload_n 0, 1) := by decide +kernel
theorem dX8_readOneRule_102 : decode cX8_readOneRule 102 = .ok (.getfield 43, 3) := by decide +kernel
theorem dX8_readOneRule_105 : decode cX8_readOneRule 105 = .ok (.iconst 3, 1) := by decide +kernel
theorem dX8_readOneRule_106 : decode cX8_readOneRule 106 = .ok (.iload_n 1, 1) := by decide +kernel
theorem dX8_readOneRule_107 : decode cX8_readOneRule 107 = .ok (.imul, 1) := by decide +kernel
theorem dX8_readOneRule_108 : decode cX8_readOneRule 108 = .ok (.aload_n 0, 1) := by decide +kernel
theorem dX8_readOneRule_109 : decode cX8_readOneRule 109 = .ok (.getfield 7, 3) := by decide +kernel
theorem dX8_readOneRule_112 : decode cX8_readOneRule 112 = .ok (.aload_n 0, 1) := by decide +kernel
theorem dX8_readOneRule_113 : decode cX8_readOneRule 113 = .ok (.getfield 110, 3) := by decide +kernel
theorem dX8_readOneRule_116 : decode cX8_readOneRule 116 = .ok (.iaload, 1) := by decide +kernel
theorem dX8_readOneRule_117 : decode cX8_readOneRule 117 = .ok (.iadd, 1) := by decide +kernel
theorem dX8_readOneRule_118 : decode cX8_readOneRule 118 = .ok (.bipush 48, 2) := by decide +kernel
theorem dX8_readOneRule_120 : decode cX8_readOneRule 120 = .ok (.isub, 1) := by decide +kernel
theorem dX8_readOneRule_121 : decode cX8_readOneRule 121 = .ok (.baload, 1) := by decide +kernel
theorem dX8_readOneRule_122 : decode cX8_readOneRule 122 = .ok (.ifCond .eq 5, 3) := by decide +kernel
theorem dX8_readOneRule_125 : decode cX8_readOneRule 125 = .ok (.iconst 0, 1) := by decide +kernel
theorem dX8_readOneRule_126 : decode cX8_readOneRule 126 = .ok (.ireturn, 1) := by decide +kernel
theorem dX8_readOneRule_127 : decode cX8_readOneRule 127 = .ok (.aload_n 0, 1) := by decide +kernel
theorem dX8_readOneRule_128 : decode cX8_readOneRule 128 = .ok (.getfield 7, 3) := by decide +kernel
theorem dX8_readOneRule_131 : decode cX8_readOneRule 131 = .ok (.aload_n 0, 1) := by decide +kernel
theorem dX8_readOneRule_132 : decode cX8_readOneRule 132 = .ok (.getfield 110, 3) := by decide +kernel
theorem dX8_readOneRule_135 : decode cX8_readOneRule 135 = .ok (.iaload, 1) := by decide +kernel
theorem dX8_readOneRule_136 : decode cX8_readOneRule 136 = .ok (.bipush 48, 2) := by decide +kernel
theorem dX8_readOneRule_138 : decode cX8_readOneRule 138 = .ok (.isub, 1) := by decide +kernel
theorem dX8_readOneRule_139 : decode cX8_readOneRule 139 = .ok (.istore_n 2, 1) := by decide +kernel
theorem dX8_readOneRule_140 : decode cX8_readOneRule 140 = .ok (.aload_n 0, 1) := by decide +kernel
theorem dX8_readOneRule_141 : decode cX8_readOneRule 141 = .ok (.dup, 1) := by decide +kernel
theorem dX8_readOneRule_142 : decode cX8_readOneRule 142 = .ok (.getfield 110, 3) := by decide +kernel
theorem dX8_readOneRule_145 : decode cX8_readOneRule 145 = .ok (.iconst 1, 1) := by decide +kernel
theorem dX8_readOneRule_146 : decode cX8_readOneRule 146 = .ok (.iadd, 1) := by decide +kernel
theorem dX8_readOneRule_147 : decode cX8_readOneRule 147 = .ok (.putfield 110, 3) := by decide +kernel
theorem dX8_readOneRule_150 : decode cX8_readOneRule 150 = .ok (.aload_n 0, 1) := by decide +kernel
theorem dX8_readOneRule_151 : decode cX8_readOneRule 151 = .ok (.bipush 48, 2) := by decide +kernel
theorem dX8_readOneRule_153 : decode cX8_readOneRule 153 = .ok (.iconst 0, 1) := by decide +kernel
theorem dX8_readOneRule_154 : decode cX8_readOneRule 154 = .ok (.iconst 2, 1) := by decide +kernel
theorem dX8_readOneRule_155 : decode cX8_readOneRule 155 = .ok (.invokevirtual 116, 3) := by decide +kernel
theorem dX8_readOneRule_158 : decode cX8_readOneRule 158 = .ok (.ifCond .ne 5, 3) := by decide +kernel
theorem dX8_readOneRule_161 : decode cX8_readOneRule 161 = .ok (.iconst 0, 1) := by decide +kernel
theorem dX8_readOneRule_162 : decode cX8_readOneRule 162 = .ok (.ireturn, 1) := by decide +kernel
theorem dX8_readOneRule_163 : decode cX8_readOneRule 163 = .ok (.aload_n 0, 1) := by decide +kernel
theorem dX8_readOneRule_164 : decode cX8_readOneRule 164 = .ok (.getfield 43, 3) := by decide +kernel
theorem dX8_readOneRule_167 : decode cX8_readOneRule 167 = .ok (.iconst 3, 1) := by decide +kernel
theorem dX8_readOneRule_168 : decode cX8_readOneRule 168 = .ok (.iload_n 1, 1) := by decide +kernel
theorem dX8_readOneRule_169 : decode cX8_readOneRule 169 = .ok (.imul, 1) := by decide +kernel
theorem dX8_readOneRule_170 : decode cX8_readOneRule 170 = .ok (.iload_n 2, 1) := by decide +kernel
theorem dX8_readOneRule_171 : decode cX8_readOneRule 171 = .ok (.iadd, 1) := by decide +kernel
theorem dX8_readOneRule_172 : decode cX8_readOneRule 172 = .ok (.iconst 1, 1) := by decide +kernel
theorem dX8_readOneRule_173 : decode cX8_readOneRule 173 = .ok (.bastore, 1) := by decide +kernel
theorem dX8_readOneRule_174 : decode cX8_readOneRule 174 = .ok (.aload_n 0, 1) := by decide +kernel
theorem dX8_readOneRule_175 : decode cX8_readOneRule 175 = .ok (.getfield 47, 3) := by decide +kernel
theorem dX8_readOneRule_178 : decode cX8_readOneRule 178 = .ok (.iconst 2, 1) := by decide +kernel
theorem dX8_readOneRule_179 : decode cX8_readOneRule 179 = .ok (.iconst 3, 1) := by decide +kernel
theorem dX8_readOneRule_180 : decode cX8_readOneRule 180 = .ok (.iload_n 1, 1) := by decide +kernel
theorem dX8_readOneRule_181 : decode cX8_readOneRule 181 = .ok (.imul, 1) := by decide +kernel
theorem dX8_readOneRule_182 : decode cX8_readOneRule 182 = .ok (.iadd, 1) := by decide +kernel
theorem dX8_readOneRule_183 : decode cX8_readOneRule 183 = .ok (.iload_n 2, 1) := by decide +kernel
theorem dX8_readOneRule_184 : decode cX8_readOneRule 184 = .ok (.iadd, 1) := by decide +kernel
theorem dX8_readOneRule_185 : decode cX8_readOneRule 185 = .ok (.aload_n 0, 1) := by decide +kernel
theorem dX8_readOneRule_186 : decode cX8_readOneRule 186 = .ok (.getfield 7, 3) := by decide +kernel
theorem dX8_readOneRule_189 : decode cX8_readOneRule 189 = .ok (.aload_n 0, 1) := by decide +kernel
theorem dX8_readOneRule_190 : decode cX8_readOneRule 190 = .ok (.getfield 110, 3) := by decide +kernel
theorem dX8_readOneRule_193 : decode cX8_readOneRule 193 = .ok (.iaload, 1) := by decide +kernel
theorem dX8_readOneRule_194 : decode cX8_readOneRule 194 = .ok (.bipush 48, 2) := by decide +kernel
theorem dX8_readOneRule_196 : decode cX8_readOneRule 196 = .ok (.isub, 1) := by decide +kernel
theorem dX8_readOneRule_197 : decode cX8_readOneRule 197 = .ok (.iastore, 1) := by decide +kernel
theorem dX8_readOneRule_198 : decode cX8_readOneRule 198 = .ok (.aload_n 0, 1) := by decide +kernel
theorem dX8_readOneRule_199 : decode cX8_readOneRule 199 = .ok (.dup, 1) := by decide +kernel
theorem dX8_readOneRule_200 : decode cX8_readOneRule 200 = .ok (.getfield 110, 3) := by decide +kernel
theorem dX8_readOneRule_203 : decode cX8_readOneRule 203 = .ok (.iconst 1, 1) := by decide +kernel
theorem dX8_readOneRule_204 : decode cX8_readOneRule 204 = .ok (.iadd, 1) := by decide +kernel
theorem dX8_readOneRule_205 : decode cX8_readOneRule 205 = .ok (.putfield 110, 3) := by decide +kernel
theorem dX8_readOneRule_208 : decode cX8_readOneRule 208 = .ok (.iconst 1, 1) := by decide +kernel
theorem dX8_readOneRule_209 : decode cX8_readOneRule 209 = .ok (.ireturn, 1) := by decide +kernel
theorem dX8_readLine_0 : decode cX8_readLine 0 = .ok (.aload_n 0, 1) := by decide +kernel
theorem dX8_readLine_1 : decode cX8_readLine 1 = .ok (.dup, 1) := by decide +kernel
theorem dX8_readLine_2 : decode cX8_readLine 2 = .ok (.getfield 110, 3) := by decide +kernel
theorem dX8_readLine_5 : decode cX8_readLine 5 = .ok (.iconst 1, 1) := by decide +kernel
theorem dX8_readLine_6 : decode cX8_readLine 6 = .ok (.iadd, 1) := by decide +kernel
theorem dX8_readLine_7 : decode cX8_readLine 7 = .ok (.putfield 110, 3) := by decide +kernel
theorem dX8_readLine_10 : decode cX8_readLine 10 = .ok (.aload_n 0, 1) := by decide +kernel
theorem dX8_readLine_11 : decode cX8_readLine 11 = .ok (.getfield 110, 3) := by decide +kernel
theorem dX8_readLine_14 : decode cX8_readLine 14 = .ok (.aload_n 0, 1) := by decide +kernel
theorem dX8_readLine_15 : decode cX8_readLine 15 = .ok (.getfield 107, 3) := by decide +kernel
theorem dX8_readLine_18 : decode cX8_readLine 18 = .ok (.if_icmp .ge 195, 3) := by decide +kernel
theorem dX8_readLine_21 : decode cX8_readLine 21 = .ok (.aload_n 0, 1) := by decide +kernel
theorem dX8_readLine_22 : decode cX8_readLine 22 = .ok (.getfield 7, 3) := by decide +kernel
theorem dX8_readLine_25 : decode cX8_readLine 25 = .ok (.aload_n 0, 1) := by decide +kernel
theorem dX8_readLine_26 : decode cX8_readLine 26 = .ok (.getfield 110, 3) := by decide +kernel
theorem dX8_readLine_29 : decode cX8_readLine 29 = .ok (.iaload, 1) := by decide +kernel
theorem dX8_readLine_30 : decode cX8_readLine 30 = .ok (.bipush 46, 2) := by decide +kernel
theorem dX8_readLine_32 : decode cX8_readLine 32 = .ok (.if_icmp .ne 8, 3) := by decide +kernel
theorem dX8_readLine_35 : decode cX8_readLine 35 = .ok (.bipush 6, 2) := by decide +kernel
theorem dX8_readLine_37 : decode cX8_readLine 37 = .ok (.goto 48, 3) := by decide +kernel
theorem dX8_readLine_40 : decode cX8_readLine 40 = .ok (.aload_n 0, 1) := by decide +kernel
theorem dX8_readLine_41 : decode cX8_readLine 41 = .ok (.bipush 97, 2) := by decide +kernel
theorem dX8_readLine_43 : decode cX8_readLine 43 = .ok (.iconst 0, 1) := by decide +kernel
theorem dX8_readLine_44 : decode cX8_readLine 44 = .ok (.iconst 5, 1) := by decide +kernel
theorem dX8_readLine_45 : decode cX8_readLine 45 = .ok (.invokevirtual 116, 3) := by decide +kernel
theorem dX8_readLine_48 : decode cX8_readLine 48 = .ok (.ifCond .eq 18, 3) := by decide +kernel
theorem dX8_readLine_51 : decode cX8_readLine 51 = .ok (.aload_n 0, 1) := by decide +kernel
theorem dX8_readLine_52 : decode cX8_readLine 52 = .ok (.getfield 7, 3) := by decide +kernel
theorem dX8_readLine_55 : decode cX8_readLine 55 = .ok (.aload_n 0, 1) := by decide +kernel
theorem dX8_readLine_56 : decode cX8_readLine 56 = .ok (.getfield 110, 3) := by decide +kernel
theorem dX8_readLine_59 : decode cX8_readLine 59 = .ok (.iaload, 1) := by decide +kernel
theorem dX8_readLine_60 : decode cX8_readLine 60 = .ok (.bipush 97, 2) := by decide +kernel
theorem dX8_readLine_62 : decode cX8_readLine 62 = .ok (.isub, 1) := by decide +kernel
theorem dX8_readLine_63 : decode cX8_readLine 63 = .ok (.goto 22, 3) := by decide +kernel
theorem dX8_readLine_66 : decode cX8_readLine 66 = .ok (.aload_n 0, 1) := by decide +kernel
theorem dX8_readLine_67 : decode cX8_readLine 67 = .ok (.bipush 48, 2) := by decide +kernel
theorem dX8_readLine_69 : decode cX8_readLine 69 = .ok (.iconst 1, 1) := by decide +kernel
theorem dX8_readLine_70 : decode cX8_readLine 70 = .ok (.bipush 9, 2) := by decide +kernel
theorem dX8_readLine_72 : decode cX8_readLine 72 = .ok (.invokevirtual 116, 3) := by decide +kernel
theorem dX8_readLine_75 : decode cX8_readLine 75 = .ok (.ifCond .eq 8, 3) := by decide +kernel
theorem dX8_readLine_78 : decode cX8_readLine 78 = .ok (.bipush 7, 2) := by decide +kernel
theorem dX8_readLine_80 : decode cX8_readLine 80 = .ok (.goto 5, 3) := by decide +kernel
theorem dX8_readLine_83 : decode cX8_readLine 83 = .ok (.bipush (-9), 2) := by decide +kernel
theorem dX8_readLine_85 : decode cX8_readLine 85 = .ok (.istore_n 1, 1) := by decide +kernel
theorem dX8_readLine_86 : decode cX8_readLine 86 = .ok (.iload_n 1, 1) := by decide +kernel
theorem dX8_readLine_87 : decode cX8_readLine 87 = .ok (.bipush 7, 2) := by decide +kernel
theorem dX8_readLine_89 : decode cX8_readLine 89 = .ok (.if_icmp .ne 18, 3) := by decide +kernel
theorem dX8_readLine_92 : decode cX8_readLine 92 = .ok (.aload_n 0, 1) := by decide +kernel
theorem dX8_readLine_93 : decode cX8_readLine 93 = .ok (.getfield 7, 3) := by decide +kernel
theorem dX8_readLine_96 : decode cX8_readLine 96 = .ok (.aload_n 0, 1) := by decide +kernel
theorem dX8_readLine_97 : decode cX8_readLine 97 = .ok (.getfield 110, 3) := by decide +kernel
theorem dX8_readLine_100 : decode cX8_readLine 100 = .ok (.iaload, 1) := by decide +kernel
theorem dX8_readLine_101 : decode cX8_readLine 101 = .ok (.bipush 48, 2) := by decide +kernel
theorem dX8_readLine_103 : decode cX8_readLine 103 = .ok (.isub, 1) := by decide +kernel
theorem dX8_readLine_104 : decode cX8_readLine 104 = .ok (.goto 19, 3) := by decide +kernel
theorem dX8_readLine_107 : decode cX8_readLine 107 = .ok (.iload_n 1, 1) := by decide +kernel
theorem dX8_readLine_108 : decode cX8_readLine 108 = .ok (.bipush (-9), 2) := by decide +kernel
theorem dX8_readLine_110 : decode cX8_readLine 110 = .ok (.if_icmp .ne 7, 3) := by decide +kernel
theorem dX8_readLine_113 : decode cX8_readLine 113 = .ok (.iconst 0, 1) := by decide +kernel
theorem dX8_readLine_114 : decode cX8_readLine 114 = .ok (.goto 9, 3) := by decide +kernel
theorem dX8_readLine_117 : decode cX8_readLine 117 = .ok (.aload_n 0, 1) := by decide +kernel
theorem dX8_readLine_118 : decode cX8_readLine 118 = .ok (.getfield 28, 3) := by decide +kernel
theorem dX8_readLine_121 : decode cX8_readLine 121 = .ok (.iload_n 1, 1) := by decide +kernel
theorem dX8_readLine_122 : decode cX8_readLine 122 = .ok (.iaload, 1) := by decide +kernel
theorem dX8_readLine_123 : decode cX8_readLine 123 = .ok (.istore_n 2, 1) := by decide +kernel
theorem dX8_readLine_124 : decode cX8_readLine 124 = .ok (.iload_n 1, 1) := by decide +kernel
theorem dX8_readLine_125 : decode cX8_readLine 125 = .ok (.bipush (-9), 2) := by decide +kernel
theorem dX8_readLine_127 : decode cX8_readLine 127 = .ok (.if_icmp .eq 16, 3) := by decide +kernel
theorem dX8_readLine_130 : decode cX8_readLine 130 = .ok (.aload_n 0, 1) := by decide +kernel
theorem dX8_readLine_131 : decode cX8_readLine 131 = .ok (.getfield 47, 3) := by decide +kernel
theorem dX8_readLine_134 : decode cX8_readLine 134 = .ok (.iconst 0, 1) := by decide +kernel
theorem dX8_readLine_135 : decode cX8_readLine 135 = .ok (.iaload, 1) := by decide +kernel
theorem dX8_readLine_136 : decode cX8_readLine 136 = .ok (.iload_n 2, 1) := by decide +kernel
theorem dX8_readLine_137 : decode cX8_readLine 137 = .ok (.iadd, 1) := by decide +kernel
theorem dX8_readLine_138 : decode cX8_readLine 138 = .ok (.bipush 24, 2) := by decide +kernel
theorem dX8_readLine_140 : decode cX8_readLine 140 = .ok (.if_icmp .le 5, 3) := by decide +kernel
theorem dX8_readLine_143 : decode cX8_readLine 143 = .ok (.iconst 0, 1) := by decide +kernel
theorem dX8_readLine_144 : decode cX8_readLine 144 = .ok (.ireturn, 1) := by decide +kernel
theorem dX8_readLine_145 : decode cX8_readLine 145 = .ok (.iconst 0, 1) := by decide +kernel
theorem dX8_readLine_146 : decode cX8_readLine 146 = .ok (.istore_n 3, 1) := by decide +kernel
theorem dX8_readLine_147 : decode cX8_readLine 147 = .ok (.iload_n 3, 1) := by decide +kernel
theorem dX8_readLine_148 : decode cX8_readLine 148 = .ok (.iload_n 2, 1) := by decide +kernel
theorem dX8_readLine_149 : decode cX8_readLine 149 = .ok (.if_icmp .ge 41, 3) := by decide +kernel
theorem dX8_readLine_152 : decode cX8_readLine 152 = .ok (.aload_n 0, 1) := by decide +kernel
theorem dX8_readLine_153 : decode cX8_readLine 153 = .ok (.getfield 47, 3) := by decide +kernel
theorem dX8_readLine_156 : decode cX8_readLine 156 = .ok (.bipush 19, 2) := by decide +kernel
theorem dX8_readLine_158 : decode cX8_readLine 158 = .ok (.aload_n 0, 1) := by decide +kernel
theorem dX8_readLine_159 : decode cX8_readLine 159 = .ok (.getfield 47, 3) := by decide +kernel
theorem dX8_readLine_162 : decode cX8_readLine 162 = .ok (.iconst 0, 1) := by decide +kernel
theorem dX8_readLine_163 : decode cX8_readLine 163 = .ok (.iaload, 1) := by decide +kernel
theorem dX8_readLine_164 : decode cX8_readLine 164 = .ok (.iadd, 1) := by decide +kernel
theorem dX8_readLine_165 : decode cX8_readLine 165 = .ok (.iload_n 3, 1) := by decide +kernel
theorem dX8_readLine_166 : decode cX8_readLine 166 = .ok (.iadd, 1) := by decide +kernel
theorem dX8_readLine_167 : decode cX8_readLine 167 = .ok (.iload_n 1, 1) := by decide +kernel
theorem dX8_readLine_168 : decode cX8_readLine 168 = .ok (.bipush 7, 2) := by decide +kernel
theorem dX8_readLine_170 : decode cX8_readLine 170 = .ok (.if_icmp .eq 7, 3) := by decide +kernel
theorem dX8_readLine_173 : decode cX8_readLine 173 = .ok (.iload_n 3, 1) := by decide +kernel
theorem dX8_readLine_174 : decode cX8_readLine 174 = .ok (.ifCond .ne 7, 3) := by decide +kernel
theorem dX8_readLine_177 : decode cX8_readLine 177 = .ok (.iload_n 1, 1) := by decide +kernel
theorem dX8_readLine_178 : decode cX8_readLine 178 = .ok (.goto 5, 3) := by decide +kernel
theorem dX8_readLine_181 : decode cX8_readLine 181 = .ok (.bipush 8, 2) := by decide +kernel
theorem dX8_readLine_183 : decode cX8_readLine 183 = .ok (.iastore, 1) := by decide +kernel
theorem dX8_readLine_184 : decode cX8_readLine 184 = .ok (.iinc 3 1, 3) := by decide +kernel
theorem dX8_readLine_187 : decode cX8_readLine 187 = .ok (.goto (-40), 3) := by decide +kernel
theorem dX8_readLine_190 : decode cX8_readLine 190 = .ok (.aload_n 0, 1) := by decide +kernel
theorem dX8_readLine_191 : decode cX8_readLine 191 = .ok (.getfield 47, 3) := by decide +kernel
theorem dX8_readLine_194 : decode cX8_readLine 194 = .ok (.iconst 0, 1) := by decide +kernel
theorem dX8_readLine_195 : decode cX8_readLine 195 = .ok (.dup2, 1) := by decide +kernel
theorem dX8_readLine_196 : decode cX8_readLine 196 = .ok (.iaload, 1) := by decide +kernel
theorem dX8_readLine_197 : decode cX8_readLine 197 = .ok (.iload_n 2, 1) := by decide +kernel
theorem dX8_readLine_198 : decode cX8_readLine 198 = .ok (.iadd, 1) := by decide +kernel
theorem dX8_readLine_199 : decode cX8_readLine 199 = .ok (.iastore, 1) := by decide +kernel
theorem dX8_readLine_200 : decode cX8_readLine 200 = .ok (.aload_n 0, 1) := by decide +kernel
theorem dX8_readLine_201 : decode cX8_readLine 201 = .ok (.dup, 1) := by decide +kernel
theorem dX8_readLine_202 : decode cX8_readLine 202 = .ok (.getfield 110, 3) := by decide +kernel
theorem dX8_readLine_205 : decode cX8_readLine 205 = .ok (.iconst 1, 1) := by decide +kernel
theorem dX8_readLine_206 : decode cX8_readLine 206 = .ok (.iadd, 1) := by decide +kernel
theorem dX8_readLine_207 : decode cX8_readLine 207 = .ok (.putfield 110, 3) := by decide +kernel
theorem dX8_readLine_210 : decode cX8_readLine 210 = .ok (.goto (-200), 3) := by decide +kernel
theorem dX8_readLine_213 : decode cX8_readLine 213 = .ok (.aload_n 0, 1) := by decide +kernel
theorem dX8_readLine_214 : decode cX8_readLine 214 = .ok (.getfield 47, 3) := by decide +kernel
theorem dX8_readLine_217 : decode cX8_readLine 217 = .ok (.iconst 0, 1) := by decide +kernel
theorem dX8_readLine_218 : decode cX8_readLine 218 = .ok (.iaload, 1) := by decide +kernel
theorem dX8_readLine_219 : decode cX8_readLine 219 = .ok (.ifCond .le 7, 3) := by decide +kernel
theorem dX8_readLine_222 : decode cX8_readLine 222 = .ok (.iconst 1, 1) := by decide +kernel
theorem dX8_readLine_223 : decode cX8_readLine 223 = .ok (.goto 4, 3) := by decide +kernel
theorem dX8_readLine_226 : decode cX8_readLine 226 = .ok (.iconst 0, 1) := by decide +kernel
theorem dX8_readLine_227 : decode cX8_readLine 227 = .ok (.ireturn, 1) := by decide +kernel
theorem dX8_readPart_0 : decode cX8_readPart 0 = .ok (.aload_n 0, 1) := by decide +kernel
theorem dX8_readPart_1 : decode cX8_readPart 1 = .ok (.getfield 7, 3) := by decide +kernel
theorem dX8_readPart_4 : decode cX8_readPart 4 = .ok (.aload_n 0, 1) := by decide +kernel
theorem dX8_readPart_5 : decode cX8_readPart 5 = .ok (.getfield 110, 3) := by decide +kernel
theorem dX8_readPart_8 : decode cX8_readPart 8 = .ok (.iaload, 1) := by decide +kernel
theorem dX8_readPart_9 : decode cX8_readPart 9 = .ok (.lookupswitch 50 #[(100, 35), (108, 45), (114, 40)], 35) := by decide +kernel
theorem dX8_readPart_44 : decode cX8_readPart 44 = .ok (.aload_n 0, 1) := by decide +kernel
theorem dX8_readPart_45 : decode cX8_readPart 45 = .ok (.invokevirtual 124, 3) := by decide +kernel
theorem dX8_readPart_48 : decode cX8_readPart 48 = .ok (.ireturn, 1) := by decide +kernel
theorem dX8_readPart_49 : decode cX8_readPart 49 = .ok (.aload_n 0, 1) := by decide +kernel
theorem dX8_readPart_50 : decode cX8_readPart 50 = .ok (.invokevirtual 128, 3) := by decide +kernel
theorem dX8_readPart_53 : decode cX8_readPart 53 = .ok (.ireturn, 1) := by decide +kernel
theorem dX8_readPart_54 : decode cX8_readPart 54 = .ok (.aload_n 0, 1) := by decide +kernel
theorem dX8_readPart_55 : decode cX8_readPart 55 = .ok (.invokevirtual 131, 3) := by decide +kernel
theorem dX8_readPart_58 : decode cX8_readPart 58 = .ok (.ireturn, 1) := by decide +kernel
theorem dX8_readPart_59 : decode cX8_readPart 59 = .ok (.iconst 0, 1) := by decide +kernel
theorem dX8_readPart_60 : decode cX8_readPart 60 = .ok (.ireturn, 1) := by decide +kernel
theorem dX8_readStone_0 : decode cX8_readStone 0 = .ok (.aload_n 0, 1) := by decide +kernel
theorem dX8_readStone_1 : decode cX8_readStone 1 = .ok (.getfield 47, 3) := by decide +kernel
theorem dX8_readStone_4 : decode cX8_readStone 4 = .ok (.invokestatic 90, 3) := by decide +kernel
theorem dX8_readStone_7 : decode cX8_readStone 7 = .ok (.aload_n 0, 1) := by decide +kernel
theorem dX8_readStone_8 : decode cX8_readStone 8 = .ok (.iconst 0, 1) := by decide +kernel
theorem dX8_readStone_9 : decode cX8_readStone 9 = .ok (.putfield 113, 3) := by decide +kernel
theorem dX8_readStone_12 : decode cX8_readStone 12 = .ok (.iconst 0, 1) := by decide +kernel
theorem dX8_readStone_13 : decode cX8_readStone 13 = .ok (.istore_n 1, 1) := by decide +kernel
theorem dX8_readStone_14 : decode cX8_readStone 14 = .ok (.iload_n 1, 1) := by decide +kernel
theorem dX8_readStone_15 : decode cX8_readStone 15 = .ok (.bipush 9, 2) := by decide +kernel
theorem dX8_readStone_17 : decode cX8_readStone 17 = .ok (.if_icmp .ge 16, 3) := by decide +kernel
theorem dX8_readStone_20 : decode cX8_readStone 20 = .ok (.aload_n 0, 1) := by decide +kernel
theorem dX8_readStone_21 : decode cX8_readStone 21 = .ok (.getfield 43, 3) := by decide +kernel
theorem dX8_readStone_24 : decode cX8_readStone 24 = .ok (.iload_n 1, 1) := by decide +kernel
theorem dX8_readStone_25 : decode cX8_readStone 25 = .ok (.iconst 0, 1) := by decide +kernel
theorem dX8_readStone_26 : decode cX8_readStone 26 = .ok (.bastore, 1) := by decide +kernel
theorem dX8_readStone_27 : decode cX8_readStone 27 = .ok (.iinc 1 1, 3) := by decide +kernel
theorem dX8_readStone_30 : decode cX8_readStone 30 = .ok (.goto (-16), 3) := by decide +kernel
theorem dX8_readStone_33 : decode cX8_readStone 33 = .ok (.aload_n 0, 1) := by decide +kernel
theorem dX8_readStone_34 : decode cX8_readStone 34 = .ok (.getfield 107, 3) := by decide +kernel
theorem dX8_readStone_37 : decode cX8_readStone 37 = .ok (.ifCond .eq 14, 3) := by decide +kernel
theorem dX8_readStone_40 : decode cX8_readStone 40 = .ok (.aload_n 0, 1) := by decide +kernel
theorem dX8_readStone_41 : decode cX8_readStone 41 = .ok (.getfield 7, 3) := by decide +kernel
theorem dX8_readStone_44 : decode cX8_readStone 44 = .ok (.iconst 0, 1) := by decide +kernel
theorem dX8_readStone_45 : decode cX8_readStone 45 = .ok (.iaload, 1) := by decide +kernel
theorem dX8_readStone_46 : decode cX8_readStone 46 = .ok (.bipush 83, 2) := by decide +kernel
theorem dX8_readStone_48 : decode cX8_readStone 48 = .ok (.if_icmp .eq 5, 3) := by decide +kernel
theorem dX8_readStone_51 : decode cX8_readStone 51 = .ok (.iconst 0, 1) := by decide +kernel
theorem dX8_readStone_52 : decode cX8_readStone 52 = .ok (.ireturn, 1) := by decide +kernel
theorem dX8_readStone_53 : decode cX8_readStone 53 = .ok (.aload_n 0, 1) := by decide +kernel
theorem dX8_readStone_54 : decode cX8_readStone 54 = .ok (.iconst 1, 1) := by decide +kernel
theorem dX8_readStone_55 : decode cX8_readStone 55 = .ok (.putfield 110, 3) := by decide +kernel
theorem dX8_readStone_58 : decode cX8_readStone 58 = .ok (.iconst 0, 1) := by decide +kernel
theorem dX8_readStone_59 : decode cX8_readStone 59 = .ok (.istore_n 1, 1) := by decide +kernel
theorem dX8_readStone_60 : decode cX8_readStone 60 = .ok (.iload_n 1, 1) := by decide +kernel
theorem dX8_readStone_61 : decode cX8_readStone 61 = .ok (.bipush 6, 2) := by decide +kernel
theorem dX8_readStone_63 : decode cX8_readStone 63 = .ok (.if_icmp .ge 53, 3) := by decide +kernel
theorem dX8_readStone_66 : decode cX8_readStone 66 = .ok (.aload_n 0, 1) := by decide +kernel
theorem dX8_readStone_67 : decode cX8_readStone 67 = .ok (.bipush 48, 2) := by decide +kernel
theorem dX8_readStone_69 : decode cX8_readStone 69 = .ok (.iconst 1, 1) := by decide +kernel
theorem dX8_readStone_70 : decode cX8_readStone 70 = .ok (.iconst 3, 1) := by decide +kernel
theorem dX8_readStone_71 : decode cX8_readStone 71 = .ok (.invokevirtual 116, 3) := by decide +kernel
theorem dX8_readStone_74 : decode cX8_readStone 74 = .ok (.ifCond .ne 8, 3) := by decide +kernel
theorem dX8_readStone_77 : decode cX8_readStone 77 = .ok (.aload_n 0, 1) := by decide +kernel
theorem dX8_readStone_78 : decode cX8_readStone 78 = .ok (.getfield 110, 3) := by decide +kernel
theorem dX8_readStone_81 : decode cX8_readStone 81 = .ok (.ireturn, 1) := by decide +kernel
theorem dX8_readStone_82 : decode cX8_readStone 82 = .ok (.aload_n 0, 1) := by decide +kernel
theorem dX8_readStone_83 : decode cX8_readStone 83 = .ok (.getfield 28, 3) := by decide +kernel
theorem dX8_readStone_86 : decode cX8_readStone 86 = .ok (.iload_n 1, 1) := by decide +kernel
theorem dX8_readStone_87 : decode cX8_readStone 87 = .ok (.aload_n 0, 1) := by decide +kernel
theorem dX8_readStone_88 : decode cX8_readStone 88 = .ok (.getfield 7, 3) := by decide +kernel
theorem dX8_readStone_91 : decode cX8_readStone 91 = .ok (.aload_n 0, 1) := by decide +kernel
theorem dX8_readStone_92 : decode cX8_readStone 92 = .ok (.getfield 110, 3) := by decide +kernel
theorem dX8_readStone_95 : decode cX8_readStone 95 = .ok (.iaload, 1) := by decide +kernel
theorem dX8_readStone_96 : decode cX8_readStone 96 = .ok (.bipush 48, 2) := by decide +kernel
theorem dX8_readStone_98 : decode cX8_readStone 98 = .ok (.isub, 1) := by decide +kernel
theorem dX8_readStone_99 : decode cX8_readStone 99 = .ok (.iastore, 1) := by decide +kernel
theorem dX8_readStone_100 : decode cX8_readStone 100 = .ok (.aload_n 0, 1) := by decide +kernel
theorem dX8_readStone_101 : decode cX8_readStone 101 = .ok (.dup, 1) := by decide +kernel
theorem dX8_readStone_102 : decode cX8_readStone 102 = .ok (.getfield 110, 3) := by decide +kernel
theorem dX8_readStone_105 : decode cX8_readStone 105 = .ok (.iconst 1, 1) := by decide +kernel
theorem dX8_readStone_106 : decode cX8_readStone 106 = .ok (.iadd, 1) := by decide +kernel
theorem dX8_readStone_107 : decode cX8_readStone 107 = .ok (.putfield 110, 3) := by decide +kernel
theorem dX8_readStone_110 : decode cX8_readStone 110 = .ok (.iinc 1 1, 3) := by decide +kernel
theorem dX8_readStone_113 : decode cX8_readStone 113 = .ok (.goto (-53), 3) := by decide +kernel
theorem dX8_readStone_116 : decode cX8_readStone 116 = .ok (.aload_n 0, 1) := by decide +kernel
theorem dX8_readStone_117 : decode cX8_readStone 117 = .ok (.getfield 28, 3) := by decide +kernel
theorem dX8_readStone_120 : decode cX8_readStone 120 = .ok (.bipush 6, 2) := by decide +kernel
theorem dX8_readStone_122 : decode cX8_readStone 122 = .ok (.iconst 1, 1) := by decide +kernel
theorem dX8_readStone_123 : decode cX8_readStone 123 = .ok (.iastore, 1) := by decide +kernel
theorem dX8_readStone_124 : decode cX8_readStone 124 = .ok (.aload_n 0, 1) := by decide +kernel
theorem dX8_readStone_125 : decode cX8_readStone 125 = .ok (.getfield 110, 3) := by decide +kernel
theorem dX8_readStone_128 : decode cX8_readStone 128 = .ok (.aload_n 0, 1) := by decide +kernel
theorem dX8_readStone_129 : decode cX8_readStone 129 = .ok (.getfield 107, 3) := by decide +kernel
theorem dX8_readStone_132 : decode cX8_readStone 132 = .ok (.if_icmp .ge 15, 3) := by decide +kernel
theorem dX8_readStone_135 : decode cX8_readStone 135 = .ok (.aload_n 0, 1) := by decide +kernel
theorem dX8_readStone_136 : decode cX8_readStone 136 = .ok (.invokevirtual 134, 3) := by decide +kernel
theorem dX8_readStone_139 : decode cX8_readStone 139 = .ok (.ifCond .ne (-15), 3) := by decide +kernel
theorem dX8_readStone_142 : decode cX8_readStone 142 = .ok (.aload_n 0, 1) := by decide +kernel
theorem dX8_readStone_143 : decode cX8_readStone 143 = .ok (.getfield 110, 3) := by decide +kernel
theorem dX8_readStone_146 : decode cX8_readStone 146 = .ok (.ireturn, 1) := by decide +kernel
theorem dX8_readStone_147 : decode cX8_readStone 147 = .ok (.bipush (-9), 2) := by decide +kernel
theorem dX8_readStone_149 : decode cX8_readStone 149 = .ok (.ireturn, 1) := by decide +kernel
theorem dX8_fault_0 : decode cX8_fault 0 = .ok (.aload_n 0, 1) := by decide +kernel
theorem dX8_fault_1 : decode cX8_fault 1 = .ok (.iconst 0, 1) := by decide +kernel
theorem dX8_fault_2 : decode cX8_fault 2 = .ok (.putfield 94, 3) := by decide +kernel
theorem dX8_fault_5 : decode cX8_fault 5 = .ok (.aload_n 0, 1) := by decide +kernel
theorem dX8_fault_6 : decode cX8_fault 6 = .ok (.invokevirtual 137, 3) := by decide +kernel
theorem dX8_fault_9 : decode cX8_fault 9 = .ok (.ireturn, 1) := by decide +kernel
theorem dX8_stone_0 : decode cX8_stone 0 = .ok (.aload_n 0, 1) := by decide +kernel
theorem dX8_stone_1 : decode cX8_stone 1 = .ok (.iconst 0, 1) := by decide +kernel
theorem dX8_stone_2 : decode cX8_stone 2 = .ok (.putfield 94, 3) := by decide +kernel
theorem dX8_stone_5 : decode cX8_stone 5 = .ok (.aload_n 0, 1) := by decide +kernel
theorem dX8_stone_6 : decode cX8_stone 6 = .ok (.invokevirtual 137, 3) := by decide +kernel
theorem dX8_stone_9 : decode cX8_stone 9 = .ok (.bipush (-9), 2) := by decide +kernel
theorem dX8_stone_11 : decode cX8_stone 11 = .ok (.if_icmp .eq 6, 3) := by decide +kernel
theorem dX8_stone_14 : decode cX8_stone 14 = .ok (.bipush (-3), 2) := by decide +kernel
theorem dX8_stone_16 : decode cX8_stone 16 = .ok (.ireturn, 1) := by decide +kernel
theorem dX8_stone_17 : decode cX8_stone 17 = .ok (.aload_n 0, 1) := by decide +kernel
theorem dX8_stone_18 : decode cX8_stone 18 = .ok (.getfield 50, 3) := by decide +kernel
theorem dX8_stone_21 : decode cX8_stone 21 = .ok (.aload_n 0, 1) := by decide +kernel
theorem dX8_stone_22 : decode cX8_stone 22 = .ok (.getfield 47, 3) := by decide +kernel
theorem dX8_stone_25 : decode cX8_stone 25 = .ok (.invokestatic 141, 3) := by decide +kernel
theorem dX8_stone_28 : decode cX8_stone 28 = .ok (.aload_n 0, 1) := by decide +kernel
theorem dX8_stone_29 : decode cX8_stone 29 = .ok (.aload_n 0, 1) := by decide +kernel
theorem dX8_stone_30 : decode cX8_stone 30 = .ok (.getfield 113, 3) := by decide +kernel
theorem dX8_stone_33 : decode cX8_stone 33 = .ok (.putfield 98, 3) := by decide +kernel
theorem dX8_stone_36 : decode cX8_stone 36 = .ok (.iconst 0, 1) := by decide +kernel
theorem dX8_stone_37 : decode cX8_stone 37 = .ok (.istore_n 1, 1) := by decide +kernel
theorem dX8_stone_38 : decode cX8_stone 38 = .ok (.iload_n 1, 1) := by decide +kernel
theorem dX8_stone_39 : decode cX8_stone 39 = .ok (.bipush 7, 2) := by decide +kernel
theorem dX8_stone_41 : decode cX8_stone 41 = .ok (.if_icmp .ge 21, 3) := by decide +kernel
theorem dX8_stone_44 : decode cX8_stone 44 = .ok (.aload_n 0, 1) := by decide +kernel
theorem dX8_stone_45 : decode cX8_stone 45 = .ok (.getfield 13, 3) := by decide +kernel
theorem dX8_stone_48 : decode cX8_stone 48 = .ok (.iload_n 1, 1) := by decide +kernel
theorem dX8_stone_49 : decode cX8_stone 49 = .ok (.aload_n 0, 1) := by decide +kernel
theorem dX8_stone_50 : decode cX8_stone 50 = .ok (.getfield 28, 3) := by decide +kernel
theorem dX8_stone_53 : decode cX8_stone 53 = .ok (.iload_n 1, 1) := by decide +kernel
theorem dX8_stone_54 : decode cX8_stone 54 = .ok (.iaload, 1) := by decide +kernel
theorem dX8_stone_55 : decode cX8_stone 55 = .ok (.iastore, 1) := by decide +kernel
theorem dX8_stone_56 : decode cX8_stone 56 = .ok (.iinc 1 1, 3) := by decide +kernel
theorem dX8_stone_59 : decode cX8_stone 59 = .ok (.goto (-21), 3) := by decide +kernel
theorem dX8_stone_62 : decode cX8_stone 62 = .ok (.iconst 0, 1) := by decide +kernel
theorem dX8_stone_63 : decode cX8_stone 63 = .ok (.istore_n 1, 1) := by decide +kernel
theorem dX8_stone_64 : decode cX8_stone 64 = .ok (.iload_n 1, 1) := by decide +kernel
theorem dX8_stone_65 : decode cX8_stone 65 = .ok (.bipush 40, 2) := by decide +kernel
theorem dX8_stone_67 : decode cX8_stone 67 = .ok (.if_icmp .ge 21, 3) := by decide +kernel
theorem dX8_stone_70 : decode cX8_stone 70 = .ok (.aload_n 0, 1) := by decide +kernel
theorem dX8_stone_71 : decode cX8_stone 71 = .ok (.getfield 19, 3) := by decide +kernel
theorem dX8_stone_74 : decode cX8_stone 74 = .ok (.iload_n 1, 1) := by decide +kernel
theorem dX8_stone_75 : decode cX8_stone 75 = .ok (.aload_n 0, 1) := by decide +kernel
theorem dX8_stone_76 : decode cX8_stone 76 = .ok (.getfield 34, 3) := by decide +kernel
theorem dX8_stone_79 : decode cX8_stone 79 = .ok (.iload_n 1, 1) := by decide +kernel
theorem dX8_stone_80 : decode cX8_stone 80 = .ok (.iaload, 1) := by decide +kernel
theorem dX8_stone_81 : decode cX8_stone 81 = .ok (.iastore, 1) := by decide +kernel
theorem dX8_stone_82 : decode cX8_stone 82 = .ok (.iinc 1 1, 3) := by decide +kernel
theorem dX8_stone_85 : decode cX8_stone 85 = .ok (.goto (-21), 3) := by decide +kernel
theorem dX8_stone_88 : decode cX8_stone 88 = .ok (.iconst 0, 1) := by decide +kernel
theorem dX8_stone_89 : decode cX8_stone 89 = .ok (.istore_n 1, 1) := by decide +kernel
theorem dX8_stone_90 : decode cX8_stone 90 = .ok (.iload_n 1, 1) := by decide +kernel
theorem dX8_stone_91 : decode cX8_stone 91 = .ok (.bipush 8, 2) := by decide +kernel
theorem dX8_stone_93 : decode cX8_stone 93 = .ok (.if_icmp .ge 45, 3) := by decide +kernel
theorem dX8_stone_96 : decode cX8_stone 96 = .ok (.aload_n 0, 1) := by decide +kernel
theorem dX8_stone_97 : decode cX8_stone 97 = .ok (.getfield 16, 3) := by decide +kernel
theorem dX8_stone_100 : decode cX8_stone 100 = .ok (.iload_n 1, 1) := by decide +kernel
theorem dX8_stone_101 : decode cX8_stone 101 = .ok (.aload_n 0, 1) := by decide +kernel
theorem dX8_stone_102 : decode cX8_stone 102 = .ok (.getfield 31, 3) := by decide +kernel
theorem dX8_stone_105 : decode cX8_stone 105 = .ok (.iload_n 1, 1) := by decide +kernel
theorem dX8_stone_106 : decode cX8_stone 106 = .ok (.iaload, 1) := by decide +kernel
theorem dX8_stone_107 : decode cX8_stone 107 = .ok (.iastore, 1) := by decide +kernel
theorem dX8_stone_108 : decode cX8_stone 108 = .ok (.aload_n 0, 1) := by decide +kernel
theorem dX8_stone_109 : decode cX8_stone 109 = .ok (.getfield 22, 3) := by decide +kernel
theorem dX8_stone_112 : decode cX8_stone 112 = .ok (.iload_n 1, 1) := by decide +kernel
theorem dX8_stone_113 : decode cX8_stone 113 = .ok (.aload_n 0, 1) := by decide +kernel
theorem dX8_stone_114 : decode cX8_stone 114 = .ok (.getfield 37, 3) := by decide +kernel
theorem dX8_stone_117 : decode cX8_stone 117 = .ok (.iload_n 1, 1) := by decide +kernel
theorem dX8_stone_118 : decode cX8_stone 118 = .ok (.iaload, 1) := by decide +kernel
theorem dX8_stone_119 : decode cX8_stone 119 = .ok (.iastore, 1) := by decide +kernel
theorem dX8_stone_120 : decode cX8_stone 120 = .ok (.aload_n 0, 1) := by decide +kernel
theorem dX8_stone_121 : decode cX8_stone 121 = .ok (.getfield 25, 3) := by decide +kernel
theorem dX8_stone_124 : decode cX8_stone 124 = .ok (.iload_n 1, 1) := by decide +kernel
theorem dX8_stone_125 : decode cX8_stone 125 = .ok (.aload_n 0, 1) := by decide +kernel
theorem dX8_stone_126 : decode cX8_stone 126 = .ok (.getfield 40, 3) := by decide +kernel
theorem dX8_stone_129 : decode cX8_stone 129 = .ok (.iload_n 1, 1) := by decide +kernel
theorem dX8_stone_130 : decode cX8_stone 130 = .ok (.iaload, 1) := by decide +kernel
theorem dX8_stone_131 : decode cX8_stone 131 = .ok (.iastore, 1) := by decide +kernel
theorem dX8_stone_132 : decode cX8_stone 132 = .ok (.iinc 1 1, 3) := by decide +kernel
theorem dX8_stone_135 : decode cX8_stone 135 = .ok (.goto (-45), 3) := by decide +kernel
theorem dX8_stone_138 : decode cX8_stone 138 = .ok (.aload_n 0, 1) := by decide +kernel
theorem dX8_stone_139 : decode cX8_stone 139 = .ok (.iconst 0, 1) := by decide +kernel
theorem dX8_stone_140 : decode cX8_stone 140 = .ok (.putfield 145, 3) := by decide +kernel
theorem dX8_stone_143 : decode cX8_stone 143 = .ok (.aload_n 0, 1) := by decide +kernel
theorem dX8_stone_144 : decode cX8_stone 144 = .ok (.getfield 62, 3) := by decide +kernel
theorem dX8_stone_147 : decode cX8_stone 147 = .ok (.iconst 0, 1) := by decide +kernel
theorem dX8_stone_148 : decode cX8_stone 148 = .ok (.iconst 0, 1) := by decide +kernel
theorem dX8_stone_149 : decode cX8_stone 149 = .ok (.bastore, 1) := by decide +kernel
theorem dX8_stone_150 : decode cX8_stone 150 = .ok (.aload_n 0, 1) := by decide +kernel
theorem dX8_stone_151 : decode cX8_stone 151 = .ok (.getfield 62, 3) := by decide +kernel
theorem dX8_stone_154 : decode cX8_stone 154 = .ok (.iconst 1, 1) := by decide +kernel
theorem dX8_stone_155 : decode cX8_stone 155 = .ok (.iconst 0, 1) := by decide +kernel
theorem dX8_stone_156 : decode cX8_stone 156 = .ok (.bastore, 1) := by decide +kernel
theorem dX8_stone_157 : decode cX8_stone 157 = .ok (.aload_n 0, 1) := by decide +kernel
theorem dX8_stone_158 : decode cX8_stone 158 = .ok (.getfield 50, 3) := by decide +kernel
theorem dX8_stone_161 : decode cX8_stone 161 = .ok (.iconst 0, 1) := by decide +kernel
theorem dX8_stone_162 : decode cX8_stone 162 = .ok (.iaload, 1) := by decide +kernel
theorem dX8_stone_163 : decode cX8_stone 163 = .ok (.ireturn, 1) := by decide +kernel
theorem dX8_unitsOf_0 : decode cX8_unitsOf 0 = .ok (.iconst 0, 1) := by decide +kernel
theorem dX8_unitsOf_1 : decode cX8_unitsOf 1 = .ok (.istore_n 2, 1) := by decide +kernel
theorem dX8_unitsOf_2 : decode cX8_unitsOf 2 = .ok (.iconst 0, 1) := by decide +kernel
theorem dX8_unitsOf_3 : decode cX8_unitsOf 3 = .ok (.istore_n 3, 1) := by decide +kernel
theorem dX8_unitsOf_4 : decode cX8_unitsOf 4 = .ok (.iload_n 3, 1) := by decide +kernel
theorem dX8_unitsOf_5 : decode cX8_unitsOf 5 = .ok (.aload_n 0, 1) := by decide +kernel
theorem dX8_unitsOf_6 : decode cX8_unitsOf 6 = .ok (.getfield 16, 3) := by decide +kernel
theorem dX8_unitsOf_9 : decode cX8_unitsOf 9 = .ok (.iload_n 1, 1) := by decide +kernel
theorem dX8_unitsOf_10 : decode cX8_unitsOf 10 = .ok (.iaload, 1) := by decide +kernel
theorem dX8_unitsOf_11 : decode cX8_unitsOf 11 = .ok (.if_icmp .ge 27, 3) := by decide +kernel
theorem dX8_unitsOf_14 : decode cX8_unitsOf 14 = .ok (.iload_n 2, 1) := by decide +kernel
theorem dX8_unitsOf_15 : decode cX8_unitsOf 15 = .ok (.aload_n 0, 1) := by decide +kernel
theorem dX8_unitsOf_16 : decode cX8_unitsOf 16 = .ok (.getfield 13, 3) := by decide +kernel
theorem dX8_unitsOf_19 : decode cX8_unitsOf 19 = .ok (.aload_n 0, 1) := by decide +kernel
theorem dX8_unitsOf_20 : decode cX8_unitsOf 20 = .ok (.getfield 19, 3) := by decide +kernel
theorem dX8_unitsOf_23 : decode cX8_unitsOf 23 = .ok (.iconst 5, 1) := by decide +kernel
theorem dX8_unitsOf_24 : decode cX8_unitsOf 24 = .ok (.iload_n 1, 1) := by decide +kernel
theorem dX8_unitsOf_25 : decode cX8_unitsOf 25 = .ok (.imul, 1) := by decide +kernel
theorem dX8_unitsOf_26 : decode cX8_unitsOf 26 = .ok (.iload_n 3, 1) := by decide +kernel
theorem dX8_unitsOf_27 : decode cX8_unitsOf 27 = .ok (.iadd, 1) := by decide +kernel
theorem dX8_unitsOf_28 : decode cX8_unitsOf 28 = .ok (.iaload, 1) := by decide +kernel
theorem dX8_unitsOf_29 : decode cX8_unitsOf 29 = .ok (.iaload, 1) := by decide +kernel
theorem dX8_unitsOf_30 : decode cX8_unitsOf 30 = .ok (.iadd, 1) := by decide +kernel
theorem dX8_unitsOf_31 : decode cX8_unitsOf 31 = .ok (.istore_n 2, 1) := by decide +kernel
theorem dX8_unitsOf_32 : decode cX8_unitsOf 32 = .ok (.iinc 3 1, 3) := by decide +kernel
theorem dX8_unitsOf_35 : decode cX8_unitsOf 35 = .ok (.goto (-31), 3) := by decide +kernel
theorem dX8_unitsOf_38 : decode cX8_unitsOf 38 = .ok (.iload_n 2, 1) := by decide +kernel
theorem dX8_unitsOf_39 : decode cX8_unitsOf 39 = .ok (.ireturn, 1) := by decide +kernel
theorem dX8_word_0 : decode cX8_word 0 = .ok (.aload_n 0, 1) := by decide +kernel
theorem dX8_word_1 : decode cX8_word 1 = .ok (.iconst 0, 1) := by decide +kernel
theorem dX8_word_2 : decode cX8_word 2 = .ok (.putfield 94, 3) := by decide +kernel
theorem dX8_word_5 : decode cX8_word 5 = .ok (.aload_n 0, 1) := by decide +kernel
theorem dX8_word_6 : decode cX8_word 6 = .ok (.iload_n 1, 1) := by decide +kernel
theorem dX8_word_7 : decode cX8_word 7 = .ok (.invokevirtual 148, 3) := by decide +kernel
theorem dX8_word_10 : decode cX8_word 10 = .ok (.ifCond .eq 5, 3) := by decide +kernel
theorem dX8_word_13 : decode cX8_word 13 = .ok (.iconst (-1), 1) := by decide +kernel
theorem dX8_word_14 : decode cX8_word 14 = .ok (.ireturn, 1) := by decide +kernel
theorem dX8_word_15 : decode cX8_word 15 = .ok (.iload_n 2, 1) := by decide +kernel
theorem dX8_word_16 : decode cX8_word 16 = .ok (.tableswitch 110 0 6 #[44, 51, 58, 65, 75, 81, 92], 44) := by decide +kernel
theorem dX8_word_60 : decode cX8_word 60 = .ok (.aload_n 0, 1) := by decide +kernel
theorem dX8_word_61 : decode cX8_word 61 = .ok (.getfield 16, 3) := by decide +kernel
theorem dX8_word_64 : decode cX8_word 64 = .ok (.iload_n 1, 1) := by decide +kernel
theorem dX8_word_65 : decode cX8_word 65 = .ok (.iaload, 1) := by decide +kernel
theorem dX8_word_66 : decode cX8_word 66 = .ok (.ireturn, 1) := by decide +kernel
theorem dX8_word_67 : decode cX8_word 67 = .ok (.aload_n 0, 1) := by decide +kernel
theorem dX8_word_68 : decode cX8_word 68 = .ok (.getfield 22, 3) := by decide +kernel
theorem dX8_word_71 : decode cX8_word 71 = .ok (.iload_n 1, 1) := by decide +kernel
theorem dX8_word_72 : decode cX8_word 72 = .ok (.iaload, 1) := by decide +kernel
theorem dX8_word_73 : decode cX8_word 73 = .ok (.ireturn, 1) := by decide +kernel
theorem dX8_word_74 : decode cX8_word 74 = .ok (.aload_n 0, 1) := by decide +kernel
theorem dX8_word_75 : decode cX8_word 75 = .ok (.getfield 25, 3) := by decide +kernel
theorem dX8_word_78 : decode cX8_word 78 = .ok (.iload_n 1, 1) := by decide +kernel
theorem dX8_word_79 : decode cX8_word 79 = .ok (.iaload, 1) := by decide +kernel
theorem dX8_word_80 : decode cX8_word 80 = .ok (.ireturn, 1) := by decide +kernel
theorem dX8_word_81 : decode cX8_word 81 = .ok (.aload_n 0, 1) := by decide +kernel
theorem dX8_word_82 : decode cX8_word 82 = .ok (.getfield 50, 3) := by decide +kernel
theorem dX8_word_85 : decode cX8_word 85 = .ok (.bipush 11, 2) := by decide +kernel
theorem dX8_word_87 : decode cX8_word 87 = .ok (.iload_n 1, 1) := by decide +kernel
theorem dX8_word_88 : decode cX8_word 88 = .ok (.iadd, 1) := by decide +kernel
theorem dX8_word_89 : decode cX8_word 89 = .ok (.iaload, 1) := by decide +kernel
theorem dX8_word_90 : decode cX8_word 90 = .ok (.ireturn, 1) := by decide +kernel
theorem dX8_word_91 : decode cX8_word 91 = .ok (.aload_n 0, 1) := by decide +kernel
theorem dX8_word_92 : decode cX8_word 92 = .ok (.iload_n 1, 1) := by decide +kernel
theorem dX8_word_93 : decode cX8_word 93 = .ok (.invokevirtual 152, 3) := by decide +kernel
theorem dX8_word_96 : decode cX8_word 96 = .ok (.ireturn, 1) := by decide +kernel
theorem dX8_word_97 : decode cX8_word 97 = .ok (.aload_n 0, 1) := by decide +kernel
theorem dX8_word_98 : decode cX8_word 98 = .ok (.getfield 50, 3) := by decide +kernel
theorem dX8_word_101 : decode cX8_word 101 = .ok (.iconst 1, 1) := by decide +kernel
theorem dX8_word_102 : decode cX8_word 102 = .ok (.iaload, 1) := by decide +kernel
theorem dX8_word_103 : decode cX8_word 103 = .ok (.iload_n 1, 1) := by decide +kernel
theorem dX8_word_104 : decode cX8_word 104 = .ok (.ishr, 1) := by decide +kernel
theorem dX8_word_105 : decode cX8_word 105 = .ok (.iconst 1, 1) := by decide +kernel
theorem dX8_word_106 : decode cX8_word 106 = .ok (.iand, 1) := by decide +kernel
theorem dX8_word_107 : decode cX8_word 107 = .ok (.ireturn, 1) := by decide +kernel
theorem dX8_word_108 : decode cX8_word 108 = .ok (.aload_n 0, 1) := by decide +kernel
theorem dX8_word_109 : decode cX8_word 109 = .ok (.getfield 19, 3) := by decide +kernel
theorem dX8_word_112 : decode cX8_word 112 = .ok (.iconst 5, 1) := by decide +kernel
theorem dX8_word_113 : decode cX8_word 113 = .ok (.iload_n 1, 1) := by decide +kernel
theorem dX8_word_114 : decode cX8_word 114 = .ok (.imul, 1) := by decide +kernel
theorem dX8_word_115 : decode cX8_word 115 = .ok (.aload_n 0, 1) := by decide +kernel
theorem dX8_word_116 : decode cX8_word 116 = .ok (.getfield 16, 3) := by decide +kernel
theorem dX8_word_119 : decode cX8_word 119 = .ok (.iload_n 1, 1) := by decide +kernel
theorem dX8_word_120 : decode cX8_word 120 = .ok (.iaload, 1) := by decide +kernel
theorem dX8_word_121 : decode cX8_word 121 = .ok (.iadd, 1) := by decide +kernel
theorem dX8_word_122 : decode cX8_word 122 = .ok (.iconst 1, 1) := by decide +kernel
theorem dX8_word_123 : decode cX8_word 123 = .ok (.isub, 1) := by decide +kernel
theorem dX8_word_124 : decode cX8_word 124 = .ok (.iaload, 1) := by decide +kernel
theorem dX8_word_125 : decode cX8_word 125 = .ok (.ireturn, 1) := by decide +kernel
theorem dX8_word_126 : decode cX8_word 126 = .ok (.bipush (-2), 2) := by decide +kernel
theorem dX8_word_128 : decode cX8_word 128 = .ok (.ireturn, 1) := by decide +kernel
theorem dX8_line_0 : decode cX8_line 0 = .ok (.aload_n 0, 1) := by decide +kernel
theorem dX8_line_1 : decode cX8_line 1 = .ok (.iconst 0, 1) := by decide +kernel
theorem dX8_line_2 : decode cX8_line 2 = .ok (.putfield 94, 3) := by decide +kernel
theorem dX8_line_5 : decode cX8_line 5 = .ok (.aload_n 0, 1) := by decide +kernel
theorem dX8_line_6 : decode cX8_line 6 = .ok (.iload_n 1, 1) := by decide +kernel
theorem dX8_line_7 : decode cX8_line 7 = .ok (.invokevirtual 155, 3) := by decide +kernel
theorem dX8_line_10 : decode cX8_line 10 = .ok (.ifCond .eq 7, 3) := by decide +kernel
theorem dX8_line_13 : decode cX8_line 13 = .ok (.iconst (-1), 1) := by decide +kernel
theorem dX8_line_14 : decode cX8_line 14 = .ok (.goto 12, 3) := by decide +kernel
theorem dX8_line_17 : decode cX8_line 17 = .ok (.aload_n 0, 1) := by decide +kernel
theorem dX8_line_18 : decode cX8_line 18 = .ok (.getfield 50, 3) := by decide +kernel
theorem dX8_line_21 : decode cX8_line 21 = .ok (.bipush 19, 2) := by decide +kernel
theorem dX8_line_23 : decode cX8_line 23 = .ok (.iload_n 1, 1) := by decide +kernel
theorem dX8_line_24 : decode cX8_line 24 = .ok (.iadd, 1) := by decide +kernel
theorem dX8_line_25 : decode cX8_line 25 = .ok (.iaload, 1) := by decide +kernel
theorem dX8_line_26 : decode cX8_line 26 = .ok (.ireturn, 1) := by decide +kernel
theorem dX8_rule_0 : decode cX8_rule 0 = .ok (.aload_n 0, 1) := by decide +kernel
theorem dX8_rule_1 : decode cX8_rule 1 = .ok (.iconst 0, 1) := by decide +kernel
theorem dX8_rule_2 : decode cX8_rule 2 = .ok (.putfield 94, 3) := by decide +kernel
theorem dX8_rule_5 : decode cX8_rule 5 = .ok (.iload_n 1, 1) := by decide +kernel
theorem dX8_rule_6 : decode cX8_rule 6 = .ok (.i2l, 1) := by decide +kernel
theorem dX8_rule_7 : decode cX8_rule 7 = .ok (.lconst 0, 1) := by decide +kernel
theorem dX8_rule_8 : decode cX8_rule 8 = .ok (.ldc2_w 158, 3) := by decide +kernel
theorem dX8_rule_11 : decode cX8_rule 11 = .ok (.invokestatic 101, 3) := by decide +kernel
theorem dX8_rule_14 : decode cX8_rule 14 = .ok (.ifCond .eq 30, 3) := by decide +kernel
theorem dX8_rule_17 : decode cX8_rule 17 = .ok (.iload_n 2, 1) := by decide +kernel
theorem dX8_rule_18 : decode cX8_rule 18 = .ok (.i2l, 1) := by decide +kernel
theorem dX8_rule_19 : decode cX8_rule 19 = .ok (.lconst 0, 1) := by decide +kernel
theorem dX8_rule_20 : decode cX8_rule 20 = .ok (.ldc2_w 158, 3) := by decide +kernel
theorem dX8_rule_23 : decode cX8_rule 23 = .ok (.invokestatic 101, 3) := by decide +kernel
theorem dX8_rule_26 : decode cX8_rule 26 = .ok (.ifCond .eq 18, 3) := by decide +kernel
theorem dX8_rule_29 : decode cX8_rule 29 = .ok (.aload_n 0, 1) := by decide +kernel
theorem dX8_rule_30 : decode cX8_rule 30 = .ok (.getfield 50, 3) := by decide +kernel
theorem dX8_rule_33 : decode cX8_rule 33 = .ok (.iconst 2, 1) := by decide +kernel
theorem dX8_rule_34 : decode cX8_rule 34 = .ok (.iconst 3, 1) := by decide +kernel
theorem dX8_rule_35 : decode cX8_rule 35 = .ok (.iload_n 1, 1) := by decide +kernel
theorem dX8_rule_36 : decode cX8_rule 36 = .ok (.imul, 1) := by decide +kernel
theorem dX8_rule_37 : decode cX8_rule 37 = .ok (.iadd, 1) := by decide +kernel
theorem dX8_rule_38 : decode cX8_rule 38 = .ok (.iload_n 2, 1) := by decide +kernel
theorem dX8_rule_39 : decode cX8_rule 39 = .ok (.iadd, 1) := by decide +kernel
theorem dX8_rule_40 : decode cX8_rule 40 = .ok (.iaload, 1) := by decide +kernel
theorem dX8_rule_41 : decode cX8_rule 41 = .ok (.goto 5, 3) := by decide +kernel
theorem dX8_rule_44 : decode cX8_rule 44 = .ok (.bipush (-2), 2) := by decide +kernel
theorem dX8_rule_46 : decode cX8_rule 46 = .ok (.ireturn, 1) := by decide +kernel
theorem dX8_isInGaps_0 : decode cX8_isInGaps 0 = .ok (.iload_n 2, 1) := by decide +kernel
theorem dX8_isInGaps_1 : decode cX8_isInGaps 1 = .ok (.aload_n 0, 1) := by decide +kernel
theorem dX8_isInGaps_2 : decode cX8_isInGaps 2 = .ok (.getfield 13, 3) := by decide +kernel
theorem dX8_isInGaps_5 : decode cX8_isInGaps 5 = .ok (.iload_n 3, 1) := by decide +kernel
theorem dX8_isInGaps_6 : decode cX8_isInGaps 6 = .ok (.iaload, 1) := by decide +kernel
theorem dX8_isInGaps_7 : decode cX8_isInGaps 7 = .ok (.iadd, 1) := by decide +kernel
theorem dX8_isInGaps_8 : decode cX8_isInGaps 8 = .ok (.aload_n 1, 1) := by decide +kernel
theorem dX8_isInGaps_9 : decode cX8_isInGaps 9 = .ok (.iconst 0, 1) := by decide +kernel
theorem dX8_isInGaps_10 : decode cX8_isInGaps 10 = .ok (.iaload, 1) := by decide +kernel
theorem dX8_isInGaps_11 : decode cX8_isInGaps 11 = .ok (.if_icmp .gt 7, 3) := by decide +kernel
theorem dX8_isInGaps_14 : decode cX8_isInGaps 14 = .ok (.iconst 1, 1) := by decide +kernel
theorem dX8_isInGaps_15 : decode cX8_isInGaps 15 = .ok (.goto 4, 3) := by decide +kernel
theorem dX8_isInGaps_18 : decode cX8_isInGaps 18 = .ok (.iconst 0, 1) := by decide +kernel
theorem dX8_isInGaps_19 : decode cX8_isInGaps 19 = .ok (.istore 4, 2) := by decide +kernel
theorem dX8_isInGaps_21 : decode cX8_isInGaps 21 = .ok (.iconst 0, 1) := by decide +kernel
theorem dX8_isInGaps_22 : decode cX8_isInGaps 22 = .ok (.istore 5, 2) := by decide +kernel
theorem dX8_isInGaps_24 : decode cX8_isInGaps 24 = .ok (.iload 5, 2) := by decide +kernel
theorem dX8_isInGaps_26 : decode cX8_isInGaps 26 = .ok (.aload_n 0, 1) := by decide +kernel
theorem dX8_isInGaps_27 : decode cX8_isInGaps 27 = .ok (.getfield 13, 3) := by decide +kernel
theorem dX8_isInGaps_30 : decode cX8_isInGaps 30 = .ok (.iload_n 3, 1) := by decide +kernel
theorem dX8_isInGaps_31 : decode cX8_isInGaps 31 = .ok (.iaload, 1) := by decide +kernel
theorem dX8_isInGaps_32 : decode cX8_isInGaps 32 = .ok (.if_icmp .ge 35, 3) := by decide +kernel
theorem dX8_isInGaps_35 : decode cX8_isInGaps 35 = .ok (.iload 4, 2) := by decide +kernel
theorem dX8_isInGaps_37 : decode cX8_isInGaps 37 = .ok (.ifCond .eq 30, 3) := by decide +kernel
theorem dX8_isInGaps_40 : decode cX8_isInGaps 40 = .ok (.aload_n 1, 1) := by decide +kernel
theorem dX8_isInGaps_41 : decode cX8_isInGaps 41 = .ok (.bipush 19, 2) := by decide +kernel
theorem dX8_isInGaps_43 : decode cX8_isInGaps 43 = .ok (.iload_n 2, 1) := by decide +kernel
theorem dX8_isInGaps_44 : decode cX8_isInGaps 44 = .ok (.iadd, 1) := by decide +kernel
theorem dX8_isInGaps_45 : decode cX8_isInGaps 45 = .ok (.iload 5, 2) := by decide +kernel
theorem dX8_isInGaps_47 : decode cX8_isInGaps 47 = .ok (.iadd, 1) := by decide +kernel
theorem dX8_isInGaps_48 : decode cX8_isInGaps 48 = .ok (.iaload, 1) := by decide +kernel
theorem dX8_isInGaps_49 : decode cX8_isInGaps 49 = .ok (.bipush 7, 2) := by decide +kernel
theorem dX8_isInGaps_51 : decode cX8_isInGaps 51 = .ok (.if_icmp .ne 7, 3) := by decide +kernel
theorem dX8_isInGaps_54 : decode cX8_isInGaps 54 = .ok (.iconst 1, 1) := by decide +kernel
theorem dX8_isInGaps_55 : decode cX8_isInGaps 55 = .ok (.goto 4, 3) := by decide +kernel
theorem dX8_isInGaps_58 : decode cX8_isInGaps 58 = .ok (.iconst 0, 1) := by decide +kernel
theorem dX8_isInGaps_59 : decode cX8_isInGaps 59 = .ok (.istore 4, 2) := by decide +kernel
theorem dX8_isInGaps_61 : decode cX8_isInGaps 61 = .ok (.iinc 5 1, 3) := by decide +kernel
theorem dX8_isInGaps_64 : decode cX8_isInGaps 64 = .ok (.goto (-40), 3) := by decide +kernel
theorem dX8_isInGaps_67 : decode cX8_isInGaps 67 = .ok (.iload 4, 2) := by decide +kernel
theorem dX8_isInGaps_69 : decode cX8_isInGaps 69 = .ok (.ireturn, 1) := by decide +kernel
theorem dX8_canLie_0 : decode cX8_canLie 0 = .ok (.iload_n 2, 1) := by decide +kernel
theorem dX8_canLie_1 : decode cX8_canLie 1 = .ok (.aload_n 1, 1) := by decide +kernel
theorem dX8_canLie_2 : decode cX8_canLie 2 = .ok (.iconst 0, 1) := by decide +kernel
theorem dX8_canLie_3 : decode cX8_canLie 3 = .ok (.iaload, 1) := by decide +kernel
theorem dX8_canLie_4 : decode cX8_canLie 4 = .ok (.if_icmp .ge 27, 3) := by decide +kernel
theorem dX8_canLie_7 : decode cX8_canLie 7 = .ok (.aload_n 1, 1) := by decide +kernel
theorem dX8_canLie_8 : decode cX8_canLie 8 = .ok (.bipush 19, 2) := by decide +kernel
theorem dX8_canLie_10 : decode cX8_canLie 10 = .ok (.iload_n 2, 1) := by decide +kernel
theorem dX8_canLie_11 : decode cX8_canLie 11 = .ok (.iadd, 1) := by decide +kernel
theorem dX8_canLie_12 : decode cX8_canLie 12 = .ok (.iaload, 1) := by decide +kernel
theorem dX8_canLie_13 : decode cX8_canLie 13 = .ok (.iload_n 3, 1) := by decide +kernel
theorem dX8_canLie_14 : decode cX8_canLie 14 = .ok (.if_icmp .eq 13, 3) := by decide +kernel
theorem dX8_canLie_17 : decode cX8_canLie 17 = .ok (.aload_n 0, 1) := by decide +kernel
theorem dX8_canLie_18 : decode cX8_canLie 18 = .ok (.aload_n 1, 1) := by decide +kernel
theorem dX8_canLie_19 : decode cX8_canLie 19 = .ok (.iload_n 2, 1) := by decide +kernel
theorem dX8_canLie_20 : decode cX8_canLie 20 = .ok (.iload_n 3, 1) := by decide +kernel
theorem dX8_canLie_21 : decode cX8_canLie 21 = .ok (.invokevirtual 160, 3) := by decide +kernel
theorem dX8_canLie_24 : decode cX8_canLie 24 = .ok (.ifCond .eq 7, 3) := by decide +kernel
theorem dX8_canLie_27 : decode cX8_canLie 27 = .ok (.iconst 1, 1) := by decide +kernel
theorem dX8_canLie_28 : decode cX8_canLie 28 = .ok (.goto 4, 3) := by decide +kernel
theorem dX8_canLie_31 : decode cX8_canLie 31 = .ok (.iconst 0, 1) := by decide +kernel
theorem dX8_canLie_32 : decode cX8_canLie 32 = .ok (.ireturn, 1) := by decide +kernel
theorem dX8_wordLies_0 : decode cX8_wordLies 0 = .ok (.iconst 1, 1) := by decide +kernel
theorem dX8_wordLies_1 : decode cX8_wordLies 1 = .ok (.istore 4, 2) := by decide +kernel
theorem dX8_wordLies_3 : decode cX8_wordLies 3 = .ok (.iload_n 3, 1) := by decide +kernel
theorem dX8_wordLies_4 : decode cX8_wordLies 4 = .ok (.istore 5, 2) := by decide +kernel
theorem dX8_wordLies_6 : decode cX8_wordLies 6 = .ok (.iconst 0, 1) := by decide +kernel
theorem dX8_wordLies_7 : decode cX8_wordLies 7 = .ok (.istore 6, 2) := by decide +kernel
theorem dX8_wordLies_9 : decode cX8_wordLies 9 = .ok (.iload 6, 2) := by decide +kernel
theorem dX8_wordLies_11 : decode cX8_wordLies 11 = .ok (.aload_n 0, 1) := by decide +kernel
theorem dX8_wordLies_12 : decode cX8_wordLies 12 = .ok (.getfield 16, 3) := by decide +kernel
theorem dX8_wordLies_15 : decode cX8_wordLies 15 = .ok (.iload_n 2, 1) := by decide +kernel
theorem dX8_wordLies_16 : decode cX8_wordLies 16 = .ok (.iaload, 1) := by decide +kernel
theorem dX8_wordLies_17 : decode cX8_wordLies 17 = .ok (.if_icmp .ge 50, 3) := by decide +kernel
theorem dX8_wordLies_20 : decode cX8_wordLies 20 = .ok (.iload 4, 2) := by decide +kernel
theorem dX8_wordLies_22 : decode cX8_wordLies 22 = .ok (.ifCond .eq 45, 3) := by decide +kernel
theorem dX8_wordLies_25 : decode cX8_wordLies 25 = .ok (.aload_n 0, 1) := by decide +kernel
theorem dX8_wordLies_26 : decode cX8_wordLies 26 = .ok (.getfield 19, 3) := by decide +kernel
theorem dX8_wordLies_29 : decode cX8_wordLies 29 = .ok (.iconst 5, 1) := by decide +kernel
theorem dX8_wordLies_30 : decode cX8_wordLies 30 = .ok (.iload_n 2, 1) := by decide +kernel
theorem dX8_wordLies_31 : decode cX8_wordLies 31 = .ok (.imul, 1) := by decide +kernel
theorem dX8_wordLies_32 : decode cX8_wordLies 32 = .ok (.iload 6, 2) := by decide +kernel
theorem dX8_wordLies_34 : decode cX8_wordLies 34 = .ok (.iadd, 1) := by decide +kernel
theorem dX8_wordLies_35 : decode cX8_wordLies 35 = .ok (.iaload, 1) := by decide +kernel
theorem dX8_wordLies_36 : decode cX8_wordLies 36 = .ok (.istore 7, 2) := by decide +kernel
theorem dX8_wordLies_38 : decode cX8_wordLies 38 = .ok (.aload_n 0, 1) := by decide +kernel
theorem dX8_wordLies_39 : decode cX8_wordLies 39 = .ok (.aload_n 1, 1) := by decide +kernel
theorem dX8_wordLies_40 : decode cX8_wordLies 40 = .ok (.iload 5, 2) := by decide +kernel
theorem dX8_wordLies_42 : decode cX8_wordLies 42 = .ok (.iload 7, 2) := by decide +kernel
theorem dX8_wordLies_44 : decode cX8_wordLies 44 = .ok (.invokevirtual 164, 3) := by decide +kernel
theorem dX8_wordLies_47 : decode cX8_wordLies 47 = .ok (.istore 4, 2) := by decide +kernel
theorem dX8_wordLies_49 : decode cX8_wordLies 49 = .ok (.iload 5, 2) := by decide +kernel
theorem dX8_wordLies_51 : decode cX8_wordLies 51 = .ok (.aload_n 0, 1) := by decide +kernel
theorem dX8_wordLies_52 : decode cX8_wordLies 52 = .ok (.getfield 13, 3) := by decide +kernel
theorem dX8_wordLies_55 : decode cX8_wordLies 55 = .ok (.iload 7, 2) := by decide +kernel
theorem dX8_wordLies_57 : decode cX8_wordLies 57 = .ok (.iaload, 1) := by decide +kernel
theorem dX8_wordLies_58 : decode cX8_wordLies 58 = .ok (.iadd, 1) := by decide +kernel
theorem dX8_wordLies_59 : decode cX8_wordLies 59 = .ok (.istore 5, 2) := by decide +kernel
theorem dX8_wordLies_61 : decode cX8_wordLies 61 = .ok (.iinc 6 1, 3) := by decide +kernel
theorem dX8_wordLies_64 : decode cX8_wordLies 64 = .ok (.goto (-55), 3) := by decide +kernel
theorem dX8_wordLies_67 : decode cX8_wordLies 67 = .ok (.iload 4, 2) := by decide +kernel
theorem dX8_wordLies_69 : decode cX8_wordLies 69 = .ok (.ireturn, 1) := by decide +kernel
theorem dX8_mayFollow_0 : decode cX8_mayFollow 0 = .ok (.iload_n 3, 1) := by decide +kernel
theorem dX8_mayFollow_1 : decode cX8_mayFollow 1 = .ok (.bipush 8, 2) := by decide +kernel
theorem dX8_mayFollow_3 : decode cX8_mayFollow 3 = .ok (.if_icmp .ne 5, 3) := by decide +kernel
theorem dX8_mayFollow_6 : decode cX8_mayFollow 6 = .ok (.iconst 1, 1) := by decide +kernel
theorem dX8_mayFollow_7 : decode cX8_mayFollow 7 = .ok (.ireturn, 1) := by decide +kernel
theorem dX8_mayFollow_8 : decode cX8_mayFollow 8 = .ok (.aload_n 1, 1) := by decide +kernel
theorem dX8_mayFollow_9 : decode cX8_mayFollow 9 = .ok (.iconst 2, 1) := by decide +kernel
theorem dX8_mayFollow_10 : decode cX8_mayFollow 10 = .ok (.iconst 3, 1) := by decide +kernel
theorem dX8_mayFollow_11 : decode cX8_mayFollow 11 = .ok (.aload_n 0, 1) := by decide +kernel
theorem dX8_mayFollow_12 : decode cX8_mayFollow 12 = .ok (.getfield 22, 3) := by decide +kernel
theorem dX8_mayFollow_15 : decode cX8_mayFollow 15 = .ok (.iload_n 3, 1) := by decide +kernel
theorem dX8_mayFollow_16 : decode cX8_mayFollow 16 = .ok (.iaload, 1) := by decide +kernel
theorem dX8_mayFollow_17 : decode cX8_mayFollow 17 = .ok (.imul, 1) := by decide +kernel
theorem dX8_mayFollow_18 : decode cX8_mayFollow 18 = .ok (.iadd, 1) := by decide +kernel
theorem dX8_mayFollow_19 : decode cX8_mayFollow 19 = .ok (.aload_n 0, 1) := by decide +kernel
theorem dX8_mayFollow_20 : decode cX8_mayFollow 20 = .ok (.getfield 22, 3) := by decide +kernel
theorem dX8_mayFollow_23 : decode cX8_mayFollow 23 = .ok (.iload_n 2, 1) := by decide +kernel
theorem dX8_mayFollow_24 : decode cX8_mayFollow 24 = .ok (.iaload, 1) := by decide +kernel
theorem dX8_mayFollow_25 : decode cX8_mayFollow 25 = .ok (.iadd, 1) := by decide +kernel
theorem dX8_mayFollow_26 : decode cX8_mayFollow 26 = .ok (.iaload, 1) := by decide +kernel
theorem dX8_mayFollow_27 : decode cX8_mayFollow 27 = .ok (.istore 4, 2) := by decide +kernel
theorem dX8_mayFollow_29 : decode cX8_mayFollow 29 = .ok (.iload 4, 2) := by decide +kernel
theorem dX8_mayFollow_31 : decode cX8_mayFollow 31 = .ok (.iconst 1, 1) := by decide +kernel
theorem dX8_mayFollow_32 : decode cX8_mayFollow 32 = .ok (.if_icmp .eq 24, 3) := by decide +kernel
theorem dX8_mayFollow_35 : decode cX8_mayFollow 35 = .ok (.iload 4, 2) := by decide +kernel
theorem dX8_mayFollow_37 : decode cX8_mayFollow 37 = .ok (.iconst 2, 1) := by decide +kernel
theorem dX8_mayFollow_38 : decode cX8_mayFollow 38 = .ok (.if_icmp .ne 22, 3) := by decide +kernel
theorem dX8_mayFollow_41 : decode cX8_mayFollow 41 = .ok (.aload_n 0, 1) := by decide +kernel
theorem dX8_mayFollow_42 : decode cX8_mayFollow 42 = .ok (.getfield 25, 3) := by decide +kernel
theorem dX8_mayFollow_45 : decode cX8_mayFollow 45 = .ok (.iload_n 3, 1) := by decide +kernel
theorem dX8_mayFollow_46 : decode cX8_mayFollow 46 = .ok (.iaload, 1) := by decide +kernel
theorem dX8_mayFollow_47 : decode cX8_mayFollow 47 = .ok (.aload_n 0, 1) := by decide +kernel
theorem dX8_mayFollow_48 : decode cX8_mayFollow 48 = .ok (.getfield 25, 3) := by decide +kernel
theorem dX8_mayFollow_51 : decode cX8_mayFollow 51 = .ok (.iload_n 2, 1) := by decide +kernel
theorem dX8_mayFollow_52 : decode cX8_mayFollow 52 = .ok (.iaload, 1) := by decide +kernel
theorem dX8_mayFollow_53 : decode cX8_mayFollow 53 = .ok (.if_icmp .ne 7, 3) := by decide +kernel
theorem dX8_mayFollow_56 : decode cX8_mayFollow 56 = .ok (.iconst 1, 1) := by decide +kernel
theorem dX8_mayFollow_57 : decode cX8_mayFollow 57 = .ok (.goto 4, 3) := by decide +kernel
theorem dX8_mayFollow_60 : decode cX8_mayFollow 60 = .ok (.iconst 0, 1) := by decide +kernel
theorem dX8_mayFollow_61 : decode cX8_mayFollow 61 = .ok (.ireturn, 1) := by decide +kernel
theorem dX8_note_0 : decode cX8_note 0 = .ok (.aload_n 0, 1) := by decide +kernel
theorem dX8_note_1 : decode cX8_note 1 = .ok (.getfield 145, 3) := by decide +kernel
theorem dX8_note_4 : decode cX8_note 4 = .ok (.bipush 14, 2) := by decide +kernel
theorem dX8_note_6 : decode cX8_note 6 = .ok (.if_icmp .ne 43, 3) := by decide +kernel
theorem dX8_note_9 : decode cX8_note 9 = .ok (.iconst 0, 1) := by decide +kernel
theorem dX8_note_10 : decode cX8_note 10 = .ok (.istore_n 1, 1) := by decide +kernel
theorem dX8_note_11 : decode cX8_note 11 = .ok (.iload_n 1, 1) := by decide +kernel
theorem dX8_note_12 : decode cX8_note 12 = .ok (.sipush 559, 3) := by decide +kernel
theorem dX8_note_15 : decode cX8_note 15 = .ok (.if_icmp .ge 24, 3) := by decide +kernel
theorem dX8_note_18 : decode cX8_note 18 = .ok (.aload_n 0, 1) := by decide +kernel
theorem dX8_note_19 : decode cX8_note 19 = .ok (.getfield 56, 3) := by decide +kernel
theorem dX8_note_22 : decode cX8_note 22 = .ok (.iload_n 1, 1) := by decide +kernel
theorem dX8_note_23 : decode cX8_note 23 = .ok (.aload_n 0, 1) := by decide +kernel
theorem dX8_note_24 : decode cX8_note 24 = .ok (.getfield 56, 3) := by decide +kernel
theorem dX8_note_27 : decode cX8_note 27 = .ok (.iload_n 1, 1) := by decide +kernel
theorem dX8_note_28 : decode cX8_note 28 = .ok (.bipush 43, 2) := by decide +kernel
theorem dX8_note_30 : decode cX8_note 30 = .ok (.iadd, 1) := by decide +kernel
theorem dX8_note_31 : decode cX8_note 31 = .ok (.iaload, 1) := by decide +kernel
theorem dX8_note_32 : decode cX8_note 32 = .ok (.iastore, 1) := by decide +kernel
theorem dX8_note_33 : decode cX8_note 33 = .ok (.iinc 1 1, 3) := by decide +kernel
theorem dX8_note_36 : decode cX8_note 36 = .ok (.goto (-25), 3) := by decide +kernel
theorem dX8_note_39 : decode cX8_note 39 = .ok (.aload_n 0, 1) := by decide +kernel
theorem dX8_note_40 : decode cX8_note 40 = .ok (.dup, 1) := by decide +kernel
theorem dX8_note_41 : decode cX8_note 41 = .ok (.getfield 145, 3) := by decide +kernel
theorem dX8_note_44 : decode cX8_note 44 = .ok (.iconst 1, 1) := by decide +kernel
theorem dX8_note_45 : decode cX8_note 45 = .ok (.isub, 1) := by decide +kernel
theorem dX8_note_46 : decode cX8_note 46 = .ok (.putfield 145, 3) := by decide +kernel
theorem dX8_note_49 : decode cX8_note 49 = .ok (.iconst 0, 1) := by decide +kernel
theorem dX8_note_50 : decode cX8_note 50 = .ok (.istore_n 1, 1) := by decide +kernel
theorem dX8_note_51 : decode cX8_note 51 = .ok (.iload_n 1, 1) := by decide +kernel
theorem dX8_note_52 : decode cX8_note 52 = .ok (.bipush 43, 2) := by decide +kernel
theorem dX8_note_54 : decode cX8_note 54 = .ok (.if_icmp .ge 29, 3) := by decide +kernel
theorem dX8_note_57 : decode cX8_note 57 = .ok (.aload_n 0, 1) := by decide +kernel
theorem dX8_note_58 : decode cX8_note 58 = .ok (.getfield 56, 3) := by decide +kernel
theorem dX8_note_61 : decode cX8_note 61 = .ok (.bipush 43, 2) := by decide +kernel
theorem dX8_note_63 : decode cX8_note 63 = .ok (.aload_n 0, 1) := by decide +kernel
theorem dX8_note_64 : decode cX8_note 64 = .ok (.getfield 145, 3) := by decide +kernel
theorem dX8_note_67 : decode cX8_note 67 = .ok (.imul, 1) := by decide +kernel
theorem dX8_note_68 : decode cX8_note 68 = .ok (.iload_n 1, 1) := by decide +kernel
theorem dX8_note_69 : decode cX8_note 69 = .ok (.iadd, 1) := by decide +kernel
theorem dX8_note_70 : decode cX8_note 70 = .ok (.aload_n 0, 1) := by decide +kernel
theorem dX8_note_71 : decode cX8_note 71 = .ok (.getfield 50, 3) := by decide +kernel
theorem dX8_note_74 : decode cX8_note 74 = .ok (.iload_n 1, 1) := by decide +kernel
theorem dX8_note_75 : decode cX8_note 75 = .ok (.iaload, 1) := by decide +kernel
theorem dX8_note_76 : decode cX8_note 76 = .ok (.iastore, 1) := by decide +kernel
theorem dX8_note_77 : decode cX8_note 77 = .ok (.iinc 1 1, 3) := by decide +kernel
theorem dX8_note_80 : decode cX8_note 80 = .ok (.goto (-29), 3) := by decide +kernel
theorem dX8_note_83 : decode cX8_note 83 = .ok (.aload_n 0, 1) := by decide +kernel
theorem dX8_note_84 : decode cX8_note 84 = .ok (.dup, 1) := by decide +kernel
theorem dX8_note_85 : decode cX8_note 85 = .ok (.getfield 145, 3) := by decide +kernel
theorem dX8_note_88 : decode cX8_note 88 = .ok (.iconst 1, 1) := by decide +kernel
theorem dX8_note_89 : decode cX8_note 89 = .ok (.iadd, 1) := by decide +kernel
theorem dX8_note_90 : decode cX8_note 90 = .ok (.putfield 145, 3) := by decide +kernel
theorem dX8_note_93 : decode cX8_note 93 = .ok (.return_, 1) := by decide +kernel
theorem dX8_gaps_0 : decode cX8_gaps 0 = .ok (.iconst 0, 1) := by decide +kernel
theorem dX8_gaps_1 : decode cX8_gaps 1 = .ok (.istore_n 2, 1) := by decide +kernel
theorem dX8_gaps_2 : decode cX8_gaps 2 = .ok (.iconst 0, 1) := by decide +kernel
theorem dX8_gaps_3 : decode cX8_gaps 3 = .ok (.istore_n 3, 1) := by decide +kernel
theorem dX8_gaps_4 : decode cX8_gaps 4 = .ok (.iload_n 3, 1) := by decide +kernel
theorem dX8_gaps_5 : decode cX8_gaps 5 = .ok (.aload_n 1, 1) := by decide +kernel
theorem dX8_gaps_6 : decode cX8_gaps 6 = .ok (.iconst 0, 1) := by decide +kernel
theorem dX8_gaps_7 : decode cX8_gaps 7 = .ok (.iaload, 1) := by decide +kernel
theorem dX8_gaps_8 : decode cX8_gaps 8 = .ok (.if_icmp .ge 28, 3) := by decide +kernel
theorem dX8_gaps_11 : decode cX8_gaps 11 = .ok (.iload_n 2, 1) := by decide +kernel
theorem dX8_gaps_12 : decode cX8_gaps 12 = .ok (.aload_n 1, 1) := by decide +kernel
theorem dX8_gaps_13 : decode cX8_gaps 13 = .ok (.bipush 19, 2) := by decide +kernel
theorem dX8_gaps_15 : decode cX8_gaps 15 = .ok (.iload_n 3, 1) := by decide +kernel
theorem dX8_gaps_16 : decode cX8_gaps 16 = .ok (.iadd, 1) := by decide +kernel
theorem dX8_gaps_17 : decode cX8_gaps 17 = .ok (.iaload, 1) := by decide +kernel
theorem dX8_gaps_18 : decode cX8_gaps 18 = .ok (.bipush 7, 2) := by decide +kernel
theorem dX8_gaps_20 : decode cX8_gaps 20 = .ok (.if_icmp .ne 7, 3) := by decide +kernel
theorem dX8_gaps_23 : decode cX8_gaps 23 = .ok (.iconst 1, 1) := by decide +kernel
theorem dX8_gaps_24 : decode cX8_gaps 24 = .ok (.goto 4, 3) := by decide +kernel
theorem dX8_gaps_27 : decode cX8_gaps 27 = .ok (.iconst 0, 1) := by decide +kernel
theorem dX8_gaps_28 : decode cX8_gaps 28 = .ok (.iadd, 1) := by decide +kernel
theorem dX8_gaps_29 : decode cX8_gaps 29 = .ok (.istore_n 2, 1) := by decide +kernel
theorem dX8_gaps_30 : decode cX8_gaps 30 = .ok (.iinc 3 1, 3) := by decide +kernel
theorem dX8_gaps_33 : decode cX8_gaps 33 = .ok (.goto (-29), 3) := by decide +kernel
theorem dX8_gaps_36 : decode cX8_gaps 36 = .ok (.iload_n 2, 1) := by decide +kernel
theorem dX8_gaps_37 : decode cX8_gaps 37 = .ok (.ireturn, 1) := by decide +kernel
theorem dX8_wearOn_0 : decode cX8_wearOn 0 = .ok (.aload_n 0, 1) := by decide +kernel
theorem dX8_wearOn_1 : decode cX8_wearOn 1 = .ok (.getfield 13, 3) := by decide +kernel
theorem dX8_wearOn_4 : decode cX8_wearOn 4 = .ok (.aload_n 1, 1) := by decide +kernel
theorem dX8_wearOn_5 : decode cX8_wearOn 5 = .ok (.bipush 19, 2) := by decide +kernel
theorem dX8_wearOn_7 : decode cX8_wearOn 7 = .ok (.iload_n 2, 1) := by decide +kernel
theorem dX8_wearOn_8 : decode cX8_wearOn 8 = .ok (.iadd, 1) := by decide +kernel
theorem dX8_wearOn_9 : decode cX8_wearOn 9 = .ok (.iaload, 1) := by decide +kernel
theorem dX8_wearOn_10 : decode cX8_wearOn 10 = .ok (.iaload, 1) := by decide +kernel
theorem dX8_wearOn_11 : decode cX8_wearOn 11 = .ok (.istore_n 3, 1) := by decide +kernel
theorem dX8_wearOn_12 : decode cX8_wearOn 12 = .ok (.iconst 0, 1) := by decide +kernel
theorem dX8_wearOn_13 : decode cX8_wearOn 13 = .ok (.istore 4, 2) := by decide +kernel
theorem dX8_wearOn_15 : decode cX8_wearOn 15 = .ok (.iload 4, 2) := by decide +kernel
theorem dX8_wearOn_17 : decode cX8_wearOn 17 = .ok (.iload_n 3, 1) := by decide +kernel
theorem dX8_wearOn_18 : decode cX8_wearOn 18 = .ok (.if_icmp .ge 20, 3) := by decide +kernel
theorem dX8_wearOn_21 : decode cX8_wearOn 21 = .ok (.aload_n 1, 1) := by decide +kernel
theorem dX8_wearOn_22 : decode cX8_wearOn 22 = .ok (.bipush 19, 2) := by decide +kernel
theorem dX8_wearOn_24 : decode cX8_wearOn 24 = .ok (.iload_n 2, 1) := by decide +kernel
theorem dX8_wearOn_25 : decode cX8_wearOn 25 = .ok (.iadd, 1) := by decide +kernel
theorem dX8_wearOn_26 : decode cX8_wearOn 26 = .ok (.iload 4, 2) := by decide +kernel
theorem dX8_wearOn_28 : decode cX8_wearOn 28 = .ok (.iadd, 1) := by decide +kernel
theorem dX8_wearOn_29 : decode cX8_wearOn 29 = .ok (.bipush 7, 2) := by decide +kernel
theorem dX8_wearOn_31 : decode cX8_wearOn 31 = .ok (.iastore, 1) := by decide +kernel
theorem dX8_wearOn_32 : decode cX8_wearOn 32 = .ok (.iinc 4 1, 3) := by decide +kernel
theorem dX8_wearOn_35 : decode cX8_wearOn 35 = .ok (.goto (-20), 3) := by decide +kernel
theorem dX8_wearOn_38 : decode cX8_wearOn 38 = .ok (.return_, 1) := by decide +kernel
theorem dX8_carveOn_0 : decode cX8_carveOn 0 = .ok (.iconst 0, 1) := by decide +kernel
theorem dX8_carveOn_1 : decode cX8_carveOn 1 = .ok (.istore 4, 2) := by decide +kernel
theorem dX8_carveOn_3 : decode cX8_carveOn 3 = .ok (.iload 4, 2) := by decide +kernel
theorem dX8_carveOn_5 : decode cX8_carveOn 5 = .ok (.aload_n 0, 1) := by decide +kernel
theorem dX8_carveOn_6 : decode cX8_carveOn 6 = .ok (.getfield 13, 3) := by decide +kernel
theorem dX8_carveOn_9 : decode cX8_carveOn 9 = .ok (.iload_n 3, 1) := by decide +kernel
theorem dX8_carveOn_10 : decode cX8_carveOn 10 = .ok (.iaload, 1) := by decide +kernel
theorem dX8_carveOn_11 : decode cX8_carveOn 11 = .ok (.if_icmp .ge 29, 3) := by decide +kernel
theorem dX8_carveOn_14 : decode cX8_carveOn 14 = .ok (.aload_n 1, 1) := by decide +kernel
theorem dX8_carveOn_15 : decode cX8_carveOn 15 = .ok (.bipush 19, 2) := by decide +kernel
theorem dX8_carveOn_17 : decode cX8_carveOn 17 = .ok (.iload_n 2, 1) := by decide +kernel
theorem dX8_carveOn_18 : decode cX8_carveOn 18 = .ok (.iadd, 1) := by decide +kernel
theorem dX8_carveOn_19 : decode cX8_carveOn 19 = .ok (.iload 4, 2) := by decide +kernel
theorem dX8_carveOn_21 : decode cX8_carveOn 21 = .ok (.iadd, 1) := by decide +kernel
theorem dX8_carveOn_22 : decode cX8_carveOn 22 = .ok (.iload 4, 2) := by decide +kernel
theorem dX8_carveOn_24 : decode cX8_carveOn 24 = .ok (.ifCond .ne 7, 3) := by decide +kernel
theorem dX8_carveOn_27 : decode cX8_carveOn 27 = .ok (.iload_n 3, 1) := by decide +kernel
theorem dX8_carveOn_28 : decode cX8_carveOn 28 = .ok (.goto 5, 3) := by decide +kernel
theorem dX8_carveOn_31 : decode cX8_carveOn 31 = .ok (.bipush 8, 2) := by decide +kernel
theorem dX8_carveOn_33 : decode cX8_carveOn 33 = .ok (.iastore, 1) := by decide +kernel
theorem dX8_carveOn_34 : decode cX8_carveOn 34 = .ok (.iinc 4 1, 3) := by decide +kernel
theorem dX8_carveOn_37 : decode cX8_carveOn 37 = .ok (.goto (-34), 3) := by decide +kernel
theorem dX8_carveOn_40 : decode cX8_carveOn 40 = .ok (.return_, 1) := by decide +kernel
theorem dX8_wear_0 : decode cX8_wear 0 = .ok (.aload_n 0, 1) := by decide +kernel
theorem dX8_wear_1 : decode cX8_wear 1 = .ok (.iconst 0, 1) := by decide +kernel
theorem dX8_wear_2 : decode cX8_wear 2 = .ok (.putfield 94, 3) := by decide +kernel
theorem dX8_wear_5 : decode cX8_wear 5 = .ok (.aload_n 0, 1) := by decide +kernel
theorem dX8_wear_6 : decode cX8_wear 6 = .ok (.iload_n 1, 1) := by decide +kernel
theorem dX8_wear_7 : decode cX8_wear 7 = .ok (.invokevirtual 155, 3) := by decide +kernel
theorem dX8_wear_10 : decode cX8_wear 10 = .ok (.ifCond .eq 5, 3) := by decide +kernel
theorem dX8_wear_13 : decode cX8_wear 13 = .ok (.iconst (-1), 1) := by decide +kernel
theorem dX8_wear_14 : decode cX8_wear 14 = .ok (.ireturn, 1) := by decide +kernel
theorem dX8_wear_15 : decode cX8_wear 15 = .ok (.aload_n 0, 1) := by decide +kernel
theorem dX8_wear_16 : decode cX8_wear 16 = .ok (.getfield 50, 3) := by decide +kernel
theorem dX8_wear_19 : decode cX8_wear 19 = .ok (.bipush 19, 2) := by decide +kernel
theorem dX8_wear_21 : decode cX8_wear 21 = .ok (.iload_n 1, 1) := by decide +kernel
theorem dX8_wear_22 : decode cX8_wear 22 = .ok (.iadd, 1) := by decide +kernel
theorem dX8_wear_23 : decode cX8_wear 23 = .ok (.iaload, 1) := by decide +kernel
theorem dX8_wear_24 : decode cX8_wear 24 = .ok (.bipush 6, 2) := by decide +kernel
theorem dX8_wear_26 : decode cX8_wear 26 = .ok (.if_icmp .le 6, 3) := by decide +kernel
theorem dX8_wear_29 : decode cX8_wear 29 = .ok (.bipush (-3), 2) := by decide +kernel
theorem dX8_wear_31 : decode cX8_wear 31 = .ok (.ireturn, 1) := by decide +kernel
theorem dX8_wear_32 : decode cX8_wear 32 = .ok (.aload_n 0, 1) := by decide +kernel
theorem dX8_wear_33 : decode cX8_wear 33 = .ok (.invokevirtual 167, 3) := by decide +kernel
theorem dX8_wear_36 : decode cX8_wear 36 = .ok (.aload_n 0, 1) := by decide +kernel
theorem dX8_wear_37 : decode cX8_wear 37 = .ok (.getfield 50, 3) := by decide +kernel
theorem dX8_wear_40 : decode cX8_wear 40 = .ok (.bipush 19, 2) := by decide +kernel
theorem dX8_wear_42 : decode cX8_wear 42 = .ok (.iload_n 1, 1) := by decide +kernel
theorem dX8_wear_43 : decode cX8_wear 43 = .ok (.iadd, 1) := by decide +kernel
theorem dX8_wear_44 : decode cX8_wear 44 = .ok (.iaload, 1) := by decide +kernel
theorem dX8_wear_45 : decode cX8_wear 45 = .ok (.istore_n 2, 1) := by decide +kernel
theorem dX8_wear_46 : decode cX8_wear 46 = .ok (.aload_n 0, 1) := by decide +kernel
theorem dX8_wear_47 : decode cX8_wear 47 = .ok (.aload_n 0, 1) := by decide +kernel
theorem dX8_wear_48 : decode cX8_wear 48 = .ok (.getfield 50, 3) := by decide +kernel
theorem dX8_wear_51 : decode cX8_wear 51 = .ok (.iload_n 1, 1) := by decide +kernel
theorem dX8_wear_52 : decode cX8_wear 52 = .ok (.invokevirtual 170, 3) := by decide +kernel
theorem dX8_wear_55 : decode cX8_wear 55 = .ok (.iload_n 2, 1) := by decide +kernel
theorem dX8_wear_56 : decode cX8_wear 56 = .ok (.ireturn, 1) := by decide +kernel
theorem dX8_carve_0 : decode cX8_carve 0 = .ok (.aload_n 0, 1) := by decide +kernel
theorem dX8_carve_1 : decode cX8_carve 1 = .ok (.iconst 0, 1) := by decide +kernel
theorem dX8_carve_2 : decode cX8_carve 2 = .ok (.putfield 94, 3) := by decide +kernel
theorem dX8_carve_5 : decode cX8_carve 5 = .ok (.aload_n 0, 1) := by decide +kernel
theorem dX8_carve_6 : decode cX8_carve 6 = .ok (.iload_n 1, 1) := by decide +kernel
theorem dX8_carve_7 : decode cX8_carve 7 = .ok (.invokevirtual 155, 3) := by decide +kernel
theorem dX8_carve_10 : decode cX8_carve 10 = .ok (.ifCond .eq 5, 3) := by decide +kernel
theorem dX8_carve_13 : decode cX8_carve 13 = .ok (.iconst (-1), 1) := by decide +kernel
theorem dX8_carve_14 : decode cX8_carve 14 = .ok (.ireturn, 1) := by decide +kernel
theorem dX8_carve_15 : decode cX8_carve 15 = .ok (.iload_n 2, 1) := by decide +kernel
theorem dX8_carve_16 : decode cX8_carve 16 = .ok (.i2l, 1) := by decide +kernel
theorem dX8_carve_17 : decode cX8_carve 17 = .ok (.lconst 0, 1) := by decide +kernel
theorem dX8_carve_18 : decode cX8_carve 18 = .ok (.ldc2_w 174, 3) := by decide +kernel
theorem dX8_carve_21 : decode cX8_carve 21 = .ok (.invokestatic 101, 3) := by decide +kernel
theorem dX8_carve_24 : decode cX8_carve 24 = .ok (.ifCond .ne 6, 3) := by decide +kernel
theorem dX8_carve_27 : decode cX8_carve 27 = .ok (.bipush (-2), 2) := by decide +kernel
theorem dX8_carve_29 : decode cX8_carve 29 = .ok (.ireturn, 1) := by decide +kernel
theorem dX8_carve_30 : decode cX8_carve 30 = .ok (.aload_n 0, 1) := by decide +kernel
theorem dX8_carve_31 : decode cX8_carve 31 = .ok (.aload_n 0, 1) := by decide +kernel
theorem dX8_carve_32 : decode cX8_carve 32 = .ok (.getfield 50, 3) := by decide +kernel
theorem dX8_carve_35 : decode cX8_carve 35 = .ok (.iload_n 1, 1) := by decide +kernel
theorem dX8_carve_36 : decode cX8_carve 36 = .ok (.iload_n 2, 1) := by decide +kernel
theorem dX8_carve_37 : decode cX8_carve 37 = .ok (.invokevirtual 160, 3) := by decide +kernel
theorem dX8_carve_40 : decode cX8_carve 40 = .ok (.ifCond .ne 6, 3) := by decide +kernel
theorem dX8_carve_43 : decode cX8_carve 43 = .ok (.bipush (-3), 2) := by decide +kernel
theorem dX8_carve_45 : decode cX8_carve 45 = .ok (.ireturn, 1) := by decide +kernel
theorem dX8_carve_46 : decode cX8_carve 46 = .ok (.aload_n 0, 1) := by decide +kernel
theorem dX8_carve_47 : decode cX8_carve 47 = .ok (.invokevirtual 167, 3) := by decide +kernel
theorem dX8_carve_50 : decode cX8_carve 50 = .ok (.aload_n 0, 1) := by decide +kernel
theorem dX8_carve_51 : decode cX8_carve 51 = .ok (.aload_n 0, 1) := by decide +kernel
theorem dX8_carve_52 : decode cX8_carve 52 = .ok (.getfield 50, 3) := by decide +kernel
theorem dX8_carve_55 : decode cX8_carve 55 = .ok (.iload_n 1, 1) := by decide +kernel
theorem dX8_carve_56 : decode cX8_carve 56 = .ok (.iload_n 2, 1) := by decide +kernel
theorem dX8_carve_57 : decode cX8_carve 57 = .ok (.invokevirtual 176, 3) := by decide +kernel
theorem dX8_carve_60 : decode cX8_carve 60 = .ok (.aload_n 0, 1) := by decide +kernel
theorem dX8_carve_61 : decode cX8_carve 61 = .ok (.aload_n 0, 1) := by decide +kernel
theorem dX8_carve_62 : decode cX8_carve 62 = .ok (.getfield 50, 3) := by decide +kernel
theorem dX8_carve_65 : decode cX8_carve 65 = .ok (.invokevirtual 180, 3) := by decide +kernel
theorem dX8_carve_68 : decode cX8_carve 68 = .ok (.ireturn, 1) := by decide +kernel
theorem dX8_bar_0 : decode cX8_bar 0 = .ok (.aload_n 0, 1) := by decide +kernel
theorem dX8_bar_1 : decode cX8_bar 1 = .ok (.iconst 0, 1) := by decide +kernel
theorem dX8_bar_2 : decode cX8_bar 2 = .ok (.putfield 94, 3) := by decide +kernel
theorem dX8_bar_5 : decode cX8_bar 5 = .ok (.aload_n 0, 1) := by decide +kernel
theorem dX8_bar_6 : decode cX8_bar 6 = .ok (.iload_n 1, 1) := by decide +kernel
theorem dX8_bar_7 : decode cX8_bar 7 = .ok (.invokevirtual 148, 3) := by decide +kernel
theorem dX8_bar_10 : decode cX8_bar 10 = .ok (.ifCond .eq 5, 3) := by decide +kernel
theorem dX8_bar_13 : decode cX8_bar 13 = .ok (.iconst (-1), 1) := by decide +kernel
theorem dX8_bar_14 : decode cX8_bar 14 = .ok (.ireturn, 1) := by decide +kernel
theorem dX8_bar_15 : decode cX8_bar 15 = .ok (.aload_n 0, 1) := by decide +kernel
theorem dX8_bar_16 : decode cX8_bar 16 = .ok (.invokevirtual 167, 3) := by decide +kernel
theorem dX8_bar_19 : decode cX8_bar 19 = .ok (.aload_n 0, 1) := by decide +kernel
theorem dX8_bar_20 : decode cX8_bar 20 = .ok (.getfield 50, 3) := by decide +kernel
theorem dX8_bar_23 : decode cX8_bar 23 = .ok (.iconst 1, 1) := by decide +kernel
theorem dX8_bar_24 : decode cX8_bar 24 = .ok (.dup2, 1) := by decide +kernel
theorem dX8_bar_25 : decode cX8_bar 25 = .ok (.iaload, 1) := by decide +kernel
theorem dX8_bar_26 : decode cX8_bar 26 = .ok (.iconst 1, 1) := by decide +kernel
theorem dX8_bar_27 : decode cX8_bar 27 = .ok (.iload_n 1, 1) := by decide +kernel
theorem dX8_bar_28 : decode cX8_bar 28 = .ok (.ishl, 1) := by decide +kernel
theorem dX8_bar_29 : decode cX8_bar 29 = .ok (.ixor, 1) := by decide +kernel
theorem dX8_bar_30 : decode cX8_bar 30 = .ok (.iastore, 1) := by decide +kernel
theorem dX8_bar_31 : decode cX8_bar 31 = .ok (.aload_n 0, 1) := by decide +kernel
theorem dX8_bar_32 : decode cX8_bar 32 = .ok (.getfield 50, 3) := by decide +kernel
theorem dX8_bar_35 : decode cX8_bar 35 = .ok (.iconst 1, 1) := by decide +kernel
theorem dX8_bar_36 : decode cX8_bar 36 = .ok (.iaload, 1) := by decide +kernel
theorem dX8_bar_37 : decode cX8_bar 37 = .ok (.iload_n 1, 1) := by decide +kernel
theorem dX8_bar_38 : decode cX8_bar 38 = .ok (.ishr, 1) := by decide +kernel
theorem dX8_bar_39 : decode cX8_bar 39 = .ok (.iconst 1, 1) := by decide +kernel
theorem dX8_bar_40 : decode cX8_bar 40 = .ok (.iand, 1) := by decide +kernel
theorem dX8_bar_41 : decode cX8_bar 41 = .ok (.ireturn, 1) := by decide +kernel
theorem dX8_setRule_0 : decode cX8_setRule 0 = .ok (.aload_n 0, 1) := by decide +kernel
theorem dX8_setRule_1 : decode cX8_setRule 1 = .ok (.iconst 0, 1) := by decide +kernel
theorem dX8_setRule_2 : decode cX8_setRule 2 = .ok (.putfield 94, 3) := by decide +kernel
theorem dX8_setRule_5 : decode cX8_setRule 5 = .ok (.iload_n 1, 1) := by decide +kernel
theorem dX8_setRule_6 : decode cX8_setRule 6 = .ok (.i2l, 1) := by decide +kernel
theorem dX8_setRule_7 : decode cX8_setRule 7 = .ok (.lconst 0, 1) := by decide +kernel
theorem dX8_setRule_8 : decode cX8_setRule 8 = .ok (.ldc2_w 158, 3) := by decide +kernel
theorem dX8_setRule_11 : decode cX8_setRule 11 = .ok (.invokestatic 101, 3) := by decide +kernel
theorem dX8_setRule_14 : decode cX8_setRule 14 = .ok (.ifCond .eq 27, 3) := by decide +kernel
theorem dX8_setRule_17 : decode cX8_setRule 17 = .ok (.iload_n 2, 1) := by decide +kernel
theorem dX8_setRule_18 : decode cX8_setRule 18 = .ok (.i2l, 1) := by decide +kernel
theorem dX8_setRule_19 : decode cX8_setRule 19 = .ok (.lconst 0, 1) := by decide +kernel
theorem dX8_setRule_20 : decode cX8_setRule 20 = .ok (.ldc2_w 158, 3) := by decide +kernel
theorem dX8_setRule_23 : decode cX8_setRule 23 = .ok (.invokestatic 101, 3) := by decide +kernel
theorem dX8_setRule_26 : decode cX8_setRule 26 = .ok (.ifCond .eq 15, 3) := by decide +kernel
theorem dX8_setRule_29 : decode cX8_setRule 29 = .ok (.iload_n 3, 1) := by decide +kernel
theorem dX8_setRule_30 : decode cX8_setRule 30 = .ok (.i2l, 1) := by decide +kernel
theorem dX8_setRule_31 : decode cX8_setRule 31 = .ok (.lconst 0, 1) := by decide +kernel
theorem dX8_setRule_32 : decode cX8_setRule 32 = .ok (.ldc2_w 158, 3) := by decide +kernel
theorem dX8_setRule_35 : decode cX8_setRule 35 = .ok (.invokestatic 101, 3) := by decide +kernel
theorem dX8_setRule_38 : decode cX8_setRule 38 = .ok (.ifCond .ne 6, 3) := by decide +kernel
theorem dX8_setRule_41 : decode cX8_setRule 41 = .ok (.bipush (-2), 2) := by decide +kernel
theorem dX8_setRule_43 : decode cX8_setRule 43 = .ok (.ireturn, 1) := by decide +kernel
theorem dX8_setRule_44 : decode cX8_setRule 44 = .ok (.aload_n 0, 1) := by decide +kernel
theorem dX8_setRule_45 : decode cX8_setRule 45 = .ok (.invokevirtual 167, 3) := by decide +kernel
theorem dX8_setRule_48 : decode cX8_setRule 48 = .ok (.aload_n 0, 1) := by decide +kernel
theorem dX8_setRule_49 : decode cX8_setRule 49 = .ok (.getfield 50, 3) := by decide +kernel
theorem dX8_setRule_52 : decode cX8_setRule 52 = .ok (.iconst 2, 1) := by decide +kernel
theorem dX8_setRule_53 : decode cX8_setRule 53 = .ok (.iconst 3, 1) := by decide +kernel
theorem dX8_setRule_54 : decode cX8_setRule 54 = .ok (.iload_n 1, 1) := by decide +kernel
theorem dX8_setRule_55 : decode cX8_setRule 55 = .ok (.imul, 1) := by decide +kernel
theorem dX8_setRule_56 : decode cX8_setRule 56 = .ok (.iadd, 1) := by decide +kernel
theorem dX8_setRule_57 : decode cX8_setRule 57 = .ok (.iload_n 2, 1) := by decide +kernel
theorem dX8_setRule_58 : decode cX8_setRule 58 = .ok (.iadd, 1) := by decide +kernel
theorem dX8_setRule_59 : decode cX8_setRule 59 = .ok (.iaload, 1) := by decide +kernel
theorem dX8_setRule_60 : decode cX8_setRule 60 = .ok (.istore 4, 2) := by decide +kernel
theorem dX8_setRule_62 : decode cX8_setRule 62 = .ok (.aload_n 0, 1) := by decide +kernel
theorem dX8_setRule_63 : decode cX8_setRule 63 = .ok (.getfield 50, 3) := by decide +kernel
theorem dX8_setRule_66 : decode cX8_setRule 66 = .ok (.iconst 2, 1) := by decide +kernel
theorem dX8_setRule_67 : decode cX8_setRule 67 = .ok (.iconst 3, 1) := by decide +kernel
theorem dX8_setRule_68 : decode cX8_setRule 68 = .ok (.iload_n 1, 1) := by decide +kernel
theorem dX8_setRule_69 : decode cX8_setRule 69 = .ok (.imul, 1) := by decide +kernel
theorem dX8_setRule_70 : decode cX8_setRule 70 = .ok (.iadd, 1) := by decide +kernel
theorem dX8_setRule_71 : decode cX8_setRule 71 = .ok (.iload_n 2, 1) := by decide +kernel
theorem dX8_setRule_72 : decode cX8_setRule 72 = .ok (.iadd, 1) := by decide +kernel
theorem dX8_setRule_73 : decode cX8_setRule 73 = .ok (.iload_n 3, 1) := by decide +kernel
theorem dX8_setRule_74 : decode cX8_setRule 74 = .ok (.iastore, 1) := by decide +kernel
theorem dX8_setRule_75 : decode cX8_setRule 75 = .ok (.iload 4, 2) := by decide +kernel
theorem dX8_setRule_77 : decode cX8_setRule 77 = .ok (.ireturn, 1) := by decide +kernel
theorem dX8_weigh_0 : decode cX8_weigh 0 = .ok (.aload_n 0, 1) := by decide +kernel
theorem dX8_weigh_1 : decode cX8_weigh 1 = .ok (.iconst 0, 1) := by decide +kernel
theorem dX8_weigh_2 : decode cX8_weigh 2 = .ok (.putfield 94, 3) := by decide +kernel
theorem dX8_weigh_5 : decode cX8_weigh 5 = .ok (.aload_n 0, 1) := by decide +kernel
theorem dX8_weigh_6 : decode cX8_weigh 6 = .ok (.iload_n 1, 1) := by decide +kernel
theorem dX8_weigh_7 : decode cX8_weigh 7 = .ok (.invokevirtual 148, 3) := by decide +kernel
theorem dX8_weigh_10 : decode cX8_weigh 10 = .ok (.ifCond .eq 5, 3) := by decide +kernel
theorem dX8_weigh_13 : decode cX8_weigh 13 = .ok (.iconst (-1), 1) := by decide +kernel
theorem dX8_weigh_14 : decode cX8_weigh 14 = .ok (.ireturn, 1) := by decide +kernel
theorem dX8_weigh_15 : decode cX8_weigh 15 = .ok (.iload_n 2, 1) := by decide +kernel
theorem dX8_weigh_16 : decode cX8_weigh 16 = .ok (.i2l, 1) := by decide +kernel
theorem dX8_weigh_17 : decode cX8_weigh 17 = .ok (.lconst 1, 1) := by decide +kernel
theorem dX8_weigh_18 : decode cX8_weigh 18 = .ok (.ldc2_w 184, 3) := by decide +kernel
theorem dX8_weigh_21 : decode cX8_weigh 21 = .ok (.invokestatic 101, 3) := by decide +kernel
theorem dX8_weigh_24 : decode cX8_weigh 24 = .ok (.ifCond .ne 6, 3) := by decide +kernel
theorem dX8_weigh_27 : decode cX8_weigh 27 = .ok (.bipush (-2), 2) := by decide +kernel
theorem dX8_weigh_29 : decode cX8_weigh 29 = .ok (.ireturn, 1) := by decide +kernel
theorem dX8_weigh_30 : decode cX8_weigh 30 = .ok (.aload_n 0, 1) := by decide +kernel
theorem dX8_weigh_31 : decode cX8_weigh 31 = .ok (.invokevirtual 167, 3) := by decide +kernel
theorem dX8_weigh_34 : decode cX8_weigh 34 = .ok (.aload_n 0, 1) := by decide +kernel
theorem dX8_weigh_35 : decode cX8_weigh 35 = .ok (.getfield 50, 3) := by decide +kernel
theorem dX8_weigh_38 : decode cX8_weigh 38 = .ok (.bipush 11, 2) := by decide +kernel
theorem dX8_weigh_40 : decode cX8_weigh 40 = .ok (.iload_n 1, 1) := by decide +kernel
theorem dX8_weigh_41 : decode cX8_weigh 41 = .ok (.iadd, 1) := by decide +kernel
theorem dX8_weigh_42 : decode cX8_weigh 42 = .ok (.iaload, 1) := by decide +kernel
theorem dX8_weigh_43 : decode cX8_weigh 43 = .ok (.istore_n 3, 1) := by decide +kernel
theorem dX8_weigh_44 : decode cX8_weigh 44 = .ok (.aload_n 0, 1) := by decide +kernel
theorem dX8_weigh_45 : decode cX8_weigh 45 = .ok (.getfield 50, 3) := by decide +kernel
theorem dX8_weigh_48 : decode cX8_weigh 48 = .ok (.bipush 11, 2) := by decide +kernel
theorem dX8_weigh_50 : decode cX8_weigh 50 = .ok (.iload_n 1, 1) := by decide +kernel
theorem dX8_weigh_51 : decode cX8_weigh 51 = .ok (.iadd, 1) := by decide +kernel
theorem dX8_weigh_52 : decode cX8_weigh 52 = .ok (.iload_n 2, 1) := by decide +kernel
theorem dX8_weigh_53 : decode cX8_weigh 53 = .ok (.iastore, 1) := by decide +kernel
theorem dX8_weigh_54 : decode cX8_weigh 54 = .ok (.iload_n 3, 1) := by decide +kernel
theorem dX8_weigh_55 : decode cX8_weigh 55 = .ok (.ireturn, 1) := by decide +kernel
theorem dX8_undo_0 : decode cX8_undo 0 = .ok (.aload_n 0, 1) := by decide +kernel
theorem dX8_undo_1 : decode cX8_undo 1 = .ok (.iconst 0, 1) := by decide +kernel
theorem dX8_undo_2 : decode cX8_undo 2 = .ok (.putfield 94, 3) := by decide +kernel
theorem dX8_undo_5 : decode cX8_undo 5 = .ok (.aload_n 0, 1) := by decide +kernel
theorem dX8_undo_6 : decode cX8_undo 6 = .ok (.getfield 145, 3) := by decide +kernel
theorem dX8_undo_9 : decode cX8_undo 9 = .ok (.ifCond .ne 6, 3) := by decide +kernel
theorem dX8_undo_12 : decode cX8_undo 12 = .ok (.bipush (-3), 2) := by decide +kernel
theorem dX8_undo_14 : decode cX8_undo 14 = .ok (.ireturn, 1) := by decide +kernel
theorem dX8_undo_15 : decode cX8_undo 15 = .ok (.aload_n 0, 1) := by decide +kernel
theorem dX8_undo_16 : decode cX8_undo 16 = .ok (.dup, 1) := by decide +kernel
theorem dX8_undo_17 : decode cX8_undo 17 = .ok (.getfield 145, 3) := by decide +kernel
theorem dX8_undo_20 : decode cX8_undo 20 = .ok (.iconst 1, 1) := by decide +kernel
theorem dX8_undo_21 : decode cX8_undo 21 = .ok (.isub, 1) := by decide +kernel
theorem dX8_undo_22 : decode cX8_undo 22 = .ok (.putfield 145, 3) := by decide +kernel
theorem dX8_undo_25 : decode cX8_undo 25 = .ok (.iconst 0, 1) := by decide +kernel
theorem dX8_undo_26 : decode cX8_undo 26 = .ok (.istore_n 1, 1) := by decide +kernel
theorem dX8_undo_27 : decode cX8_undo 27 = .ok (.iload_n 1, 1) := by decide +kernel
theorem dX8_undo_28 : decode cX8_undo 28 = .ok (.bipush 43, 2) := by decide +kernel
theorem dX8_undo_30 : decode cX8_undo 30 = .ok (.if_icmp .ge 29, 3) := by decide +kernel
theorem dX8_undo_33 : decode cX8_undo 33 = .ok (.aload_n 0, 1) := by decide +kernel
theorem dX8_undo_34 : decode cX8_undo 34 = .ok (.getfield 50, 3) := by decide +kernel
theorem dX8_undo_37 : decode cX8_undo 37 = .ok (.iload_n 1, 1) := by decide +kernel
theorem dX8_undo_38 : decode cX8_undo 38 = .ok (.aload_n 0, 1) := by decide +kernel
theorem dX8_undo_39 : decode cX8_undo 39 = .ok (.getfield 56, 3) := by decide +kernel
theorem dX8_undo_42 : decode cX8_undo 42 = .ok (.bipush 43, 2) := by decide +kernel
theorem dX8_undo_44 : decode cX8_undo 44 = .ok (.aload_n 0, 1) := by decide +kernel
theorem dX8_undo_45 : decode cX8_undo 45 = .ok (.getfield 145, 3) := by decide +kernel
theorem dX8_undo_48 : decode cX8_undo 48 = .ok (.imul, 1) := by decide +kernel
theorem dX8_undo_49 : decode cX8_undo 49 = .ok (.iload_n 1, 1) := by decide +kernel
theorem dX8_undo_50 : decode cX8_undo 50 = .ok (.iadd, 1) := by decide +kernel
theorem dX8_undo_51 : decode cX8_undo 51 = .ok (.iaload, 1) := by decide +kernel
theorem dX8_undo_52 : decode cX8_undo 52 = .ok (.iastore, 1) := by decide +kernel
theorem dX8_undo_53 : decode cX8_undo 53 = .ok (.iinc 1 1, 3) := by decide +kernel
theorem dX8_undo_56 : decode cX8_undo 56 = .ok (.goto (-29), 3) := by decide +kernel
theorem dX8_undo_59 : decode cX8_undo 59 = .ok (.aload_n 0, 1) := by decide +kernel
theorem dX8_undo_60 : decode cX8_undo 60 = .ok (.getfield 145, 3) := by decide +kernel
theorem dX8_undo_63 : decode cX8_undo 63 = .ok (.ireturn, 1) := by decide +kernel
theorem dX8_fits_0 : decode cX8_fits 0 = .ok (.aload_n 1, 1) := by decide +kernel
theorem dX8_fits_1 : decode cX8_fits 1 = .ok (.iconst 1, 1) := by decide +kernel
theorem dX8_fits_2 : decode cX8_fits 2 = .ok (.iaload, 1) := by decide +kernel
theorem dX8_fits_3 : decode cX8_fits 3 = .ok (.iload_n 2, 1) := by decide +kernel
theorem dX8_fits_4 : decode cX8_fits 4 = .ok (.invokestatic 186, 3) := by decide +kernel
theorem dX8_fits_7 : decode cX8_fits 7 = .ok (.ifCond .ne 24, 3) := by decide +kernel
theorem dX8_fits_10 : decode cX8_fits 10 = .ok (.aload_n 0, 1) := by decide +kernel
theorem dX8_fits_11 : decode cX8_fits 11 = .ok (.aload_n 1, 1) := by decide +kernel
theorem dX8_fits_12 : decode cX8_fits 12 = .ok (.iload_n 2, 1) := by decide +kernel
theorem dX8_fits_13 : decode cX8_fits 13 = .ok (.iload 4, 2) := by decide +kernel
theorem dX8_fits_15 : decode cX8_fits 15 = .ok (.invokevirtual 190, 3) := by decide +kernel
theorem dX8_fits_18 : decode cX8_fits 18 = .ok (.ifCond .eq 13, 3) := by decide +kernel
theorem dX8_fits_21 : decode cX8_fits 21 = .ok (.aload_n 0, 1) := by decide +kernel
theorem dX8_fits_22 : decode cX8_fits 22 = .ok (.aload_n 1, 1) := by decide +kernel
theorem dX8_fits_23 : decode cX8_fits 23 = .ok (.iload_n 2, 1) := by decide +kernel
theorem dX8_fits_24 : decode cX8_fits 24 = .ok (.iload_n 3, 1) := by decide +kernel
theorem dX8_fits_25 : decode cX8_fits 25 = .ok (.invokevirtual 193, 3) := by decide +kernel
theorem dX8_fits_28 : decode cX8_fits 28 = .ok (.ifCond .ne 5, 3) := by decide +kernel
theorem dX8_fits_31 : decode cX8_fits 31 = .ok (.iconst 0, 1) := by decide +kernel
theorem dX8_fits_32 : decode cX8_fits 32 = .ok (.ireturn, 1) := by decide +kernel
theorem dX8_fits_33 : decode cX8_fits 33 = .ok (.iload_n 3, 1) := by decide +kernel
theorem dX8_fits_34 : decode cX8_fits 34 = .ok (.aload_n 0, 1) := by decide +kernel
theorem dX8_fits_35 : decode cX8_fits 35 = .ok (.iload_n 2, 1) := by decide +kernel
theorem dX8_fits_36 : decode cX8_fits 36 = .ok (.invokevirtual 152, 3) := by decide +kernel
theorem dX8_fits_39 : decode cX8_fits 39 = .ok (.iadd, 1) := by decide +kernel
theorem dX8_fits_40 : decode cX8_fits 40 = .ok (.istore 5, 2) := by decide +kernel
theorem dX8_fits_42 : decode cX8_fits 42 = .ok (.iload 5, 2) := by decide +kernel
theorem dX8_fits_44 : decode cX8_fits 44 = .ok (.aload_n 1, 1) := by decide +kernel
theorem dX8_fits_45 : decode cX8_fits 45 = .ok (.iconst 0, 1) := by decide +kernel
theorem dX8_fits_46 : decode cX8_fits 46 = .ok (.iaload, 1) := by decide +kernel
theorem dX8_fits_47 : decode cX8_fits 47 = .ok (.if_icmp .eq 15, 3) := by decide +kernel
theorem dX8_fits_50 : decode cX8_fits 50 = .ok (.aload_n 0, 1) := by decide +kernel
theorem dX8_fits_51 : decode cX8_fits 51 = .ok (.aload_n 1, 1) := by decide +kernel
theorem dX8_fits_52 : decode cX8_fits 52 = .ok (.iload 5, 2) := by decide +kernel
theorem dX8_fits_54 : decode cX8_fits 54 = .ok (.bipush 6, 2) := by decide +kernel
theorem dX8_fits_56 : decode cX8_fits 56 = .ok (.invokevirtual 164, 3) := by decide +kernel
theorem dX8_fits_59 : decode cX8_fits 59 = .ok (.ifCond .eq 7, 3) := by decide +kernel
theorem dX8_fits_62 : decode cX8_fits 62 = .ok (.iconst 1, 1) := by decide +kernel
theorem dX8_fits_63 : decode cX8_fits 63 = .ok (.goto 4, 3) := by decide +kernel
theorem dX8_fits_66 : decode cX8_fits 66 = .ok (.iconst 0, 1) := by decide +kernel
theorem dX8_fits_67 : decode cX8_fits 67 = .ok (.ireturn, 1) := by decide +kernel
theorem dX8_agrees_0 : decode cX8_agrees 0 = .ok (.iload_n 3, 1) := by decide +kernel
theorem dX8_agrees_1 : decode cX8_agrees 1 = .ok (.aload_n 0, 1) := by decide +kernel
theorem dX8_agrees_2 : decode cX8_agrees 2 = .ok (.iload_n 2, 1) := by decide +kernel
theorem dX8_agrees_3 : decode cX8_agrees 3 = .ok (.invokevirtual 152, 3) := by decide +kernel
theorem dX8_agrees_6 : decode cX8_agrees 6 = .ok (.iadd, 1) := by decide +kernel
theorem dX8_agrees_7 : decode cX8_agrees 7 = .ok (.istore 4, 2) := by decide +kernel
theorem dX8_agrees_9 : decode cX8_agrees 9 = .ok (.iconst 1, 1) := by decide +kernel
theorem dX8_agrees_10 : decode cX8_agrees 10 = .ok (.istore 5, 2) := by decide +kernel
theorem dX8_agrees_12 : decode cX8_agrees 12 = .ok (.iconst 0, 1) := by decide +kernel
theorem dX8_agrees_13 : decode cX8_agrees 13 = .ok (.istore 6, 2) := by decide +kernel
theorem dX8_agrees_15 : decode cX8_agrees 15 = .ok (.iload 6, 2) := by decide +kernel
theorem dX8_agrees_17 : decode cX8_agrees 17 = .ok (.aload_n 0, 1) := by decide +kernel
theorem dX8_agrees_18 : decode cX8_agrees 18 = .ok (.getfield 196, 3) := by decide +kernel
theorem dX8_agrees_21 : decode cX8_agrees 21 = .ok (.if_icmp .ge 117, 3) := by decide +kernel
theorem dX8_agrees_24 : decode cX8_agrees 24 = .ok (.aload_n 0, 1) := by decide +kernel
theorem dX8_agrees_25 : decode cX8_agrees 25 = .ok (.getfield 65, 3) := by decide +kernel
theorem dX8_agrees_28 : decode cX8_agrees 28 = .ok (.iload 6, 2) := by decide +kernel
theorem dX8_agrees_30 : decode cX8_agrees 30 = .ok (.iaload, 1) := by decide +kernel
theorem dX8_agrees_31 : decode cX8_agrees 31 = .ok (.iload_n 2, 1) := by decide +kernel
theorem dX8_agrees_32 : decode cX8_agrees 32 = .ok (.if_icmp .ne 18, 3) := by decide +kernel
theorem dX8_agrees_35 : decode cX8_agrees 35 = .ok (.aload_n 0, 1) := by decide +kernel
theorem dX8_agrees_36 : decode cX8_agrees 36 = .ok (.getfield 68, 3) := by decide +kernel
theorem dX8_agrees_39 : decode cX8_agrees 39 = .ok (.iload 6, 2) := by decide +kernel
theorem dX8_agrees_41 : decode cX8_agrees 41 = .ok (.iaload, 1) := by decide +kernel
theorem dX8_agrees_42 : decode cX8_agrees 42 = .ok (.iload_n 3, 1) := by decide +kernel
theorem dX8_agrees_43 : decode cX8_agrees 43 = .ok (.if_icmp .ne 7, 3) := by decide +kernel
theorem dX8_agrees_46 : decode cX8_agrees 46 = .ok (.iconst 1, 1) := by decide +kernel
theorem dX8_agrees_47 : decode cX8_agrees 47 = .ok (.goto 4, 3) := by decide +kernel
theorem dX8_agrees_50 : decode cX8_agrees 50 = .ok (.iconst 0, 1) := by decide +kernel
theorem dX8_agrees_51 : decode cX8_agrees 51 = .ok (.istore 7, 2) := by decide +kernel
theorem dX8_agrees_53 : decode cX8_agrees 53 = .ok (.aload_n 0, 1) := by decide +kernel
theorem dX8_agrees_54 : decode cX8_agrees 54 = .ok (.getfield 68, 3) := by decide +kernel
theorem dX8_agrees_57 : decode cX8_agrees 57 = .ok (.iload 6, 2) := by decide +kernel
theorem dX8_agrees_59 : decode cX8_agrees 59 = .ok (.iaload, 1) := by decide +kernel
theorem dX8_agrees_60 : decode cX8_agrees 60 = .ok (.iload_n 3, 1) := by decide +kernel
theorem dX8_agrees_61 : decode cX8_agrees 61 = .ok (.if_icmp .lt 32, 3) := by decide +kernel
theorem dX8_agrees_64 : decode cX8_agrees 64 = .ok (.aload_n 0, 1) := by decide +kernel
theorem dX8_agrees_65 : decode cX8_agrees 65 = .ok (.getfield 68, 3) := by decide +kernel
theorem dX8_agrees_68 : decode cX8_agrees 68 = .ok (.iload 6, 2) := by decide +kernel
theorem dX8_agrees_70 : decode cX8_agrees 70 = .ok (.iaload, 1) := by decide +kernel
theorem dX8_agrees_71 : decode cX8_agrees 71 = .ok (.iload 4, 2) := by decide +kernel
theorem dX8_agrees_73 : decode cX8_agrees 73 = .ok (.if_icmp .le 11, 3) := by decide +kernel
theorem dX8_agrees_76 : decode cX8_agrees 76 = .ok (.iload 4, 2) := by decide +kernel
theorem dX8_agrees_78 : decode cX8_agrees 78 = .ok (.aload_n 1, 1) := by decide +kernel
theorem dX8_agrees_79 : decode cX8_agrees 79 = .ok (.iconst 0, 1) := by decide +kernel
theorem dX8_agrees_80 : decode cX8_agrees 80 = .ok (.iaload, 1) := by decide +kernel
theorem dX8_agrees_81 : decode cX8_agrees 81 = .ok (.if_icmp .ne 12, 3) := by decide +kernel
theorem dX8_agrees_84 : decode cX8_agrees 84 = .ok (.iload 7, 2) := by decide +kernel
theorem dX8_agrees_86 : decode cX8_agrees 86 = .ok (.ifCond .ne 7, 3) := by decide +kernel
theorem dX8_agrees_89 : decode cX8_agrees 89 = .ok (.iconst 1, 1) := by decide +kernel
theorem dX8_agrees_90 : decode cX8_agrees 90 = .ok (.goto 4, 3) := by decide +kernel
theorem dX8_agrees_93 : decode cX8_agrees 93 = .ok (.iconst 0, 1) := by decide +kernel
theorem dX8_agrees_94 : decode cX8_agrees 94 = .ok (.istore 8, 2) := by decide +kernel
theorem dX8_agrees_96 : decode cX8_agrees 96 = .ok (.iload 5, 2) := by decide +kernel
theorem dX8_agrees_98 : decode cX8_agrees 98 = .ok (.ifCond .eq 31, 3) := by decide +kernel
theorem dX8_agrees_101 : decode cX8_agrees 101 = .ok (.aload_n 0, 1) := by decide +kernel
theorem dX8_agrees_102 : decode cX8_agrees 102 = .ok (.getfield 71, 3) := by decide +kernel
theorem dX8_agrees_105 : decode cX8_agrees 105 = .ok (.iload 6, 2) := by decide +kernel
theorem dX8_agrees_107 : decode cX8_agrees 107 = .ok (.iaload, 1) := by decide +kernel
theorem dX8_agrees_108 : decode cX8_agrees 108 = .ok (.iconst 1, 1) := by decide +kernel
theorem dX8_agrees_109 : decode cX8_agrees 109 = .ok (.if_icmp .ne 11, 3) := by decide +kernel
theorem dX8_agrees_112 : decode cX8_agrees 112 = .ok (.iload 8, 2) := by decide +kernel
theorem dX8_agrees_114 : decode cX8_agrees 114 = .ok (.ifCond .ne 15, 3) := by decide +kernel
theorem dX8_agrees_117 : decode cX8_agrees 117 = .ok (.goto 8, 3) := by decide +kernel
theorem dX8_agrees_120 : decode cX8_agrees 120 = .ok (.iload 7, 2) := by decide +kernel
theorem dX8_agrees_122 : decode cX8_agrees 122 = .ok (.ifCond .ne 7, 3) := by decide +kernel
theorem dX8_agrees_125 : decode cX8_agrees 125 = .ok (.iconst 1, 1) := by decide +kernel
theorem dX8_agrees_126 : decode cX8_agrees 126 = .ok (.goto 4, 3) := by decide +kernel
theorem dX8_agrees_129 : decode cX8_agrees 129 = .ok (.iconst 0, 1) := by decide +kernel
theorem dX8_agrees_130 : decode cX8_agrees 130 = .ok (.istore 5, 2) := by decide +kernel
theorem dX8_agrees_132 : decode cX8_agrees 132 = .ok (.iinc 6 1, 3) := by decide +kernel
theorem dX8_agrees_135 : decode cX8_agrees 135 = .ok (.goto (-120), 3) := by decide +kernel
theorem dX8_agrees_138 : decode cX8_agrees 138 = .ok (.iload 5, 2) := by decide +kernel
theorem dX8_agrees_140 : decode cX8_agrees 140 = .ok (.ireturn, 1) := by decide +kernel
theorem dX8_layFrom_0 : decode cX8_layFrom 0 = .ok (.aload_n 1, 1) := by decide +kernel
theorem dX8_layFrom_1 : decode cX8_layFrom 1 = .ok (.iconst 0, 1) := by decide +kernel
theorem dX8_layFrom_2 : decode cX8_layFrom 2 = .ok (.iaload, 1) := by decide +kernel
theorem dX8_layFrom_3 : decode cX8_layFrom 3 = .ok (.istore_n 2, 1) := by decide +kernel
theorem dX8_layFrom_4 : decode cX8_layFrom 4 = .ok (.iload_n 2, 1) := by decide +kernel
theorem dX8_layFrom_5 : decode cX8_layFrom 5 = .ok (.ifCond .lt 118, 3) := by decide +kernel
theorem dX8_layFrom_8 : decode cX8_layFrom 8 = .ok (.iconst 0, 1) := by decide +kernel
theorem dX8_layFrom_9 : decode cX8_layFrom 9 = .ok (.istore_n 3, 1) := by decide +kernel
theorem dX8_layFrom_10 : decode cX8_layFrom 10 = .ok (.iload_n 3, 1) := by decide +kernel
theorem dX8_layFrom_11 : decode cX8_layFrom 11 = .ok (.bipush 8, 2) := by decide +kernel
theorem dX8_layFrom_13 : decode cX8_layFrom 13 = .ok (.if_icmp .gt 104, 3) := by decide +kernel
theorem dX8_layFrom_16 : decode cX8_layFrom 16 = .ok (.lconst 0, 1) := by decide +kernel
theorem dX8_layFrom_17 : decode cX8_layFrom 17 = .ok (.lstore 4, 2) := by decide +kernel
theorem dX8_layFrom_19 : decode cX8_layFrom 19 = .ok (.iconst 0, 1) := by decide +kernel
theorem dX8_layFrom_20 : decode cX8_layFrom 20 = .ok (.istore 6, 2) := by decide +kernel
theorem dX8_layFrom_22 : decode cX8_layFrom 22 = .ok (.iload 6, 2) := by decide +kernel
theorem dX8_layFrom_24 : decode cX8_layFrom 24 = .ok (.aload_n 0, 1) := by decide +kernel
theorem dX8_layFrom_25 : decode cX8_layFrom 25 = .ok (.getfield 98, 3) := by decide +kernel
theorem dX8_layFrom_28 : decode cX8_layFrom 28 = .ok (.if_icmp .ge 70, 3) := by decide +kernel
theorem dX8_layFrom_31 : decode cX8_layFrom 31 = .ok (.iload_n 2, 1) := by decide +kernel
theorem dX8_layFrom_32 : decode cX8_layFrom 32 = .ok (.aload_n 1, 1) := by decide +kernel
theorem dX8_layFrom_33 : decode cX8_layFrom 33 = .ok (.iconst 0, 1) := by decide +kernel
theorem dX8_layFrom_34 : decode cX8_layFrom 34 = .ok (.iaload, 1) := by decide +kernel
theorem dX8_layFrom_35 : decode cX8_layFrom 35 = .ok (.if_icmp .ge 63, 3) := by decide +kernel
theorem dX8_layFrom_38 : decode cX8_layFrom 38 = .ok (.aload_n 0, 1) := by decide +kernel
theorem dX8_layFrom_39 : decode cX8_layFrom 39 = .ok (.aload_n 1, 1) := by decide +kernel
theorem dX8_layFrom_40 : decode cX8_layFrom 40 = .ok (.iload 6, 2) := by decide +kernel
theorem dX8_layFrom_42 : decode cX8_layFrom 42 = .ok (.iload_n 2, 1) := by decide +kernel
theorem dX8_layFrom_43 : decode cX8_layFrom 43 = .ok (.iload_n 3, 1) := by decide +kernel
theorem dX8_layFrom_44 : decode cX8_layFrom 44 = .ok (.invokevirtual 199, 3) := by decide +kernel
theorem dX8_layFrom_47 : decode cX8_layFrom 47 = .ok (.ifCond .eq 45, 3) := by decide +kernel
theorem dX8_layFrom_50 : decode cX8_layFrom 50 = .ok (.iload_n 2, 1) := by decide +kernel
theorem dX8_layFrom_51 : decode cX8_layFrom 51 = .ok (.aload_n 0, 1) := by decide +kernel
theorem dX8_layFrom_52 : decode cX8_layFrom 52 = .ok (.iload 6, 2) := by decide +kernel
theorem dX8_layFrom_54 : decode cX8_layFrom 54 = .ok (.invokevirtual 152, 3) := by decide +kernel
theorem dX8_layFrom_57 : decode cX8_layFrom 57 = .ok (.iadd, 1) := by decide +kernel
theorem dX8_layFrom_58 : decode cX8_layFrom 58 = .ok (.istore 7, 2) := by decide +kernel
theorem dX8_layFrom_60 : decode cX8_layFrom 60 = .ok (.lload 4, 2) := by decide +kernel
theorem dX8_layFrom_62 : decode cX8_layFrom 62 = .ok (.iload 7, 2) := by decide +kernel
theorem dX8_layFrom_64 : decode cX8_layFrom 64 = .ok (.aload_n 1, 1) := by decide +kernel
theorem dX8_layFrom_65 : decode cX8_layFrom 65 = .ok (.iconst 0, 1) := by decide +kernel
theorem dX8_layFrom_66 : decode cX8_layFrom 66 = .ok (.iaload, 1) := by decide +kernel
theorem dX8_layFrom_67 : decode cX8_layFrom 67 = .ok (.if_icmp .ne 7, 3) := by decide +kernel
theorem dX8_layFrom_70 : decode cX8_layFrom 70 = .ok (.lconst 1, 1) := by decide +kernel
theorem dX8_layFrom_71 : decode cX8_layFrom 71 = .ok (.goto 18, 3) := by decide +kernel
theorem dX8_layFrom_74 : decode cX8_layFrom 74 = .ok (.aload_n 0, 1) := by decide +kernel
theorem dX8_layFrom_75 : decode cX8_layFrom 75 = .ok (.getfield 78, 3) := by decide +kernel
theorem dX8_layFrom_78 : decode cX8_layFrom 78 = .ok (.bipush 9, 2) := by decide +kernel
theorem dX8_layFrom_80 : decode cX8_layFrom 80 = .ok (.iload 7, 2) := by decide +kernel
theorem dX8_layFrom_82 : decode cX8_layFrom 82 = .ok (.iconst 1, 1) := by decide +kernel
theorem dX8_layFrom_83 : decode cX8_layFrom 83 = .ok (.iadd, 1) := by decide +kernel
theorem dX8_layFrom_84 : decode cX8_layFrom 84 = .ok (.imul, 1) := by decide +kernel
theorem dX8_layFrom_85 : decode cX8_layFrom 85 = .ok (.iload 6, 2) := by decide +kernel
theorem dX8_layFrom_87 : decode cX8_layFrom 87 = .ok (.iadd, 1) := by decide +kernel
theorem dX8_layFrom_88 : decode cX8_layFrom 88 = .ok (.laload, 1) := by decide +kernel
theorem dX8_layFrom_89 : decode cX8_layFrom 89 = .ok (.ladd, 1) := by decide +kernel
theorem dX8_layFrom_90 : decode cX8_layFrom 90 = .ok (.lstore 4, 2) := by decide +kernel
theorem dX8_layFrom_92 : decode cX8_layFrom 92 = .ok (.iinc 6 1, 3) := by decide +kernel
theorem dX8_layFrom_95 : decode cX8_layFrom 95 = .ok (.goto (-73), 3) := by decide +kernel
theorem dX8_layFrom_98 : decode cX8_layFrom 98 = .ok (.aload_n 0, 1) := by decide +kernel
theorem dX8_layFrom_99 : decode cX8_layFrom 99 = .ok (.getfield 78, 3) := by decide +kernel
theorem dX8_layFrom_102 : decode cX8_layFrom 102 = .ok (.bipush 9, 2) := by decide +kernel
theorem dX8_layFrom_104 : decode cX8_layFrom 104 = .ok (.iload_n 2, 1) := by decide +kernel
theorem dX8_layFrom_105 : decode cX8_layFrom 105 = .ok (.imul, 1) := by decide +kernel
theorem dX8_layFrom_106 : decode cX8_layFrom 106 = .ok (.iload_n 3, 1) := by decide +kernel
theorem dX8_layFrom_107 : decode cX8_layFrom 107 = .ok (.iadd, 1) := by decide +kernel
theorem dX8_layFrom_108 : decode cX8_layFrom 108 = .ok (.lload 4, 2) := by decide +kernel
theorem dX8_layFrom_110 : decode cX8_layFrom 110 = .ok (.lastore, 1) := by decide +kernel
theorem dX8_layFrom_111 : decode cX8_layFrom 111 = .ok (.iinc 3 1, 3) := by decide +kernel
theorem dX8_layFrom_114 : decode cX8_layFrom 114 = .ok (.goto (-104), 3) := by decide +kernel
theorem dX8_layFrom_117 : decode cX8_layFrom 117 = .ok (.iinc 2 (-1), 3) := by decide +kernel
theorem dX8_layFrom_120 : decode cX8_layFrom 120 = .ok (.goto (-116), 3) := by decide +kernel
theorem dX8_layFrom_123 : decode cX8_layFrom 123 = .ok (.return_, 1) := by decide +kernel
theorem dX8_behind_0 : decode cX8_behind 0 = .ok (.iload_n 3, 1) := by decide +kernel
theorem dX8_behind_1 : decode cX8_behind 1 = .ok (.aload_n 0, 1) := by decide +kernel
theorem dX8_behind_2 : decode cX8_behind 2 = .ok (.iload_n 2, 1) := by decide +kernel
theorem dX8_behind_3 : decode cX8_behind 3 = .ok (.invokevirtual 152, 3) := by decide +kernel
theorem dX8_behind_6 : decode cX8_behind 6 = .ok (.iadd, 1) := by decide +kernel
theorem dX8_behind_7 : decode cX8_behind 7 = .ok (.istore 4, 2) := by decide +kernel
theorem dX8_behind_9 : decode cX8_behind 9 = .ok (.iload 4, 2) := by decide +kernel
theorem dX8_behind_11 : decode cX8_behind 11 = .ok (.aload_n 1, 1) := by decide +kernel
theorem dX8_behind_12 : decode cX8_behind 12 = .ok (.iconst 0, 1) := by decide +kernel
theorem dX8_behind_13 : decode cX8_behind 13 = .ok (.iaload, 1) := by decide +kernel
theorem dX8_behind_14 : decode cX8_behind 14 = .ok (.if_icmp .ne 7, 3) := by decide +kernel
theorem dX8_behind_17 : decode cX8_behind 17 = .ok (.lconst 1, 1) := by decide +kernel
theorem dX8_behind_18 : decode cX8_behind 18 = .ok (.goto 17, 3) := by decide +kernel
theorem dX8_behind_21 : decode cX8_behind 21 = .ok (.aload_n 0, 1) := by decide +kernel
theorem dX8_behind_22 : decode cX8_behind 22 = .ok (.getfield 78, 3) := by decide +kernel
theorem dX8_behind_25 : decode cX8_behind 25 = .ok (.bipush 9, 2) := by decide +kernel
theorem dX8_behind_27 : decode cX8_behind 27 = .ok (.iload 4, 2) := by decide +kernel
theorem dX8_behind_29 : decode cX8_behind 29 = .ok (.iconst 1, 1) := by decide +kernel
theorem dX8_behind_30 : decode cX8_behind 30 = .ok (.iadd, 1) := by decide +kernel
theorem dX8_behind_31 : decode cX8_behind 31 = .ok (.imul, 1) := by decide +kernel
theorem dX8_behind_32 : decode cX8_behind 32 = .ok (.iload_n 2, 1) := by decide +kernel
theorem dX8_behind_33 : decode cX8_behind 33 = .ok (.iadd, 1) := by decide +kernel
theorem dX8_behind_34 : decode cX8_behind 34 = .ok (.laload, 1) := by decide +kernel
theorem dX8_behind_35 : decode cX8_behind 35 = .ok (.lreturn, 1) := by decide +kernel
theorem dX8_layTo_0 : decode cX8_layTo 0 = .ok (.iconst 0, 1) := by decide +kernel
theorem dX8_layTo_1 : decode cX8_layTo 1 = .ok (.istore_n 2, 1) := by decide +kernel
theorem dX8_layTo_2 : decode cX8_layTo 2 = .ok (.iload_n 2, 1) := by decide +kernel
theorem dX8_layTo_3 : decode cX8_layTo 3 = .ok (.sipush 225, 3) := by decide +kernel
theorem dX8_layTo_6 : decode cX8_layTo 6 = .ok (.if_icmp .ge 16, 3) := by decide +kernel
theorem dX8_layTo_9 : decode cX8_layTo 9 = .ok (.aload_n 0, 1) := by decide +kernel
theorem dX8_layTo_10 : decode cX8_layTo 10 = .ok (.getfield 81, 3) := by decide +kernel
theorem dX8_layTo_13 : decode cX8_layTo 13 = .ok (.iload_n 2, 1) := by decide +kernel
theorem dX8_layTo_14 : decode cX8_layTo 14 = .ok (.lconst 0, 1) := by decide +kernel
theorem dX8_layTo_15 : decode cX8_layTo 15 = .ok (.lastore, 1) := by decide +kernel
theorem dX8_layTo_16 : decode cX8_layTo 16 = .ok (.iinc 2 1, 3) := by decide +kernel
theorem dX8_layTo_19 : decode cX8_layTo 19 = .ok (.goto (-17), 3) := by decide +kernel
theorem dX8_layTo_22 : decode cX8_layTo 22 = .ok (.aload_n 0, 1) := by decide +kernel
theorem dX8_layTo_23 : decode cX8_layTo 23 = .ok (.getfield 81, 3) := by decide +kernel
theorem dX8_layTo_26 : decode cX8_layTo 26 = .ok (.bipush 8, 2) := by decide +kernel
theorem dX8_layTo_28 : decode cX8_layTo 28 = .ok (.lconst 1, 1) := by decide +kernel
theorem dX8_layTo_29 : decode cX8_layTo 29 = .ok (.lastore, 1) := by decide +kernel
theorem dX8_layTo_30 : decode cX8_layTo 30 = .ok (.iconst 0, 1) := by decide +kernel
theorem dX8_layTo_31 : decode cX8_layTo 31 = .ok (.istore_n 2, 1) := by decide +kernel
theorem dX8_layTo_32 : decode cX8_layTo 32 = .ok (.iload_n 2, 1) := by decide +kernel
theorem dX8_layTo_33 : decode cX8_layTo 33 = .ok (.aload_n 1, 1) := by decide +kernel
theorem dX8_layTo_34 : decode cX8_layTo 34 = .ok (.iconst 0, 1) := by decide +kernel
theorem dX8_layTo_35 : decode cX8_layTo 35 = .ok (.iaload, 1) := by decide +kernel
theorem dX8_layTo_36 : decode cX8_layTo 36 = .ok (.if_icmp .ge 122, 3) := by decide +kernel
theorem dX8_layTo_39 : decode cX8_layTo 39 = .ok (.iconst 0, 1) := by decide +kernel
theorem dX8_layTo_40 : decode cX8_layTo 40 = .ok (.istore_n 3, 1) := by decide +kernel
theorem dX8_layTo_41 : decode cX8_layTo 41 = .ok (.iload_n 3, 1) := by decide +kernel
theorem dX8_layTo_42 : decode cX8_layTo 42 = .ok (.bipush 9, 2) := by decide +kernel
theorem dX8_layTo_44 : decode cX8_layTo 44 = .ok (.aload_n 0, 1) := by decide +kernel
theorem dX8_layTo_45 : decode cX8_layTo 45 = .ok (.getfield 98, 3) := by decide +kernel
theorem dX8_layTo_48 : decode cX8_layTo 48 = .ok (.imul, 1) := by decide +kernel
theorem dX8_layTo_49 : decode cX8_layTo 49 = .ok (.if_icmp .ge 103, 3) := by decide +kernel
theorem dX8_layTo_52 : decode cX8_layTo 52 = .ok (.iload_n 3, 1) := by decide +kernel
theorem dX8_layTo_53 : decode cX8_layTo 53 = .ok (.aload_n 0, 1) := by decide +kernel
theorem dX8_layTo_54 : decode cX8_layTo 54 = .ok (.getfield 98, 3) := by decide +kernel
theorem dX8_layTo_57 : decode cX8_layTo 57 = .ok (.idiv, 1) := by decide +kernel
theorem dX8_layTo_58 : decode cX8_layTo 58 = .ok (.istore 4, 2) := by decide +kernel
theorem dX8_layTo_60 : decode cX8_layTo 60 = .ok (.iload_n 3, 1) := by decide +kernel
theorem dX8_layTo_61 : decode cX8_layTo 61 = .ok (.aload_n 0, 1) := by decide +kernel
theorem dX8_layTo_62 : decode cX8_layTo 62 = .ok (.getfield 98, 3) := by decide +kernel
theorem dX8_layTo_65 : decode cX8_layTo 65 = .ok (.irem, 1) := by decide +kernel
theorem dX8_layTo_66 : decode cX8_layTo 66 = .ok (.istore 5, 2) := by decide +kernel
theorem dX8_layTo_68 : decode cX8_layTo 68 = .ok (.iload_n 2, 1) := by decide +kernel
theorem dX8_layTo_69 : decode cX8_layTo 69 = .ok (.aload_n 0, 1) := by decide +kernel
theorem dX8_layTo_70 : decode cX8_layTo 70 = .ok (.iload 5, 2) := by decide +kernel
theorem dX8_layTo_72 : decode cX8_layTo 72 = .ok (.invokevirtual 152, 3) := by decide +kernel
theorem dX8_layTo_75 : decode cX8_layTo 75 = .ok (.iadd, 1) := by decide +kernel
theorem dX8_layTo_76 : decode cX8_layTo 76 = .ok (.istore 6, 2) := by decide +kernel
theorem dX8_layTo_78 : decode cX8_layTo 78 = .ok (.aload_n 0, 1) := by decide +kernel
theorem dX8_layTo_79 : decode cX8_layTo 79 = .ok (.getfield 81, 3) := by decide +kernel
theorem dX8_layTo_82 : decode cX8_layTo 82 = .ok (.bipush 9, 2) := by decide +kernel
theorem dX8_layTo_84 : decode cX8_layTo 84 = .ok (.iload_n 2, 1) := by decide +kernel
theorem dX8_layTo_85 : decode cX8_layTo 85 = .ok (.imul, 1) := by decide +kernel
theorem dX8_layTo_86 : decode cX8_layTo 86 = .ok (.iload 4, 2) := by decide +kernel
theorem dX8_layTo_88 : decode cX8_layTo 88 = .ok (.iadd, 1) := by decide +kernel
theorem dX8_layTo_89 : decode cX8_layTo 89 = .ok (.laload, 1) := by decide +kernel
theorem dX8_layTo_90 : decode cX8_layTo 90 = .ok (.lconst 0, 1) := by decide +kernel
theorem dX8_layTo_91 : decode cX8_layTo 91 = .ok (.lcmp, 1) := by decide +kernel
theorem dX8_layTo_92 : decode cX8_layTo 92 = .ok (.ifCond .le 54, 3) := by decide +kernel
theorem dX8_layTo_95 : decode cX8_layTo 95 = .ok (.iload 6, 2) := by decide +kernel
theorem dX8_layTo_97 : decode cX8_layTo 97 = .ok (.aload_n 1, 1) := by decide +kernel
theorem dX8_layTo_98 : decode cX8_layTo 98 = .ok (.iconst 0, 1) := by decide +kernel
theorem dX8_layTo_99 : decode cX8_layTo 99 = .ok (.iaload, 1) := by decide +kernel
theorem dX8_layTo_100 : decode cX8_layTo 100 = .ok (.if_icmp .ge 46, 3) := by decide +kernel
theorem dX8_layTo_103 : decode cX8_layTo 103 = .ok (.aload_n 0, 1) := by decide +kernel
theorem dX8_layTo_104 : decode cX8_layTo 104 = .ok (.aload_n 1, 1) := by decide +kernel
theorem dX8_layTo_105 : decode cX8_layTo 105 = .ok (.iload 5, 2) := by decide +kernel
theorem dX8_layTo_107 : decode cX8_layTo 107 = .ok (.iload_n 2, 1) := by decide +kernel
theorem dX8_layTo_108 : decode cX8_layTo 108 = .ok (.iload 4, 2) := by decide +kernel
theorem dX8_layTo_110 : decode cX8_layTo 110 = .ok (.invokevirtual 199, 3) := by decide +kernel
theorem dX8_layTo_113 : decode cX8_layTo 113 = .ok (.ifCond .eq 33, 3) := by decide +kernel
theorem dX8_layTo_116 : decode cX8_layTo 116 = .ok (.aload_n 0, 1) := by decide +kernel
theorem dX8_layTo_117 : decode cX8_layTo 117 = .ok (.getfield 81, 3) := by decide +kernel
theorem dX8_layTo_120 : decode cX8_layTo 120 = .ok (.bipush 9, 2) := by decide +kernel
theorem dX8_layTo_122 : decode cX8_layTo 122 = .ok (.iload 6, 2) := by decide +kernel
theorem dX8_layTo_124 : decode cX8_layTo 124 = .ok (.iconst 1, 1) := by decide +kernel
theorem dX8_layTo_125 : decode cX8_layTo 125 = .ok (.iadd, 1) := by decide +kernel
theorem dX8_layTo_126 : decode cX8_layTo 126 = .ok (.imul, 1) := by decide +kernel
theorem dX8_layTo_127 : decode cX8_layTo 127 = .ok (.iload 5, 2) := by decide +kernel
theorem dX8_layTo_129 : decode cX8_layTo 129 = .ok (.iadd, 1) := by decide +kernel
theorem dX8_layTo_130 : decode cX8_layTo 130 = .ok (.dup2, 1) := by decide +kernel
theorem dX8_layTo_131 : decode cX8_layTo 131 = .ok (.laload, 1) := by decide +kernel
theorem dX8_layTo_132 : decode cX8_layTo 132 = .ok (.aload_n 0, 1) := by decide +kernel
theorem dX8_layTo_133 : decode cX8_layTo 133 = .ok (.getfield 81, 3) := by decide +kernel
theorem dX8_layTo_136 : decode cX8_layTo 136 = .ok (.bipush 9, 2) := by decide +kernel
theorem dX8_layTo_138 : decode cX8_layTo 138 = .ok (.iload_n 2, 1) := by decide +kernel
theorem dX8_layTo_139 : decode cX8_layTo 139 = .ok (.imul, 1) := by decide +kernel
theorem dX8_layTo_140 : decode cX8_layTo 140 = .ok (.iload 4, 2) := by decide +kernel
theorem dX8_layTo_142 : decode cX8_layTo 142 = .ok (.iadd, 1) := by decide +kernel
theorem dX8_layTo_143 : decode cX8_layTo 143 = .ok (.laload, 1) := by decide +kernel
theorem dX8_layTo_144 : decode cX8_layTo 144 = .ok (.ladd, 1) := by decide +kernel
theorem dX8_layTo_145 : decode cX8_layTo 145 = .ok (.lastore, 1) := by decide +kernel
theorem dX8_layTo_146 : decode cX8_layTo 146 = .ok (.iinc 3 1, 3) := by decide +kernel
theorem dX8_layTo_149 : decode cX8_layTo 149 = .ok (.goto (-108), 3) := by decide +kernel
theorem dX8_layTo_152 : decode cX8_layTo 152 = .ok (.iinc 2 1, 3) := by decide +kernel
theorem dX8_layTo_155 : decode cX8_layTo 155 = .ok (.goto (-123), 3) := by decide +kernel
theorem dX8_layTo_158 : decode cX8_layTo 158 = .ok (.return_, 1) := by decide +kernel
theorem dX8_all_0 : decode cX8_all 0 = .ok (.aload_n 0, 1) := by decide +kernel
theorem dX8_all_1 : decode cX8_all 1 = .ok (.aload_n 1, 1) := by decide +kernel
theorem dX8_all_2 : decode cX8_all 2 = .ok (.invokevirtual 203, 3) := by decide +kernel
theorem dX8_all_5 : decode cX8_all 5 = .ok (.aload_n 0, 1) := by decide +kernel
theorem dX8_all_6 : decode cX8_all 6 = .ok (.getfield 78, 3) := by decide +kernel
theorem dX8_all_9 : decode cX8_all 9 = .ok (.bipush 8, 2) := by decide +kernel
theorem dX8_all_11 : decode cX8_all 11 = .ok (.laload, 1) := by decide +kernel
theorem dX8_all_12 : decode cX8_all 12 = .ok (.lreturn, 1) := by decide +kernel
theorem dX8_layHeavy_0 : decode cX8_layHeavy 0 = .ok (.aload_n 1, 1) := by decide +kernel
theorem dX8_layHeavy_1 : decode cX8_layHeavy 1 = .ok (.iconst 0, 1) := by decide +kernel
theorem dX8_layHeavy_2 : decode cX8_layHeavy 2 = .ok (.iaload, 1) := by decide +kernel
theorem dX8_layHeavy_3 : decode cX8_layHeavy 3 = .ok (.istore_n 3, 1) := by decide +kernel
theorem dX8_layHeavy_4 : decode cX8_layHeavy 4 = .ok (.iload_n 3, 1) := by decide +kernel
theorem dX8_layHeavy_5 : decode cX8_layHeavy 5 = .ok (.ifCond .lt 128, 3) := by decide +kernel
theorem dX8_layHeavy_8 : decode cX8_layHeavy 8 = .ok (.iconst 0, 1) := by decide +kernel
theorem dX8_layHeavy_9 : decode cX8_layHeavy 9 = .ok (.istore 4, 2) := by decide +kernel
theorem dX8_layHeavy_11 : decode cX8_layHeavy 11 = .ok (.iload 4, 2) := by decide +kernel
theorem dX8_layHeavy_13 : decode cX8_layHeavy 13 = .ok (.bipush 8, 2) := by decide +kernel
theorem dX8_layHeavy_15 : decode cX8_layHeavy 15 = .ok (.if_icmp .gt 112, 3) := by decide +kernel
theorem dX8_layHeavy_18 : decode cX8_layHeavy 18 = .ok (.sipush 657, 3) := by decide +kernel
theorem dX8_layHeavy_21 : decode cX8_layHeavy 21 = .ok (.iload_n 3, 1) := by decide +kernel
theorem dX8_layHeavy_22 : decode cX8_layHeavy 22 = .ok (.imul, 1) := by decide +kernel
theorem dX8_layHeavy_23 : decode cX8_layHeavy 23 = .ok (.bipush 73, 2) := by decide +kernel
theorem dX8_layHeavy_25 : decode cX8_layHeavy 25 = .ok (.iload 4, 2) := by decide +kernel
theorem dX8_layHeavy_27 : decode cX8_layHeavy 27 = .ok (.imul, 1) := by decide +kernel
theorem dX8_layHeavy_28 : decode cX8_layHeavy 28 = .ok (.iadd, 1) := by decide +kernel
theorem dX8_layHeavy_29 : decode cX8_layHeavy 29 = .ok (.istore 5, 2) := by decide +kernel
theorem dX8_layHeavy_31 : decode cX8_layHeavy 31 = .ok (.iconst 0, 1) := by decide +kernel
theorem dX8_layHeavy_32 : decode cX8_layHeavy 32 = .ok (.istore 6, 2) := by decide +kernel
theorem dX8_layHeavy_34 : decode cX8_layHeavy 34 = .ok (.iload 6, 2) := by decide +kernel
theorem dX8_layHeavy_36 : decode cX8_layHeavy 36 = .ok (.bipush 73, 2) := by decide +kernel
theorem dX8_layHeavy_38 : decode cX8_layHeavy 38 = .ok (.if_icmp .ge 20, 3) := by decide +kernel
theorem dX8_layHeavy_41 : decode cX8_layHeavy 41 = .ok (.aload_n 0, 1) := by decide +kernel
theorem dX8_layHeavy_42 : decode cX8_layHeavy 42 = .ok (.getfield 74, 3) := by decide +kernel
theorem dX8_layHeavy_45 : decode cX8_layHeavy 45 = .ok (.iload 5, 2) := by decide +kernel
theorem dX8_layHeavy_47 : decode cX8_layHeavy 47 = .ok (.iload 6, 2) := by decide +kernel
theorem dX8_layHeavy_49 : decode cX8_layHeavy 49 = .ok (.iadd, 1) := by decide +kernel
theorem dX8_layHeavy_50 : decode cX8_layHeavy 50 = .ok (.lconst 0, 1) := by decide +kernel
theorem dX8_layHeavy_51 : decode cX8_layHeavy 51 = .ok (.lastore, 1) := by decide +kernel
theorem dX8_layHeavy_52 : decode cX8_layHeavy 52 = .ok (.iinc 6 1, 3) := by decide +kernel
theorem dX8_layHeavy_55 : decode cX8_layHeavy 55 = .ok (.goto (-21), 3) := by decide +kernel
theorem dX8_layHeavy_58 : decode cX8_layHeavy 58 = .ok (.iconst 0, 1) := by decide +kernel
theorem dX8_layHeavy_59 : decode cX8_layHeavy 59 = .ok (.istore 6, 2) := by decide +kernel
theorem dX8_layHeavy_61 : decode cX8_layHeavy 61 = .ok (.iload 6, 2) := by decide +kernel
theorem dX8_layHeavy_63 : decode cX8_layHeavy 63 = .ok (.aload_n 0, 1) := by decide +kernel
theorem dX8_layHeavy_64 : decode cX8_layHeavy 64 = .ok (.getfield 98, 3) := by decide +kernel
theorem dX8_layHeavy_67 : decode cX8_layHeavy 67 = .ok (.if_icmp .ge 54, 3) := by decide +kernel
theorem dX8_layHeavy_70 : decode cX8_layHeavy 70 = .ok (.iload_n 3, 1) := by decide +kernel
theorem dX8_layHeavy_71 : decode cX8_layHeavy 71 = .ok (.aload_n 1, 1) := by decide +kernel
theorem dX8_layHeavy_72 : decode cX8_layHeavy 72 = .ok (.iconst 0, 1) := by decide +kernel
theorem dX8_layHeavy_73 : decode cX8_layHeavy 73 = .ok (.iaload, 1) := by decide +kernel
theorem dX8_layHeavy_74 : decode cX8_layHeavy 74 = .ok (.if_icmp .ge 47, 3) := by decide +kernel
theorem dX8_layHeavy_77 : decode cX8_layHeavy 77 = .ok (.aload_n 0, 1) := by decide +kernel
theorem dX8_layHeavy_78 : decode cX8_layHeavy 78 = .ok (.aload_n 1, 1) := by decide +kernel
theorem dX8_layHeavy_79 : decode cX8_layHeavy 79 = .ok (.iload 6, 2) := by decide +kernel
theorem dX8_layHeavy_81 : decode cX8_layHeavy 81 = .ok (.iload_n 3, 1) := by decide +kernel
theorem dX8_layHeavy_82 : decode cX8_layHeavy 82 = .ok (.iload 4, 2) := by decide +kernel
theorem dX8_layHeavy_84 : decode cX8_layHeavy 84 = .ok (.invokevirtual 199, 3) := by decide +kernel
theorem dX8_layHeavy_87 : decode cX8_layHeavy 87 = .ok (.ifCond .eq 28, 3) := by decide +kernel
theorem dX8_layHeavy_90 : decode cX8_layHeavy 90 = .ok (.iload_n 2, 1) := by decide +kernel
theorem dX8_layHeavy_91 : decode cX8_layHeavy 91 = .ok (.ifCond .eq 14, 3) := by decide +kernel
theorem dX8_layHeavy_94 : decode cX8_layHeavy 94 = .ok (.aload_n 0, 1) := by decide +kernel
theorem dX8_layHeavy_95 : decode cX8_layHeavy 95 = .ok (.aload_n 1, 1) := by decide +kernel
theorem dX8_layHeavy_96 : decode cX8_layHeavy 96 = .ok (.iload 6, 2) := by decide +kernel
theorem dX8_layHeavy_98 : decode cX8_layHeavy 98 = .ok (.iload_n 3, 1) := by decide +kernel
theorem dX8_layHeavy_99 : decode cX8_layHeavy 99 = .ok (.invokevirtual 206, 3) := by decide +kernel
theorem dX8_layHeavy_102 : decode cX8_layHeavy 102 = .ok (.ifCond .eq 13, 3) := by decide +kernel
theorem dX8_layHeavy_105 : decode cX8_layHeavy 105 = .ok (.aload_n 0, 1) := by decide +kernel
theorem dX8_layHeavy_106 : decode cX8_layHeavy 106 = .ok (.aload_n 1, 1) := by decide +kernel
theorem dX8_layHeavy_107 : decode cX8_layHeavy 107 = .ok (.iload 5, 2) := by decide +kernel
theorem dX8_layHeavy_109 : decode cX8_layHeavy 109 = .ok (.iload 6, 2) := by decide +kernel
theorem dX8_layHeavy_111 : decode cX8_layHeavy 111 = .ok (.iload_n 3, 1) := by decide +kernel
theorem dX8_layHeavy_112 : decode cX8_layHeavy 112 = .ok (.invokevirtual 209, 3) := by decide +kernel
theorem dX8_layHeavy_115 : decode cX8_layHeavy 115 = .ok (.iinc 6 1, 3) := by decide +kernel
theorem dX8_layHeavy_118 : decode cX8_layHeavy 118 = .ok (.goto (-57), 3) := by decide +kernel
theorem dX8_layHeavy_121 : decode cX8_layHeavy 121 = .ok (.iinc 4 1, 3) := by decide +kernel
theorem dX8_layHeavy_124 : decode cX8_layHeavy 124 = .ok (.goto (-113), 3) := by decide +kernel
theorem dX8_layHeavy_127 : decode cX8_layHeavy 127 = .ok (.iinc 3 (-1), 3) := by decide +kernel
theorem dX8_layHeavy_130 : decode cX8_layHeavy 130 = .ok (.goto (-126), 3) := by decide +kernel
theorem dX8_layHeavy_133 : decode cX8_layHeavy 133 = .ok (.return_, 1) := by decide +kernel
theorem dX8_addHeavy_0 : decode cX8_addHeavy 0 = .ok (.iload 4, 2) := by decide +kernel
theorem dX8_addHeavy_2 : decode cX8_addHeavy 2 = .ok (.aload_n 0, 1) := by decide +kernel
theorem dX8_addHeavy_3 : decode cX8_addHeavy 3 = .ok (.iload_n 3, 1) := by decide +kernel
theorem dX8_addHeavy_4 : decode cX8_addHeavy 4 = .ok (.invokevirtual 152, 3) := by decide +kernel
theorem dX8_addHeavy_7 : decode cX8_addHeavy 7 = .ok (.iadd, 1) := by decide +kernel
theorem dX8_addHeavy_8 : decode cX8_addHeavy 8 = .ok (.istore 5, 2) := by decide +kernel
theorem dX8_addHeavy_10 : decode cX8_addHeavy 10 = .ok (.aload_n 1, 1) := by decide +kernel
theorem dX8_addHeavy_11 : decode cX8_addHeavy 11 = .ok (.bipush 11, 2) := by decide +kernel
theorem dX8_addHeavy_13 : decode cX8_addHeavy 13 = .ok (.iload_n 3, 1) := by decide +kernel
theorem dX8_addHeavy_14 : decode cX8_addHeavy 14 = .ok (.iadd, 1) := by decide +kernel
theorem dX8_addHeavy_15 : decode cX8_addHeavy 15 = .ok (.iaload, 1) := by decide +kernel
theorem dX8_addHeavy_16 : decode cX8_addHeavy 16 = .ok (.istore 6, 2) := by decide +kernel
theorem dX8_addHeavy_18 : decode cX8_addHeavy 18 = .ok (.iload 5, 2) := by decide +kernel
theorem dX8_addHeavy_20 : decode cX8_addHeavy 20 = .ok (.aload_n 1, 1) := by decide +kernel
theorem dX8_addHeavy_21 : decode cX8_addHeavy 21 = .ok (.iconst 0, 1) := by decide +kernel
theorem dX8_addHeavy_22 : decode cX8_addHeavy 22 = .ok (.iaload, 1) := by decide +kernel
theorem dX8_addHeavy_23 : decode cX8_addHeavy 23 = .ok (.if_icmp .ne 17, 3) := by decide +kernel
theorem dX8_addHeavy_26 : decode cX8_addHeavy 26 = .ok (.aload_n 0, 1) := by decide +kernel
theorem dX8_addHeavy_27 : decode cX8_addHeavy 27 = .ok (.getfield 74, 3) := by decide +kernel
theorem dX8_addHeavy_30 : decode cX8_addHeavy 30 = .ok (.iload_n 2, 1) := by decide +kernel
theorem dX8_addHeavy_31 : decode cX8_addHeavy 31 = .ok (.iload 6, 2) := by decide +kernel
theorem dX8_addHeavy_33 : decode cX8_addHeavy 33 = .ok (.iadd, 1) := by decide +kernel
theorem dX8_addHeavy_34 : decode cX8_addHeavy 34 = .ok (.dup2, 1) := by decide +kernel
theorem dX8_addHeavy_35 : decode cX8_addHeavy 35 = .ok (.laload, 1) := by decide +kernel
theorem dX8_addHeavy_36 : decode cX8_addHeavy 36 = .ok (.lconst 1, 1) := by decide +kernel
theorem dX8_addHeavy_37 : decode cX8_addHeavy 37 = .ok (.ladd, 1) := by decide +kernel
theorem dX8_addHeavy_38 : decode cX8_addHeavy 38 = .ok (.lastore, 1) := by decide +kernel
theorem dX8_addHeavy_39 : decode cX8_addHeavy 39 = .ok (.return_, 1) := by decide +kernel
theorem dX8_addHeavy_40 : decode cX8_addHeavy 40 = .ok (.iconst 0, 1) := by decide +kernel
theorem dX8_addHeavy_41 : decode cX8_addHeavy 41 = .ok (.istore 7, 2) := by decide +kernel
theorem dX8_addHeavy_43 : decode cX8_addHeavy 43 = .ok (.iload 7, 2) := by decide +kernel
theorem dX8_addHeavy_45 : decode cX8_addHeavy 45 = .ok (.iload 6, 2) := by decide +kernel
theorem dX8_addHeavy_47 : decode cX8_addHeavy 47 = .ok (.iadd, 1) := by decide +kernel
theorem dX8_addHeavy_48 : decode cX8_addHeavy 48 = .ok (.bipush 73, 2) := by decide +kernel
theorem dX8_addHeavy_50 : decode cX8_addHeavy 50 = .ok (.if_icmp .ge 45, 3) := by decide +kernel
theorem dX8_addHeavy_53 : decode cX8_addHeavy 53 = .ok (.aload_n 0, 1) := by decide +kernel
theorem dX8_addHeavy_54 : decode cX8_addHeavy 54 = .ok (.getfield 74, 3) := by decide +kernel
theorem dX8_addHeavy_57 : decode cX8_addHeavy 57 = .ok (.iload_n 2, 1) := by decide +kernel
theorem dX8_addHeavy_58 : decode cX8_addHeavy 58 = .ok (.iload 6, 2) := by decide +kernel
theorem dX8_addHeavy_60 : decode cX8_addHeavy 60 = .ok (.iadd, 1) := by decide +kernel
theorem dX8_addHeavy_61 : decode cX8_addHeavy 61 = .ok (.iload 7, 2) := by decide +kernel
theorem dX8_addHeavy_63 : decode cX8_addHeavy 63 = .ok (.iadd, 1) := by decide +kernel
theorem dX8_addHeavy_64 : decode cX8_addHeavy 64 = .ok (.dup2, 1) := by decide +kernel
theorem dX8_addHeavy_65 : decode cX8_addHeavy 65 = .ok (.laload, 1) := by decide +kernel
theorem dX8_addHeavy_66 : decode cX8_addHeavy 66 = .ok (.aload_n 0, 1) := by decide +kernel
theorem dX8_addHeavy_67 : decode cX8_addHeavy 67 = .ok (.getfield 74, 3) := by decide +kernel
theorem dX8_addHeavy_70 : decode cX8_addHeavy 70 = .ok (.sipush 657, 3) := by decide +kernel
theorem dX8_addHeavy_73 : decode cX8_addHeavy 73 = .ok (.iload 5, 2) := by decide +kernel
theorem dX8_addHeavy_75 : decode cX8_addHeavy 75 = .ok (.iconst 1, 1) := by decide +kernel
theorem dX8_addHeavy_76 : decode cX8_addHeavy 76 = .ok (.iadd, 1) := by decide +kernel
theorem dX8_addHeavy_77 : decode cX8_addHeavy 77 = .ok (.imul, 1) := by decide +kernel
theorem dX8_addHeavy_78 : decode cX8_addHeavy 78 = .ok (.bipush 73, 2) := by decide +kernel
theorem dX8_addHeavy_80 : decode cX8_addHeavy 80 = .ok (.iload_n 3, 1) := by decide +kernel
theorem dX8_addHeavy_81 : decode cX8_addHeavy 81 = .ok (.imul, 1) := by decide +kernel
theorem dX8_addHeavy_82 : decode cX8_addHeavy 82 = .ok (.iadd, 1) := by decide +kernel
theorem dX8_addHeavy_83 : decode cX8_addHeavy 83 = .ok (.iload 7, 2) := by decide +kernel
theorem dX8_addHeavy_85 : decode cX8_addHeavy 85 = .ok (.iadd, 1) := by decide +kernel
theorem dX8_addHeavy_86 : decode cX8_addHeavy 86 = .ok (.laload, 1) := by decide +kernel
theorem dX8_addHeavy_87 : decode cX8_addHeavy 87 = .ok (.ladd, 1) := by decide +kernel
theorem dX8_addHeavy_88 : decode cX8_addHeavy 88 = .ok (.lastore, 1) := by decide +kernel
theorem dX8_addHeavy_89 : decode cX8_addHeavy 89 = .ok (.iinc 7 1, 3) := by decide +kernel
theorem dX8_addHeavy_92 : decode cX8_addHeavy 92 = .ok (.goto (-49), 3) := by decide +kernel
theorem dX8_addHeavy_95 : decode cX8_addHeavy 95 = .ok (.return_, 1) := by decide +kernel
theorem dX8_heavyBehind_0 : decode cX8_heavyBehind 0 = .ok (.iload_n 3, 1) := by decide +kernel
theorem dX8_heavyBehind_1 : decode cX8_heavyBehind 1 = .ok (.aload_n 0, 1) := by decide +kernel
theorem dX8_heavyBehind_2 : decode cX8_heavyBehind 2 = .ok (.iload_n 2, 1) := by decide +kernel
theorem dX8_heavyBehind_3 : decode cX8_heavyBehind 3 = .ok (.invokevirtual 152, 3) := by decide +kernel
theorem dX8_heavyBehind_6 : decode cX8_heavyBehind 6 = .ok (.iadd, 1) := by decide +kernel
theorem dX8_heavyBehind_7 : decode cX8_heavyBehind 7 = .ok (.istore 5, 2) := by decide +kernel
theorem dX8_heavyBehind_9 : decode cX8_heavyBehind 9 = .ok (.iload 4, 2) := by decide +kernel
theorem dX8_heavyBehind_11 : decode cX8_heavyBehind 11 = .ok (.aload_n 1, 1) := by decide +kernel
theorem dX8_heavyBehind_12 : decode cX8_heavyBehind 12 = .ok (.bipush 11, 2) := by decide +kernel
theorem dX8_heavyBehind_14 : decode cX8_heavyBehind 14 = .ok (.iload_n 2, 1) := by decide +kernel
theorem dX8_heavyBehind_15 : decode cX8_heavyBehind 15 = .ok (.iadd, 1) := by decide +kernel
theorem dX8_heavyBehind_16 : decode cX8_heavyBehind 16 = .ok (.iaload, 1) := by decide +kernel
theorem dX8_heavyBehind_17 : decode cX8_heavyBehind 17 = .ok (.isub, 1) := by decide +kernel
theorem dX8_heavyBehind_18 : decode cX8_heavyBehind 18 = .ok (.istore 6, 2) := by decide +kernel
theorem dX8_heavyBehind_20 : decode cX8_heavyBehind 20 = .ok (.iload 6, 2) := by decide +kernel
theorem dX8_heavyBehind_22 : decode cX8_heavyBehind 22 = .ok (.ifCond .ge 5, 3) := by decide +kernel
theorem dX8_heavyBehind_25 : decode cX8_heavyBehind 25 = .ok (.lconst 0, 1) := by decide +kernel
theorem dX8_heavyBehind_26 : decode cX8_heavyBehind 26 = .ok (.lreturn, 1) := by decide +kernel
theorem dX8_heavyBehind_27 : decode cX8_heavyBehind 27 = .ok (.iload 5, 2) := by decide +kernel
theorem dX8_heavyBehind_29 : decode cX8_heavyBehind 29 = .ok (.aload_n 1, 1) := by decide +kernel
theorem dX8_heavyBehind_30 : decode cX8_heavyBehind 30 = .ok (.iconst 0, 1) := by decide +kernel
theorem dX8_heavyBehind_31 : decode cX8_heavyBehind 31 = .ok (.iaload, 1) := by decide +kernel
theorem dX8_heavyBehind_32 : decode cX8_heavyBehind 32 = .ok (.if_icmp .ne 16, 3) := by decide +kernel
theorem dX8_heavyBehind_35 : decode cX8_heavyBehind 35 = .ok (.iload 6, 2) := by decide +kernel
theorem dX8_heavyBehind_37 : decode cX8_heavyBehind 37 = .ok (.ifCond .ne 7, 3) := by decide +kernel
theorem dX8_heavyBehind_40 : decode cX8_heavyBehind 40 = .ok (.lconst 1, 1) := by decide +kernel
theorem dX8_heavyBehind_41 : decode cX8_heavyBehind 41 = .ok (.goto 28, 3) := by decide +kernel
theorem dX8_heavyBehind_44 : decode cX8_heavyBehind 44 = .ok (.lconst 0, 1) := by decide +kernel
theorem dX8_heavyBehind_45 : decode cX8_heavyBehind 45 = .ok (.goto 24, 3) := by decide +kernel
theorem dX8_heavyBehind_48 : decode cX8_heavyBehind 48 = .ok (.aload_n 0, 1) := by decide +kernel
theorem dX8_heavyBehind_49 : decode cX8_heavyBehind 49 = .ok (.getfield 74, 3) := by decide +kernel
theorem dX8_heavyBehind_52 : decode cX8_heavyBehind 52 = .ok (.sipush 657, 3) := by decide +kernel
theorem dX8_heavyBehind_55 : decode cX8_heavyBehind 55 = .ok (.iload 5, 2) := by decide +kernel
theorem dX8_heavyBehind_57 : decode cX8_heavyBehind 57 = .ok (.iconst 1, 1) := by decide +kernel
theorem dX8_heavyBehind_58 : decode cX8_heavyBehind 58 = .ok (.iadd, 1) := by decide +kernel
theorem dX8_heavyBehind_59 : decode cX8_heavyBehind 59 = .ok (.imul, 1) := by decide +kernel
theorem dX8_heavyBehind_60 : decode cX8_heavyBehind 60 = .ok (.bipush 73, 2) := by decide +kernel
theorem dX8_heavyBehind_62 : decode cX8_heavyBehind 62 = .ok (.iload_n 2, 1) := by decide +kernel
theorem dX8_heavyBehind_63 : decode cX8_heavyBehind 63 = .ok (.imul, 1) := by decide +kernel
theorem dX8_heavyBehind_64 : decode cX8_heavyBehind 64 = .ok (.iadd, 1) := by decide +kernel
theorem dX8_heavyBehind_65 : decode cX8_heavyBehind 65 = .ok (.iload 6, 2) := by decide +kernel
theorem dX8_heavyBehind_67 : decode cX8_heavyBehind 67 = .ok (.iadd, 1) := by decide +kernel
theorem dX8_heavyBehind_68 : decode cX8_heavyBehind 68 = .ok (.laload, 1) := by decide +kernel
theorem dX8_heavyBehind_69 : decode cX8_heavyBehind 69 = .ok (.lreturn, 1) := by decide +kernel
theorem dX8_find_0 : decode cX8_find 0 = .ok (.aload_n 0, 1) := by decide +kernel
theorem dX8_find_1 : decode cX8_find 1 = .ok (.iconst 0, 1) := by decide +kernel
theorem dX8_find_2 : decode cX8_find 2 = .ok (.putfield 213, 3) := by decide +kernel
theorem dX8_find_5 : decode cX8_find 5 = .ok (.aload_n 0, 1) := by decide +kernel
theorem dX8_find_6 : decode cX8_find 6 = .ok (.iload_n 2, 1) := by decide +kernel
theorem dX8_find_7 : decode cX8_find 7 = .ok (.putfield 216, 3) := by decide +kernel
theorem dX8_find_10 : decode cX8_find 10 = .ok (.iload_n 2, 1) := by decide +kernel
theorem dX8_find_11 : decode cX8_find 11 = .ok (.istore 6, 2) := by decide +kernel
theorem dX8_find_13 : decode cX8_find 13 = .ok (.lload_n 3, 1) := by decide +kernel
theorem dX8_find_14 : decode cX8_find 14 = .ok (.lstore 7, 2) := by decide +kernel
theorem dX8_find_16 : decode cX8_find 16 = .ok (.iconst 0, 1) := by decide +kernel
theorem dX8_find_17 : decode cX8_find 17 = .ok (.istore 9, 2) := by decide +kernel
theorem dX8_find_19 : decode cX8_find 19 = .ok (.bipush 8, 2) := by decide +kernel
theorem dX8_find_21 : decode cX8_find 21 = .ok (.istore 10, 2) := by decide +kernel
theorem dX8_find_23 : decode cX8_find 23 = .ok (.iload 9, 2) := by decide +kernel
theorem dX8_find_25 : decode cX8_find 25 = .ok (.aload_n 1, 1) := by decide +kernel
theorem dX8_find_26 : decode cX8_find 26 = .ok (.iconst 0, 1) := by decide +kernel
theorem dX8_find_27 : decode cX8_find 27 = .ok (.iaload, 1) := by decide +kernel
theorem dX8_find_28 : decode cX8_find 28 = .ok (.if_icmp .ge 131, 3) := by decide +kernel
theorem dX8_find_31 : decode cX8_find 31 = .ok (.iconst (-1), 1) := by decide +kernel
theorem dX8_find_32 : decode cX8_find 32 = .ok (.istore 11, 2) := by decide +kernel
theorem dX8_find_34 : decode cX8_find 34 = .ok (.lconst 0, 1) := by decide +kernel
theorem dX8_find_35 : decode cX8_find 35 = .ok (.lstore 12, 2) := by decide +kernel
theorem dX8_find_37 : decode cX8_find 37 = .ok (.lload 12, 2) := by decide +kernel
theorem dX8_find_39 : decode cX8_find 39 = .ok (.lload 7, 2) := by decide +kernel
theorem dX8_find_41 : decode cX8_find 41 = .ok (.lcmp, 1) := by decide +kernel
theorem dX8_find_42 : decode cX8_find 42 = .ok (.ifCond .gt 64, 3) := by decide +kernel
theorem dX8_find_45 : decode cX8_find 45 = .ok (.lload 7, 2) := by decide +kernel
theorem dX8_find_47 : decode cX8_find 47 = .ok (.lload 12, 2) := by decide +kernel
theorem dX8_find_49 : decode cX8_find 49 = .ok (.lsub, 1) := by decide +kernel
theorem dX8_find_50 : decode cX8_find 50 = .ok (.lstore 7, 2) := by decide +kernel
theorem dX8_find_52 : decode cX8_find 52 = .ok (.iinc 11 1, 3) := by decide +kernel
theorem dX8_find_55 : decode cX8_find 55 = .ok (.aload_n 0, 1) := by decide +kernel
theorem dX8_find_56 : decode cX8_find 56 = .ok (.aload_n 1, 1) := by decide +kernel
theorem dX8_find_57 : decode cX8_find 57 = .ok (.iload 11, 2) := by decide +kernel
theorem dX8_find_59 : decode cX8_find 59 = .ok (.iload 9, 2) := by decide +kernel
theorem dX8_find_61 : decode cX8_find 61 = .ok (.iload 10, 2) := by decide +kernel
theorem dX8_find_63 : decode cX8_find 63 = .ok (.invokevirtual 199, 3) := by decide +kernel
theorem dX8_find_66 : decode cX8_find 66 = .ok (.ifCond .eq 34, 3) := by decide +kernel
theorem dX8_find_69 : decode cX8_find 69 = .ok (.iload 5, 2) := by decide +kernel
theorem dX8_find_71 : decode cX8_find 71 = .ok (.ifCond .eq 15, 3) := by decide +kernel
theorem dX8_find_74 : decode cX8_find 74 = .ok (.aload_n 0, 1) := by decide +kernel
theorem dX8_find_75 : decode cX8_find 75 = .ok (.aload_n 1, 1) := by decide +kernel
theorem dX8_find_76 : decode cX8_find 76 = .ok (.iload 11, 2) := by decide +kernel
theorem dX8_find_78 : decode cX8_find 78 = .ok (.iload 9, 2) := by decide +kernel
theorem dX8_find_80 : decode cX8_find 80 = .ok (.invokevirtual 206, 3) := by decide +kernel
theorem dX8_find_83 : decode cX8_find 83 = .ok (.ifCond .eq 17, 3) := by decide +kernel
theorem dX8_find_86 : decode cX8_find 86 = .ok (.aload_n 0, 1) := by decide +kernel
theorem dX8_find_87 : decode cX8_find 87 = .ok (.aload_n 1, 1) := by decide +kernel
theorem dX8_find_88 : decode cX8_find 88 = .ok (.iload 11, 2) := by decide +kernel
theorem dX8_find_90 : decode cX8_find 90 = .ok (.iload 9, 2) := by decide +kernel
theorem dX8_find_92 : decode cX8_find 92 = .ok (.iload 6, 2) := by decide +kernel
theorem dX8_find_94 : decode cX8_find 94 = .ok (.invokevirtual 219, 3) := by decide +kernel
theorem dX8_find_97 : decode cX8_find 97 = .ok (.goto 4, 3) := by decide +kernel
theorem dX8_find_100 : decode cX8_find 100 = .ok (.lconst 0, 1) := by decide +kernel
theorem dX8_find_101 : decode cX8_find 101 = .ok (.lstore 12, 2) := by decide +kernel
theorem dX8_find_103 : decode cX8_find 103 = .ok (.goto (-66), 3) := by decide +kernel
theorem dX8_find_106 : decode cX8_find 106 = .ok (.aload_n 0, 1) := by decide +kernel
theorem dX8_find_107 : decode cX8_find 107 = .ok (.getfield 84, 3) := by decide +kernel
theorem dX8_find_110 : decode cX8_find 110 = .ok (.aload_n 0, 1) := by decide +kernel
theorem dX8_find_111 : decode cX8_find 111 = .ok (.getfield 213, 3) := by decide +kernel
theorem dX8_find_114 : decode cX8_find 114 = .ok (.iload 11, 2) := by decide +kernel
theorem dX8_find_116 : decode cX8_find 116 = .ok (.iastore, 1) := by decide +kernel
theorem dX8_find_117 : decode cX8_find 117 = .ok (.aload_n 0, 1) := by decide +kernel
theorem dX8_find_118 : decode cX8_find 118 = .ok (.dup, 1) := by decide +kernel
theorem dX8_find_119 : decode cX8_find 119 = .ok (.getfield 213, 3) := by decide +kernel
theorem dX8_find_122 : decode cX8_find 122 = .ok (.iconst 1, 1) := by decide +kernel
theorem dX8_find_123 : decode cX8_find 123 = .ok (.iadd, 1) := by decide +kernel
theorem dX8_find_124 : decode cX8_find 124 = .ok (.putfield 213, 3) := by decide +kernel
theorem dX8_find_127 : decode cX8_find 127 = .ok (.iload 6, 2) := by decide +kernel
theorem dX8_find_129 : decode cX8_find 129 = .ok (.aload_n 1, 1) := by decide +kernel
theorem dX8_find_130 : decode cX8_find 130 = .ok (.bipush 11, 2) := by decide +kernel
theorem dX8_find_132 : decode cX8_find 132 = .ok (.iload 11, 2) := by decide +kernel
theorem dX8_find_134 : decode cX8_find 134 = .ok (.iadd, 1) := by decide +kernel
theorem dX8_find_135 : decode cX8_find 135 = .ok (.iaload, 1) := by decide +kernel
theorem dX8_find_136 : decode cX8_find 136 = .ok (.isub, 1) := by decide +kernel
theorem dX8_find_137 : decode cX8_find 137 = .ok (.istore 6, 2) := by decide +kernel
theorem dX8_find_139 : decode cX8_find 139 = .ok (.iload 9, 2) := by decide +kernel
theorem dX8_find_141 : decode cX8_find 141 = .ok (.aload_n 0, 1) := by decide +kernel
theorem dX8_find_142 : decode cX8_find 142 = .ok (.iload 11, 2) := by decide +kernel
theorem dX8_find_144 : decode cX8_find 144 = .ok (.invokevirtual 152, 3) := by decide +kernel
theorem dX8_find_147 : decode cX8_find 147 = .ok (.iconst 1, 1) := by decide +kernel
theorem dX8_find_148 : decode cX8_find 148 = .ok (.iadd, 1) := by decide +kernel
theorem dX8_find_149 : decode cX8_find 149 = .ok (.iadd, 1) := by decide +kernel
theorem dX8_find_150 : decode cX8_find 150 = .ok (.istore 9, 2) := by decide +kernel
theorem dX8_find_152 : decode cX8_find 152 = .ok (.iload 11, 2) := by decide +kernel
theorem dX8_find_154 : decode cX8_find 154 = .ok (.istore 10, 2) := by decide +kernel
theorem dX8_find_156 : decode cX8_find 156 = .ok (.goto (-133), 3) := by decide +kernel
theorem dX8_find_159 : decode cX8_find 159 = .ok (.return_, 1) := by decide +kernel
theorem dX8_findRank_0 : decode cX8_findRank 0 = .ok (.aload_n 0, 1) := by decide +kernel
theorem dX8_findRank_1 : decode cX8_findRank 1 = .ok (.aload_n 1, 1) := by decide +kernel
theorem dX8_findRank_2 : decode cX8_findRank 2 = .ok (.iconst 0, 1) := by decide +kernel
theorem dX8_findRank_3 : decode cX8_findRank 3 = .ok (.invokevirtual 223, 3) := by decide +kernel
theorem dX8_findRank_6 : decode cX8_findRank 6 = .ok (.lload_n 2, 1) := by decide +kernel
theorem dX8_findRank_7 : decode cX8_findRank 7 = .ok (.lstore 4, 2) := by decide +kernel
theorem dX8_findRank_9 : decode cX8_findRank 9 = .ok (.bipush 72, 2) := by decide +kernel
theorem dX8_findRank_11 : decode cX8_findRank 11 = .ok (.istore 6, 2) := by decide +kernel
theorem dX8_findRank_13 : decode cX8_findRank 13 = .ok (.iload 6, 2) := by decide +kernel
theorem dX8_findRank_15 : decode cX8_findRank 15 = .ok (.ifCond .lt 55, 3) := by decide +kernel
theorem dX8_findRank_18 : decode cX8_findRank 18 = .ok (.aload_n 0, 1) := by decide +kernel
theorem dX8_findRank_19 : decode cX8_findRank 19 = .ok (.getfield 74, 3) := by decide +kernel
theorem dX8_findRank_22 : decode cX8_findRank 22 = .ok (.sipush 584, 3) := by decide +kernel
theorem dX8_findRank_25 : decode cX8_findRank 25 = .ok (.iload 6, 2) := by decide +kernel
theorem dX8_findRank_27 : decode cX8_findRank 27 = .ok (.iadd, 1) := by decide +kernel
theorem dX8_findRank_28 : decode cX8_findRank 28 = .ok (.laload, 1) := by decide +kernel
theorem dX8_findRank_29 : decode cX8_findRank 29 = .ok (.lstore 7, 2) := by decide +kernel
theorem dX8_findRank_31 : decode cX8_findRank 31 = .ok (.lload 4, 2) := by decide +kernel
theorem dX8_findRank_33 : decode cX8_findRank 33 = .ok (.lload 7, 2) := by decide +kernel
theorem dX8_findRank_35 : decode cX8_findRank 35 = .ok (.lcmp, 1) := by decide +kernel
theorem dX8_findRank_36 : decode cX8_findRank 36 = .ok (.ifCond .ge 21, 3) := by decide +kernel
theorem dX8_findRank_39 : decode cX8_findRank 39 = .ok (.aload_n 1, 1) := by decide +kernel
theorem dX8_findRank_40 : decode cX8_findRank 40 = .ok (.iconst 0, 1) := by decide +kernel
theorem dX8_findRank_41 : decode cX8_findRank 41 = .ok (.iaload, 1) := by decide +kernel
theorem dX8_findRank_42 : decode cX8_findRank 42 = .ok (.ifCond .le 15, 3) := by decide +kernel
theorem dX8_findRank_45 : decode cX8_findRank 45 = .ok (.aload_n 0, 1) := by decide +kernel
theorem dX8_findRank_46 : decode cX8_findRank 46 = .ok (.aload_n 1, 1) := by decide +kernel
theorem dX8_findRank_47 : decode cX8_findRank 47 = .ok (.iload 6, 2) := by decide +kernel
theorem dX8_findRank_49 : decode cX8_findRank 49 = .ok (.lload 4, 2) := by decide +kernel
theorem dX8_findRank_51 : decode cX8_findRank 51 = .ok (.iconst 0, 1) := by decide +kernel
theorem dX8_findRank_52 : decode cX8_findRank 52 = .ok (.invokevirtual 227, 3) := by decide +kernel
theorem dX8_findRank_55 : decode cX8_findRank 55 = .ok (.iconst 1, 1) := by decide +kernel
theorem dX8_findRank_56 : decode cX8_findRank 56 = .ok (.ireturn, 1) := by decide +kernel
theorem dX8_findRank_57 : decode cX8_findRank 57 = .ok (.lload 4, 2) := by decide +kernel
theorem dX8_findRank_59 : decode cX8_findRank 59 = .ok (.lload 7, 2) := by decide +kernel
theorem dX8_findRank_61 : decode cX8_findRank 61 = .ok (.lsub, 1) := by decide +kernel
theorem dX8_findRank_62 : decode cX8_findRank 62 = .ok (.lstore 4, 2) := by decide +kernel
theorem dX8_findRank_64 : decode cX8_findRank 64 = .ok (.iinc 6 (-1), 3) := by decide +kernel
theorem dX8_findRank_67 : decode cX8_findRank 67 = .ok (.goto (-54), 3) := by decide +kernel
theorem dX8_findRank_70 : decode cX8_findRank 70 = .ok (.iconst 0, 1) := by decide +kernel
theorem dX8_findRank_71 : decode cX8_findRank 71 = .ok (.ireturn, 1) := by decide +kernel
theorem dX8_lies_0 : decode cX8_lies 0 = .ok (.aload_n 0, 1) := by decide +kernel
theorem dX8_lies_1 : decode cX8_lies 1 = .ok (.iconst 0, 1) := by decide +kernel
theorem dX8_lies_2 : decode cX8_lies 2 = .ok (.putfield 94, 3) := by decide +kernel
theorem dX8_lies_5 : decode cX8_lies 5 = .ok (.aload_n 0, 1) := by decide +kernel
theorem dX8_lies_6 : decode cX8_lies 6 = .ok (.iload_n 1, 1) := by decide +kernel
theorem dX8_lies_7 : decode cX8_lies 7 = .ok (.invokevirtual 148, 3) := by decide +kernel
theorem dX8_lies_10 : decode cX8_lies 10 = .ok (.ifCond .ne 11, 3) := by decide +kernel
theorem dX8_lies_13 : decode cX8_lies 13 = .ok (.aload_n 0, 1) := by decide +kernel
theorem dX8_lies_14 : decode cX8_lies 14 = .ok (.iload_n 2, 1) := by decide +kernel
theorem dX8_lies_15 : decode cX8_lies 15 = .ok (.invokevirtual 155, 3) := by decide +kernel
theorem dX8_lies_18 : decode cX8_lies 18 = .ok (.ifCond .eq 5, 3) := by decide +kernel
theorem dX8_lies_21 : decode cX8_lies 21 = .ok (.iconst (-1), 1) := by decide +kernel
theorem dX8_lies_22 : decode cX8_lies 22 = .ok (.ireturn, 1) := by decide +kernel
theorem dX8_lies_23 : decode cX8_lies 23 = .ok (.aload_n 0, 1) := by decide +kernel
theorem dX8_lies_24 : decode cX8_lies 24 = .ok (.aload_n 0, 1) := by decide +kernel
theorem dX8_lies_25 : decode cX8_lies 25 = .ok (.getfield 50, 3) := by decide +kernel
theorem dX8_lies_28 : decode cX8_lies 28 = .ok (.iload_n 1, 1) := by decide +kernel
theorem dX8_lies_29 : decode cX8_lies 29 = .ok (.iload_n 2, 1) := by decide +kernel
theorem dX8_lies_30 : decode cX8_lies 30 = .ok (.invokevirtual 193, 3) := by decide +kernel
theorem dX8_lies_33 : decode cX8_lies 33 = .ok (.ifCond .eq 7, 3) := by decide +kernel
theorem dX8_lies_36 : decode cX8_lies 36 = .ok (.iconst 1, 1) := by decide +kernel
theorem dX8_lies_37 : decode cX8_lies 37 = .ok (.goto 4, 3) := by decide +kernel
theorem dX8_lies_40 : decode cX8_lies 40 = .ok (.iconst 0, 1) := by decide +kernel
theorem dX8_lies_41 : decode cX8_lies 41 = .ok (.ireturn, 1) := by decide +kernel
theorem dX8_readings_0 : decode cX8_readings 0 = .ok (.aload_n 0, 1) := by decide +kernel
theorem dX8_readings_1 : decode cX8_readings 1 = .ok (.iconst 0, 1) := by decide +kernel
theorem dX8_readings_2 : decode cX8_readings 2 = .ok (.putfield 94, 3) := by decide +kernel
theorem dX8_readings_5 : decode cX8_readings 5 = .ok (.aload_n 0, 1) := by decide +kernel
theorem dX8_readings_6 : decode cX8_readings 6 = .ok (.aload_n 0, 1) := by decide +kernel
theorem dX8_readings_7 : decode cX8_readings 7 = .ok (.getfield 50, 3) := by decide +kernel
theorem dX8_readings_10 : decode cX8_readings 10 = .ok (.invokevirtual 231, 3) := by decide +kernel
theorem dX8_readings_13 : decode cX8_readings 13 = .ok (.lreturn, 1) := by decide +kernel
theorem dX8_rank_0 : decode cX8_rank 0 = .ok (.aload_n 0, 1) := by decide +kernel
theorem dX8_rank_1 : decode cX8_rank 1 = .ok (.iconst 0, 1) := by decide +kernel
theorem dX8_rank_2 : decode cX8_rank 2 = .ok (.putfield 94, 3) := by decide +kernel
theorem dX8_rank_5 : decode cX8_rank 5 = .ok (.iload_n 3, 1) := by decide +kernel
theorem dX8_rank_6 : decode cX8_rank 6 = .ok (.bipush (-2), 2) := by decide +kernel
theorem dX8_rank_8 : decode cX8_rank 8 = .ok (.if_icmp .ge 6, 3) := by decide +kernel
theorem dX8_rank_11 : decode cX8_rank 11 = .ok (.bipush (-2), 2) := by decide +kernel
theorem dX8_rank_13 : decode cX8_rank 13 = .ok (.ireturn, 1) := by decide +kernel
theorem dX8_rank_14 : decode cX8_rank 14 = .ok (.lload_n 1, 1) := by decide +kernel
theorem dX8_rank_15 : decode cX8_rank 15 = .ok (.lconst 0, 1) := by decide +kernel
theorem dX8_rank_16 : decode cX8_rank 16 = .ok (.lcmp, 1) := by decide +kernel
theorem dX8_rank_17 : decode cX8_rank 17 = .ok (.ifCond .lt 15, 3) := by decide +kernel
theorem dX8_rank_20 : decode cX8_rank 20 = .ok (.aload_n 0, 1) := by decide +kernel
theorem dX8_rank_21 : decode cX8_rank 21 = .ok (.aload_n 0, 1) := by decide +kernel
theorem dX8_rank_22 : decode cX8_rank 22 = .ok (.getfield 50, 3) := by decide +kernel
theorem dX8_rank_25 : decode cX8_rank 25 = .ok (.lload_n 1, 1) := by decide +kernel
theorem dX8_rank_26 : decode cX8_rank 26 = .ok (.invokevirtual 235, 3) := by decide +kernel
theorem dX8_rank_29 : decode cX8_rank 29 = .ok (.ifCond .ne 6, 3) := by decide +kernel
theorem dX8_rank_32 : decode cX8_rank 32 = .ok (.bipush (-9), 2) := by decide +kernel
theorem dX8_rank_34 : decode cX8_rank 34 = .ok (.ireturn, 1) := by decide +kernel
theorem dX8_rank_35 : decode cX8_rank 35 = .ok (.iload_n 3, 1) := by decide +kernel
theorem dX8_rank_36 : decode cX8_rank 36 = .ok (.iconst (-1), 1) := by decide +kernel
theorem dX8_rank_37 : decode cX8_rank 37 = .ok (.if_icmp .ne 10, 3) := by decide +kernel
theorem dX8_rank_40 : decode cX8_rank 40 = .ok (.aload_n 0, 1) := by decide +kernel
theorem dX8_rank_41 : decode cX8_rank 41 = .ok (.getfield 216, 3) := by decide +kernel
theorem dX8_rank_44 : decode cX8_rank 44 = .ok (.goto 35, 3) := by decide +kernel
theorem dX8_rank_47 : decode cX8_rank 47 = .ok (.iload_n 3, 1) := by decide +kernel
theorem dX8_rank_48 : decode cX8_rank 48 = .ok (.bipush (-2), 2) := by decide +kernel
theorem dX8_rank_50 : decode cX8_rank 50 = .ok (.if_icmp .ne 10, 3) := by decide +kernel
theorem dX8_rank_53 : decode cX8_rank 53 = .ok (.aload_n 0, 1) := by decide +kernel
theorem dX8_rank_54 : decode cX8_rank 54 = .ok (.getfield 213, 3) := by decide +kernel
end
section
theorem dX8_rank_57 : decode cX8_rank 57 = .ok (.goto 22, 3) := by decide +kernel
theorem dX8_rank_60 : decode cX8_rank 60 = .ok (.iload_n 3, 1) := by decide +kernel
theorem dX8_rank_61 : decode cX8_rank 61 = .ok (.aload_n 0, 1) := by decide +kernel
theorem dX8_rank_62 : decode cX8_rank 62 = .ok (.getfield 213, 3) := by decide +kernel
theorem dX8_rank_65 : decode cX8_rank 65 = .ok (.if_icmp .ge 12, 3) := by decide +kernel
theorem dX8_rank_68 : decode cX8_rank 68 = .ok (.aload_n 0, 1) := by decide +kernel
theorem dX8_rank_69 : decode cX8_rank 69 = .ok (.getfield 84, 3) := by decide +kernel
theorem dX8_rank_72 : decode cX8_rank 72 = .ok (.iload_n 3, 1) := by decide +kernel
theorem dX8_rank_73 : decode cX8_rank 73 = .ok (.iaload, 1) := by decide +kernel
theorem dX8_rank_74 : decode cX8_rank 74 = .ok (.goto 5, 3) := by decide +kernel
theorem dX8_rank_77 : decode cX8_rank 77 = .ok (.bipush (-9), 2) := by decide +kernel
theorem dX8_rank_79 : decode cX8_rank 79 = .ok (.ireturn, 1) := by decide +kernel
theorem dX8_standing_0 : decode cX8_standing 0 = .ok (.aload_n 0, 1) := by decide +kernel
theorem dX8_standing_1 : decode cX8_standing 1 = .ok (.aload_n 1, 1) := by decide +kernel
theorem dX8_standing_2 : decode cX8_standing 2 = .ok (.invokevirtual 203, 3) := by decide +kernel
theorem dX8_standing_5 : decode cX8_standing 5 = .ok (.aload_n 0, 1) := by decide +kernel
theorem dX8_standing_6 : decode cX8_standing 6 = .ok (.aload_n 1, 1) := by decide +kernel
theorem dX8_standing_7 : decode cX8_standing 7 = .ok (.invokevirtual 239, 3) := by decide +kernel
theorem dX8_standing_10 : decode cX8_standing 10 = .ok (.lconst 0, 1) := by decide +kernel
theorem dX8_standing_11 : decode cX8_standing 11 = .ok (.lstore 4, 2) := by decide +kernel
theorem dX8_standing_13 : decode cX8_standing 13 = .ok (.iconst 0, 1) := by decide +kernel
theorem dX8_standing_14 : decode cX8_standing 14 = .ok (.istore 6, 2) := by decide +kernel
theorem dX8_standing_16 : decode cX8_standing 16 = .ok (.iload 6, 2) := by decide +kernel
theorem dX8_standing_18 : decode cX8_standing 18 = .ok (.aload_n 1, 1) := by decide +kernel
theorem dX8_standing_19 : decode cX8_standing 19 = .ok (.iconst 0, 1) := by decide +kernel
theorem dX8_standing_20 : decode cX8_standing 20 = .ok (.iaload, 1) := by decide +kernel
theorem dX8_standing_21 : decode cX8_standing 21 = .ok (.if_icmp .ge 122, 3) := by decide +kernel
theorem dX8_standing_24 : decode cX8_standing 24 = .ok (.iconst 0, 1) := by decide +kernel
theorem dX8_standing_25 : decode cX8_standing 25 = .ok (.istore 7, 2) := by decide +kernel
theorem dX8_standing_27 : decode cX8_standing 27 = .ok (.iload 7, 2) := by decide +kernel
theorem dX8_standing_29 : decode cX8_standing 29 = .ok (.bipush 9, 2) := by decide +kernel
theorem dX8_standing_31 : decode cX8_standing 31 = .ok (.aload_n 0, 1) := by decide +kernel
theorem dX8_standing_32 : decode cX8_standing 32 = .ok (.getfield 98, 3) := by decide +kernel
theorem dX8_standing_35 : decode cX8_standing 35 = .ok (.imul, 1) := by decide +kernel
theorem dX8_standing_36 : decode cX8_standing 36 = .ok (.if_icmp .ge 101, 3) := by decide +kernel
theorem dX8_standing_39 : decode cX8_standing 39 = .ok (.iload 7, 2) := by decide +kernel
theorem dX8_standing_41 : decode cX8_standing 41 = .ok (.aload_n 0, 1) := by decide +kernel
theorem dX8_standing_42 : decode cX8_standing 42 = .ok (.getfield 98, 3) := by decide +kernel
theorem dX8_standing_45 : decode cX8_standing 45 = .ok (.idiv, 1) := by decide +kernel
theorem dX8_standing_46 : decode cX8_standing 46 = .ok (.istore 8, 2) := by decide +kernel
theorem dX8_standing_48 : decode cX8_standing 48 = .ok (.iload 7, 2) := by decide +kernel
theorem dX8_standing_50 : decode cX8_standing 50 = .ok (.aload_n 0, 1) := by decide +kernel
theorem dX8_standing_51 : decode cX8_standing 51 = .ok (.getfield 98, 3) := by decide +kernel
theorem dX8_standing_54 : decode cX8_standing 54 = .ok (.irem, 1) := by decide +kernel
theorem dX8_standing_55 : decode cX8_standing 55 = .ok (.istore 9, 2) := by decide +kernel
theorem dX8_standing_57 : decode cX8_standing 57 = .ok (.aload_n 0, 1) := by decide +kernel
theorem dX8_standing_58 : decode cX8_standing 58 = .ok (.getfield 81, 3) := by decide +kernel
theorem dX8_standing_61 : decode cX8_standing 61 = .ok (.bipush 9, 2) := by decide +kernel
theorem dX8_standing_63 : decode cX8_standing 63 = .ok (.iload 6, 2) := by decide +kernel
theorem dX8_standing_65 : decode cX8_standing 65 = .ok (.imul, 1) := by decide +kernel
theorem dX8_standing_66 : decode cX8_standing 66 = .ok (.iload 8, 2) := by decide +kernel
theorem dX8_standing_68 : decode cX8_standing 68 = .ok (.iadd, 1) := by decide +kernel
theorem dX8_standing_69 : decode cX8_standing 69 = .ok (.laload, 1) := by decide +kernel
theorem dX8_standing_70 : decode cX8_standing 70 = .ok (.lconst 0, 1) := by decide +kernel
theorem dX8_standing_71 : decode cX8_standing 71 = .ok (.lcmp, 1) := by decide +kernel
theorem dX8_standing_72 : decode cX8_standing 72 = .ok (.ifCond .le 59, 3) := by decide +kernel
theorem dX8_standing_75 : decode cX8_standing 75 = .ok (.aload_n 0, 1) := by decide +kernel
theorem dX8_standing_76 : decode cX8_standing 76 = .ok (.aload_n 1, 1) := by decide +kernel
theorem dX8_standing_77 : decode cX8_standing 77 = .ok (.iload 9, 2) := by decide +kernel
theorem dX8_standing_79 : decode cX8_standing 79 = .ok (.iload 6, 2) := by decide +kernel
theorem dX8_standing_81 : decode cX8_standing 81 = .ok (.iload 8, 2) := by decide +kernel
theorem dX8_standing_83 : decode cX8_standing 83 = .ok (.invokevirtual 199, 3) := by decide +kernel
theorem dX8_standing_86 : decode cX8_standing 86 = .ok (.ifCond .eq 45, 3) := by decide +kernel
theorem dX8_standing_89 : decode cX8_standing 89 = .ok (.aload_n 0, 1) := by decide +kernel
theorem dX8_standing_90 : decode cX8_standing 90 = .ok (.aload_n 1, 1) := by decide +kernel
theorem dX8_standing_91 : decode cX8_standing 91 = .ok (.iload 9, 2) := by decide +kernel
theorem dX8_standing_93 : decode cX8_standing 93 = .ok (.iload 6, 2) := by decide +kernel
theorem dX8_standing_95 : decode cX8_standing 95 = .ok (.iload_n 2, 1) := by decide +kernel
theorem dX8_standing_96 : decode cX8_standing 96 = .ok (.iload_n 3, 1) := by decide +kernel
theorem dX8_standing_97 : decode cX8_standing 97 = .ok (.invokevirtual 242, 3) := by decide +kernel
theorem dX8_standing_100 : decode cX8_standing 100 = .ok (.ifCond .eq 31, 3) := by decide +kernel
theorem dX8_standing_103 : decode cX8_standing 103 = .ok (.lload 4, 2) := by decide +kernel
theorem dX8_standing_105 : decode cX8_standing 105 = .ok (.aload_n 0, 1) := by decide +kernel
theorem dX8_standing_106 : decode cX8_standing 106 = .ok (.getfield 81, 3) := by decide +kernel
theorem dX8_standing_109 : decode cX8_standing 109 = .ok (.bipush 9, 2) := by decide +kernel
theorem dX8_standing_111 : decode cX8_standing 111 = .ok (.iload 6, 2) := by decide +kernel
theorem dX8_standing_113 : decode cX8_standing 113 = .ok (.imul, 1) := by decide +kernel
theorem dX8_standing_114 : decode cX8_standing 114 = .ok (.iload 8, 2) := by decide +kernel
theorem dX8_standing_116 : decode cX8_standing 116 = .ok (.iadd, 1) := by decide +kernel
theorem dX8_standing_117 : decode cX8_standing 117 = .ok (.laload, 1) := by decide +kernel
theorem dX8_standing_118 : decode cX8_standing 118 = .ok (.aload_n 0, 1) := by decide +kernel
theorem dX8_standing_119 : decode cX8_standing 119 = .ok (.aload_n 1, 1) := by decide +kernel
theorem dX8_standing_120 : decode cX8_standing 120 = .ok (.iload 9, 2) := by decide +kernel
theorem dX8_standing_122 : decode cX8_standing 122 = .ok (.iload 6, 2) := by decide +kernel
theorem dX8_standing_124 : decode cX8_standing 124 = .ok (.invokevirtual 246, 3) := by decide +kernel
theorem dX8_standing_127 : decode cX8_standing 127 = .ok (.lmul, 1) := by decide +kernel
theorem dX8_standing_128 : decode cX8_standing 128 = .ok (.ladd, 1) := by decide +kernel
theorem dX8_standing_129 : decode cX8_standing 129 = .ok (.lstore 4, 2) := by decide +kernel
theorem dX8_standing_131 : decode cX8_standing 131 = .ok (.iinc 7 1, 3) := by decide +kernel
theorem dX8_standing_134 : decode cX8_standing 134 = .ok (.goto (-107), 3) := by decide +kernel
theorem dX8_standing_137 : decode cX8_standing 137 = .ok (.iinc 6 1, 3) := by decide +kernel
theorem dX8_standing_140 : decode cX8_standing 140 = .ok (.goto (-124), 3) := by decide +kernel
theorem dX8_standing_143 : decode cX8_standing 143 = .ok (.lload 4, 2) := by decide +kernel
theorem dX8_standing_145 : decode cX8_standing 145 = .ok (.lreturn, 1) := by decide +kernel
theorem dX8_hasAt_0 : decode cX8_hasAt 0 = .ok (.iconst 0, 1) := by decide +kernel
theorem dX8_hasAt_1 : decode cX8_hasAt 1 = .ok (.istore 6, 2) := by decide +kernel
theorem dX8_hasAt_3 : decode cX8_hasAt 3 = .ok (.iload_n 3, 1) := by decide +kernel
theorem dX8_hasAt_4 : decode cX8_hasAt 4 = .ok (.istore 7, 2) := by decide +kernel
theorem dX8_hasAt_6 : decode cX8_hasAt 6 = .ok (.iconst 0, 1) := by decide +kernel
theorem dX8_hasAt_7 : decode cX8_hasAt 7 = .ok (.istore 8, 2) := by decide +kernel
theorem dX8_hasAt_9 : decode cX8_hasAt 9 = .ok (.iload 8, 2) := by decide +kernel
theorem dX8_hasAt_11 : decode cX8_hasAt 11 = .ok (.aload_n 0, 1) := by decide +kernel
theorem dX8_hasAt_12 : decode cX8_hasAt 12 = .ok (.getfield 16, 3) := by decide +kernel
theorem dX8_hasAt_15 : decode cX8_hasAt 15 = .ok (.iload_n 2, 1) := by decide +kernel
theorem dX8_hasAt_16 : decode cX8_hasAt 16 = .ok (.iaload, 1) := by decide +kernel
theorem dX8_hasAt_17 : decode cX8_hasAt 17 = .ok (.if_icmp .ge 65, 3) := by decide +kernel
theorem dX8_hasAt_20 : decode cX8_hasAt 20 = .ok (.iload 6, 2) := by decide +kernel
theorem dX8_hasAt_22 : decode cX8_hasAt 22 = .ok (.ifCond .ne 26, 3) := by decide +kernel
theorem dX8_hasAt_25 : decode cX8_hasAt 25 = .ok (.iload 7, 2) := by decide +kernel
theorem dX8_hasAt_27 : decode cX8_hasAt 27 = .ok (.iload 4, 2) := by decide +kernel
theorem dX8_hasAt_29 : decode cX8_hasAt 29 = .ok (.if_icmp .ne 23, 3) := by decide +kernel
theorem dX8_hasAt_32 : decode cX8_hasAt 32 = .ok (.aload_n 0, 1) := by decide +kernel
theorem dX8_hasAt_33 : decode cX8_hasAt 33 = .ok (.getfield 19, 3) := by decide +kernel
theorem dX8_hasAt_36 : decode cX8_hasAt 36 = .ok (.iconst 5, 1) := by decide +kernel
theorem dX8_hasAt_37 : decode cX8_hasAt 37 = .ok (.iload_n 2, 1) := by decide +kernel
theorem dX8_hasAt_38 : decode cX8_hasAt 38 = .ok (.imul, 1) := by decide +kernel
theorem dX8_hasAt_39 : decode cX8_hasAt 39 = .ok (.iload 8, 2) := by decide +kernel
theorem dX8_hasAt_41 : decode cX8_hasAt 41 = .ok (.iadd, 1) := by decide +kernel
theorem dX8_hasAt_42 : decode cX8_hasAt 42 = .ok (.iaload, 1) := by decide +kernel
theorem dX8_hasAt_43 : decode cX8_hasAt 43 = .ok (.iload 5, 2) := by decide +kernel
theorem dX8_hasAt_45 : decode cX8_hasAt 45 = .ok (.if_icmp .ne 7, 3) := by decide +kernel
theorem dX8_hasAt_48 : decode cX8_hasAt 48 = .ok (.iconst 1, 1) := by decide +kernel
theorem dX8_hasAt_49 : decode cX8_hasAt 49 = .ok (.goto 4, 3) := by decide +kernel
theorem dX8_hasAt_52 : decode cX8_hasAt 52 = .ok (.iconst 0, 1) := by decide +kernel
theorem dX8_hasAt_53 : decode cX8_hasAt 53 = .ok (.istore 6, 2) := by decide +kernel
theorem dX8_hasAt_55 : decode cX8_hasAt 55 = .ok (.iload 7, 2) := by decide +kernel
theorem dX8_hasAt_57 : decode cX8_hasAt 57 = .ok (.aload_n 0, 1) := by decide +kernel
theorem dX8_hasAt_58 : decode cX8_hasAt 58 = .ok (.getfield 13, 3) := by decide +kernel
theorem dX8_hasAt_61 : decode cX8_hasAt 61 = .ok (.aload_n 0, 1) := by decide +kernel
theorem dX8_hasAt_62 : decode cX8_hasAt 62 = .ok (.getfield 19, 3) := by decide +kernel
theorem dX8_hasAt_65 : decode cX8_hasAt 65 = .ok (.iconst 5, 1) := by decide +kernel
theorem dX8_hasAt_66 : decode cX8_hasAt 66 = .ok (.iload_n 2, 1) := by decide +kernel
theorem dX8_hasAt_67 : decode cX8_hasAt 67 = .ok (.imul, 1) := by decide +kernel
theorem dX8_hasAt_68 : decode cX8_hasAt 68 = .ok (.iload 8, 2) := by decide +kernel
theorem dX8_hasAt_70 : decode cX8_hasAt 70 = .ok (.iadd, 1) := by decide +kernel
theorem dX8_hasAt_71 : decode cX8_hasAt 71 = .ok (.iaload, 1) := by decide +kernel
theorem dX8_hasAt_72 : decode cX8_hasAt 72 = .ok (.iaload, 1) := by decide +kernel
theorem dX8_hasAt_73 : decode cX8_hasAt 73 = .ok (.iadd, 1) := by decide +kernel
theorem dX8_hasAt_74 : decode cX8_hasAt 74 = .ok (.istore 7, 2) := by decide +kernel
theorem dX8_hasAt_76 : decode cX8_hasAt 76 = .ok (.iinc 8 1, 3) := by decide +kernel
theorem dX8_hasAt_79 : decode cX8_hasAt 79 = .ok (.goto (-70), 3) := by decide +kernel
theorem dX8_hasAt_82 : decode cX8_hasAt 82 = .ok (.iload 6, 2) := by decide +kernel
theorem dX8_hasAt_84 : decode cX8_hasAt 84 = .ok (.ifCond .ne 25, 3) := by decide +kernel
theorem dX8_hasAt_87 : decode cX8_hasAt 87 = .ok (.iload 5, 2) := by decide +kernel
theorem dX8_hasAt_89 : decode cX8_hasAt 89 = .ok (.bipush 6, 2) := by decide +kernel
theorem dX8_hasAt_91 : decode cX8_hasAt 91 = .ok (.if_icmp .ne 22, 3) := by decide +kernel
theorem dX8_hasAt_94 : decode cX8_hasAt 94 = .ok (.iload 7, 2) := by decide +kernel
theorem dX8_hasAt_96 : decode cX8_hasAt 96 = .ok (.iload 4, 2) := by decide +kernel
theorem dX8_hasAt_98 : decode cX8_hasAt 98 = .ok (.if_icmp .ne 15, 3) := by decide +kernel
theorem dX8_hasAt_101 : decode cX8_hasAt 101 = .ok (.iload 7, 2) := by decide +kernel
theorem dX8_hasAt_103 : decode cX8_hasAt 103 = .ok (.aload_n 1, 1) := by decide +kernel
theorem dX8_hasAt_104 : decode cX8_hasAt 104 = .ok (.iconst 0, 1) := by decide +kernel
theorem dX8_hasAt_105 : decode cX8_hasAt 105 = .ok (.iaload, 1) := by decide +kernel
theorem dX8_hasAt_106 : decode cX8_hasAt 106 = .ok (.if_icmp .ge 7, 3) := by decide +kernel
theorem dX8_hasAt_109 : decode cX8_hasAt 109 = .ok (.iconst 1, 1) := by decide +kernel
theorem dX8_hasAt_110 : decode cX8_hasAt 110 = .ok (.goto 4, 3) := by decide +kernel
theorem dX8_hasAt_113 : decode cX8_hasAt 113 = .ok (.iconst 0, 1) := by decide +kernel
theorem dX8_hasAt_114 : decode cX8_hasAt 114 = .ok (.ireturn, 1) := by decide +kernel
theorem dX8_stands_0 : decode cX8_stands 0 = .ok (.aload_n 0, 1) := by decide +kernel
theorem dX8_stands_1 : decode cX8_stands 1 = .ok (.iconst 0, 1) := by decide +kernel
theorem dX8_stands_2 : decode cX8_stands 2 = .ok (.putfield 94, 3) := by decide +kernel
theorem dX8_stands_5 : decode cX8_stands 5 = .ok (.aload_n 0, 1) := by decide +kernel
theorem dX8_stands_6 : decode cX8_stands 6 = .ok (.iload_n 1, 1) := by decide +kernel
theorem dX8_stands_7 : decode cX8_stands 7 = .ok (.invokevirtual 155, 3) := by decide +kernel
theorem dX8_stands_10 : decode cX8_stands 10 = .ok (.ifCond .eq 7, 3) := by decide +kernel
theorem dX8_stands_13 : decode cX8_stands 13 = .ok (.ldc2_w 250, 3) := by decide +kernel
theorem dX8_stands_16 : decode cX8_stands 16 = .ok (.lreturn, 1) := by decide +kernel
theorem dX8_stands_17 : decode cX8_stands 17 = .ok (.iload_n 2, 1) := by decide +kernel
theorem dX8_stands_18 : decode cX8_stands 18 = .ok (.i2l, 1) := by decide +kernel
theorem dX8_stands_19 : decode cX8_stands 19 = .ok (.lconst 0, 1) := by decide +kernel
theorem dX8_stands_20 : decode cX8_stands 20 = .ok (.ldc2_w 174, 3) := by decide +kernel
theorem dX8_stands_23 : decode cX8_stands 23 = .ok (.invokestatic 101, 3) := by decide +kernel
theorem dX8_stands_26 : decode cX8_stands 26 = .ok (.ifCond .eq 16, 3) := by decide +kernel
theorem dX8_stands_29 : decode cX8_stands 29 = .ok (.aload_n 0, 1) := by decide +kernel
theorem dX8_stands_30 : decode cX8_stands 30 = .ok (.aload_n 0, 1) := by decide +kernel
theorem dX8_stands_31 : decode cX8_stands 31 = .ok (.getfield 50, 3) := by decide +kernel
theorem dX8_stands_34 : decode cX8_stands 34 = .ok (.iload_n 1, 1) := by decide +kernel
theorem dX8_stands_35 : decode cX8_stands 35 = .ok (.iload_n 2, 1) := by decide +kernel
theorem dX8_stands_36 : decode cX8_stands 36 = .ok (.invokevirtual 252, 3) := by decide +kernel
theorem dX8_stands_39 : decode cX8_stands 39 = .ok (.goto 6, 3) := by decide +kernel
theorem dX8_stands_42 : decode cX8_stands 42 = .ok (.ldc2_w 255, 3) := by decide +kernel
theorem dX8_stands_45 : decode cX8_stands 45 = .ok (.lreturn, 1) := by decide +kernel
theorem dX8_begins_0 : decode cX8_begins 0 = .ok (.aload_n 0, 1) := by decide +kernel
theorem dX8_begins_1 : decode cX8_begins 1 = .ok (.iconst 0, 1) := by decide +kernel
theorem dX8_begins_2 : decode cX8_begins 2 = .ok (.putfield 94, 3) := by decide +kernel
theorem dX8_begins_5 : decode cX8_begins 5 = .ok (.aload_n 0, 1) := by decide +kernel
theorem dX8_begins_6 : decode cX8_begins 6 = .ok (.iload_n 1, 1) := by decide +kernel
theorem dX8_begins_7 : decode cX8_begins 7 = .ok (.invokevirtual 148, 3) := by decide +kernel
theorem dX8_begins_10 : decode cX8_begins 10 = .ok (.ifCond .ne 11, 3) := by decide +kernel
theorem dX8_begins_13 : decode cX8_begins 13 = .ok (.aload_n 0, 1) := by decide +kernel
theorem dX8_begins_14 : decode cX8_begins 14 = .ok (.iload_n 2, 1) := by decide +kernel
theorem dX8_begins_15 : decode cX8_begins 15 = .ok (.invokevirtual 155, 3) := by decide +kernel
theorem dX8_begins_18 : decode cX8_begins 18 = .ok (.ifCond .eq 7, 3) := by decide +kernel
theorem dX8_begins_21 : decode cX8_begins 21 = .ok (.ldc2_w 250, 3) := by decide +kernel
theorem dX8_begins_24 : decode cX8_begins 24 = .ok (.lreturn, 1) := by decide +kernel
theorem dX8_begins_25 : decode cX8_begins 25 = .ok (.aload_n 0, 1) := by decide +kernel
theorem dX8_begins_26 : decode cX8_begins 26 = .ok (.aload_n 0, 1) := by decide +kernel
theorem dX8_begins_27 : decode cX8_begins 27 = .ok (.getfield 50, 3) := by decide +kernel
theorem dX8_begins_30 : decode cX8_begins 30 = .ok (.invokevirtual 203, 3) := by decide +kernel
theorem dX8_begins_33 : decode cX8_begins 33 = .ok (.aload_n 0, 1) := by decide +kernel
theorem dX8_begins_34 : decode cX8_begins 34 = .ok (.aload_n 0, 1) := by decide +kernel
theorem dX8_begins_35 : decode cX8_begins 35 = .ok (.getfield 50, 3) := by decide +kernel
theorem dX8_begins_38 : decode cX8_begins 38 = .ok (.invokevirtual 239, 3) := by decide +kernel
theorem dX8_begins_41 : decode cX8_begins 41 = .ok (.lconst 0, 1) := by decide +kernel
theorem dX8_begins_42 : decode cX8_begins 42 = .ok (.lstore_n 3, 1) := by decide +kernel
theorem dX8_begins_43 : decode cX8_begins 43 = .ok (.iconst 0, 1) := by decide +kernel
theorem dX8_begins_44 : decode cX8_begins 44 = .ok (.istore 5, 2) := by decide +kernel
theorem dX8_begins_46 : decode cX8_begins 46 = .ok (.iload 5, 2) := by decide +kernel
theorem dX8_begins_48 : decode cX8_begins 48 = .ok (.bipush 8, 2) := by decide +kernel
theorem dX8_begins_50 : decode cX8_begins 50 = .ok (.if_icmp .gt 65, 3) := by decide +kernel
theorem dX8_begins_53 : decode cX8_begins 53 = .ok (.aload_n 0, 1) := by decide +kernel
theorem dX8_begins_54 : decode cX8_begins 54 = .ok (.getfield 81, 3) := by decide +kernel
theorem dX8_begins_57 : decode cX8_begins 57 = .ok (.bipush 9, 2) := by decide +kernel
theorem dX8_begins_59 : decode cX8_begins 59 = .ok (.iload_n 2, 1) := by decide +kernel
theorem dX8_begins_60 : decode cX8_begins 60 = .ok (.imul, 1) := by decide +kernel
theorem dX8_begins_61 : decode cX8_begins 61 = .ok (.iload 5, 2) := by decide +kernel
theorem dX8_begins_63 : decode cX8_begins 63 = .ok (.iadd, 1) := by decide +kernel
theorem dX8_begins_64 : decode cX8_begins 64 = .ok (.laload, 1) := by decide +kernel
theorem dX8_begins_65 : decode cX8_begins 65 = .ok (.lstore 6, 2) := by decide +kernel
theorem dX8_begins_67 : decode cX8_begins 67 = .ok (.lload_n 3, 1) := by decide +kernel
theorem dX8_begins_68 : decode cX8_begins 68 = .ok (.lload 6, 2) := by decide +kernel
theorem dX8_begins_70 : decode cX8_begins 70 = .ok (.lconst 0, 1) := by decide +kernel
theorem dX8_begins_71 : decode cX8_begins 71 = .ok (.lcmp, 1) := by decide +kernel
theorem dX8_begins_72 : decode cX8_begins 72 = .ok (.ifCond .le 34, 3) := by decide +kernel
theorem dX8_begins_75 : decode cX8_begins 75 = .ok (.aload_n 0, 1) := by decide +kernel
theorem dX8_begins_76 : decode cX8_begins 76 = .ok (.aload_n 0, 1) := by decide +kernel
theorem dX8_begins_77 : decode cX8_begins 77 = .ok (.getfield 50, 3) := by decide +kernel
theorem dX8_begins_80 : decode cX8_begins 80 = .ok (.iload_n 1, 1) := by decide +kernel
theorem dX8_begins_81 : decode cX8_begins 81 = .ok (.iload_n 2, 1) := by decide +kernel
theorem dX8_begins_82 : decode cX8_begins 82 = .ok (.iload 5, 2) := by decide +kernel
theorem dX8_begins_84 : decode cX8_begins 84 = .ok (.invokevirtual 199, 3) := by decide +kernel
theorem dX8_begins_87 : decode cX8_begins 87 = .ok (.ifCond .eq 19, 3) := by decide +kernel
theorem dX8_begins_90 : decode cX8_begins 90 = .ok (.lload 6, 2) := by decide +kernel
theorem dX8_begins_92 : decode cX8_begins 92 = .ok (.aload_n 0, 1) := by decide +kernel
theorem dX8_begins_93 : decode cX8_begins 93 = .ok (.aload_n 0, 1) := by decide +kernel
theorem dX8_begins_94 : decode cX8_begins 94 = .ok (.getfield 50, 3) := by decide +kernel
theorem dX8_begins_97 : decode cX8_begins 97 = .ok (.iload_n 1, 1) := by decide +kernel
theorem dX8_begins_98 : decode cX8_begins 98 = .ok (.iload_n 2, 1) := by decide +kernel
theorem dX8_begins_99 : decode cX8_begins 99 = .ok (.invokevirtual 246, 3) := by decide +kernel
theorem dX8_begins_102 : decode cX8_begins 102 = .ok (.lmul, 1) := by decide +kernel
theorem dX8_begins_103 : decode cX8_begins 103 = .ok (.goto 4, 3) := by decide +kernel
theorem dX8_begins_106 : decode cX8_begins 106 = .ok (.lconst 0, 1) := by decide +kernel
theorem dX8_begins_107 : decode cX8_begins 107 = .ok (.ladd, 1) := by decide +kernel
theorem dX8_begins_108 : decode cX8_begins 108 = .ok (.lstore_n 3, 1) := by decide +kernel
theorem dX8_begins_109 : decode cX8_begins 109 = .ok (.iinc 5 1, 3) := by decide +kernel
theorem dX8_begins_112 : decode cX8_begins 112 = .ok (.goto (-66), 3) := by decide +kernel
theorem dX8_begins_115 : decode cX8_begins 115 = .ok (.lload_n 3, 1) := by decide +kernel
theorem dX8_begins_116 : decode cX8_begins 116 = .ok (.lreturn, 1) := by decide +kernel
theorem dX8_sureAt_0 : decode cX8_sureAt 0 = .ok (.aload_n 0, 1) := by decide +kernel
theorem dX8_sureAt_1 : decode cX8_sureAt 1 = .ok (.aload_n 1, 1) := by decide +kernel
theorem dX8_sureAt_2 : decode cX8_sureAt 2 = .ok (.invokevirtual 231, 3) := by decide +kernel
theorem dX8_sureAt_5 : decode cX8_sureAt 5 = .ok (.lstore_n 3, 1) := by decide +kernel
theorem dX8_sureAt_6 : decode cX8_sureAt 6 = .ok (.bipush (-9), 2) := by decide +kernel
theorem dX8_sureAt_8 : decode cX8_sureAt 8 = .ok (.istore 5, 2) := by decide +kernel
theorem dX8_sureAt_10 : decode cX8_sureAt 10 = .ok (.iconst 0, 1) := by decide +kernel
theorem dX8_sureAt_11 : decode cX8_sureAt 11 = .ok (.istore 6, 2) := by decide +kernel
theorem dX8_sureAt_13 : decode cX8_sureAt 13 = .ok (.iload 6, 2) := by decide +kernel
theorem dX8_sureAt_15 : decode cX8_sureAt 15 = .ok (.bipush 6, 2) := by decide +kernel
theorem dX8_sureAt_17 : decode cX8_sureAt 17 = .ok (.if_icmp .gt 37, 3) := by decide +kernel
theorem dX8_sureAt_20 : decode cX8_sureAt 20 = .ok (.lload_n 3, 1) := by decide +kernel
theorem dX8_sureAt_21 : decode cX8_sureAt 21 = .ok (.lconst 0, 1) := by decide +kernel
theorem dX8_sureAt_22 : decode cX8_sureAt 22 = .ok (.lcmp, 1) := by decide +kernel
theorem dX8_sureAt_23 : decode cX8_sureAt 23 = .ok (.ifCond .le 21, 3) := by decide +kernel
theorem dX8_sureAt_26 : decode cX8_sureAt 26 = .ok (.aload_n 0, 1) := by decide +kernel
theorem dX8_sureAt_27 : decode cX8_sureAt 27 = .ok (.aload_n 1, 1) := by decide +kernel
theorem dX8_sureAt_28 : decode cX8_sureAt 28 = .ok (.iload_n 2, 1) := by decide +kernel
theorem dX8_sureAt_29 : decode cX8_sureAt 29 = .ok (.iload 6, 2) := by decide +kernel
theorem dX8_sureAt_31 : decode cX8_sureAt 31 = .ok (.invokevirtual 252, 3) := by decide +kernel
theorem dX8_sureAt_34 : decode cX8_sureAt 34 = .ok (.lload_n 3, 1) := by decide +kernel
theorem dX8_sureAt_35 : decode cX8_sureAt 35 = .ok (.lcmp, 1) := by decide +kernel
theorem dX8_sureAt_36 : decode cX8_sureAt 36 = .ok (.ifCond .ne 8, 3) := by decide +kernel
theorem dX8_sureAt_39 : decode cX8_sureAt 39 = .ok (.iload 6, 2) := by decide +kernel
theorem dX8_sureAt_41 : decode cX8_sureAt 41 = .ok (.goto 5, 3) := by decide +kernel
theorem dX8_sureAt_44 : decode cX8_sureAt 44 = .ok (.iload 5, 2) := by decide +kernel
theorem dX8_sureAt_46 : decode cX8_sureAt 46 = .ok (.istore 5, 2) := by decide +kernel
theorem dX8_sureAt_48 : decode cX8_sureAt 48 = .ok (.iinc 6 1, 3) := by decide +kernel
theorem dX8_sureAt_51 : decode cX8_sureAt 51 = .ok (.goto (-38), 3) := by decide +kernel
theorem dX8_sureAt_54 : decode cX8_sureAt 54 = .ok (.iload 5, 2) := by decide +kernel
theorem dX8_sureAt_56 : decode cX8_sureAt 56 = .ok (.ireturn, 1) := by decide +kernel
theorem dX8_sure_0 : decode cX8_sure 0 = .ok (.aload_n 0, 1) := by decide +kernel
theorem dX8_sure_1 : decode cX8_sure 1 = .ok (.iconst 0, 1) := by decide +kernel
theorem dX8_sure_2 : decode cX8_sure 2 = .ok (.putfield 94, 3) := by decide +kernel
theorem dX8_sure_5 : decode cX8_sure 5 = .ok (.aload_n 0, 1) := by decide +kernel
theorem dX8_sure_6 : decode cX8_sure 6 = .ok (.iload_n 1, 1) := by decide +kernel
theorem dX8_sure_7 : decode cX8_sure 7 = .ok (.invokevirtual 155, 3) := by decide +kernel
theorem dX8_sure_10 : decode cX8_sure 10 = .ok (.ifCond .eq 7, 3) := by decide +kernel
theorem dX8_sure_13 : decode cX8_sure 13 = .ok (.iconst (-1), 1) := by decide +kernel
theorem dX8_sure_14 : decode cX8_sure 14 = .ok (.goto 12, 3) := by decide +kernel
theorem dX8_sure_17 : decode cX8_sure 17 = .ok (.aload_n 0, 1) := by decide +kernel
theorem dX8_sure_18 : decode cX8_sure 18 = .ok (.aload_n 0, 1) := by decide +kernel
theorem dX8_sure_19 : decode cX8_sure 19 = .ok (.getfield 50, 3) := by decide +kernel
theorem dX8_sure_22 : decode cX8_sure 22 = .ok (.iload_n 1, 1) := by decide +kernel
theorem dX8_sure_23 : decode cX8_sure 23 = .ok (.invokevirtual 257, 3) := by decide +kernel
theorem dX8_sure_26 : decode cX8_sure 26 = .ok (.ireturn, 1) := by decide +kernel
theorem dX8_longPower_0 : decode cX8_longPower 0 = .ok (.lconst 1, 1) := by decide +kernel
theorem dX8_longPower_1 : decode cX8_longPower 1 = .ok (.lstore_n 3, 1) := by decide +kernel
theorem dX8_longPower_2 : decode cX8_longPower 2 = .ok (.iconst 0, 1) := by decide +kernel
theorem dX8_longPower_3 : decode cX8_longPower 3 = .ok (.istore 5, 2) := by decide +kernel
theorem dX8_longPower_5 : decode cX8_longPower 5 = .ok (.iload 5, 2) := by decide +kernel
theorem dX8_longPower_7 : decode cX8_longPower 7 = .ok (.iload_n 2, 1) := by decide +kernel
theorem dX8_longPower_8 : decode cX8_longPower 8 = .ok (.if_icmp .ge 13, 3) := by decide +kernel
theorem dX8_longPower_11 : decode cX8_longPower 11 = .ok (.lload_n 3, 1) := by decide +kernel
theorem dX8_longPower_12 : decode cX8_longPower 12 = .ok (.lload_n 0, 1) := by decide +kernel
theorem dX8_longPower_13 : decode cX8_longPower 13 = .ok (.lmul, 1) := by decide +kernel
theorem dX8_longPower_14 : decode cX8_longPower 14 = .ok (.lstore_n 3, 1) := by decide +kernel
theorem dX8_longPower_15 : decode cX8_longPower 15 = .ok (.iinc 5 1, 3) := by decide +kernel
theorem dX8_longPower_18 : decode cX8_longPower 18 = .ok (.goto (-13), 3) := by decide +kernel
theorem dX8_longPower_21 : decode cX8_longPower 21 = .ok (.lload_n 3, 1) := by decide +kernel
theorem dX8_longPower_22 : decode cX8_longPower 22 = .ok (.lreturn, 1) := by decide +kernel
theorem dX8_does_0 : decode cX8_does 0 = .ok (.iload_n 1, 1) := by decide +kernel
theorem dX8_does_1 : decode cX8_does 1 = .ok (.sipush 1000, 3) := by decide +kernel
theorem dX8_does_4 : decode cX8_does 4 = .ok (.idiv, 1) := by decide +kernel
theorem dX8_does_5 : decode cX8_does 5 = .ok (.bipush 10, 2) := by decide +kernel
theorem dX8_does_7 : decode cX8_does 7 = .ok (.irem, 1) := by decide +kernel
theorem dX8_does_8 : decode cX8_does 8 = .ok (.istore_n 2, 1) := by decide +kernel
theorem dX8_does_9 : decode cX8_does 9 = .ok (.iload_n 1, 1) := by decide +kernel
theorem dX8_does_10 : decode cX8_does 10 = .ok (.bipush 100, 2) := by decide +kernel
theorem dX8_does_12 : decode cX8_does 12 = .ok (.idiv, 1) := by decide +kernel
theorem dX8_does_13 : decode cX8_does 13 = .ok (.bipush 10, 2) := by decide +kernel
theorem dX8_does_15 : decode cX8_does 15 = .ok (.irem, 1) := by decide +kernel
theorem dX8_does_16 : decode cX8_does 16 = .ok (.istore_n 3, 1) := by decide +kernel
theorem dX8_does_17 : decode cX8_does 17 = .ok (.iload_n 1, 1) := by decide +kernel
theorem dX8_does_18 : decode cX8_does 18 = .ok (.bipush 10, 2) := by decide +kernel
theorem dX8_does_20 : decode cX8_does 20 = .ok (.idiv, 1) := by decide +kernel
theorem dX8_does_21 : decode cX8_does 21 = .ok (.bipush 10, 2) := by decide +kernel
theorem dX8_does_23 : decode cX8_does 23 = .ok (.irem, 1) := by decide +kernel
theorem dX8_does_24 : decode cX8_does 24 = .ok (.istore 4, 2) := by decide +kernel
theorem dX8_does_26 : decode cX8_does 26 = .ok (.iload_n 1, 1) := by decide +kernel
theorem dX8_does_27 : decode cX8_does 27 = .ok (.bipush 10, 2) := by decide +kernel
theorem dX8_does_29 : decode cX8_does 29 = .ok (.irem, 1) := by decide +kernel
theorem dX8_does_30 : decode cX8_does 30 = .ok (.istore 5, 2) := by decide +kernel
theorem dX8_does_32 : decode cX8_does 32 = .ok (.bipush 10, 2) := by decide +kernel
theorem dX8_does_34 : decode cX8_does 34 = .ok (.iload_n 2, 1) := by decide +kernel
theorem dX8_does_35 : decode cX8_does 35 = .ok (.imul, 1) := by decide +kernel
theorem dX8_does_36 : decode cX8_does 36 = .ok (.iload_n 3, 1) := by decide +kernel
theorem dX8_does_37 : decode cX8_does 37 = .ok (.iadd, 1) := by decide +kernel
theorem dX8_does_38 : decode cX8_does 38 = .ok (.istore 6, 2) := by decide +kernel
theorem dX8_does_40 : decode cX8_does 40 = .ok (.bipush 10, 2) := by decide +kernel
theorem dX8_does_42 : decode cX8_does 42 = .ok (.iload_n 3, 1) := by decide +kernel
theorem dX8_does_43 : decode cX8_does 43 = .ok (.imul, 1) := by decide +kernel
theorem dX8_does_44 : decode cX8_does 44 = .ok (.iload 4, 2) := by decide +kernel
theorem dX8_does_46 : decode cX8_does 46 = .ok (.iadd, 1) := by decide +kernel
theorem dX8_does_47 : decode cX8_does 47 = .ok (.istore 7, 2) := by decide +kernel
theorem dX8_does_49 : decode cX8_does 49 = .ok (.iload 6, 2) := by decide +kernel
theorem dX8_does_51 : decode cX8_does 51 = .ok (.aload_n 0, 1) := by decide +kernel
theorem dX8_does_52 : decode cX8_does 52 = .ok (.getfield 53, 3) := by decide +kernel
theorem dX8_does_55 : decode cX8_does 55 = .ok (.iconst 0, 1) := by decide +kernel
theorem dX8_does_56 : decode cX8_does 56 = .ok (.iaload, 1) := by decide +kernel
theorem dX8_does_57 : decode cX8_does 57 = .ok (.if_icmp .ge 7, 3) := by decide +kernel
theorem dX8_does_60 : decode cX8_does 60 = .ok (.iconst 1, 1) := by decide +kernel
theorem dX8_does_61 : decode cX8_does 61 = .ok (.goto 4, 3) := by decide +kernel
theorem dX8_does_64 : decode cX8_does 64 = .ok (.iconst 0, 1) := by decide +kernel
theorem dX8_does_65 : decode cX8_does 65 = .ok (.istore 8, 2) := by decide +kernel
theorem dX8_does_67 : decode cX8_does 67 = .ok (.iconst 0, 1) := by decide +kernel
theorem dX8_does_68 : decode cX8_does 68 = .ok (.istore 9, 2) := by decide +kernel
theorem dX8_does_70 : decode cX8_does 70 = .ok (.iload_n 1, 1) := by decide +kernel
theorem dX8_does_71 : decode cX8_does 71 = .ok (.sipush 10000, 3) := by decide +kernel
theorem dX8_does_74 : decode cX8_does 74 = .ok (.idiv, 1) := by decide +kernel
theorem dX8_does_75 : decode cX8_does 75 = .ok (.tableswitch 371 1 7 #[41, 96, 155, 208, 258, 302, 333], 41) := by decide +kernel
theorem dX8_does_116 : decode cX8_does 116 = .ok (.iload 8, 2) := by decide +kernel
theorem dX8_does_118 : decode cX8_does 118 = .ok (.ifCond .eq 32, 3) := by decide +kernel
theorem dX8_does_121 : decode cX8_does 121 = .ok (.iload 4, 2) := by decide +kernel
theorem dX8_does_123 : decode cX8_does 123 = .ok (.ifCond .ne 27, 3) := by decide +kernel
theorem dX8_does_126 : decode cX8_does 126 = .ok (.iload 5, 2) := by decide +kernel
theorem dX8_does_128 : decode cX8_does 128 = .ok (.ifCond .ne 22, 3) := by decide +kernel
theorem dX8_does_131 : decode cX8_does 131 = .ok (.aload_n 0, 1) := by decide +kernel
theorem dX8_does_132 : decode cX8_does 132 = .ok (.getfield 53, 3) := by decide +kernel
theorem dX8_does_135 : decode cX8_does 135 = .ok (.bipush 19, 2) := by decide +kernel
theorem dX8_does_137 : decode cX8_does 137 = .ok (.iload 6, 2) := by decide +kernel
theorem dX8_does_139 : decode cX8_does 139 = .ok (.iadd, 1) := by decide +kernel
theorem dX8_does_140 : decode cX8_does 140 = .ok (.iaload, 1) := by decide +kernel
theorem dX8_does_141 : decode cX8_does 141 = .ok (.bipush 6, 2) := by decide +kernel
theorem dX8_does_143 : decode cX8_does 143 = .ok (.if_icmp .gt 7, 3) := by decide +kernel
theorem dX8_does_146 : decode cX8_does 146 = .ok (.iconst 1, 1) := by decide +kernel
theorem dX8_does_147 : decode cX8_does 147 = .ok (.goto 4, 3) := by decide +kernel
theorem dX8_does_150 : decode cX8_does 150 = .ok (.iconst 0, 1) := by decide +kernel
theorem dX8_does_151 : decode cX8_does 151 = .ok (.istore 9, 2) := by decide +kernel
theorem dX8_does_153 : decode cX8_does 153 = .ok (.iload 9, 2) := by decide +kernel
theorem dX8_does_155 : decode cX8_does 155 = .ok (.ifCond .eq 13, 3) := by decide +kernel
theorem dX8_does_158 : decode cX8_does 158 = .ok (.aload_n 0, 1) := by decide +kernel
theorem dX8_does_159 : decode cX8_does 159 = .ok (.aload_n 0, 1) := by decide +kernel
theorem dX8_does_160 : decode cX8_does 160 = .ok (.getfield 53, 3) := by decide +kernel
theorem dX8_does_163 : decode cX8_does 163 = .ok (.iload 6, 2) := by decide +kernel
theorem dX8_does_165 : decode cX8_does 165 = .ok (.invokevirtual 170, 3) := by decide +kernel
theorem dX8_does_168 : decode cX8_does 168 = .ok (.iload 9, 2) := by decide +kernel
theorem dX8_does_170 : decode cX8_does 170 = .ok (.ireturn, 1) := by decide +kernel
theorem dX8_does_171 : decode cX8_does 171 = .ok (.iload 8, 2) := by decide +kernel
theorem dX8_does_173 : decode cX8_does 173 = .ok (.ifCond .eq 34, 3) := by decide +kernel
theorem dX8_does_176 : decode cX8_does 176 = .ok (.iload 4, 2) := by decide +kernel
theorem dX8_does_178 : decode cX8_does 178 = .ok (.bipush 6, 2) := by decide +kernel
theorem dX8_does_180 : decode cX8_does 180 = .ok (.if_icmp .gt 27, 3) := by decide +kernel
theorem dX8_does_183 : decode cX8_does 183 = .ok (.iload 5, 2) := by decide +kernel
theorem dX8_does_185 : decode cX8_does 185 = .ok (.ifCond .ne 22, 3) := by decide +kernel
theorem dX8_does_188 : decode cX8_does 188 = .ok (.aload_n 0, 1) := by decide +kernel
theorem dX8_does_189 : decode cX8_does 189 = .ok (.aload_n 0, 1) := by decide +kernel
theorem dX8_does_190 : decode cX8_does 190 = .ok (.getfield 53, 3) := by decide +kernel
theorem dX8_does_193 : decode cX8_does 193 = .ok (.iload 6, 2) := by decide +kernel
theorem dX8_does_195 : decode cX8_does 195 = .ok (.iload 4, 2) := by decide +kernel
theorem dX8_does_197 : decode cX8_does 197 = .ok (.invokevirtual 160, 3) := by decide +kernel
theorem dX8_does_200 : decode cX8_does 200 = .ok (.ifCond .eq 7, 3) := by decide +kernel
theorem dX8_does_203 : decode cX8_does 203 = .ok (.iconst 1, 1) := by decide +kernel
theorem dX8_does_204 : decode cX8_does 204 = .ok (.goto 4, 3) := by decide +kernel
theorem dX8_does_207 : decode cX8_does 207 = .ok (.iconst 0, 1) := by decide +kernel
theorem dX8_does_208 : decode cX8_does 208 = .ok (.istore 9, 2) := by decide +kernel
theorem dX8_does_210 : decode cX8_does 210 = .ok (.iload 9, 2) := by decide +kernel
theorem dX8_does_212 : decode cX8_does 212 = .ok (.ifCond .eq 15, 3) := by decide +kernel
theorem dX8_does_215 : decode cX8_does 215 = .ok (.aload_n 0, 1) := by decide +kernel
theorem dX8_does_216 : decode cX8_does 216 = .ok (.aload_n 0, 1) := by decide +kernel
theorem dX8_does_217 : decode cX8_does 217 = .ok (.getfield 53, 3) := by decide +kernel
theorem dX8_does_220 : decode cX8_does 220 = .ok (.iload 6, 2) := by decide +kernel
theorem dX8_does_222 : decode cX8_does 222 = .ok (.iload 4, 2) := by decide +kernel
theorem dX8_does_224 : decode cX8_does 224 = .ok (.invokevirtual 176, 3) := by decide +kernel
theorem dX8_does_227 : decode cX8_does 227 = .ok (.iload 9, 2) := by decide +kernel
theorem dX8_does_229 : decode cX8_does 229 = .ok (.ireturn, 1) := by decide +kernel
theorem dX8_does_230 : decode cX8_does 230 = .ok (.iload_n 2, 1) := by decide +kernel
theorem dX8_does_231 : decode cX8_does 231 = .ok (.aload_n 0, 1) := by decide +kernel
theorem dX8_does_232 : decode cX8_does 232 = .ok (.getfield 98, 3) := by decide +kernel
theorem dX8_does_235 : decode cX8_does 235 = .ok (.if_icmp .ge 21, 3) := by decide +kernel
theorem dX8_does_238 : decode cX8_does 238 = .ok (.iload_n 3, 1) := by decide +kernel
theorem dX8_does_239 : decode cX8_does 239 = .ok (.ifCond .ne 17, 3) := by decide +kernel
theorem dX8_does_242 : decode cX8_does 242 = .ok (.iload 4, 2) := by decide +kernel
theorem dX8_does_244 : decode cX8_does 244 = .ok (.ifCond .ne 12, 3) := by decide +kernel
theorem dX8_does_247 : decode cX8_does 247 = .ok (.iload 5, 2) := by decide +kernel
theorem dX8_does_249 : decode cX8_does 249 = .ok (.ifCond .ne 7, 3) := by decide +kernel
theorem dX8_does_252 : decode cX8_does 252 = .ok (.iconst 1, 1) := by decide +kernel
theorem dX8_does_253 : decode cX8_does 253 = .ok (.goto 4, 3) := by decide +kernel
theorem dX8_does_256 : decode cX8_does 256 = .ok (.iconst 0, 1) := by decide +kernel
theorem dX8_does_257 : decode cX8_does 257 = .ok (.istore 9, 2) := by decide +kernel
theorem dX8_does_259 : decode cX8_does 259 = .ok (.aload_n 0, 1) := by decide +kernel
theorem dX8_does_260 : decode cX8_does 260 = .ok (.getfield 53, 3) := by decide +kernel
theorem dX8_does_263 : decode cX8_does 263 = .ok (.iconst 1, 1) := by decide +kernel
theorem dX8_does_264 : decode cX8_does 264 = .ok (.dup2, 1) := by decide +kernel
theorem dX8_does_265 : decode cX8_does 265 = .ok (.iaload, 1) := by decide +kernel
theorem dX8_does_266 : decode cX8_does 266 = .ok (.iload 9, 2) := by decide +kernel
theorem dX8_does_268 : decode cX8_does 268 = .ok (.ifCond .eq 9, 3) := by decide +kernel
theorem dX8_does_271 : decode cX8_does 271 = .ok (.iconst 1, 1) := by decide +kernel
theorem dX8_does_272 : decode cX8_does 272 = .ok (.iload_n 2, 1) := by decide +kernel
theorem dX8_does_273 : decode cX8_does 273 = .ok (.ishl, 1) := by decide +kernel
theorem dX8_does_274 : decode cX8_does 274 = .ok (.goto 4, 3) := by decide +kernel
theorem dX8_does_277 : decode cX8_does 277 = .ok (.iconst 0, 1) := by decide +kernel
theorem dX8_does_278 : decode cX8_does 278 = .ok (.ixor, 1) := by decide +kernel
theorem dX8_does_279 : decode cX8_does 279 = .ok (.iastore, 1) := by decide +kernel
theorem dX8_does_280 : decode cX8_does 280 = .ok (.iload 9, 2) := by decide +kernel
theorem dX8_does_282 : decode cX8_does 282 = .ok (.ireturn, 1) := by decide +kernel
theorem dX8_does_283 : decode cX8_does 283 = .ok (.iload_n 2, 1) := by decide +kernel
theorem dX8_does_284 : decode cX8_does 284 = .ok (.iconst 3, 1) := by decide +kernel
theorem dX8_does_285 : decode cX8_does 285 = .ok (.if_icmp .ge 23, 3) := by decide +kernel
theorem dX8_does_288 : decode cX8_does 288 = .ok (.iload_n 3, 1) := by decide +kernel
theorem dX8_does_289 : decode cX8_does 289 = .ok (.iconst 3, 1) := by decide +kernel
theorem dX8_does_290 : decode cX8_does 290 = .ok (.if_icmp .ge 18, 3) := by decide +kernel
theorem dX8_does_293 : decode cX8_does 293 = .ok (.iload 4, 2) := by decide +kernel
theorem dX8_does_295 : decode cX8_does 295 = .ok (.iconst 3, 1) := by decide +kernel
theorem dX8_does_296 : decode cX8_does 296 = .ok (.if_icmp .ge 12, 3) := by decide +kernel
theorem dX8_does_299 : decode cX8_does 299 = .ok (.iload 5, 2) := by decide +kernel
theorem dX8_does_301 : decode cX8_does 301 = .ok (.ifCond .ne 7, 3) := by decide +kernel
theorem dX8_does_304 : decode cX8_does 304 = .ok (.iconst 1, 1) := by decide +kernel
theorem dX8_does_305 : decode cX8_does 305 = .ok (.goto 4, 3) := by decide +kernel
theorem dX8_does_308 : decode cX8_does 308 = .ok (.iconst 0, 1) := by decide +kernel
theorem dX8_does_309 : decode cX8_does 309 = .ok (.istore 9, 2) := by decide +kernel
theorem dX8_does_311 : decode cX8_does 311 = .ok (.iload 9, 2) := by decide +kernel
theorem dX8_does_313 : decode cX8_does 313 = .ok (.ifCond .eq 17, 3) := by decide +kernel
theorem dX8_does_316 : decode cX8_does 316 = .ok (.aload_n 0, 1) := by decide +kernel
theorem dX8_does_317 : decode cX8_does 317 = .ok (.getfield 53, 3) := by decide +kernel
theorem dX8_does_320 : decode cX8_does 320 = .ok (.iconst 2, 1) := by decide +kernel
theorem dX8_does_321 : decode cX8_does 321 = .ok (.iconst 3, 1) := by decide +kernel
theorem dX8_does_322 : decode cX8_does 322 = .ok (.iload_n 2, 1) := by decide +kernel
theorem dX8_does_323 : decode cX8_does 323 = .ok (.imul, 1) := by decide +kernel
theorem dX8_does_324 : decode cX8_does 324 = .ok (.iadd, 1) := by decide +kernel
theorem dX8_does_325 : decode cX8_does 325 = .ok (.iload_n 3, 1) := by decide +kernel
theorem dX8_does_326 : decode cX8_does 326 = .ok (.iadd, 1) := by decide +kernel
theorem dX8_does_327 : decode cX8_does 327 = .ok (.iload 4, 2) := by decide +kernel
theorem dX8_does_329 : decode cX8_does 329 = .ok (.iastore, 1) := by decide +kernel
theorem dX8_does_330 : decode cX8_does 330 = .ok (.iload 9, 2) := by decide +kernel
theorem dX8_does_332 : decode cX8_does 332 = .ok (.ireturn, 1) := by decide +kernel
theorem dX8_does_333 : decode cX8_does 333 = .ok (.iload_n 2, 1) := by decide +kernel
theorem dX8_does_334 : decode cX8_does 334 = .ok (.aload_n 0, 1) := by decide +kernel
theorem dX8_does_335 : decode cX8_does 335 = .ok (.getfield 98, 3) := by decide +kernel
theorem dX8_does_338 : decode cX8_does 338 = .ok (.if_icmp .ge 37, 3) := by decide +kernel
theorem dX8_does_341 : decode cX8_does 341 = .ok (.iload 7, 2) := by decide +kernel
theorem dX8_does_343 : decode cX8_does 343 = .ok (.aload_n 0, 1) := by decide +kernel
theorem dX8_does_344 : decode cX8_does 344 = .ok (.getfield 53, 3) := by decide +kernel
theorem dX8_does_347 : decode cX8_does 347 = .ok (.iconst 0, 1) := by decide +kernel
theorem dX8_does_348 : decode cX8_does 348 = .ok (.iaload, 1) := by decide +kernel
theorem dX8_does_349 : decode cX8_does 349 = .ok (.if_icmp .ge 26, 3) := by decide +kernel
theorem dX8_does_352 : decode cX8_does 352 = .ok (.iload 5, 2) := by decide +kernel
theorem dX8_does_354 : decode cX8_does 354 = .ok (.ifCond .ne 21, 3) := by decide +kernel
theorem dX8_does_357 : decode cX8_does 357 = .ok (.aload_n 0, 1) := by decide +kernel
theorem dX8_does_358 : decode cX8_does 358 = .ok (.aload_n 0, 1) := by decide +kernel
theorem dX8_does_359 : decode cX8_does 359 = .ok (.getfield 53, 3) := by decide +kernel
theorem dX8_does_362 : decode cX8_does 362 = .ok (.iload_n 2, 1) := by decide +kernel
theorem dX8_does_363 : decode cX8_does 363 = .ok (.iload 7, 2) := by decide +kernel
theorem dX8_does_365 : decode cX8_does 365 = .ok (.invokevirtual 193, 3) := by decide +kernel
theorem dX8_does_368 : decode cX8_does 368 = .ok (.ifCond .eq 7, 3) := by decide +kernel
theorem dX8_does_371 : decode cX8_does 371 = .ok (.iconst 1, 1) := by decide +kernel
theorem dX8_does_372 : decode cX8_does 372 = .ok (.goto 4, 3) := by decide +kernel
theorem dX8_does_375 : decode cX8_does 375 = .ok (.iconst 0, 1) := by decide +kernel
theorem dX8_does_376 : decode cX8_does 376 = .ok (.ireturn, 1) := by decide +kernel
theorem dX8_does_377 : decode cX8_does 377 = .ok (.iload 4, 2) := by decide +kernel
theorem dX8_does_379 : decode cX8_does 379 = .ok (.ifCond .ne 27, 3) := by decide +kernel
theorem dX8_does_382 : decode cX8_does 382 = .ok (.iload 5, 2) := by decide +kernel
theorem dX8_does_384 : decode cX8_does 384 = .ok (.ifCond .ne 22, 3) := by decide +kernel
theorem dX8_does_387 : decode cX8_does 387 = .ok (.aload_n 0, 1) := by decide +kernel
theorem dX8_does_388 : decode cX8_does 388 = .ok (.aload_n 0, 1) := by decide +kernel
theorem dX8_does_389 : decode cX8_does 389 = .ok (.getfield 53, 3) := by decide +kernel
theorem dX8_does_392 : decode cX8_does 392 = .ok (.invokevirtual 231, 3) := by decide +kernel
theorem dX8_does_395 : decode cX8_does 395 = .ok (.iload 6, 2) := by decide +kernel
theorem dX8_does_397 : decode cX8_does 397 = .ok (.i2l, 1) := by decide +kernel
theorem dX8_does_398 : decode cX8_does 398 = .ok (.lcmp, 1) := by decide +kernel
theorem dX8_does_399 : decode cX8_does 399 = .ok (.ifCond .gt 7, 3) := by decide +kernel
theorem dX8_does_402 : decode cX8_does 402 = .ok (.iconst 1, 1) := by decide +kernel
theorem dX8_does_403 : decode cX8_does 403 = .ok (.goto 4, 3) := by decide +kernel
theorem dX8_does_406 : decode cX8_does 406 = .ok (.iconst 0, 1) := by decide +kernel
theorem dX8_does_407 : decode cX8_does 407 = .ok (.ireturn, 1) := by decide +kernel
theorem dX8_does_408 : decode cX8_does 408 = .ok (.iload 8, 2) := by decide +kernel
theorem dX8_does_410 : decode cX8_does 410 = .ok (.ifCond .eq 34, 3) := by decide +kernel
theorem dX8_does_413 : decode cX8_does 413 = .ok (.iload 4, 2) := by decide +kernel
theorem dX8_does_415 : decode cX8_does 415 = .ok (.bipush 6, 2) := by decide +kernel
theorem dX8_does_417 : decode cX8_does 417 = .ok (.if_icmp .gt 27, 3) := by decide +kernel
theorem dX8_does_420 : decode cX8_does 420 = .ok (.iload 5, 2) := by decide +kernel
theorem dX8_does_422 : decode cX8_does 422 = .ok (.ifCond .ne 22, 3) := by decide +kernel
theorem dX8_does_425 : decode cX8_does 425 = .ok (.aload_n 0, 1) := by decide +kernel
theorem dX8_does_426 : decode cX8_does 426 = .ok (.aload_n 0, 1) := by decide +kernel
theorem dX8_does_427 : decode cX8_does 427 = .ok (.getfield 53, 3) := by decide +kernel
theorem dX8_does_430 : decode cX8_does 430 = .ok (.iload 6, 2) := by decide +kernel
theorem dX8_does_432 : decode cX8_does 432 = .ok (.invokevirtual 257, 3) := by decide +kernel
theorem dX8_does_435 : decode cX8_does 435 = .ok (.iload 4, 2) := by decide +kernel
theorem dX8_does_437 : decode cX8_does 437 = .ok (.if_icmp .ne 7, 3) := by decide +kernel
theorem dX8_does_440 : decode cX8_does 440 = .ok (.iconst 1, 1) := by decide +kernel
theorem dX8_does_441 : decode cX8_does 441 = .ok (.goto 4, 3) := by decide +kernel
theorem dX8_does_444 : decode cX8_does 444 = .ok (.iconst 0, 1) := by decide +kernel
theorem dX8_does_445 : decode cX8_does 445 = .ok (.ireturn, 1) := by decide +kernel
theorem dX8_does_446 : decode cX8_does 446 = .ok (.iconst 0, 1) := by decide +kernel
theorem dX8_does_447 : decode cX8_does 447 = .ok (.ireturn, 1) := by decide +kernel
theorem dX8_judge_0 : decode cX8_judge 0 = .ok (.aload_n 0, 1) := by decide +kernel
theorem dX8_judge_1 : decode cX8_judge 1 = .ok (.iconst 0, 1) := by decide +kernel
theorem dX8_judge_2 : decode cX8_judge 2 = .ok (.putfield 94, 3) := by decide +kernel
theorem dX8_judge_5 : decode cX8_judge 5 = .ok (.iload_n 1, 1) := by decide +kernel
theorem dX8_judge_6 : decode cX8_judge 6 = .ok (.i2l, 1) := by decide +kernel
theorem dX8_judge_7 : decode cX8_judge 7 = .ok (.lconst 1, 1) := by decide +kernel
theorem dX8_judge_8 : decode cX8_judge 8 = .ok (.ldc2_w 261, 3) := by decide +kernel
theorem dX8_judge_11 : decode cX8_judge 11 = .ok (.invokestatic 101, 3) := by decide +kernel
theorem dX8_judge_14 : decode cX8_judge 14 = .ok (.ifCond .eq 20, 3) := by decide +kernel
theorem dX8_judge_17 : decode cX8_judge 17 = .ok (.lload_n 2, 1) := by decide +kernel
theorem dX8_judge_18 : decode cX8_judge 18 = .ok (.lconst 0, 1) := by decide +kernel
theorem dX8_judge_19 : decode cX8_judge 19 = .ok (.ldc2_w 263, 3) := by decide +kernel
theorem dX8_judge_22 : decode cX8_judge 22 = .ok (.iload_n 1, 1) := by decide +kernel
theorem dX8_judge_23 : decode cX8_judge 23 = .ok (.invokestatic 265, 3) := by decide +kernel
theorem dX8_judge_26 : decode cX8_judge 26 = .ok (.lconst 1, 1) := by decide +kernel
theorem dX8_judge_27 : decode cX8_judge 27 = .ok (.lsub, 1) := by decide +kernel
theorem dX8_judge_28 : decode cX8_judge 28 = .ok (.invokestatic 101, 3) := by decide +kernel
theorem dX8_judge_31 : decode cX8_judge 31 = .ok (.ifCond .ne 6, 3) := by decide +kernel
theorem dX8_judge_34 : decode cX8_judge 34 = .ok (.bipush (-2), 2) := by decide +kernel
theorem dX8_judge_36 : decode cX8_judge 36 = .ok (.ireturn, 1) := by decide +kernel
theorem dX8_judge_37 : decode cX8_judge 37 = .ok (.aload_n 0, 1) := by decide +kernel
theorem dX8_judge_38 : decode cX8_judge 38 = .ok (.getfield 53, 3) := by decide +kernel
theorem dX8_judge_41 : decode cX8_judge 41 = .ok (.aload_n 0, 1) := by decide +kernel
theorem dX8_judge_42 : decode cX8_judge 42 = .ok (.getfield 50, 3) := by decide +kernel
theorem dX8_judge_45 : decode cX8_judge 45 = .ok (.invokestatic 141, 3) := by decide +kernel
theorem dX8_judge_48 : decode cX8_judge 48 = .ok (.iconst 0, 1) := by decide +kernel
theorem dX8_judge_49 : decode cX8_judge 49 = .ok (.istore 4, 2) := by decide +kernel
theorem dX8_judge_51 : decode cX8_judge 51 = .ok (.iload 4, 2) := by decide +kernel
theorem dX8_judge_53 : decode cX8_judge 53 = .ok (.iload_n 1, 1) := by decide +kernel
theorem dX8_judge_54 : decode cX8_judge 54 = .ok (.if_icmp .ge 38, 3) := by decide +kernel
theorem dX8_judge_57 : decode cX8_judge 57 = .ok (.aload_n 0, 1) := by decide +kernel
theorem dX8_judge_58 : decode cX8_judge 58 = .ok (.lload_n 2, 1) := by decide +kernel
theorem dX8_judge_59 : decode cX8_judge 59 = .ok (.ldc2_w 263, 3) := by decide +kernel
theorem dX8_judge_62 : decode cX8_judge 62 = .ok (.iload_n 1, 1) := by decide +kernel
theorem dX8_judge_63 : decode cX8_judge 63 = .ok (.iconst 1, 1) := by decide +kernel
theorem dX8_judge_64 : decode cX8_judge 64 = .ok (.isub, 1) := by decide +kernel
theorem dX8_judge_65 : decode cX8_judge 65 = .ok (.iload 4, 2) := by decide +kernel
theorem dX8_judge_67 : decode cX8_judge 67 = .ok (.isub, 1) := by decide +kernel
theorem dX8_judge_68 : decode cX8_judge 68 = .ok (.invokestatic 265, 3) := by decide +kernel
theorem dX8_judge_71 : decode cX8_judge 71 = .ok (.ldiv, 1) := by decide +kernel
theorem dX8_judge_72 : decode cX8_judge 72 = .ok (.ldc2_w 263, 3) := by decide +kernel
theorem dX8_judge_75 : decode cX8_judge 75 = .ok (.lrem, 1) := by decide +kernel
theorem dX8_judge_76 : decode cX8_judge 76 = .ok (.l2i, 1) := by decide +kernel
theorem dX8_judge_77 : decode cX8_judge 77 = .ok (.invokevirtual 269, 3) := by decide +kernel
theorem dX8_judge_80 : decode cX8_judge 80 = .ok (.ifCond .ne 6, 3) := by decide +kernel
theorem dX8_judge_83 : decode cX8_judge 83 = .ok (.iload 4, 2) := by decide +kernel
theorem dX8_judge_85 : decode cX8_judge 85 = .ok (.ireturn, 1) := by decide +kernel
theorem dX8_judge_86 : decode cX8_judge 86 = .ok (.iinc 4 1, 3) := by decide +kernel
theorem dX8_judge_89 : decode cX8_judge 89 = .ok (.goto (-38), 3) := by decide +kernel
theorem dX8_judge_92 : decode cX8_judge 92 = .ok (.bipush (-9), 2) := by decide +kernel
theorem dX8_judge_94 : decode cX8_judge 94 = .ok (.ireturn, 1) := by decide +kernel
theorem dX8_see_0 : decode cX8_see 0 = .ok (.aload_n 0, 1) := by decide +kernel
theorem dX8_see_1 : decode cX8_see 1 = .ok (.iconst 0, 1) := by decide +kernel
theorem dX8_see_2 : decode cX8_see 2 = .ok (.putfield 94, 3) := by decide +kernel
theorem dX8_see_5 : decode cX8_see 5 = .ok (.aload_n 0, 1) := by decide +kernel
theorem dX8_see_6 : decode cX8_see 6 = .ok (.iload_n 1, 1) := by decide +kernel
theorem dX8_see_7 : decode cX8_see 7 = .ok (.invokevirtual 148, 3) := by decide +kernel
theorem dX8_see_10 : decode cX8_see 10 = .ok (.ifCond .ne 11, 3) := by decide +kernel
theorem dX8_see_13 : decode cX8_see 13 = .ok (.aload_n 0, 1) := by decide +kernel
theorem dX8_see_14 : decode cX8_see 14 = .ok (.iload_n 2, 1) := by decide +kernel
theorem dX8_see_15 : decode cX8_see 15 = .ok (.invokevirtual 155, 3) := by decide +kernel
theorem dX8_see_18 : decode cX8_see 18 = .ok (.ifCond .eq 5, 3) := by decide +kernel
theorem dX8_see_21 : decode cX8_see 21 = .ok (.iconst (-1), 1) := by decide +kernel
theorem dX8_see_22 : decode cX8_see 22 = .ok (.ireturn, 1) := by decide +kernel
theorem dX8_see_23 : decode cX8_see 23 = .ok (.iload_n 3, 1) := by decide +kernel
theorem dX8_see_24 : decode cX8_see 24 = .ok (.i2l, 1) := by decide +kernel
theorem dX8_see_25 : decode cX8_see 25 = .ok (.lconst 0, 1) := by decide +kernel
theorem dX8_see_26 : decode cX8_see 26 = .ok (.lconst 1, 1) := by decide +kernel
theorem dX8_see_27 : decode cX8_see 27 = .ok (.invokestatic 101, 3) := by decide +kernel
theorem dX8_see_30 : decode cX8_see 30 = .ok (.ifCond .ne 6, 3) := by decide +kernel
theorem dX8_see_33 : decode cX8_see 33 = .ok (.bipush (-2), 2) := by decide +kernel
theorem dX8_see_35 : decode cX8_see 35 = .ok (.ireturn, 1) := by decide +kernel
theorem dX8_see_36 : decode cX8_see 36 = .ok (.aload_n 0, 1) := by decide +kernel
theorem dX8_see_37 : decode cX8_see 37 = .ok (.getfield 196, 3) := by decide +kernel
theorem dX8_see_40 : decode cX8_see 40 = .ok (.bipush 6, 2) := by decide +kernel
theorem dX8_see_42 : decode cX8_see 42 = .ok (.if_icmp .ne 6, 3) := by decide +kernel
theorem dX8_see_45 : decode cX8_see 45 = .ok (.bipush (-4), 2) := by decide +kernel
theorem dX8_see_47 : decode cX8_see 47 = .ok (.ireturn, 1) := by decide +kernel
theorem dX8_see_48 : decode cX8_see 48 = .ok (.aload_n 0, 1) := by decide +kernel
theorem dX8_see_49 : decode cX8_see 49 = .ok (.getfield 65, 3) := by decide +kernel
theorem dX8_see_52 : decode cX8_see 52 = .ok (.aload_n 0, 1) := by decide +kernel
theorem dX8_see_53 : decode cX8_see 53 = .ok (.getfield 196, 3) := by decide +kernel
theorem dX8_see_56 : decode cX8_see 56 = .ok (.iload_n 1, 1) := by decide +kernel
theorem dX8_see_57 : decode cX8_see 57 = .ok (.iastore, 1) := by decide +kernel
theorem dX8_see_58 : decode cX8_see 58 = .ok (.aload_n 0, 1) := by decide +kernel
theorem dX8_see_59 : decode cX8_see 59 = .ok (.getfield 68, 3) := by decide +kernel
theorem dX8_see_62 : decode cX8_see 62 = .ok (.aload_n 0, 1) := by decide +kernel
theorem dX8_see_63 : decode cX8_see 63 = .ok (.getfield 196, 3) := by decide +kernel
theorem dX8_see_66 : decode cX8_see 66 = .ok (.iload_n 2, 1) := by decide +kernel
theorem dX8_see_67 : decode cX8_see 67 = .ok (.iastore, 1) := by decide +kernel
theorem dX8_see_68 : decode cX8_see 68 = .ok (.aload_n 0, 1) := by decide +kernel
theorem dX8_see_69 : decode cX8_see 69 = .ok (.getfield 71, 3) := by decide +kernel
theorem dX8_see_72 : decode cX8_see 72 = .ok (.aload_n 0, 1) := by decide +kernel
theorem dX8_see_73 : decode cX8_see 73 = .ok (.getfield 196, 3) := by decide +kernel
theorem dX8_see_76 : decode cX8_see 76 = .ok (.iload_n 3, 1) := by decide +kernel
theorem dX8_see_77 : decode cX8_see 77 = .ok (.iastore, 1) := by decide +kernel
theorem dX8_see_78 : decode cX8_see 78 = .ok (.aload_n 0, 1) := by decide +kernel
theorem dX8_see_79 : decode cX8_see 79 = .ok (.dup, 1) := by decide +kernel
theorem dX8_see_80 : decode cX8_see 80 = .ok (.getfield 196, 3) := by decide +kernel
theorem dX8_see_83 : decode cX8_see 83 = .ok (.iconst 1, 1) := by decide +kernel
theorem dX8_see_84 : decode cX8_see 84 = .ok (.iadd, 1) := by decide +kernel
theorem dX8_see_85 : decode cX8_see 85 = .ok (.putfield 196, 3) := by decide +kernel
theorem dX8_see_88 : decode cX8_see 88 = .ok (.aload_n 0, 1) := by decide +kernel
theorem dX8_see_89 : decode cX8_see 89 = .ok (.getfield 196, 3) := by decide +kernel
theorem dX8_see_92 : decode cX8_see 92 = .ok (.ireturn, 1) := by decide +kernel
theorem dX8_unsee_0 : decode cX8_unsee 0 = .ok (.aload_n 0, 1) := by decide +kernel
theorem dX8_unsee_1 : decode cX8_unsee 1 = .ok (.iconst 0, 1) := by decide +kernel
theorem dX8_unsee_2 : decode cX8_unsee 2 = .ok (.putfield 94, 3) := by decide +kernel
theorem dX8_unsee_5 : decode cX8_unsee 5 = .ok (.aload_n 0, 1) := by decide +kernel
theorem dX8_unsee_6 : decode cX8_unsee 6 = .ok (.getfield 196, 3) := by decide +kernel
theorem dX8_unsee_9 : decode cX8_unsee 9 = .ok (.istore_n 1, 1) := by decide +kernel
theorem dX8_unsee_10 : decode cX8_unsee 10 = .ok (.aload_n 0, 1) := by decide +kernel
theorem dX8_unsee_11 : decode cX8_unsee 11 = .ok (.iconst 0, 1) := by decide +kernel
theorem dX8_unsee_12 : decode cX8_unsee 12 = .ok (.putfield 196, 3) := by decide +kernel
theorem dX8_unsee_15 : decode cX8_unsee 15 = .ok (.iload_n 1, 1) := by decide +kernel
theorem dX8_unsee_16 : decode cX8_unsee 16 = .ok (.ireturn, 1) := by decide +kernel
theorem dX8_aheadOf_0 : decode cX8_aheadOf 0 = .ok (.aload_n 0, 1) := by decide +kernel
theorem dX8_aheadOf_1 : decode cX8_aheadOf 1 = .ok (.aload_n 1, 1) := by decide +kernel
theorem dX8_aheadOf_2 : decode cX8_aheadOf 2 = .ok (.iconst 0, 1) := by decide +kernel
theorem dX8_aheadOf_3 : decode cX8_aheadOf 3 = .ok (.invokevirtual 223, 3) := by decide +kernel
theorem dX8_aheadOf_6 : decode cX8_aheadOf 6 = .ok (.lconst 0, 1) := by decide +kernel
theorem dX8_aheadOf_7 : decode cX8_aheadOf 7 = .ok (.lstore_n 2, 1) := by decide +kernel
theorem dX8_aheadOf_8 : decode cX8_aheadOf 8 = .ok (.aload_n 0, 1) := by decide +kernel
theorem dX8_aheadOf_9 : decode cX8_aheadOf 9 = .ok (.getfield 216, 3) := by decide +kernel
theorem dX8_aheadOf_12 : decode cX8_aheadOf 12 = .ok (.iconst 1, 1) := by decide +kernel
theorem dX8_aheadOf_13 : decode cX8_aheadOf 13 = .ok (.iadd, 1) := by decide +kernel
theorem dX8_aheadOf_14 : decode cX8_aheadOf 14 = .ok (.istore 4, 2) := by decide +kernel
theorem dX8_aheadOf_16 : decode cX8_aheadOf 16 = .ok (.iload 4, 2) := by decide +kernel
theorem dX8_aheadOf_18 : decode cX8_aheadOf 18 = .ok (.bipush 73, 2) := by decide +kernel
theorem dX8_aheadOf_20 : decode cX8_aheadOf 20 = .ok (.if_icmp .ge 23, 3) := by decide +kernel
theorem dX8_aheadOf_23 : decode cX8_aheadOf 23 = .ok (.lload_n 2, 1) := by decide +kernel
theorem dX8_aheadOf_24 : decode cX8_aheadOf 24 = .ok (.aload_n 0, 1) := by decide +kernel
theorem dX8_aheadOf_25 : decode cX8_aheadOf 25 = .ok (.getfield 74, 3) := by decide +kernel
theorem dX8_aheadOf_28 : decode cX8_aheadOf 28 = .ok (.sipush 584, 3) := by decide +kernel
theorem dX8_aheadOf_31 : decode cX8_aheadOf 31 = .ok (.iload 4, 2) := by decide +kernel
theorem dX8_aheadOf_33 : decode cX8_aheadOf 33 = .ok (.iadd, 1) := by decide +kernel
theorem dX8_aheadOf_34 : decode cX8_aheadOf 34 = .ok (.laload, 1) := by decide +kernel
theorem dX8_aheadOf_35 : decode cX8_aheadOf 35 = .ok (.ladd, 1) := by decide +kernel
theorem dX8_aheadOf_36 : decode cX8_aheadOf 36 = .ok (.lstore_n 2, 1) := by decide +kernel
theorem dX8_aheadOf_37 : decode cX8_aheadOf 37 = .ok (.iinc 4 1, 3) := by decide +kernel
theorem dX8_aheadOf_40 : decode cX8_aheadOf 40 = .ok (.goto (-24), 3) := by decide +kernel
theorem dX8_aheadOf_43 : decode cX8_aheadOf 43 = .ok (.aload_n 0, 1) := by decide +kernel
theorem dX8_aheadOf_44 : decode cX8_aheadOf 44 = .ok (.getfield 216, 3) := by decide +kernel
theorem dX8_aheadOf_47 : decode cX8_aheadOf 47 = .ok (.istore 4, 2) := by decide +kernel
theorem dX8_aheadOf_49 : decode cX8_aheadOf 49 = .ok (.iconst 0, 1) := by decide +kernel
theorem dX8_aheadOf_50 : decode cX8_aheadOf 50 = .ok (.istore 5, 2) := by decide +kernel
theorem dX8_aheadOf_52 : decode cX8_aheadOf 52 = .ok (.bipush 8, 2) := by decide +kernel
theorem dX8_aheadOf_54 : decode cX8_aheadOf 54 = .ok (.istore 6, 2) := by decide +kernel
theorem dX8_aheadOf_56 : decode cX8_aheadOf 56 = .ok (.iconst 0, 1) := by decide +kernel
theorem dX8_aheadOf_57 : decode cX8_aheadOf 57 = .ok (.istore 7, 2) := by decide +kernel
theorem dX8_aheadOf_59 : decode cX8_aheadOf 59 = .ok (.iload 7, 2) := by decide +kernel
theorem dX8_aheadOf_61 : decode cX8_aheadOf 61 = .ok (.aload_n 0, 1) := by decide +kernel
theorem dX8_aheadOf_62 : decode cX8_aheadOf 62 = .ok (.getfield 213, 3) := by decide +kernel
theorem dX8_aheadOf_65 : decode cX8_aheadOf 65 = .ok (.if_icmp .ge 106, 3) := by decide +kernel
theorem dX8_aheadOf_68 : decode cX8_aheadOf 68 = .ok (.iconst 0, 1) := by decide +kernel
theorem dX8_aheadOf_69 : decode cX8_aheadOf 69 = .ok (.istore 8, 2) := by decide +kernel
theorem dX8_aheadOf_71 : decode cX8_aheadOf 71 = .ok (.iload 8, 2) := by decide +kernel
theorem dX8_aheadOf_73 : decode cX8_aheadOf 73 = .ok (.aload_n 0, 1) := by decide +kernel
theorem dX8_aheadOf_74 : decode cX8_aheadOf 74 = .ok (.getfield 84, 3) := by decide +kernel
theorem dX8_aheadOf_77 : decode cX8_aheadOf 77 = .ok (.iload 7, 2) := by decide +kernel
theorem dX8_aheadOf_79 : decode cX8_aheadOf 79 = .ok (.iaload, 1) := by decide +kernel
theorem dX8_aheadOf_80 : decode cX8_aheadOf 80 = .ok (.if_icmp .ge 41, 3) := by decide +kernel
theorem dX8_aheadOf_83 : decode cX8_aheadOf 83 = .ok (.lload_n 2, 1) := by decide +kernel
theorem dX8_aheadOf_84 : decode cX8_aheadOf 84 = .ok (.aload_n 0, 1) := by decide +kernel
theorem dX8_aheadOf_85 : decode cX8_aheadOf 85 = .ok (.aload_n 1, 1) := by decide +kernel
theorem dX8_aheadOf_86 : decode cX8_aheadOf 86 = .ok (.iload 8, 2) := by decide +kernel
theorem dX8_aheadOf_88 : decode cX8_aheadOf 88 = .ok (.iload 5, 2) := by decide +kernel
theorem dX8_aheadOf_90 : decode cX8_aheadOf 90 = .ok (.iload 6, 2) := by decide +kernel
theorem dX8_aheadOf_92 : decode cX8_aheadOf 92 = .ok (.invokevirtual 199, 3) := by decide +kernel
theorem dX8_aheadOf_95 : decode cX8_aheadOf 95 = .ok (.ifCond .eq 17, 3) := by decide +kernel
theorem dX8_aheadOf_98 : decode cX8_aheadOf 98 = .ok (.aload_n 0, 1) := by decide +kernel
theorem dX8_aheadOf_99 : decode cX8_aheadOf 99 = .ok (.aload_n 1, 1) := by decide +kernel
theorem dX8_aheadOf_100 : decode cX8_aheadOf 100 = .ok (.iload 8, 2) := by decide +kernel
theorem dX8_aheadOf_102 : decode cX8_aheadOf 102 = .ok (.iload 5, 2) := by decide +kernel
theorem dX8_aheadOf_104 : decode cX8_aheadOf 104 = .ok (.iload 4, 2) := by decide +kernel
theorem dX8_aheadOf_106 : decode cX8_aheadOf 106 = .ok (.invokevirtual 219, 3) := by decide +kernel
theorem dX8_aheadOf_109 : decode cX8_aheadOf 109 = .ok (.goto 4, 3) := by decide +kernel
theorem dX8_aheadOf_112 : decode cX8_aheadOf 112 = .ok (.lconst 0, 1) := by decide +kernel
theorem dX8_aheadOf_113 : decode cX8_aheadOf 113 = .ok (.ladd, 1) := by decide +kernel
theorem dX8_aheadOf_114 : decode cX8_aheadOf 114 = .ok (.lstore_n 2, 1) := by decide +kernel
theorem dX8_aheadOf_115 : decode cX8_aheadOf 115 = .ok (.iinc 8 1, 3) := by decide +kernel
theorem dX8_aheadOf_118 : decode cX8_aheadOf 118 = .ok (.goto (-47), 3) := by decide +kernel
theorem dX8_aheadOf_121 : decode cX8_aheadOf 121 = .ok (.iload 4, 2) := by decide +kernel
theorem dX8_aheadOf_123 : decode cX8_aheadOf 123 = .ok (.aload_n 1, 1) := by decide +kernel
theorem dX8_aheadOf_124 : decode cX8_aheadOf 124 = .ok (.bipush 11, 2) := by decide +kernel
theorem dX8_aheadOf_126 : decode cX8_aheadOf 126 = .ok (.aload_n 0, 1) := by decide +kernel
theorem dX8_aheadOf_127 : decode cX8_aheadOf 127 = .ok (.getfield 84, 3) := by decide +kernel
theorem dX8_aheadOf_130 : decode cX8_aheadOf 130 = .ok (.iload 7, 2) := by decide +kernel
theorem dX8_aheadOf_132 : decode cX8_aheadOf 132 = .ok (.iaload, 1) := by decide +kernel
theorem dX8_aheadOf_133 : decode cX8_aheadOf 133 = .ok (.iadd, 1) := by decide +kernel
theorem dX8_aheadOf_134 : decode cX8_aheadOf 134 = .ok (.iaload, 1) := by decide +kernel
theorem dX8_aheadOf_135 : decode cX8_aheadOf 135 = .ok (.isub, 1) := by decide +kernel
theorem dX8_aheadOf_136 : decode cX8_aheadOf 136 = .ok (.istore 4, 2) := by decide +kernel
theorem dX8_aheadOf_138 : decode cX8_aheadOf 138 = .ok (.iload 5, 2) := by decide +kernel
theorem dX8_aheadOf_140 : decode cX8_aheadOf 140 = .ok (.aload_n 0, 1) := by decide +kernel
theorem dX8_aheadOf_141 : decode cX8_aheadOf 141 = .ok (.aload_n 0, 1) := by decide +kernel
theorem dX8_aheadOf_142 : decode cX8_aheadOf 142 = .ok (.getfield 84, 3) := by decide +kernel
theorem dX8_aheadOf_145 : decode cX8_aheadOf 145 = .ok (.iload 7, 2) := by decide +kernel
theorem dX8_aheadOf_147 : decode cX8_aheadOf 147 = .ok (.iaload, 1) := by decide +kernel
theorem dX8_aheadOf_148 : decode cX8_aheadOf 148 = .ok (.invokevirtual 152, 3) := by decide +kernel
theorem dX8_aheadOf_151 : decode cX8_aheadOf 151 = .ok (.iconst 1, 1) := by decide +kernel
theorem dX8_aheadOf_152 : decode cX8_aheadOf 152 = .ok (.iadd, 1) := by decide +kernel
theorem dX8_aheadOf_153 : decode cX8_aheadOf 153 = .ok (.iadd, 1) := by decide +kernel
theorem dX8_aheadOf_154 : decode cX8_aheadOf 154 = .ok (.istore 5, 2) := by decide +kernel
theorem dX8_aheadOf_156 : decode cX8_aheadOf 156 = .ok (.aload_n 0, 1) := by decide +kernel
theorem dX8_aheadOf_157 : decode cX8_aheadOf 157 = .ok (.getfield 84, 3) := by decide +kernel
theorem dX8_aheadOf_160 : decode cX8_aheadOf 160 = .ok (.iload 7, 2) := by decide +kernel
theorem dX8_aheadOf_162 : decode cX8_aheadOf 162 = .ok (.iaload, 1) := by decide +kernel
theorem dX8_aheadOf_163 : decode cX8_aheadOf 163 = .ok (.istore 6, 2) := by decide +kernel
theorem dX8_aheadOf_165 : decode cX8_aheadOf 165 = .ok (.iinc 7 1, 3) := by decide +kernel
theorem dX8_aheadOf_168 : decode cX8_aheadOf 168 = .ok (.goto (-109), 3) := by decide +kernel
theorem dX8_aheadOf_171 : decode cX8_aheadOf 171 = .ok (.lload_n 2, 1) := by decide +kernel
theorem dX8_aheadOf_172 : decode cX8_aheadOf 172 = .ok (.lreturn, 1) := by decide +kernel
theorem dX8_which_0 : decode cX8_which 0 = .ok (.aload_n 0, 1) := by decide +kernel
theorem dX8_which_1 : decode cX8_which 1 = .ok (.iconst 0, 1) := by decide +kernel
theorem dX8_which_2 : decode cX8_which 2 = .ok (.putfield 94, 3) := by decide +kernel
theorem dX8_which_5 : decode cX8_which 5 = .ok (.iload_n 1, 1) := by decide +kernel
theorem dX8_which_6 : decode cX8_which 6 = .ok (.i2l, 1) := by decide +kernel
theorem dX8_which_7 : decode cX8_which 7 = .ok (.lconst 0, 1) := by decide +kernel
theorem dX8_which_8 : decode cX8_which 8 = .ok (.lconst 1, 1) := by decide +kernel
theorem dX8_which_9 : decode cX8_which 9 = .ok (.invokestatic 101, 3) := by decide +kernel
theorem dX8_which_12 : decode cX8_which 12 = .ok (.ifCond .ne 7, 3) := by decide +kernel
theorem dX8_which_15 : decode cX8_which 15 = .ok (.ldc2_w 255, 3) := by decide +kernel
theorem dX8_which_18 : decode cX8_which 18 = .ok (.lreturn, 1) := by decide +kernel
theorem dX8_which_19 : decode cX8_which 19 = .ok (.aload_n 0, 1) := by decide +kernel
theorem dX8_which_20 : decode cX8_which 20 = .ok (.aload_n 0, 1) := by decide +kernel
theorem dX8_which_21 : decode cX8_which 21 = .ok (.getfield 50, 3) := by decide +kernel
theorem dX8_which_24 : decode cX8_which 24 = .ok (.iconst 1, 1) := by decide +kernel
theorem dX8_which_25 : decode cX8_which 25 = .ok (.invokevirtual 223, 3) := by decide +kernel
theorem dX8_which_28 : decode cX8_which 28 = .ok (.lconst 0, 1) := by decide +kernel
theorem dX8_which_29 : decode cX8_which 29 = .ok (.lstore_n 2, 1) := by decide +kernel
theorem dX8_which_30 : decode cX8_which 30 = .ok (.bipush (-9), 2) := by decide +kernel
theorem dX8_which_32 : decode cX8_which 32 = .ok (.istore 4, 2) := by decide +kernel
theorem dX8_which_34 : decode cX8_which 34 = .ok (.iconst 0, 1) := by decide +kernel
theorem dX8_which_35 : decode cX8_which 35 = .ok (.istore 5, 2) := by decide +kernel
theorem dX8_which_37 : decode cX8_which 37 = .ok (.iload 5, 2) := by decide +kernel
theorem dX8_which_39 : decode cX8_which 39 = .ok (.bipush 73, 2) := by decide +kernel
theorem dX8_which_41 : decode cX8_which 41 = .ok (.if_icmp .ge 57, 3) := by decide +kernel
theorem dX8_which_44 : decode cX8_which 44 = .ok (.aload_n 0, 1) := by decide +kernel
theorem dX8_which_45 : decode cX8_which 45 = .ok (.getfield 50, 3) := by decide +kernel
theorem dX8_which_48 : decode cX8_which 48 = .ok (.iconst 0, 1) := by decide +kernel
theorem dX8_which_49 : decode cX8_which 49 = .ok (.iaload, 1) := by decide +kernel
theorem dX8_which_50 : decode cX8_which 50 = .ok (.ifCond .le 48, 3) := by decide +kernel
theorem dX8_which_53 : decode cX8_which 53 = .ok (.lload_n 2, 1) := by decide +kernel
theorem dX8_which_54 : decode cX8_which 54 = .ok (.aload_n 0, 1) := by decide +kernel
theorem dX8_which_55 : decode cX8_which 55 = .ok (.getfield 74, 3) := by decide +kernel
theorem dX8_which_58 : decode cX8_which 58 = .ok (.sipush 584, 3) := by decide +kernel
theorem dX8_which_61 : decode cX8_which 61 = .ok (.iload 5, 2) := by decide +kernel
theorem dX8_which_63 : decode cX8_which 63 = .ok (.iadd, 1) := by decide +kernel
theorem dX8_which_64 : decode cX8_which 64 = .ok (.laload, 1) := by decide +kernel
theorem dX8_which_65 : decode cX8_which 65 = .ok (.ladd, 1) := by decide +kernel
theorem dX8_which_66 : decode cX8_which 66 = .ok (.lstore_n 2, 1) := by decide +kernel
theorem dX8_which_67 : decode cX8_which 67 = .ok (.aload_n 0, 1) := by decide +kernel
theorem dX8_which_68 : decode cX8_which 68 = .ok (.getfield 74, 3) := by decide +kernel
theorem dX8_which_71 : decode cX8_which 71 = .ok (.sipush 584, 3) := by decide +kernel
theorem dX8_which_74 : decode cX8_which 74 = .ok (.iload 5, 2) := by decide +kernel
theorem dX8_which_76 : decode cX8_which 76 = .ok (.iadd, 1) := by decide +kernel
theorem dX8_which_77 : decode cX8_which 77 = .ok (.laload, 1) := by decide +kernel
theorem dX8_which_78 : decode cX8_which 78 = .ok (.lconst 0, 1) := by decide +kernel
theorem dX8_which_79 : decode cX8_which 79 = .ok (.lcmp, 1) := by decide +kernel
theorem dX8_which_80 : decode cX8_which 80 = .ok (.ifCond .le 8, 3) := by decide +kernel
theorem dX8_which_83 : decode cX8_which 83 = .ok (.iload 5, 2) := by decide +kernel
theorem dX8_which_85 : decode cX8_which 85 = .ok (.goto 5, 3) := by decide +kernel
theorem dX8_which_88 : decode cX8_which 88 = .ok (.iload 4, 2) := by decide +kernel
theorem dX8_which_90 : decode cX8_which 90 = .ok (.istore 4, 2) := by decide +kernel
theorem dX8_which_92 : decode cX8_which 92 = .ok (.iinc 5 1, 3) := by decide +kernel
theorem dX8_which_95 : decode cX8_which 95 = .ok (.goto (-58), 3) := by decide +kernel
theorem dX8_which_98 : decode cX8_which 98 = .ok (.iload_n 1, 1) := by decide +kernel
theorem dX8_which_99 : decode cX8_which 99 = .ok (.ifCond .ne 5, 3) := by decide +kernel
theorem dX8_which_102 : decode cX8_which 102 = .ok (.lload_n 2, 1) := by decide +kernel
theorem dX8_which_103 : decode cX8_which 103 = .ok (.lreturn, 1) := by decide +kernel
theorem dX8_which_104 : decode cX8_which 104 = .ok (.iload 4, 2) := by decide +kernel
theorem dX8_which_106 : decode cX8_which 106 = .ok (.bipush (-9), 2) := by decide +kernel
theorem dX8_which_108 : decode cX8_which 108 = .ok (.if_icmp .ne 7, 3) := by decide +kernel
theorem dX8_which_111 : decode cX8_which 111 = .ok (.ldc2_w 272, 3) := by decide +kernel
theorem dX8_which_114 : decode cX8_which 114 = .ok (.lreturn, 1) := by decide +kernel
theorem dX8_which_115 : decode cX8_which 115 = .ok (.aload_n 0, 1) := by decide +kernel
theorem dX8_which_116 : decode cX8_which 116 = .ok (.aload_n 0, 1) := by decide +kernel
theorem dX8_which_117 : decode cX8_which 117 = .ok (.getfield 50, 3) := by decide +kernel
theorem dX8_which_120 : decode cX8_which 120 = .ok (.iload 4, 2) := by decide +kernel
theorem dX8_which_122 : decode cX8_which 122 = .ok (.lconst 0, 1) := by decide +kernel
theorem dX8_which_123 : decode cX8_which 123 = .ok (.iconst 1, 1) := by decide +kernel
theorem dX8_which_124 : decode cX8_which 124 = .ok (.invokevirtual 227, 3) := by decide +kernel
theorem dX8_which_127 : decode cX8_which 127 = .ok (.aload_n 0, 1) := by decide +kernel
theorem dX8_which_128 : decode cX8_which 128 = .ok (.aload_n 0, 1) := by decide +kernel
theorem dX8_which_129 : decode cX8_which 129 = .ok (.getfield 50, 3) := by decide +kernel
theorem dX8_which_132 : decode cX8_which 132 = .ok (.invokevirtual 274, 3) := by decide +kernel
theorem dX8_which_135 : decode cX8_which 135 = .ok (.lreturn, 1) := by decide +kernel
theorem dX8_divisor_0 : decode cX8_divisor 0 = .ok (.lload_n 0, 1) := by decide +kernel
theorem dX8_divisor_1 : decode cX8_divisor 1 = .ok (.lconst 0, 1) := by decide +kernel
theorem dX8_divisor_2 : decode cX8_divisor 2 = .ok (.lcmp, 1) := by decide +kernel
theorem dX8_divisor_3 : decode cX8_divisor 3 = .ok (.ifCond .ge 8, 3) := by decide +kernel
theorem dX8_divisor_6 : decode cX8_divisor 6 = .ok (.lload_n 0, 1) := by decide +kernel
theorem dX8_divisor_7 : decode cX8_divisor 7 = .ok (.lneg, 1) := by decide +kernel
theorem dX8_divisor_8 : decode cX8_divisor 8 = .ok (.goto 4, 3) := by decide +kernel
theorem dX8_divisor_11 : decode cX8_divisor 11 = .ok (.lload_n 0, 1) := by decide +kernel
theorem dX8_divisor_12 : decode cX8_divisor 12 = .ok (.lstore 4, 2) := by decide +kernel
theorem dX8_divisor_14 : decode cX8_divisor 14 = .ok (.lload_n 2, 1) := by decide +kernel
theorem dX8_divisor_15 : decode cX8_divisor 15 = .ok (.lstore 6, 2) := by decide +kernel
theorem dX8_divisor_17 : decode cX8_divisor 17 = .ok (.lload 6, 2) := by decide +kernel
theorem dX8_divisor_19 : decode cX8_divisor 19 = .ok (.lconst 0, 1) := by decide +kernel
theorem dX8_divisor_20 : decode cX8_divisor 20 = .ok (.lcmp, 1) := by decide +kernel
theorem dX8_divisor_21 : decode cX8_divisor 21 = .ok (.ifCond .eq 21, 3) := by decide +kernel
theorem dX8_divisor_24 : decode cX8_divisor 24 = .ok (.lload 4, 2) := by decide +kernel
theorem dX8_divisor_26 : decode cX8_divisor 26 = .ok (.lload 6, 2) := by decide +kernel
theorem dX8_divisor_28 : decode cX8_divisor 28 = .ok (.lrem, 1) := by decide +kernel
theorem dX8_divisor_29 : decode cX8_divisor 29 = .ok (.lstore 8, 2) := by decide +kernel
theorem dX8_divisor_31 : decode cX8_divisor 31 = .ok (.lload 6, 2) := by decide +kernel
theorem dX8_divisor_33 : decode cX8_divisor 33 = .ok (.lstore 4, 2) := by decide +kernel
theorem dX8_divisor_35 : decode cX8_divisor 35 = .ok (.lload 8, 2) := by decide +kernel
theorem dX8_divisor_37 : decode cX8_divisor 37 = .ok (.lstore 6, 2) := by decide +kernel
theorem dX8_divisor_39 : decode cX8_divisor 39 = .ok (.goto (-22), 3) := by decide +kernel
theorem dX8_divisor_42 : decode cX8_divisor 42 = .ok (.lload 4, 2) := by decide +kernel
theorem dX8_divisor_44 : decode cX8_divisor 44 = .ok (.lreturn, 1) := by decide +kernel
theorem dX8_fraction_0 : decode cX8_fraction 0 = .ok (.lload_n 0, 1) := by decide +kernel
theorem dX8_fraction_1 : decode cX8_fraction 1 = .ok (.lload_n 2, 1) := by decide +kernel
theorem dX8_fraction_2 : decode cX8_fraction 2 = .ok (.invokestatic 277, 3) := by decide +kernel
theorem dX8_fraction_5 : decode cX8_fraction 5 = .ok (.lstore 5, 2) := by decide +kernel
theorem dX8_fraction_7 : decode cX8_fraction 7 = .ok (.iload 4, 2) := by decide +kernel
theorem dX8_fraction_9 : decode cX8_fraction 9 = .ok (.ifCond .eq 10, 3) := by decide +kernel
theorem dX8_fraction_12 : decode cX8_fraction 12 = .ok (.lload_n 0, 1) := by decide +kernel
theorem dX8_fraction_13 : decode cX8_fraction 13 = .ok (.lload 5, 2) := by decide +kernel
theorem dX8_fraction_15 : decode cX8_fraction 15 = .ok (.ldiv, 1) := by decide +kernel
theorem dX8_fraction_16 : decode cX8_fraction 16 = .ok (.goto 7, 3) := by decide +kernel
theorem dX8_fraction_19 : decode cX8_fraction 19 = .ok (.lload_n 2, 1) := by decide +kernel
theorem dX8_fraction_20 : decode cX8_fraction 20 = .ok (.lload 5, 2) := by decide +kernel
theorem dX8_fraction_22 : decode cX8_fraction 22 = .ok (.ldiv, 1) := by decide +kernel
theorem dX8_fraction_23 : decode cX8_fraction 23 = .ok (.lreturn, 1) := by decide +kernel
theorem dX8_factorial_0 : decode cX8_factorial 0 = .ok (.lconst 1, 1) := by decide +kernel
theorem dX8_factorial_1 : decode cX8_factorial 1 = .ok (.lstore_n 1, 1) := by decide +kernel
theorem dX8_factorial_2 : decode cX8_factorial 2 = .ok (.iconst 2, 1) := by decide +kernel
theorem dX8_factorial_3 : decode cX8_factorial 3 = .ok (.istore_n 3, 1) := by decide +kernel
theorem dX8_factorial_4 : decode cX8_factorial 4 = .ok (.iload_n 3, 1) := by decide +kernel
theorem dX8_factorial_5 : decode cX8_factorial 5 = .ok (.iload_n 0, 1) := by decide +kernel
theorem dX8_factorial_6 : decode cX8_factorial 6 = .ok (.if_icmp .gt 14, 3) := by decide +kernel
theorem dX8_factorial_9 : decode cX8_factorial 9 = .ok (.lload_n 1, 1) := by decide +kernel
theorem dX8_factorial_10 : decode cX8_factorial 10 = .ok (.iload_n 3, 1) := by decide +kernel
theorem dX8_factorial_11 : decode cX8_factorial 11 = .ok (.i2l, 1) := by decide +kernel
theorem dX8_factorial_12 : decode cX8_factorial 12 = .ok (.lmul, 1) := by decide +kernel
theorem dX8_factorial_13 : decode cX8_factorial 13 = .ok (.lstore_n 1, 1) := by decide +kernel
theorem dX8_factorial_14 : decode cX8_factorial 14 = .ok (.iinc 3 1, 3) := by decide +kernel
theorem dX8_factorial_17 : decode cX8_factorial 17 = .ok (.goto (-13), 3) := by decide +kernel
theorem dX8_factorial_20 : decode cX8_factorial 20 = .ok (.lload_n 1, 1) := by decide +kernel
theorem dX8_factorial_21 : decode cX8_factorial 21 = .ok (.lreturn, 1) := by decide +kernel
theorem dX8_weighSets_0 : decode cX8_weighSets 0 = .ok (.aload_n 0, 1) := by decide +kernel
theorem dX8_weighSets_1 : decode cX8_weighSets 1 = .ok (.getfield 53, 3) := by decide +kernel
theorem dX8_weighSets_4 : decode cX8_weighSets 4 = .ok (.aload_n 0, 1) := by decide +kernel
theorem dX8_weighSets_5 : decode cX8_weighSets 5 = .ok (.getfield 50, 3) := by decide +kernel
theorem dX8_weighSets_8 : decode cX8_weighSets 8 = .ok (.invokestatic 141, 3) := by decide +kernel
theorem dX8_weighSets_11 : decode cX8_weighSets 11 = .ok (.iconst 0, 1) := by decide +kernel
theorem dX8_weighSets_12 : decode cX8_weighSets 12 = .ok (.istore_n 1, 1) := by decide +kernel
theorem dX8_weighSets_13 : decode cX8_weighSets 13 = .ok (.iload_n 1, 1) := by decide +kernel
theorem dX8_weighSets_14 : decode cX8_weighSets 14 = .ok (.iconst 1, 1) := by decide +kernel
theorem dX8_weighSets_15 : decode cX8_weighSets 15 = .ok (.aload_n 0, 1) := by decide +kernel
theorem dX8_weighSets_16 : decode cX8_weighSets 16 = .ok (.getfield 98, 3) := by decide +kernel
theorem dX8_weighSets_19 : decode cX8_weighSets 19 = .ok (.ishl, 1) := by decide +kernel
theorem dX8_weighSets_20 : decode cX8_weighSets 20 = .ok (.if_icmp .ge 48, 3) := by decide +kernel
theorem dX8_weighSets_23 : decode cX8_weighSets 23 = .ok (.aload_n 0, 1) := by decide +kernel
theorem dX8_weighSets_24 : decode cX8_weighSets 24 = .ok (.getfield 53, 3) := by decide +kernel
theorem dX8_weighSets_27 : decode cX8_weighSets 27 = .ok (.iconst 1, 1) := by decide +kernel
theorem dX8_weighSets_28 : decode cX8_weighSets 28 = .ok (.aload_n 0, 1) := by decide +kernel
theorem dX8_weighSets_29 : decode cX8_weighSets 29 = .ok (.getfield 50, 3) := by decide +kernel
theorem dX8_weighSets_32 : decode cX8_weighSets 32 = .ok (.iconst 1, 1) := by decide +kernel
theorem dX8_weighSets_33 : decode cX8_weighSets 33 = .ok (.iaload, 1) := by decide +kernel
theorem dX8_weighSets_34 : decode cX8_weighSets 34 = .ok (.iconst 1, 1) := by decide +kernel
theorem dX8_weighSets_35 : decode cX8_weighSets 35 = .ok (.aload_n 0, 1) := by decide +kernel
theorem dX8_weighSets_36 : decode cX8_weighSets 36 = .ok (.getfield 98, 3) := by decide +kernel
theorem dX8_weighSets_39 : decode cX8_weighSets 39 = .ok (.ishl, 1) := by decide +kernel
theorem dX8_weighSets_40 : decode cX8_weighSets 40 = .ok (.iconst 1, 1) := by decide +kernel
theorem dX8_weighSets_41 : decode cX8_weighSets 41 = .ok (.isub, 1) := by decide +kernel
theorem dX8_weighSets_42 : decode cX8_weighSets 42 = .ok (.iload_n 1, 1) := by decide +kernel
theorem dX8_weighSets_43 : decode cX8_weighSets 43 = .ok (.iconst (-1), 1) := by decide +kernel
theorem dX8_weighSets_44 : decode cX8_weighSets 44 = .ok (.ixor, 1) := by decide +kernel
theorem dX8_weighSets_45 : decode cX8_weighSets 45 = .ok (.iand, 1) := by decide +kernel
theorem dX8_weighSets_46 : decode cX8_weighSets 46 = .ok (.ior, 1) := by decide +kernel
theorem dX8_weighSets_47 : decode cX8_weighSets 47 = .ok (.iastore, 1) := by decide +kernel
theorem dX8_weighSets_48 : decode cX8_weighSets 48 = .ok (.aload_n 0, 1) := by decide +kernel
theorem dX8_weighSets_49 : decode cX8_weighSets 49 = .ok (.getfield 87, 3) := by decide +kernel
theorem dX8_weighSets_52 : decode cX8_weighSets 52 = .ok (.iload_n 1, 1) := by decide +kernel
theorem dX8_weighSets_53 : decode cX8_weighSets 53 = .ok (.aload_n 0, 1) := by decide +kernel
theorem dX8_weighSets_54 : decode cX8_weighSets 54 = .ok (.aload_n 0, 1) := by decide +kernel
theorem dX8_weighSets_55 : decode cX8_weighSets 55 = .ok (.getfield 53, 3) := by decide +kernel
theorem dX8_weighSets_58 : decode cX8_weighSets 58 = .ok (.invokevirtual 231, 3) := by decide +kernel
theorem dX8_weighSets_61 : decode cX8_weighSets 61 = .ok (.lastore, 1) := by decide +kernel
theorem dX8_weighSets_62 : decode cX8_weighSets 62 = .ok (.iinc 1 1, 3) := by decide +kernel
theorem dX8_weighSets_65 : decode cX8_weighSets 65 = .ok (.goto (-52), 3) := by decide +kernel
theorem dX8_weighSets_68 : decode cX8_weighSets 68 = .ok (.return_, 1) := by decide +kernel
theorem dX8_share_0 : decode cX8_share 0 = .ok (.aload_n 0, 1) := by decide +kernel
theorem dX8_share_1 : decode cX8_share 1 = .ok (.iconst 0, 1) := by decide +kernel
theorem dX8_share_2 : decode cX8_share 2 = .ok (.putfield 94, 3) := by decide +kernel
theorem dX8_share_5 : decode cX8_share 5 = .ok (.aload_n 0, 1) := by decide +kernel
theorem dX8_share_6 : decode cX8_share 6 = .ok (.iload_n 1, 1) := by decide +kernel
theorem dX8_share_7 : decode cX8_share 7 = .ok (.invokevirtual 148, 3) := by decide +kernel
theorem dX8_share_10 : decode cX8_share 10 = .ok (.ifCond .eq 7, 3) := by decide +kernel
theorem dX8_share_13 : decode cX8_share 13 = .ok (.ldc2_w 250, 3) := by decide +kernel
theorem dX8_share_16 : decode cX8_share 16 = .ok (.lreturn, 1) := by decide +kernel
theorem dX8_share_17 : decode cX8_share 17 = .ok (.aload_n 0, 1) := by decide +kernel
theorem dX8_share_18 : decode cX8_share 18 = .ok (.invokevirtual 281, 3) := by decide +kernel
theorem dX8_share_21 : decode cX8_share 21 = .ok (.lconst 0, 1) := by decide +kernel
theorem dX8_share_22 : decode cX8_share 22 = .ok (.lstore_n 3, 1) := by decide +kernel
theorem dX8_share_23 : decode cX8_share 23 = .ok (.iconst 0, 1) := by decide +kernel
theorem dX8_share_24 : decode cX8_share 24 = .ok (.istore 5, 2) := by decide +kernel
theorem dX8_share_26 : decode cX8_share 26 = .ok (.iload 5, 2) := by decide +kernel
theorem dX8_share_28 : decode cX8_share 28 = .ok (.iconst 1, 1) := by decide +kernel
theorem dX8_share_29 : decode cX8_share 29 = .ok (.aload_n 0, 1) := by decide +kernel
theorem dX8_share_30 : decode cX8_share 30 = .ok (.getfield 98, 3) := by decide +kernel
theorem dX8_share_33 : decode cX8_share 33 = .ok (.ishl, 1) := by decide +kernel
theorem dX8_share_34 : decode cX8_share 34 = .ok (.if_icmp .ge 70, 3) := by decide +kernel
theorem dX8_share_37 : decode cX8_share 37 = .ok (.iload 5, 2) := by decide +kernel
theorem dX8_share_39 : decode cX8_share 39 = .ok (.invokestatic 284, 3) := by decide +kernel
theorem dX8_share_42 : decode cX8_share 42 = .ok (.istore 6, 2) := by decide +kernel
theorem dX8_share_44 : decode cX8_share 44 = .ok (.lload_n 3, 1) := by decide +kernel
theorem dX8_share_45 : decode cX8_share 45 = .ok (.iload 5, 2) := by decide +kernel
theorem dX8_share_47 : decode cX8_share 47 = .ok (.iload_n 1, 1) := by decide +kernel
theorem dX8_share_48 : decode cX8_share 48 = .ok (.invokestatic 186, 3) := by decide +kernel
theorem dX8_share_51 : decode cX8_share 51 = .ok (.ifCond .eq 7, 3) := by decide +kernel
theorem dX8_share_54 : decode cX8_share 54 = .ok (.lconst 0, 1) := by decide +kernel
theorem dX8_share_55 : decode cX8_share 55 = .ok (.goto 41, 3) := by decide +kernel
theorem dX8_share_58 : decode cX8_share 58 = .ok (.iload 6, 2) := by decide +kernel
theorem dX8_share_60 : decode cX8_share 60 = .ok (.invokestatic 287, 3) := by decide +kernel
theorem dX8_share_63 : decode cX8_share 63 = .ok (.aload_n 0, 1) := by decide +kernel
theorem dX8_share_64 : decode cX8_share 64 = .ok (.getfield 98, 3) := by decide +kernel
theorem dX8_share_67 : decode cX8_share 67 = .ok (.iconst 1, 1) := by decide +kernel
theorem dX8_share_68 : decode cX8_share 68 = .ok (.isub, 1) := by decide +kernel
theorem dX8_share_69 : decode cX8_share 69 = .ok (.iload 6, 2) := by decide +kernel
theorem dX8_share_71 : decode cX8_share 71 = .ok (.isub, 1) := by decide +kernel
theorem dX8_share_72 : decode cX8_share 72 = .ok (.invokestatic 287, 3) := by decide +kernel
theorem dX8_share_75 : decode cX8_share 75 = .ok (.lmul, 1) := by decide +kernel
theorem dX8_share_76 : decode cX8_share 76 = .ok (.aload_n 0, 1) := by decide +kernel
theorem dX8_share_77 : decode cX8_share 77 = .ok (.getfield 87, 3) := by decide +kernel
theorem dX8_share_80 : decode cX8_share 80 = .ok (.iload 5, 2) := by decide +kernel
theorem dX8_share_82 : decode cX8_share 82 = .ok (.iconst 1, 1) := by decide +kernel
theorem dX8_share_83 : decode cX8_share 83 = .ok (.iload_n 1, 1) := by decide +kernel
theorem dX8_share_84 : decode cX8_share 84 = .ok (.ishl, 1) := by decide +kernel
theorem dX8_share_85 : decode cX8_share 85 = .ok (.ior, 1) := by decide +kernel
theorem dX8_share_86 : decode cX8_share 86 = .ok (.laload, 1) := by decide +kernel
theorem dX8_share_87 : decode cX8_share 87 = .ok (.aload_n 0, 1) := by decide +kernel
theorem dX8_share_88 : decode cX8_share 88 = .ok (.getfield 87, 3) := by decide +kernel
theorem dX8_share_91 : decode cX8_share 91 = .ok (.iload 5, 2) := by decide +kernel
theorem dX8_share_93 : decode cX8_share 93 = .ok (.laload, 1) := by decide +kernel
theorem dX8_share_94 : decode cX8_share 94 = .ok (.lsub, 1) := by decide +kernel
theorem dX8_share_95 : decode cX8_share 95 = .ok (.lmul, 1) := by decide +kernel
theorem dX8_share_96 : decode cX8_share 96 = .ok (.ladd, 1) := by decide +kernel
theorem dX8_share_97 : decode cX8_share 97 = .ok (.lstore_n 3, 1) := by decide +kernel
theorem dX8_share_98 : decode cX8_share 98 = .ok (.iinc 5 1, 3) := by decide +kernel
theorem dX8_share_101 : decode cX8_share 101 = .ok (.goto (-75), 3) := by decide +kernel
theorem dX8_share_104 : decode cX8_share 104 = .ok (.lload_n 3, 1) := by decide +kernel
theorem dX8_share_105 : decode cX8_share 105 = .ok (.aload_n 0, 1) := by decide +kernel
theorem dX8_share_106 : decode cX8_share 106 = .ok (.getfield 98, 3) := by decide +kernel
theorem dX8_share_109 : decode cX8_share 109 = .ok (.invokestatic 287, 3) := by decide +kernel
theorem dX8_share_112 : decode cX8_share 112 = .ok (.iload_n 2, 1) := by decide +kernel
theorem dX8_share_113 : decode cX8_share 113 = .ok (.invokestatic 291, 3) := by decide +kernel
theorem dX8_share_116 : decode cX8_share 116 = .ok (.lreturn, 1) := by decide +kernel
theorem dX8_lost_0 : decode cX8_lost 0 = .ok (.aload_n 0, 1) := by decide +kernel
theorem dX8_lost_1 : decode cX8_lost 1 = .ok (.iconst 0, 1) := by decide +kernel
theorem dX8_lost_2 : decode cX8_lost 2 = .ok (.putfield 94, 3) := by decide +kernel
theorem dX8_lost_5 : decode cX8_lost 5 = .ok (.iload_n 1, 1) := by decide +kernel
theorem dX8_lost_6 : decode cX8_lost 6 = .ok (.i2l, 1) := by decide +kernel
theorem dX8_lost_7 : decode cX8_lost 7 = .ok (.lconst 0, 1) := by decide +kernel
theorem dX8_lost_8 : decode cX8_lost 8 = .ok (.ldc2_w 295, 3) := by decide +kernel
theorem dX8_lost_11 : decode cX8_lost 11 = .ok (.invokestatic 101, 3) := by decide +kernel
theorem dX8_lost_14 : decode cX8_lost 14 = .ok (.ifCond .ne 6, 3) := by decide +kernel
theorem dX8_lost_17 : decode cX8_lost 17 = .ok (.bipush (-2), 2) := by decide +kernel
theorem dX8_lost_19 : decode cX8_lost 19 = .ok (.ireturn, 1) := by decide +kernel
theorem dX8_lost_20 : decode cX8_lost 20 = .ok (.aload_n 0, 1) := by decide +kernel
theorem dX8_lost_21 : decode cX8_lost 21 = .ok (.invokevirtual 281, 3) := by decide +kernel
theorem dX8_lost_24 : decode cX8_lost 24 = .ok (.lconst 0, 1) := by decide +kernel
theorem dX8_lost_25 : decode cX8_lost 25 = .ok (.lstore_n 3, 1) := by decide +kernel
theorem dX8_lost_26 : decode cX8_lost 26 = .ok (.iconst 0, 1) := by decide +kernel
theorem dX8_lost_27 : decode cX8_lost 27 = .ok (.istore 5, 2) := by decide +kernel
theorem dX8_lost_29 : decode cX8_lost 29 = .ok (.iload 5, 2) := by decide +kernel
theorem dX8_lost_31 : decode cX8_lost 31 = .ok (.iconst 1, 1) := by decide +kernel
theorem dX8_lost_32 : decode cX8_lost 32 = .ok (.aload_n 0, 1) := by decide +kernel
theorem dX8_lost_33 : decode cX8_lost 33 = .ok (.getfield 98, 3) := by decide +kernel
theorem dX8_lost_36 : decode cX8_lost 36 = .ok (.ishl, 1) := by decide +kernel
theorem dX8_lost_37 : decode cX8_lost 37 = .ok (.if_icmp .ge 57, 3) := by decide +kernel
theorem dX8_lost_40 : decode cX8_lost 40 = .ok (.iload 5, 2) := by decide +kernel
theorem dX8_lost_42 : decode cX8_lost 42 = .ok (.invokestatic 284, 3) := by decide +kernel
theorem dX8_lost_45 : decode cX8_lost 45 = .ok (.istore 6, 2) := by decide +kernel
theorem dX8_lost_47 : decode cX8_lost 47 = .ok (.lload_n 3, 1) := by decide +kernel
theorem dX8_lost_48 : decode cX8_lost 48 = .ok (.aload_n 0, 1) := by decide +kernel
theorem dX8_lost_49 : decode cX8_lost 49 = .ok (.getfield 87, 3) := by decide +kernel
theorem dX8_lost_52 : decode cX8_lost 52 = .ok (.iload 5, 2) := by decide +kernel
theorem dX8_lost_54 : decode cX8_lost 54 = .ok (.laload, 1) := by decide +kernel
theorem dX8_lost_55 : decode cX8_lost 55 = .ok (.lconst 0, 1) := by decide +kernel
theorem dX8_lost_56 : decode cX8_lost 56 = .ok (.lcmp, 1) := by decide +kernel
theorem dX8_lost_57 : decode cX8_lost 57 = .ok (.ifCond .le 28, 3) := by decide +kernel
theorem dX8_lost_60 : decode cX8_lost 60 = .ok (.bipush 10, 2) := by decide +kernel
theorem dX8_lost_62 : decode cX8_lost 62 = .ok (.iload_n 1, 1) := by decide +kernel
theorem dX8_lost_63 : decode cX8_lost 63 = .ok (.isub, 1) := by decide +kernel
theorem dX8_lost_64 : decode cX8_lost 64 = .ok (.iload 6, 2) := by decide +kernel
theorem dX8_lost_66 : decode cX8_lost 66 = .ok (.invokestatic 297, 3) := by decide +kernel
theorem dX8_lost_69 : decode cX8_lost 69 = .ok (.iload_n 1, 1) := by decide +kernel
theorem dX8_lost_70 : decode cX8_lost 70 = .ok (.aload_n 0, 1) := by decide +kernel
theorem dX8_lost_71 : decode cX8_lost 71 = .ok (.getfield 98, 3) := by decide +kernel
theorem dX8_lost_74 : decode cX8_lost 74 = .ok (.iload 6, 2) := by decide +kernel
theorem dX8_lost_76 : decode cX8_lost 76 = .ok (.isub, 1) := by decide +kernel
theorem dX8_lost_77 : decode cX8_lost 77 = .ok (.invokestatic 297, 3) := by decide +kernel
theorem dX8_lost_80 : decode cX8_lost 80 = .ok (.imul, 1) := by decide +kernel
theorem dX8_lost_81 : decode cX8_lost 81 = .ok (.i2l, 1) := by decide +kernel
theorem dX8_lost_82 : decode cX8_lost 82 = .ok (.goto 4, 3) := by decide +kernel
theorem dX8_lost_85 : decode cX8_lost 85 = .ok (.lconst 0, 1) := by decide +kernel
theorem dX8_lost_86 : decode cX8_lost 86 = .ok (.ladd, 1) := by decide +kernel
theorem dX8_lost_87 : decode cX8_lost 87 = .ok (.lstore_n 3, 1) := by decide +kernel
theorem dX8_lost_88 : decode cX8_lost 88 = .ok (.iinc 5 1, 3) := by decide +kernel
theorem dX8_lost_91 : decode cX8_lost 91 = .ok (.goto (-62), 3) := by decide +kernel
theorem dX8_lost_94 : decode cX8_lost 94 = .ok (.lload_n 3, 1) := by decide +kernel
theorem dX8_lost_95 : decode cX8_lost 95 = .ok (.bipush 10, 2) := by decide +kernel
theorem dX8_lost_97 : decode cX8_lost 97 = .ok (.aload_n 0, 1) := by decide +kernel
theorem dX8_lost_98 : decode cX8_lost 98 = .ok (.getfield 98, 3) := by decide +kernel
theorem dX8_lost_101 : decode cX8_lost 101 = .ok (.invokestatic 297, 3) := by decide +kernel
theorem dX8_lost_104 : decode cX8_lost 104 = .ok (.i2l, 1) := by decide +kernel
theorem dX8_lost_105 : decode cX8_lost 105 = .ok (.iload_n 2, 1) := by decide +kernel
theorem dX8_lost_106 : decode cX8_lost 106 = .ok (.invokestatic 291, 3) := by decide +kernel
theorem dX8_lost_109 : decode cX8_lost 109 = .ok (.l2i, 1) := by decide +kernel
theorem dX8_lost_110 : decode cX8_lost 110 = .ok (.ireturn, 1) := by decide +kernel
theorem dX8_seed_0 : decode cX8_seed 0 = .ok (.aload_n 0, 1) := by decide +kernel
theorem dX8_seed_1 : decode cX8_seed 1 = .ok (.iconst 0, 1) := by decide +kernel
theorem dX8_seed_2 : decode cX8_seed 2 = .ok (.putfield 94, 3) := by decide +kernel
theorem dX8_seed_5 : decode cX8_seed 5 = .ok (.aload_n 0, 1) := by decide +kernel
theorem dX8_seed_6 : decode cX8_seed 6 = .ok (.getfield 301, 3) := by decide +kernel
theorem dX8_seed_9 : decode cX8_seed 9 = .ok (.lstore_n 3, 1) := by decide +kernel
theorem dX8_seed_10 : decode cX8_seed 10 = .ok (.aload_n 0, 1) := by decide +kernel
theorem dX8_seed_11 : decode cX8_seed 11 = .ok (.lload_n 1, 1) := by decide +kernel
theorem dX8_seed_12 : decode cX8_seed 12 = .ok (.putfield 301, 3) := by decide +kernel
theorem dX8_seed_15 : decode cX8_seed 15 = .ok (.lload_n 3, 1) := by decide +kernel
theorem dX8_seed_16 : decode cX8_seed 16 = .ok (.lreturn, 1) := by decide +kernel
theorem dX8_drawn_0 : decode cX8_drawn 0 = .ok (.aload_n 0, 1) := by decide +kernel
theorem dX8_drawn_1 : decode cX8_drawn 1 = .ok (.iconst 0, 1) := by decide +kernel
theorem dX8_drawn_2 : decode cX8_drawn 2 = .ok (.putfield 94, 3) := by decide +kernel
theorem dX8_drawn_5 : decode cX8_drawn 5 = .ok (.iload_n 1, 1) := by decide +kernel
theorem dX8_drawn_6 : decode cX8_drawn 6 = .ok (.i2l, 1) := by decide +kernel
theorem dX8_drawn_7 : decode cX8_drawn 7 = .ok (.lconst 1, 1) := by decide +kernel
theorem dX8_drawn_8 : decode cX8_drawn 8 = .ok (.ldc2_w 305, 3) := by decide +kernel
theorem dX8_drawn_11 : decode cX8_drawn 11 = .ok (.invokestatic 101, 3) := by decide +kernel
theorem dX8_drawn_14 : decode cX8_drawn 14 = .ok (.ifCond .ne 6, 3) := by decide +kernel
theorem dX8_drawn_17 : decode cX8_drawn 17 = .ok (.bipush (-2), 2) := by decide +kernel
theorem dX8_drawn_19 : decode cX8_drawn 19 = .ok (.ireturn, 1) := by decide +kernel
theorem dX8_drawn_20 : decode cX8_drawn 20 = .ok (.aload_n 0, 1) := by decide +kernel
theorem dX8_drawn_21 : decode cX8_drawn 21 = .ok (.aload_n 0, 1) := by decide +kernel
theorem dX8_drawn_22 : decode cX8_drawn 22 = .ok (.getfield 50, 3) := by decide +kernel
theorem dX8_drawn_25 : decode cX8_drawn 25 = .ok (.invokevirtual 231, 3) := by decide +kernel
theorem dX8_drawn_28 : decode cX8_drawn 28 = .ok (.lstore_n 2, 1) := by decide +kernel
theorem dX8_drawn_29 : decode cX8_drawn 29 = .ok (.iconst 0, 1) := by decide +kernel
theorem dX8_drawn_30 : decode cX8_drawn 30 = .ok (.istore 4, 2) := by decide +kernel
theorem dX8_drawn_32 : decode cX8_drawn 32 = .ok (.iconst 0, 1) := by decide +kernel
theorem dX8_drawn_33 : decode cX8_drawn 33 = .ok (.istore 5, 2) := by decide +kernel
theorem dX8_drawn_35 : decode cX8_drawn 35 = .ok (.iload 5, 2) := by decide +kernel
theorem dX8_drawn_37 : decode cX8_drawn 37 = .ok (.iload_n 1, 1) := by decide +kernel
theorem dX8_drawn_38 : decode cX8_drawn 38 = .ok (.if_icmp .ge 64, 3) := by decide +kernel
theorem dX8_drawn_41 : decode cX8_drawn 41 = .ok (.aload_n 0, 1) := by decide +kernel
theorem dX8_drawn_42 : decode cX8_drawn 42 = .ok (.aload_n 0, 1) := by decide +kernel
theorem dX8_drawn_43 : decode cX8_drawn 43 = .ok (.getfield 301, 3) := by decide +kernel
theorem dX8_drawn_46 : decode cX8_drawn 46 = .ok (.ldc2_w 307, 3) := by decide +kernel
theorem dX8_drawn_49 : decode cX8_drawn 49 = .ok (.lmul, 1) := by decide +kernel
theorem dX8_drawn_50 : decode cX8_drawn 50 = .ok (.ldc2_w 309, 3) := by decide +kernel
theorem dX8_drawn_53 : decode cX8_drawn 53 = .ok (.ladd, 1) := by decide +kernel
theorem dX8_drawn_54 : decode cX8_drawn 54 = .ok (.putfield 301, 3) := by decide +kernel
theorem dX8_drawn_57 : decode cX8_drawn 57 = .ok (.iload 4, 2) := by decide +kernel
theorem dX8_drawn_59 : decode cX8_drawn 59 = .ok (.lload_n 2, 1) := by decide +kernel
theorem dX8_drawn_60 : decode cX8_drawn 60 = .ok (.lconst 0, 1) := by decide +kernel
theorem dX8_drawn_61 : decode cX8_drawn 61 = .ok (.lcmp, 1) := by decide +kernel
theorem dX8_drawn_62 : decode cX8_drawn 62 = .ok (.ifCond .le 30, 3) := by decide +kernel
theorem dX8_drawn_65 : decode cX8_drawn 65 = .ok (.aload_n 0, 1) := by decide +kernel
theorem dX8_drawn_66 : decode cX8_drawn 66 = .ok (.aload_n 0, 1) := by decide +kernel
theorem dX8_drawn_67 : decode cX8_drawn 67 = .ok (.getfield 50, 3) := by decide +kernel
theorem dX8_drawn_70 : decode cX8_drawn 70 = .ok (.aload_n 0, 1) := by decide +kernel
theorem dX8_drawn_71 : decode cX8_drawn 71 = .ok (.getfield 301, 3) := by decide +kernel
theorem dX8_drawn_74 : decode cX8_drawn 74 = .ok (.bipush 33, 2) := by decide +kernel
theorem dX8_drawn_76 : decode cX8_drawn 76 = .ok (.lushr, 1) := by decide +kernel
theorem dX8_drawn_77 : decode cX8_drawn 77 = .ok (.lload_n 2, 1) := by decide +kernel
theorem dX8_drawn_78 : decode cX8_drawn 78 = .ok (.lrem, 1) := by decide +kernel
theorem dX8_drawn_79 : decode cX8_drawn 79 = .ok (.invokevirtual 235, 3) := by decide +kernel
theorem dX8_drawn_82 : decode cX8_drawn 82 = .ok (.ifCond .eq 10, 3) := by decide +kernel
theorem dX8_drawn_85 : decode cX8_drawn 85 = .ok (.aload_n 0, 1) := by decide +kernel
theorem dX8_drawn_86 : decode cX8_drawn 86 = .ok (.getfield 216, 3) := by decide +kernel
theorem dX8_drawn_89 : decode cX8_drawn 89 = .ok (.goto 4, 3) := by decide +kernel
theorem dX8_drawn_92 : decode cX8_drawn 92 = .ok (.iconst 0, 1) := by decide +kernel
theorem dX8_drawn_93 : decode cX8_drawn 93 = .ok (.iadd, 1) := by decide +kernel
theorem dX8_drawn_94 : decode cX8_drawn 94 = .ok (.istore 4, 2) := by decide +kernel
theorem dX8_drawn_96 : decode cX8_drawn 96 = .ok (.iinc 5 1, 3) := by decide +kernel
theorem dX8_drawn_99 : decode cX8_drawn 99 = .ok (.goto (-64), 3) := by decide +kernel
theorem dX8_drawn_102 : decode cX8_drawn 102 = .ok (.iload 4, 2) := by decide +kernel
theorem dX8_drawn_104 : decode cX8_drawn 104 = .ok (.ireturn, 1) := by decide +kernel
theorem dX8_keep_0 : decode cX8_keep 0 = .ok (.aload_n 0, 1) := by decide +kernel
theorem dX8_keep_1 : decode cX8_keep 1 = .ok (.iconst 0, 1) := by decide +kernel
theorem dX8_keep_2 : decode cX8_keep 2 = .ok (.putfield 94, 3) := by decide +kernel
theorem dX8_keep_5 : decode cX8_keep 5 = .ok (.iload_n 1, 1) := by decide +kernel
theorem dX8_keep_6 : decode cX8_keep 6 = .ok (.i2l, 1) := by decide +kernel
theorem dX8_keep_7 : decode cX8_keep 7 = .ok (.lconst 0, 1) := by decide +kernel
theorem dX8_keep_8 : decode cX8_keep 8 = .ok (.lconst 1, 1) := by decide +kernel
theorem dX8_keep_9 : decode cX8_keep 9 = .ok (.invokestatic 101, 3) := by decide +kernel
theorem dX8_keep_12 : decode cX8_keep 12 = .ok (.ifCond .ne 5, 3) := by decide +kernel
theorem dX8_keep_15 : decode cX8_keep 15 = .ok (.iconst (-1), 1) := by decide +kernel
theorem dX8_keep_16 : decode cX8_keep 16 = .ok (.ireturn, 1) := by decide +kernel
theorem dX8_keep_17 : decode cX8_keep 17 = .ok (.aload_n 0, 1) := by decide +kernel
theorem dX8_keep_18 : decode cX8_keep 18 = .ok (.getfield 62, 3) := by decide +kernel
theorem dX8_keep_21 : decode cX8_keep 21 = .ok (.iload_n 1, 1) := by decide +kernel
theorem dX8_keep_22 : decode cX8_keep 22 = .ok (.iconst 1, 1) := by decide +kernel
theorem dX8_keep_23 : decode cX8_keep 23 = .ok (.bastore, 1) := by decide +kernel
theorem dX8_keep_24 : decode cX8_keep 24 = .ok (.iconst 0, 1) := by decide +kernel
theorem dX8_keep_25 : decode cX8_keep 25 = .ok (.istore_n 2, 1) := by decide +kernel
theorem dX8_keep_26 : decode cX8_keep 26 = .ok (.iload_n 2, 1) := by decide +kernel
theorem dX8_keep_27 : decode cX8_keep 27 = .ok (.bipush 43, 2) := by decide +kernel
theorem dX8_keep_29 : decode cX8_keep 29 = .ok (.if_icmp .ge 26, 3) := by decide +kernel
theorem dX8_keep_32 : decode cX8_keep 32 = .ok (.aload_n 0, 1) := by decide +kernel
theorem dX8_keep_33 : decode cX8_keep 33 = .ok (.getfield 59, 3) := by decide +kernel
theorem dX8_keep_36 : decode cX8_keep 36 = .ok (.bipush 43, 2) := by decide +kernel
theorem dX8_keep_38 : decode cX8_keep 38 = .ok (.iload_n 1, 1) := by decide +kernel
theorem dX8_keep_39 : decode cX8_keep 39 = .ok (.imul, 1) := by decide +kernel
theorem dX8_keep_40 : decode cX8_keep 40 = .ok (.iload_n 2, 1) := by decide +kernel
theorem dX8_keep_41 : decode cX8_keep 41 = .ok (.iadd, 1) := by decide +kernel
theorem dX8_keep_42 : decode cX8_keep 42 = .ok (.aload_n 0, 1) := by decide +kernel
theorem dX8_keep_43 : decode cX8_keep 43 = .ok (.getfield 50, 3) := by decide +kernel
theorem dX8_keep_46 : decode cX8_keep 46 = .ok (.iload_n 2, 1) := by decide +kernel
theorem dX8_keep_47 : decode cX8_keep 47 = .ok (.iaload, 1) := by decide +kernel
theorem dX8_keep_48 : decode cX8_keep 48 = .ok (.iastore, 1) := by decide +kernel
theorem dX8_keep_49 : decode cX8_keep 49 = .ok (.iinc 2 1, 3) := by decide +kernel
theorem dX8_keep_52 : decode cX8_keep 52 = .ok (.goto (-26), 3) := by decide +kernel
theorem dX8_keep_55 : decode cX8_keep 55 = .ok (.aload_n 0, 1) := by decide +kernel
theorem dX8_keep_56 : decode cX8_keep 56 = .ok (.getfield 98, 3) := by decide +kernel
theorem dX8_keep_59 : decode cX8_keep 59 = .ok (.ireturn, 1) := by decide +kernel
theorem dX8_again_0 : decode cX8_again 0 = .ok (.aload_n 0, 1) := by decide +kernel
theorem dX8_again_1 : decode cX8_again 1 = .ok (.iconst 0, 1) := by decide +kernel
theorem dX8_again_2 : decode cX8_again 2 = .ok (.putfield 94, 3) := by decide +kernel
theorem dX8_again_5 : decode cX8_again 5 = .ok (.iload_n 1, 1) := by decide +kernel
theorem dX8_again_6 : decode cX8_again 6 = .ok (.i2l, 1) := by decide +kernel
theorem dX8_again_7 : decode cX8_again 7 = .ok (.lconst 0, 1) := by decide +kernel
theorem dX8_again_8 : decode cX8_again 8 = .ok (.lconst 1, 1) := by decide +kernel
theorem dX8_again_9 : decode cX8_again 9 = .ok (.invokestatic 101, 3) := by decide +kernel
theorem dX8_again_12 : decode cX8_again 12 = .ok (.ifCond .ne 5, 3) := by decide +kernel
theorem dX8_again_15 : decode cX8_again 15 = .ok (.iconst (-1), 1) := by decide +kernel
theorem dX8_again_16 : decode cX8_again 16 = .ok (.ireturn, 1) := by decide +kernel
theorem dX8_again_17 : decode cX8_again 17 = .ok (.aload_n 0, 1) := by decide +kernel
theorem dX8_again_18 : decode cX8_again 18 = .ok (.getfield 62, 3) := by decide +kernel
theorem dX8_again_21 : decode cX8_again 21 = .ok (.iload_n 1, 1) := by decide +kernel
theorem dX8_again_22 : decode cX8_again 22 = .ok (.baload, 1) := by decide +kernel
theorem dX8_again_23 : decode cX8_again 23 = .ok (.ifCond .ne 6, 3) := by decide +kernel
theorem dX8_again_26 : decode cX8_again 26 = .ok (.bipush (-3), 2) := by decide +kernel
theorem dX8_again_28 : decode cX8_again 28 = .ok (.ireturn, 1) := by decide +kernel
theorem dX8_again_29 : decode cX8_again 29 = .ok (.iconst 0, 1) := by decide +kernel
theorem dX8_again_30 : decode cX8_again 30 = .ok (.istore_n 2, 1) := by decide +kernel
theorem dX8_again_31 : decode cX8_again 31 = .ok (.iload_n 2, 1) := by decide +kernel
theorem dX8_again_32 : decode cX8_again 32 = .ok (.bipush 43, 2) := by decide +kernel
theorem dX8_again_34 : decode cX8_again 34 = .ok (.if_icmp .ge 26, 3) := by decide +kernel
theorem dX8_again_37 : decode cX8_again 37 = .ok (.aload_n 0, 1) := by decide +kernel
theorem dX8_again_38 : decode cX8_again 38 = .ok (.getfield 50, 3) := by decide +kernel
theorem dX8_again_41 : decode cX8_again 41 = .ok (.iload_n 2, 1) := by decide +kernel
theorem dX8_again_42 : decode cX8_again 42 = .ok (.aload_n 0, 1) := by decide +kernel
theorem dX8_again_43 : decode cX8_again 43 = .ok (.getfield 59, 3) := by decide +kernel
theorem dX8_again_46 : decode cX8_again 46 = .ok (.bipush 43, 2) := by decide +kernel
theorem dX8_again_48 : decode cX8_again 48 = .ok (.iload_n 1, 1) := by decide +kernel
theorem dX8_again_49 : decode cX8_again 49 = .ok (.imul, 1) := by decide +kernel
theorem dX8_again_50 : decode cX8_again 50 = .ok (.iload_n 2, 1) := by decide +kernel
theorem dX8_again_51 : decode cX8_again 51 = .ok (.iadd, 1) := by decide +kernel
theorem dX8_again_52 : decode cX8_again 52 = .ok (.iaload, 1) := by decide +kernel
theorem dX8_again_53 : decode cX8_again 53 = .ok (.iastore, 1) := by decide +kernel
theorem dX8_again_54 : decode cX8_again 54 = .ok (.iinc 2 1, 3) := by decide +kernel
theorem dX8_again_57 : decode cX8_again 57 = .ok (.goto (-26), 3) := by decide +kernel
theorem dX8_again_60 : decode cX8_again 60 = .ok (.aload_n 0, 1) := by decide +kernel
theorem dX8_again_61 : decode cX8_again 61 = .ok (.iconst 0, 1) := by decide +kernel
theorem dX8_again_62 : decode cX8_again 62 = .ok (.putfield 145, 3) := by decide +kernel
theorem dX8_again_65 : decode cX8_again 65 = .ok (.aload_n 0, 1) := by decide +kernel
theorem dX8_again_66 : decode cX8_again 66 = .ok (.getfield 98, 3) := by decide +kernel
theorem dX8_again_69 : decode cX8_again 69 = .ok (.ireturn, 1) := by decide +kernel
theorem dX8_count_0 : decode cX8_count 0 = .ok (.aload_n 0, 1) := by decide +kernel
theorem dX8_count_1 : decode cX8_count 1 = .ok (.iconst 0, 1) := by decide +kernel
theorem dX8_count_2 : decode cX8_count 2 = .ok (.putfield 94, 3) := by decide +kernel
theorem dX8_count_5 : decode cX8_count 5 = .ok (.iload_n 1, 1) := by decide +kernel
theorem dX8_count_6 : decode cX8_count 6 = .ok (.tableswitch 85 0 6 #[42, 47, 52, 59, 68, 75, 80], 42) := by decide +kernel
theorem dX8_count_48 : decode cX8_count 48 = .ok (.aload_n 0, 1) := by decide +kernel
theorem dX8_count_49 : decode cX8_count 49 = .ok (.getfield 107, 3) := by decide +kernel
theorem dX8_count_52 : decode cX8_count 52 = .ok (.ireturn, 1) := by decide +kernel
theorem dX8_count_53 : decode cX8_count 53 = .ok (.aload_n 0, 1) := by decide +kernel
theorem dX8_count_54 : decode cX8_count 54 = .ok (.getfield 98, 3) := by decide +kernel
theorem dX8_count_57 : decode cX8_count 57 = .ok (.ireturn, 1) := by decide +kernel
theorem dX8_count_58 : decode cX8_count 58 = .ok (.aload_n 0, 1) := by decide +kernel
theorem dX8_count_59 : decode cX8_count 59 = .ok (.getfield 50, 3) := by decide +kernel
theorem dX8_count_62 : decode cX8_count 62 = .ok (.iconst 0, 1) := by decide +kernel
theorem dX8_count_63 : decode cX8_count 63 = .ok (.iaload, 1) := by decide +kernel
theorem dX8_count_64 : decode cX8_count 64 = .ok (.ireturn, 1) := by decide +kernel
theorem dX8_count_65 : decode cX8_count 65 = .ok (.aload_n 0, 1) := by decide +kernel
theorem dX8_count_66 : decode cX8_count 66 = .ok (.aload_n 0, 1) := by decide +kernel
theorem dX8_count_67 : decode cX8_count 67 = .ok (.getfield 50, 3) := by decide +kernel
theorem dX8_count_70 : decode cX8_count 70 = .ok (.invokevirtual 180, 3) := by decide +kernel
theorem dX8_count_73 : decode cX8_count 73 = .ok (.ireturn, 1) := by decide +kernel
theorem dX8_count_74 : decode cX8_count 74 = .ok (.aload_n 0, 1) := by decide +kernel
theorem dX8_count_75 : decode cX8_count 75 = .ok (.getfield 50, 3) := by decide +kernel
theorem dX8_count_78 : decode cX8_count 78 = .ok (.iconst 1, 1) := by decide +kernel
theorem dX8_count_79 : decode cX8_count 79 = .ok (.iaload, 1) := by decide +kernel
theorem dX8_count_80 : decode cX8_count 80 = .ok (.ireturn, 1) := by decide +kernel
theorem dX8_count_81 : decode cX8_count 81 = .ok (.aload_n 0, 1) := by decide +kernel
theorem dX8_count_82 : decode cX8_count 82 = .ok (.getfield 145, 3) := by decide +kernel
theorem dX8_count_85 : decode cX8_count 85 = .ok (.ireturn, 1) := by decide +kernel
theorem dX8_count_86 : decode cX8_count 86 = .ok (.aload_n 0, 1) := by decide +kernel
theorem dX8_count_87 : decode cX8_count 87 = .ok (.getfield 196, 3) := by decide +kernel
theorem dX8_count_90 : decode cX8_count 90 = .ok (.ireturn, 1) := by decide +kernel
theorem dX8_count_91 : decode cX8_count 91 = .ok (.bipush (-2), 2) := by decide +kernel
theorem dX8_count_93 : decode cX8_count 93 = .ok (.ireturn, 1) := by decide +kernel
theorem dJ6_bitCount_0f7a4_0 : decode cJ6_bitCount_0f7a4 0 = .ok (.iload_n 0, 1) := by decide +kernel
theorem dJ6_bitCount_0f7a4_1 : decode cJ6_bitCount_0f7a4 1 = .ok (.iload_n 0, 1) := by decide +kernel
theorem dJ6_bitCount_0f7a4_2 : decode cJ6_bitCount_0f7a4 2 = .ok (.iconst 1, 1) := by decide +kernel
theorem dJ6_bitCount_0f7a4_3 : decode cJ6_bitCount_0f7a4 3 = .ok (.iushr, 1) := by decide +kernel
theorem dJ6_bitCount_0f7a4_4 : decode cJ6_bitCount_0f7a4 4 = .ok (.ldc_w 265, 3) := by decide +kernel
theorem dJ6_bitCount_0f7a4_7 : decode cJ6_bitCount_0f7a4 7 = .ok (.iand, 1) := by decide +kernel
theorem dJ6_bitCount_0f7a4_8 : decode cJ6_bitCount_0f7a4 8 = .ok (.isub, 1) := by decide +kernel
theorem dJ6_bitCount_0f7a4_9 : decode cJ6_bitCount_0f7a4 9 = .ok (.istore_n 0, 1) := by decide +kernel
theorem dJ6_bitCount_0f7a4_10 : decode cJ6_bitCount_0f7a4 10 = .ok (.iload_n 0, 1) := by decide +kernel
theorem dJ6_bitCount_0f7a4_11 : decode cJ6_bitCount_0f7a4 11 = .ok (.ldc_w 266, 3) := by decide +kernel
theorem dJ6_bitCount_0f7a4_14 : decode cJ6_bitCount_0f7a4 14 = .ok (.iand, 1) := by decide +kernel
theorem dJ6_bitCount_0f7a4_15 : decode cJ6_bitCount_0f7a4 15 = .ok (.iload_n 0, 1) := by decide +kernel
theorem dJ6_bitCount_0f7a4_16 : decode cJ6_bitCount_0f7a4 16 = .ok (.iconst 2, 1) := by decide +kernel
theorem dJ6_bitCount_0f7a4_17 : decode cJ6_bitCount_0f7a4 17 = .ok (.iushr, 1) := by decide +kernel
theorem dJ6_bitCount_0f7a4_18 : decode cJ6_bitCount_0f7a4 18 = .ok (.ldc_w 266, 3) := by decide +kernel
theorem dJ6_bitCount_0f7a4_21 : decode cJ6_bitCount_0f7a4 21 = .ok (.iand, 1) := by decide +kernel
theorem dJ6_bitCount_0f7a4_22 : decode cJ6_bitCount_0f7a4 22 = .ok (.iadd, 1) := by decide +kernel
theorem dJ6_bitCount_0f7a4_23 : decode cJ6_bitCount_0f7a4 23 = .ok (.istore_n 0, 1) := by decide +kernel
theorem dJ6_bitCount_0f7a4_24 : decode cJ6_bitCount_0f7a4 24 = .ok (.iload_n 0, 1) := by decide +kernel
theorem dJ6_bitCount_0f7a4_25 : decode cJ6_bitCount_0f7a4 25 = .ok (.iload_n 0, 1) := by decide +kernel
theorem dJ6_bitCount_0f7a4_26 : decode cJ6_bitCount_0f7a4 26 = .ok (.iconst 4, 1) := by decide +kernel
theorem dJ6_bitCount_0f7a4_27 : decode cJ6_bitCount_0f7a4 27 = .ok (.iushr, 1) := by decide +kernel
theorem dJ6_bitCount_0f7a4_28 : decode cJ6_bitCount_0f7a4 28 = .ok (.iadd, 1) := by decide +kernel
theorem dJ6_bitCount_0f7a4_29 : decode cJ6_bitCount_0f7a4 29 = .ok (.ldc_w 267, 3) := by decide +kernel
theorem dJ6_bitCount_0f7a4_32 : decode cJ6_bitCount_0f7a4 32 = .ok (.iand, 1) := by decide +kernel
theorem dJ6_bitCount_0f7a4_33 : decode cJ6_bitCount_0f7a4 33 = .ok (.istore_n 0, 1) := by decide +kernel
theorem dJ6_bitCount_0f7a4_34 : decode cJ6_bitCount_0f7a4 34 = .ok (.iload_n 0, 1) := by decide +kernel
theorem dJ6_bitCount_0f7a4_35 : decode cJ6_bitCount_0f7a4 35 = .ok (.iload_n 0, 1) := by decide +kernel
theorem dJ6_bitCount_0f7a4_36 : decode cJ6_bitCount_0f7a4 36 = .ok (.bipush 8, 2) := by decide +kernel
theorem dJ6_bitCount_0f7a4_38 : decode cJ6_bitCount_0f7a4 38 = .ok (.iushr, 1) := by decide +kernel
theorem dJ6_bitCount_0f7a4_39 : decode cJ6_bitCount_0f7a4 39 = .ok (.iadd, 1) := by decide +kernel
theorem dJ6_bitCount_0f7a4_40 : decode cJ6_bitCount_0f7a4 40 = .ok (.istore_n 0, 1) := by decide +kernel
theorem dJ6_bitCount_0f7a4_41 : decode cJ6_bitCount_0f7a4 41 = .ok (.iload_n 0, 1) := by decide +kernel
theorem dJ6_bitCount_0f7a4_42 : decode cJ6_bitCount_0f7a4 42 = .ok (.iload_n 0, 1) := by decide +kernel
theorem dJ6_bitCount_0f7a4_43 : decode cJ6_bitCount_0f7a4 43 = .ok (.bipush 16, 2) := by decide +kernel
theorem dJ6_bitCount_0f7a4_45 : decode cJ6_bitCount_0f7a4 45 = .ok (.iushr, 1) := by decide +kernel
theorem dJ6_bitCount_0f7a4_46 : decode cJ6_bitCount_0f7a4 46 = .ok (.iadd, 1) := by decide +kernel
theorem dJ6_bitCount_0f7a4_47 : decode cJ6_bitCount_0f7a4 47 = .ok (.istore_n 0, 1) := by decide +kernel
theorem dJ6_bitCount_0f7a4_48 : decode cJ6_bitCount_0f7a4 48 = .ok (.iload_n 0, 1) := by decide +kernel
theorem dJ6_bitCount_0f7a4_49 : decode cJ6_bitCount_0f7a4 49 = .ok (.bipush 63, 2) := by decide +kernel
theorem dJ6_bitCount_0f7a4_51 : decode cJ6_bitCount_0f7a4 51 = .ok (.iand, 1) := by decide +kernel
theorem dJ6_bitCount_0f7a4_52 : decode cJ6_bitCount_0f7a4 52 = .ok (.ireturn, 1) := by decide +kernel
theorem dJ9_min_7cf53_0 : decode cJ9_min_7cf53 0 = .ok (.iload_n 0, 1) := by decide +kernel
theorem dJ9_min_7cf53_1 : decode cJ9_min_7cf53 1 = .ok (.iload_n 1, 1) := by decide +kernel
theorem dJ9_min_7cf53_2 : decode cJ9_min_7cf53 2 = .ok (.if_icmp .gt 7, 3) := by decide +kernel
theorem dJ9_min_7cf53_5 : decode cJ9_min_7cf53 5 = .ok (.iload_n 0, 1) := by decide +kernel
theorem dJ9_min_7cf53_6 : decode cJ9_min_7cf53 6 = .ok (.goto 4, 3) := by decide +kernel
theorem dJ9_min_7cf53_9 : decode cJ9_min_7cf53 9 = .ok (.iload_n 1, 1) := by decide +kernel
theorem dJ9_min_7cf53_10 : decode cJ9_min_7cf53 10 = .ok (.ireturn, 1) := by decide +kernel
theorem dJ7_fill_d0a16_0 : decode cJ7_fill_d0a16 0 = .ok (.iconst 0, 1) := by decide +kernel
theorem dJ7_fill_d0a16_1 : decode cJ7_fill_d0a16 1 = .ok (.istore_n 3, 1) := by decide +kernel
theorem dJ7_fill_d0a16_2 : decode cJ7_fill_d0a16 2 = .ok (.aload_n 0, 1) := by decide +kernel
theorem dJ7_fill_d0a16_3 : decode cJ7_fill_d0a16 3 = .ok (.arraylength, 1) := by decide +kernel
theorem dJ7_fill_d0a16_4 : decode cJ7_fill_d0a16 4 = .ok (.istore 4, 2) := by decide +kernel
theorem dJ7_fill_d0a16_6 : decode cJ7_fill_d0a16 6 = .ok (.iload_n 3, 1) := by decide +kernel
theorem dJ7_fill_d0a16_7 : decode cJ7_fill_d0a16 7 = .ok (.iload 4, 2) := by decide +kernel
theorem dJ7_fill_d0a16_9 : decode cJ7_fill_d0a16 9 = .ok (.if_icmp .ge 13, 3) := by decide +kernel
theorem dJ7_fill_d0a16_12 : decode cJ7_fill_d0a16 12 = .ok (.aload_n 0, 1) := by decide +kernel
theorem dJ7_fill_d0a16_13 : decode cJ7_fill_d0a16 13 = .ok (.iload_n 3, 1) := by decide +kernel
theorem dJ7_fill_d0a16_14 : decode cJ7_fill_d0a16 14 = .ok (.lload_n 1, 1) := by decide +kernel
theorem dJ7_fill_d0a16_15 : decode cJ7_fill_d0a16 15 = .ok (.lastore, 1) := by decide +kernel
theorem dJ7_fill_d0a16_16 : decode cJ7_fill_d0a16 16 = .ok (.iinc 3 1, 3) := by decide +kernel
theorem dJ7_fill_d0a16_19 : decode cJ7_fill_d0a16 19 = .ok (.goto (-13), 3) := by decide +kernel
theorem dJ7_fill_d0a16_22 : decode cJ7_fill_d0a16 22 = .ok (.return_, 1) := by decide +kernel
theorem dJ7_fill_53178_0 : decode cJ7_fill_53178 0 = .ok (.iconst 0, 1) := by decide +kernel
theorem dJ7_fill_53178_1 : decode cJ7_fill_53178 1 = .ok (.istore_n 2, 1) := by decide +kernel
theorem dJ7_fill_53178_2 : decode cJ7_fill_53178 2 = .ok (.aload_n 0, 1) := by decide +kernel
theorem dJ7_fill_53178_3 : decode cJ7_fill_53178 3 = .ok (.arraylength, 1) := by decide +kernel
theorem dJ7_fill_53178_4 : decode cJ7_fill_53178 4 = .ok (.istore_n 3, 1) := by decide +kernel
theorem dJ7_fill_53178_5 : decode cJ7_fill_53178 5 = .ok (.iload_n 2, 1) := by decide +kernel
theorem dJ7_fill_53178_6 : decode cJ7_fill_53178 6 = .ok (.iload_n 3, 1) := by decide +kernel
theorem dJ7_fill_53178_7 : decode cJ7_fill_53178 7 = .ok (.if_icmp .ge 13, 3) := by decide +kernel
theorem dJ7_fill_53178_10 : decode cJ7_fill_53178 10 = .ok (.aload_n 0, 1) := by decide +kernel
theorem dJ7_fill_53178_11 : decode cJ7_fill_53178 11 = .ok (.iload_n 2, 1) := by decide +kernel
theorem dJ7_fill_53178_12 : decode cJ7_fill_53178 12 = .ok (.iload_n 1, 1) := by decide +kernel
theorem dJ7_fill_53178_13 : decode cJ7_fill_53178 13 = .ok (.iastore, 1) := by decide +kernel
theorem dJ7_fill_53178_14 : decode cJ7_fill_53178 14 = .ok (.iinc 2 1, 3) := by decide +kernel
theorem dJ7_fill_53178_17 : decode cJ7_fill_53178 17 = .ok (.goto (-12), 3) := by decide +kernel
theorem dJ7_fill_53178_20 : decode cJ7_fill_53178 20 = .ok (.return_, 1) := by decide +kernel
theorem dL_law_0 : decode cL_law 0 = .ok (.new 7, 3) := by decide +kernel
theorem dL_law_3 : decode cL_law 3 = .ok (.dup, 1) := by decide +kernel
theorem dL_law_4 : decode cL_law 4 = .ok (.invokespecial 9, 3) := by decide +kernel
theorem dL_law_7 : decode cL_law 7 = .ok (.astore_n 1, 1) := by decide +kernel
theorem dL_law_8 : decode cL_law 8 = .ok (.new 10, 3) := by decide +kernel
theorem dL_law_11 : decode cL_law 11 = .ok (.dup, 1) := by decide +kernel
theorem dL_law_12 : decode cL_law 12 = .ok (.invokespecial 12, 3) := by decide +kernel
theorem dL_law_15 : decode cL_law 15 = .ok (.astore_n 2, 1) := by decide +kernel
theorem dL_law_16 : decode cL_law 16 = .ok (.iconst 0, 1) := by decide +kernel
theorem dL_law_17 : decode cL_law 17 = .ok (.istore_n 3, 1) := by decide +kernel
theorem dL_law_18 : decode cL_law 18 = .ok (.iload_n 3, 1) := by decide +kernel
theorem dL_law_19 : decode cL_law 19 = .ok (.aload_n 0, 1) := by decide +kernel
theorem dL_law_20 : decode cL_law 20 = .ok (.arraylength, 1) := by decide +kernel
theorem dL_law_21 : decode cL_law 21 = .ok (.iconst 4, 1) := by decide +kernel
theorem dL_law_22 : decode cL_law 22 = .ok (.isub, 1) := by decide +kernel
theorem dL_law_23 : decode cL_law 23 = .ok (.if_icmp .gt 1059, 3) := by decide +kernel
theorem dL_law_26 : decode cL_law 26 = .ok (.aload_n 0, 1) := by decide +kernel
theorem dL_law_27 : decode cL_law 27 = .ok (.iload_n 3, 1) := by decide +kernel
theorem dL_law_28 : decode cL_law 28 = .ok (.iaload, 1) := by decide +kernel
theorem dL_law_29 : decode cL_law 29 = .ok (.bipush 31, 2) := by decide +kernel
theorem dL_law_31 : decode cL_law 31 = .ok (.iand, 1) := by decide +kernel
theorem dL_law_32 : decode cL_law 32 = .ok (.tableswitch 1044 0 29 #[136, 159, 172, 185, 198, 231, 254, 287, 310, 343, 366, 409, 442, 455, 488, 502, 565, 599, 633, 656, 719, 762, 775, 799, 849, 898, 952, 975, 998, 1021], 136) := by decide +kernel
theorem dL_law_168 : decode cL_law 168 = .ok (.aload_n 1, 1) := by decide +kernel
theorem dL_law_169 : decode cL_law 169 = .ok (.aload_n 0, 1) := by decide +kernel
theorem dL_law_170 : decode cL_law 170 = .ok (.iload_n 3, 1) := by decide +kernel
theorem dL_law_171 : decode cL_law 171 = .ok (.iconst 1, 1) := by decide +kernel
theorem dL_law_172 : decode cL_law 172 = .ok (.iadd, 1) := by decide +kernel
theorem dL_law_173 : decode cL_law 173 = .ok (.iaload, 1) := by decide +kernel
theorem dL_law_174 : decode cL_law 174 = .ok (.invokevirtual 13, 3) := by decide +kernel
theorem dL_law_177 : decode cL_law 177 = .ok (.aload_n 2, 1) := by decide +kernel
theorem dL_law_178 : decode cL_law 178 = .ok (.aload_n 0, 1) := by decide +kernel
theorem dL_law_179 : decode cL_law 179 = .ok (.iload_n 3, 1) := by decide +kernel
theorem dL_law_180 : decode cL_law 180 = .ok (.iconst 1, 1) := by decide +kernel
theorem dL_law_181 : decode cL_law 181 = .ok (.iadd, 1) := by decide +kernel
theorem dL_law_182 : decode cL_law 182 = .ok (.iaload, 1) := by decide +kernel
theorem dL_law_183 : decode cL_law 183 = .ok (.invokevirtual 17, 3) := by decide +kernel
theorem dL_law_186 : decode cL_law 186 = .ok (.if_icmp .eq 890, 3) := by decide +kernel
theorem dL_law_189 : decode cL_law 189 = .ok (.iconst 0, 1) := by decide +kernel
theorem dL_law_190 : decode cL_law 190 = .ok (.ireturn, 1) := by decide +kernel
theorem dL_law_191 : decode cL_law 191 = .ok (.aload_n 1, 1) := by decide +kernel
theorem dL_law_192 : decode cL_law 192 = .ok (.invokevirtual 18, 3) := by decide +kernel
theorem dL_law_195 : decode cL_law 195 = .ok (.aload_n 2, 1) := by decide +kernel
theorem dL_law_196 : decode cL_law 196 = .ok (.invokevirtual 22, 3) := by decide +kernel
theorem dL_law_199 : decode cL_law 199 = .ok (.if_icmp .eq 877, 3) := by decide +kernel
theorem dL_law_202 : decode cL_law 202 = .ok (.iconst 0, 1) := by decide +kernel
theorem dL_law_203 : decode cL_law 203 = .ok (.ireturn, 1) := by decide +kernel
theorem dL_law_204 : decode cL_law 204 = .ok (.aload_n 1, 1) := by decide +kernel
theorem dL_law_205 : decode cL_law 205 = .ok (.invokevirtual 23, 3) := by decide +kernel
theorem dL_law_208 : decode cL_law 208 = .ok (.aload_n 2, 1) := by decide +kernel
theorem dL_law_209 : decode cL_law 209 = .ok (.invokevirtual 26, 3) := by decide +kernel
theorem dL_law_212 : decode cL_law 212 = .ok (.if_icmp .eq 864, 3) := by decide +kernel
theorem dL_law_215 : decode cL_law 215 = .ok (.iconst 0, 1) := by decide +kernel
theorem dL_law_216 : decode cL_law 216 = .ok (.ireturn, 1) := by decide +kernel
theorem dL_law_217 : decode cL_law 217 = .ok (.aload_n 1, 1) := by decide +kernel
theorem dL_law_218 : decode cL_law 218 = .ok (.invokevirtual 27, 3) := by decide +kernel
theorem dL_law_221 : decode cL_law 221 = .ok (.aload_n 2, 1) := by decide +kernel
theorem dL_law_222 : decode cL_law 222 = .ok (.invokevirtual 30, 3) := by decide +kernel
theorem dL_law_225 : decode cL_law 225 = .ok (.if_icmp .eq 851, 3) := by decide +kernel
theorem dL_law_228 : decode cL_law 228 = .ok (.iconst 0, 1) := by decide +kernel
theorem dL_law_229 : decode cL_law 229 = .ok (.ireturn, 1) := by decide +kernel
theorem dL_law_230 : decode cL_law 230 = .ok (.aload_n 1, 1) := by decide +kernel
theorem dL_law_231 : decode cL_law 231 = .ok (.aload_n 0, 1) := by decide +kernel
theorem dL_law_232 : decode cL_law 232 = .ok (.iload_n 3, 1) := by decide +kernel
theorem dL_law_233 : decode cL_law 233 = .ok (.iconst 1, 1) := by decide +kernel
theorem dL_law_234 : decode cL_law 234 = .ok (.iadd, 1) := by decide +kernel
theorem dL_law_235 : decode cL_law 235 = .ok (.iaload, 1) := by decide +kernel
theorem dL_law_236 : decode cL_law 236 = .ok (.aload_n 0, 1) := by decide +kernel
theorem dL_law_237 : decode cL_law 237 = .ok (.iload_n 3, 1) := by decide +kernel
theorem dL_law_238 : decode cL_law 238 = .ok (.iconst 2, 1) := by decide +kernel
theorem dL_law_239 : decode cL_law 239 = .ok (.iadd, 1) := by decide +kernel
theorem dL_law_240 : decode cL_law 240 = .ok (.iaload, 1) := by decide +kernel
theorem dL_law_241 : decode cL_law 241 = .ok (.invokevirtual 31, 3) := by decide +kernel
theorem dL_law_244 : decode cL_law 244 = .ok (.aload_n 2, 1) := by decide +kernel
theorem dL_law_245 : decode cL_law 245 = .ok (.aload_n 0, 1) := by decide +kernel
theorem dL_law_246 : decode cL_law 246 = .ok (.iload_n 3, 1) := by decide +kernel
theorem dL_law_247 : decode cL_law 247 = .ok (.iconst 1, 1) := by decide +kernel
theorem dL_law_248 : decode cL_law 248 = .ok (.iadd, 1) := by decide +kernel
theorem dL_law_249 : decode cL_law 249 = .ok (.iaload, 1) := by decide +kernel
theorem dL_law_250 : decode cL_law 250 = .ok (.aload_n 0, 1) := by decide +kernel
theorem dL_law_251 : decode cL_law 251 = .ok (.iload_n 3, 1) := by decide +kernel
theorem dL_law_252 : decode cL_law 252 = .ok (.iconst 2, 1) := by decide +kernel
theorem dL_law_253 : decode cL_law 253 = .ok (.iadd, 1) := by decide +kernel
theorem dL_law_254 : decode cL_law 254 = .ok (.iaload, 1) := by decide +kernel
theorem dL_law_255 : decode cL_law 255 = .ok (.invokevirtual 35, 3) := by decide +kernel
theorem dL_law_258 : decode cL_law 258 = .ok (.if_icmp .eq 818, 3) := by decide +kernel
theorem dL_law_261 : decode cL_law 261 = .ok (.iconst 0, 1) := by decide +kernel
theorem dL_law_262 : decode cL_law 262 = .ok (.ireturn, 1) := by decide +kernel
theorem dL_law_263 : decode cL_law 263 = .ok (.aload_n 1, 1) := by decide +kernel
theorem dL_law_264 : decode cL_law 264 = .ok (.aload_n 0, 1) := by decide +kernel
theorem dL_law_265 : decode cL_law 265 = .ok (.iload_n 3, 1) := by decide +kernel
theorem dL_law_266 : decode cL_law 266 = .ok (.iconst 1, 1) := by decide +kernel
theorem dL_law_267 : decode cL_law 267 = .ok (.iadd, 1) := by decide +kernel
theorem dL_law_268 : decode cL_law 268 = .ok (.iaload, 1) := by decide +kernel
theorem dL_law_269 : decode cL_law 269 = .ok (.invokevirtual 36, 3) := by decide +kernel
theorem dL_law_272 : decode cL_law 272 = .ok (.aload_n 2, 1) := by decide +kernel
theorem dL_law_273 : decode cL_law 273 = .ok (.aload_n 0, 1) := by decide +kernel
theorem dL_law_274 : decode cL_law 274 = .ok (.iload_n 3, 1) := by decide +kernel
theorem dL_law_275 : decode cL_law 275 = .ok (.iconst 1, 1) := by decide +kernel
theorem dL_law_276 : decode cL_law 276 = .ok (.iadd, 1) := by decide +kernel
theorem dL_law_277 : decode cL_law 277 = .ok (.iaload, 1) := by decide +kernel
theorem dL_law_278 : decode cL_law 278 = .ok (.invokevirtual 39, 3) := by decide +kernel
theorem dL_law_281 : decode cL_law 281 = .ok (.if_icmp .eq 795, 3) := by decide +kernel
theorem dL_law_284 : decode cL_law 284 = .ok (.iconst 0, 1) := by decide +kernel
theorem dL_law_285 : decode cL_law 285 = .ok (.ireturn, 1) := by decide +kernel
theorem dL_law_286 : decode cL_law 286 = .ok (.aload_n 1, 1) := by decide +kernel
theorem dL_law_287 : decode cL_law 287 = .ok (.aload_n 0, 1) := by decide +kernel
theorem dL_law_288 : decode cL_law 288 = .ok (.iload_n 3, 1) := by decide +kernel
theorem dL_law_289 : decode cL_law 289 = .ok (.iconst 1, 1) := by decide +kernel
theorem dL_law_290 : decode cL_law 290 = .ok (.iadd, 1) := by decide +kernel
theorem dL_law_291 : decode cL_law 291 = .ok (.iaload, 1) := by decide +kernel
theorem dL_law_292 : decode cL_law 292 = .ok (.aload_n 0, 1) := by decide +kernel
theorem dL_law_293 : decode cL_law 293 = .ok (.iload_n 3, 1) := by decide +kernel
theorem dL_law_294 : decode cL_law 294 = .ok (.iconst 2, 1) := by decide +kernel
theorem dL_law_295 : decode cL_law 295 = .ok (.iadd, 1) := by decide +kernel
theorem dL_law_296 : decode cL_law 296 = .ok (.iaload, 1) := by decide +kernel
theorem dL_law_297 : decode cL_law 297 = .ok (.invokevirtual 40, 3) := by decide +kernel
theorem dL_law_300 : decode cL_law 300 = .ok (.aload_n 2, 1) := by decide +kernel
theorem dL_law_301 : decode cL_law 301 = .ok (.aload_n 0, 1) := by decide +kernel
theorem dL_law_302 : decode cL_law 302 = .ok (.iload_n 3, 1) := by decide +kernel
theorem dL_law_303 : decode cL_law 303 = .ok (.iconst 1, 1) := by decide +kernel
theorem dL_law_304 : decode cL_law 304 = .ok (.iadd, 1) := by decide +kernel
theorem dL_law_305 : decode cL_law 305 = .ok (.iaload, 1) := by decide +kernel
theorem dL_law_306 : decode cL_law 306 = .ok (.aload_n 0, 1) := by decide +kernel
theorem dL_law_307 : decode cL_law 307 = .ok (.iload_n 3, 1) := by decide +kernel
theorem dL_law_308 : decode cL_law 308 = .ok (.iconst 2, 1) := by decide +kernel
theorem dL_law_309 : decode cL_law 309 = .ok (.iadd, 1) := by decide +kernel
theorem dL_law_310 : decode cL_law 310 = .ok (.iaload, 1) := by decide +kernel
theorem dL_law_311 : decode cL_law 311 = .ok (.invokevirtual 43, 3) := by decide +kernel
theorem dL_law_314 : decode cL_law 314 = .ok (.if_icmp .eq 762, 3) := by decide +kernel
theorem dL_law_317 : decode cL_law 317 = .ok (.iconst 0, 1) := by decide +kernel
theorem dL_law_318 : decode cL_law 318 = .ok (.ireturn, 1) := by decide +kernel
theorem dL_law_319 : decode cL_law 319 = .ok (.aload_n 1, 1) := by decide +kernel
theorem dL_law_320 : decode cL_law 320 = .ok (.aload_n 0, 1) := by decide +kernel
theorem dL_law_321 : decode cL_law 321 = .ok (.iload_n 3, 1) := by decide +kernel
theorem dL_law_322 : decode cL_law 322 = .ok (.iconst 1, 1) := by decide +kernel
theorem dL_law_323 : decode cL_law 323 = .ok (.iadd, 1) := by decide +kernel
theorem dL_law_324 : decode cL_law 324 = .ok (.iaload, 1) := by decide +kernel
theorem dL_law_325 : decode cL_law 325 = .ok (.invokevirtual 44, 3) := by decide +kernel
theorem dL_law_328 : decode cL_law 328 = .ok (.aload_n 2, 1) := by decide +kernel
theorem dL_law_329 : decode cL_law 329 = .ok (.aload_n 0, 1) := by decide +kernel
theorem dL_law_330 : decode cL_law 330 = .ok (.iload_n 3, 1) := by decide +kernel
theorem dL_law_331 : decode cL_law 331 = .ok (.iconst 1, 1) := by decide +kernel
theorem dL_law_332 : decode cL_law 332 = .ok (.iadd, 1) := by decide +kernel
theorem dL_law_333 : decode cL_law 333 = .ok (.iaload, 1) := by decide +kernel
theorem dL_law_334 : decode cL_law 334 = .ok (.invokevirtual 47, 3) := by decide +kernel
theorem dL_law_337 : decode cL_law 337 = .ok (.if_icmp .eq 739, 3) := by decide +kernel
theorem dL_law_340 : decode cL_law 340 = .ok (.iconst 0, 1) := by decide +kernel
theorem dL_law_341 : decode cL_law 341 = .ok (.ireturn, 1) := by decide +kernel
theorem dL_law_342 : decode cL_law 342 = .ok (.aload_n 1, 1) := by decide +kernel
theorem dL_law_343 : decode cL_law 343 = .ok (.aload_n 0, 1) := by decide +kernel
theorem dL_law_344 : decode cL_law 344 = .ok (.iload_n 3, 1) := by decide +kernel
theorem dL_law_345 : decode cL_law 345 = .ok (.iconst 1, 1) := by decide +kernel
theorem dL_law_346 : decode cL_law 346 = .ok (.iadd, 1) := by decide +kernel
theorem dL_law_347 : decode cL_law 347 = .ok (.iaload, 1) := by decide +kernel
theorem dL_law_348 : decode cL_law 348 = .ok (.aload_n 0, 1) := by decide +kernel
theorem dL_law_349 : decode cL_law 349 = .ok (.iload_n 3, 1) := by decide +kernel
theorem dL_law_350 : decode cL_law 350 = .ok (.iconst 2, 1) := by decide +kernel
theorem dL_law_351 : decode cL_law 351 = .ok (.iadd, 1) := by decide +kernel
theorem dL_law_352 : decode cL_law 352 = .ok (.iaload, 1) := by decide +kernel
theorem dL_law_353 : decode cL_law 353 = .ok (.invokevirtual 48, 3) := by decide +kernel
theorem dL_law_356 : decode cL_law 356 = .ok (.aload_n 2, 1) := by decide +kernel
theorem dL_law_357 : decode cL_law 357 = .ok (.aload_n 0, 1) := by decide +kernel
theorem dL_law_358 : decode cL_law 358 = .ok (.iload_n 3, 1) := by decide +kernel
theorem dL_law_359 : decode cL_law 359 = .ok (.iconst 1, 1) := by decide +kernel
theorem dL_law_360 : decode cL_law 360 = .ok (.iadd, 1) := by decide +kernel
theorem dL_law_361 : decode cL_law 361 = .ok (.iaload, 1) := by decide +kernel
theorem dL_law_362 : decode cL_law 362 = .ok (.aload_n 0, 1) := by decide +kernel
theorem dL_law_363 : decode cL_law 363 = .ok (.iload_n 3, 1) := by decide +kernel
theorem dL_law_364 : decode cL_law 364 = .ok (.iconst 2, 1) := by decide +kernel
theorem dL_law_365 : decode cL_law 365 = .ok (.iadd, 1) := by decide +kernel
theorem dL_law_366 : decode cL_law 366 = .ok (.iaload, 1) := by decide +kernel
theorem dL_law_367 : decode cL_law 367 = .ok (.invokevirtual 51, 3) := by decide +kernel
theorem dL_law_370 : decode cL_law 370 = .ok (.if_icmp .eq 706, 3) := by decide +kernel
theorem dL_law_373 : decode cL_law 373 = .ok (.iconst 0, 1) := by decide +kernel
theorem dL_law_374 : decode cL_law 374 = .ok (.ireturn, 1) := by decide +kernel
theorem dL_law_375 : decode cL_law 375 = .ok (.aload_n 1, 1) := by decide +kernel
theorem dL_law_376 : decode cL_law 376 = .ok (.aload_n 0, 1) := by decide +kernel
theorem dL_law_377 : decode cL_law 377 = .ok (.iload_n 3, 1) := by decide +kernel
theorem dL_law_378 : decode cL_law 378 = .ok (.iconst 1, 1) := by decide +kernel
theorem dL_law_379 : decode cL_law 379 = .ok (.iadd, 1) := by decide +kernel
theorem dL_law_380 : decode cL_law 380 = .ok (.iaload, 1) := by decide +kernel
theorem dL_law_381 : decode cL_law 381 = .ok (.invokevirtual 52, 3) := by decide +kernel
theorem dL_law_384 : decode cL_law 384 = .ok (.aload_n 2, 1) := by decide +kernel
theorem dL_law_385 : decode cL_law 385 = .ok (.aload_n 0, 1) := by decide +kernel
theorem dL_law_386 : decode cL_law 386 = .ok (.iload_n 3, 1) := by decide +kernel
theorem dL_law_387 : decode cL_law 387 = .ok (.iconst 1, 1) := by decide +kernel
theorem dL_law_388 : decode cL_law 388 = .ok (.iadd, 1) := by decide +kernel
theorem dL_law_389 : decode cL_law 389 = .ok (.iaload, 1) := by decide +kernel
theorem dL_law_390 : decode cL_law 390 = .ok (.invokevirtual 55, 3) := by decide +kernel
theorem dL_law_393 : decode cL_law 393 = .ok (.if_icmp .eq 683, 3) := by decide +kernel
theorem dL_law_396 : decode cL_law 396 = .ok (.iconst 0, 1) := by decide +kernel
theorem dL_law_397 : decode cL_law 397 = .ok (.ireturn, 1) := by decide +kernel
theorem dL_law_398 : decode cL_law 398 = .ok (.aload_n 1, 1) := by decide +kernel
theorem dL_law_399 : decode cL_law 399 = .ok (.aload_n 0, 1) := by decide +kernel
theorem dL_law_400 : decode cL_law 400 = .ok (.iload_n 3, 1) := by decide +kernel
theorem dL_law_401 : decode cL_law 401 = .ok (.iconst 1, 1) := by decide +kernel
theorem dL_law_402 : decode cL_law 402 = .ok (.iadd, 1) := by decide +kernel
theorem dL_law_403 : decode cL_law 403 = .ok (.iaload, 1) := by decide +kernel
theorem dL_law_404 : decode cL_law 404 = .ok (.aload_n 0, 1) := by decide +kernel
theorem dL_law_405 : decode cL_law 405 = .ok (.iload_n 3, 1) := by decide +kernel
theorem dL_law_406 : decode cL_law 406 = .ok (.iconst 2, 1) := by decide +kernel
theorem dL_law_407 : decode cL_law 407 = .ok (.iadd, 1) := by decide +kernel
theorem dL_law_408 : decode cL_law 408 = .ok (.iaload, 1) := by decide +kernel
theorem dL_law_409 : decode cL_law 409 = .ok (.aload_n 0, 1) := by decide +kernel
theorem dL_law_410 : decode cL_law 410 = .ok (.iload_n 3, 1) := by decide +kernel
theorem dL_law_411 : decode cL_law 411 = .ok (.iconst 3, 1) := by decide +kernel
theorem dL_law_412 : decode cL_law 412 = .ok (.iadd, 1) := by decide +kernel
theorem dL_law_413 : decode cL_law 413 = .ok (.iaload, 1) := by decide +kernel
theorem dL_law_414 : decode cL_law 414 = .ok (.invokevirtual 56, 3) := by decide +kernel
theorem dL_law_417 : decode cL_law 417 = .ok (.aload_n 2, 1) := by decide +kernel
theorem dL_law_418 : decode cL_law 418 = .ok (.aload_n 0, 1) := by decide +kernel
theorem dL_law_419 : decode cL_law 419 = .ok (.iload_n 3, 1) := by decide +kernel
theorem dL_law_420 : decode cL_law 420 = .ok (.iconst 1, 1) := by decide +kernel
theorem dL_law_421 : decode cL_law 421 = .ok (.iadd, 1) := by decide +kernel
theorem dL_law_422 : decode cL_law 422 = .ok (.iaload, 1) := by decide +kernel
theorem dL_law_423 : decode cL_law 423 = .ok (.aload_n 0, 1) := by decide +kernel
theorem dL_law_424 : decode cL_law 424 = .ok (.iload_n 3, 1) := by decide +kernel
theorem dL_law_425 : decode cL_law 425 = .ok (.iconst 2, 1) := by decide +kernel
theorem dL_law_426 : decode cL_law 426 = .ok (.iadd, 1) := by decide +kernel
theorem dL_law_427 : decode cL_law 427 = .ok (.iaload, 1) := by decide +kernel
theorem dL_law_428 : decode cL_law 428 = .ok (.aload_n 0, 1) := by decide +kernel
theorem dL_law_429 : decode cL_law 429 = .ok (.iload_n 3, 1) := by decide +kernel
theorem dL_law_430 : decode cL_law 430 = .ok (.iconst 3, 1) := by decide +kernel
theorem dL_law_431 : decode cL_law 431 = .ok (.iadd, 1) := by decide +kernel
theorem dL_law_432 : decode cL_law 432 = .ok (.iaload, 1) := by decide +kernel
theorem dL_law_433 : decode cL_law 433 = .ok (.invokevirtual 60, 3) := by decide +kernel
theorem dL_law_436 : decode cL_law 436 = .ok (.if_icmp .eq 640, 3) := by decide +kernel
theorem dL_law_439 : decode cL_law 439 = .ok (.iconst 0, 1) := by decide +kernel
theorem dL_law_440 : decode cL_law 440 = .ok (.ireturn, 1) := by decide +kernel
theorem dL_law_441 : decode cL_law 441 = .ok (.aload_n 1, 1) := by decide +kernel
theorem dL_law_442 : decode cL_law 442 = .ok (.aload_n 0, 1) := by decide +kernel
theorem dL_law_443 : decode cL_law 443 = .ok (.iload_n 3, 1) := by decide +kernel
theorem dL_law_444 : decode cL_law 444 = .ok (.iconst 1, 1) := by decide +kernel
theorem dL_law_445 : decode cL_law 445 = .ok (.iadd, 1) := by decide +kernel
theorem dL_law_446 : decode cL_law 446 = .ok (.iaload, 1) := by decide +kernel
theorem dL_law_447 : decode cL_law 447 = .ok (.aload_n 0, 1) := by decide +kernel
theorem dL_law_448 : decode cL_law 448 = .ok (.iload_n 3, 1) := by decide +kernel
theorem dL_law_449 : decode cL_law 449 = .ok (.iconst 2, 1) := by decide +kernel
theorem dL_law_450 : decode cL_law 450 = .ok (.iadd, 1) := by decide +kernel
theorem dL_law_451 : decode cL_law 451 = .ok (.iaload, 1) := by decide +kernel
theorem dL_law_452 : decode cL_law 452 = .ok (.invokevirtual 61, 3) := by decide +kernel
theorem dL_law_455 : decode cL_law 455 = .ok (.aload_n 2, 1) := by decide +kernel
theorem dL_law_456 : decode cL_law 456 = .ok (.aload_n 0, 1) := by decide +kernel
theorem dL_law_457 : decode cL_law 457 = .ok (.iload_n 3, 1) := by decide +kernel
theorem dL_law_458 : decode cL_law 458 = .ok (.iconst 1, 1) := by decide +kernel
theorem dL_law_459 : decode cL_law 459 = .ok (.iadd, 1) := by decide +kernel
theorem dL_law_460 : decode cL_law 460 = .ok (.iaload, 1) := by decide +kernel
theorem dL_law_461 : decode cL_law 461 = .ok (.aload_n 0, 1) := by decide +kernel
theorem dL_law_462 : decode cL_law 462 = .ok (.iload_n 3, 1) := by decide +kernel
theorem dL_law_463 : decode cL_law 463 = .ok (.iconst 2, 1) := by decide +kernel
theorem dL_law_464 : decode cL_law 464 = .ok (.iadd, 1) := by decide +kernel
theorem dL_law_465 : decode cL_law 465 = .ok (.iaload, 1) := by decide +kernel
theorem dL_law_466 : decode cL_law 466 = .ok (.invokevirtual 64, 3) := by decide +kernel
theorem dL_law_469 : decode cL_law 469 = .ok (.if_icmp .eq 607, 3) := by decide +kernel
theorem dL_law_472 : decode cL_law 472 = .ok (.iconst 0, 1) := by decide +kernel
theorem dL_law_473 : decode cL_law 473 = .ok (.ireturn, 1) := by decide +kernel
theorem dL_law_474 : decode cL_law 474 = .ok (.aload_n 1, 1) := by decide +kernel
theorem dL_law_475 : decode cL_law 475 = .ok (.invokevirtual 65, 3) := by decide +kernel
theorem dL_law_478 : decode cL_law 478 = .ok (.aload_n 2, 1) := by decide +kernel
theorem dL_law_479 : decode cL_law 479 = .ok (.invokevirtual 68, 3) := by decide +kernel
theorem dL_law_482 : decode cL_law 482 = .ok (.if_icmp .eq 594, 3) := by decide +kernel
theorem dL_law_485 : decode cL_law 485 = .ok (.iconst 0, 1) := by decide +kernel
theorem dL_law_486 : decode cL_law 486 = .ok (.ireturn, 1) := by decide +kernel
theorem dL_law_487 : decode cL_law 487 = .ok (.aload_n 1, 1) := by decide +kernel
theorem dL_law_488 : decode cL_law 488 = .ok (.aload_n 0, 1) := by decide +kernel
theorem dL_law_489 : decode cL_law 489 = .ok (.iload_n 3, 1) := by decide +kernel
theorem dL_law_490 : decode cL_law 490 = .ok (.iconst 1, 1) := by decide +kernel
theorem dL_law_491 : decode cL_law 491 = .ok (.iadd, 1) := by decide +kernel
theorem dL_law_492 : decode cL_law 492 = .ok (.iaload, 1) := by decide +kernel
theorem dL_law_493 : decode cL_law 493 = .ok (.aload_n 0, 1) := by decide +kernel
theorem dL_law_494 : decode cL_law 494 = .ok (.iload_n 3, 1) := by decide +kernel
theorem dL_law_495 : decode cL_law 495 = .ok (.iconst 2, 1) := by decide +kernel
theorem dL_law_496 : decode cL_law 496 = .ok (.iadd, 1) := by decide +kernel
theorem dL_law_497 : decode cL_law 497 = .ok (.iaload, 1) := by decide +kernel
theorem dL_law_498 : decode cL_law 498 = .ok (.invokevirtual 69, 3) := by decide +kernel
theorem dL_law_501 : decode cL_law 501 = .ok (.aload_n 2, 1) := by decide +kernel
theorem dL_law_502 : decode cL_law 502 = .ok (.aload_n 0, 1) := by decide +kernel
theorem dL_law_503 : decode cL_law 503 = .ok (.iload_n 3, 1) := by decide +kernel
theorem dL_law_504 : decode cL_law 504 = .ok (.iconst 1, 1) := by decide +kernel
theorem dL_law_505 : decode cL_law 505 = .ok (.iadd, 1) := by decide +kernel
theorem dL_law_506 : decode cL_law 506 = .ok (.iaload, 1) := by decide +kernel
theorem dL_law_507 : decode cL_law 507 = .ok (.aload_n 0, 1) := by decide +kernel
theorem dL_law_508 : decode cL_law 508 = .ok (.iload_n 3, 1) := by decide +kernel
theorem dL_law_509 : decode cL_law 509 = .ok (.iconst 2, 1) := by decide +kernel
theorem dL_law_510 : decode cL_law 510 = .ok (.iadd, 1) := by decide +kernel
theorem dL_law_511 : decode cL_law 511 = .ok (.iaload, 1) := by decide +kernel
theorem dL_law_512 : decode cL_law 512 = .ok (.invokevirtual 72, 3) := by decide +kernel
theorem dL_law_515 : decode cL_law 515 = .ok (.if_icmp .eq 561, 3) := by decide +kernel
theorem dL_law_518 : decode cL_law 518 = .ok (.iconst 0, 1) := by decide +kernel
theorem dL_law_519 : decode cL_law 519 = .ok (.ireturn, 1) := by decide +kernel
theorem dL_law_520 : decode cL_law 520 = .ok (.aload_n 1, 1) := by decide +kernel
theorem dL_law_521 : decode cL_law 521 = .ok (.invokevirtual 73, 3) := by decide +kernel
theorem dL_law_524 : decode cL_law 524 = .ok (.aload_n 2, 1) := by decide +kernel
theorem dL_law_525 : decode cL_law 525 = .ok (.invokevirtual 77, 3) := by decide +kernel
theorem dL_law_528 : decode cL_law 528 = .ok (.lcmp, 1) := by decide +kernel
theorem dL_law_529 : decode cL_law 529 = .ok (.ifCond .eq 547, 3) := by decide +kernel
theorem dL_law_532 : decode cL_law 532 = .ok (.iconst 0, 1) := by decide +kernel
theorem dL_law_533 : decode cL_law 533 = .ok (.ireturn, 1) := by decide +kernel
theorem dL_law_534 : decode cL_law 534 = .ok (.aload_n 1, 1) := by decide +kernel
theorem dL_law_535 : decode cL_law 535 = .ok (.aload_n 0, 1) := by decide +kernel
theorem dL_law_536 : decode cL_law 536 = .ok (.iload_n 3, 1) := by decide +kernel
theorem dL_law_537 : decode cL_law 537 = .ok (.iconst 1, 1) := by decide +kernel
theorem dL_law_538 : decode cL_law 538 = .ok (.iadd, 1) := by decide +kernel
theorem dL_law_539 : decode cL_law 539 = .ok (.iaload, 1) := by decide +kernel
theorem dL_law_540 : decode cL_law 540 = .ok (.i2l, 1) := by decide +kernel
theorem dL_law_541 : decode cL_law 541 = .ok (.bipush 32, 2) := by decide +kernel
theorem dL_law_543 : decode cL_law 543 = .ok (.lshl, 1) := by decide +kernel
theorem dL_law_544 : decode cL_law 544 = .ok (.aload_n 0, 1) := by decide +kernel
theorem dL_law_545 : decode cL_law 545 = .ok (.iload_n 3, 1) := by decide +kernel
theorem dL_law_546 : decode cL_law 546 = .ok (.iconst 2, 1) := by decide +kernel
theorem dL_law_547 : decode cL_law 547 = .ok (.iadd, 1) := by decide +kernel
theorem dL_law_548 : decode cL_law 548 = .ok (.iaload, 1) := by decide +kernel
theorem dL_law_549 : decode cL_law 549 = .ok (.i2l, 1) := by decide +kernel
theorem dL_law_550 : decode cL_law 550 = .ok (.ldc2_w 78, 3) := by decide +kernel
theorem dL_law_553 : decode cL_law 553 = .ok (.land, 1) := by decide +kernel
theorem dL_law_554 : decode cL_law 554 = .ok (.lor, 1) := by decide +kernel
theorem dL_law_555 : decode cL_law 555 = .ok (.aload_n 0, 1) := by decide +kernel
theorem dL_law_556 : decode cL_law 556 = .ok (.iload_n 3, 1) := by decide +kernel
theorem dL_law_557 : decode cL_law 557 = .ok (.iconst 3, 1) := by decide +kernel
theorem dL_law_558 : decode cL_law 558 = .ok (.iadd, 1) := by decide +kernel
theorem dL_law_559 : decode cL_law 559 = .ok (.iaload, 1) := by decide +kernel
theorem dL_law_560 : decode cL_law 560 = .ok (.invokevirtual 80, 3) := by decide +kernel
theorem dL_law_563 : decode cL_law 563 = .ok (.aload_n 2, 1) := by decide +kernel
theorem dL_law_564 : decode cL_law 564 = .ok (.aload_n 0, 1) := by decide +kernel
theorem dL_law_565 : decode cL_law 565 = .ok (.iload_n 3, 1) := by decide +kernel
theorem dL_law_566 : decode cL_law 566 = .ok (.iconst 1, 1) := by decide +kernel
theorem dL_law_567 : decode cL_law 567 = .ok (.iadd, 1) := by decide +kernel
theorem dL_law_568 : decode cL_law 568 = .ok (.iaload, 1) := by decide +kernel
theorem dL_law_569 : decode cL_law 569 = .ok (.i2l, 1) := by decide +kernel
theorem dL_law_570 : decode cL_law 570 = .ok (.bipush 32, 2) := by decide +kernel
theorem dL_law_572 : decode cL_law 572 = .ok (.lshl, 1) := by decide +kernel
theorem dL_law_573 : decode cL_law 573 = .ok (.aload_n 0, 1) := by decide +kernel
theorem dL_law_574 : decode cL_law 574 = .ok (.iload_n 3, 1) := by decide +kernel
theorem dL_law_575 : decode cL_law 575 = .ok (.iconst 2, 1) := by decide +kernel
theorem dL_law_576 : decode cL_law 576 = .ok (.iadd, 1) := by decide +kernel
theorem dL_law_577 : decode cL_law 577 = .ok (.iaload, 1) := by decide +kernel
theorem dL_law_578 : decode cL_law 578 = .ok (.i2l, 1) := by decide +kernel
theorem dL_law_579 : decode cL_law 579 = .ok (.ldc2_w 78, 3) := by decide +kernel
theorem dL_law_582 : decode cL_law 582 = .ok (.land, 1) := by decide +kernel
theorem dL_law_583 : decode cL_law 583 = .ok (.lor, 1) := by decide +kernel
theorem dL_law_584 : decode cL_law 584 = .ok (.aload_n 0, 1) := by decide +kernel
theorem dL_law_585 : decode cL_law 585 = .ok (.iload_n 3, 1) := by decide +kernel
theorem dL_law_586 : decode cL_law 586 = .ok (.iconst 3, 1) := by decide +kernel
theorem dL_law_587 : decode cL_law 587 = .ok (.iadd, 1) := by decide +kernel
theorem dL_law_588 : decode cL_law 588 = .ok (.iaload, 1) := by decide +kernel
theorem dL_law_589 : decode cL_law 589 = .ok (.invokevirtual 84, 3) := by decide +kernel
theorem dL_law_592 : decode cL_law 592 = .ok (.if_icmp .eq 484, 3) := by decide +kernel
theorem dL_law_595 : decode cL_law 595 = .ok (.iconst 0, 1) := by decide +kernel
theorem dL_law_596 : decode cL_law 596 = .ok (.ireturn, 1) := by decide +kernel
theorem dL_law_597 : decode cL_law 597 = .ok (.aload_n 1, 1) := by decide +kernel
theorem dL_law_598 : decode cL_law 598 = .ok (.aload_n 0, 1) := by decide +kernel
theorem dL_law_599 : decode cL_law 599 = .ok (.iload_n 3, 1) := by decide +kernel
theorem dL_law_600 : decode cL_law 600 = .ok (.iconst 1, 1) := by decide +kernel
theorem dL_law_601 : decode cL_law 601 = .ok (.iadd, 1) := by decide +kernel
theorem dL_law_602 : decode cL_law 602 = .ok (.iaload, 1) := by decide +kernel
theorem dL_law_603 : decode cL_law 603 = .ok (.aload_n 0, 1) := by decide +kernel
theorem dL_law_604 : decode cL_law 604 = .ok (.iload_n 3, 1) := by decide +kernel
theorem dL_law_605 : decode cL_law 605 = .ok (.iconst 2, 1) := by decide +kernel
theorem dL_law_606 : decode cL_law 606 = .ok (.iadd, 1) := by decide +kernel
theorem dL_law_607 : decode cL_law 607 = .ok (.iaload, 1) := by decide +kernel
theorem dL_law_608 : decode cL_law 608 = .ok (.invokevirtual 85, 3) := by decide +kernel
theorem dL_law_611 : decode cL_law 611 = .ok (.aload_n 2, 1) := by decide +kernel
theorem dL_law_612 : decode cL_law 612 = .ok (.aload_n 0, 1) := by decide +kernel
theorem dL_law_613 : decode cL_law 613 = .ok (.iload_n 3, 1) := by decide +kernel
theorem dL_law_614 : decode cL_law 614 = .ok (.iconst 1, 1) := by decide +kernel
theorem dL_law_615 : decode cL_law 615 = .ok (.iadd, 1) := by decide +kernel
theorem dL_law_616 : decode cL_law 616 = .ok (.iaload, 1) := by decide +kernel
theorem dL_law_617 : decode cL_law 617 = .ok (.aload_n 0, 1) := by decide +kernel
theorem dL_law_618 : decode cL_law 618 = .ok (.iload_n 3, 1) := by decide +kernel
theorem dL_law_619 : decode cL_law 619 = .ok (.iconst 2, 1) := by decide +kernel
theorem dL_law_620 : decode cL_law 620 = .ok (.iadd, 1) := by decide +kernel
theorem dL_law_621 : decode cL_law 621 = .ok (.iaload, 1) := by decide +kernel
theorem dL_law_622 : decode cL_law 622 = .ok (.invokevirtual 89, 3) := by decide +kernel
theorem dL_law_625 : decode cL_law 625 = .ok (.lcmp, 1) := by decide +kernel
theorem dL_law_626 : decode cL_law 626 = .ok (.ifCond .eq 450, 3) := by decide +kernel
theorem dL_law_629 : decode cL_law 629 = .ok (.iconst 0, 1) := by decide +kernel
theorem dL_law_630 : decode cL_law 630 = .ok (.ireturn, 1) := by decide +kernel
theorem dL_law_631 : decode cL_law 631 = .ok (.aload_n 1, 1) := by decide +kernel
theorem dL_law_632 : decode cL_law 632 = .ok (.aload_n 0, 1) := by decide +kernel
theorem dL_law_633 : decode cL_law 633 = .ok (.iload_n 3, 1) := by decide +kernel
theorem dL_law_634 : decode cL_law 634 = .ok (.iconst 1, 1) := by decide +kernel
theorem dL_law_635 : decode cL_law 635 = .ok (.iadd, 1) := by decide +kernel
theorem dL_law_636 : decode cL_law 636 = .ok (.iaload, 1) := by decide +kernel
theorem dL_law_637 : decode cL_law 637 = .ok (.aload_n 0, 1) := by decide +kernel
theorem dL_law_638 : decode cL_law 638 = .ok (.iload_n 3, 1) := by decide +kernel
theorem dL_law_639 : decode cL_law 639 = .ok (.iconst 2, 1) := by decide +kernel
theorem dL_law_640 : decode cL_law 640 = .ok (.iadd, 1) := by decide +kernel
theorem dL_law_641 : decode cL_law 641 = .ok (.iaload, 1) := by decide +kernel
theorem dL_law_642 : decode cL_law 642 = .ok (.invokevirtual 90, 3) := by decide +kernel
theorem dL_law_645 : decode cL_law 645 = .ok (.aload_n 2, 1) := by decide +kernel
theorem dL_law_646 : decode cL_law 646 = .ok (.aload_n 0, 1) := by decide +kernel
theorem dL_law_647 : decode cL_law 647 = .ok (.iload_n 3, 1) := by decide +kernel
theorem dL_law_648 : decode cL_law 648 = .ok (.iconst 1, 1) := by decide +kernel
theorem dL_law_649 : decode cL_law 649 = .ok (.iadd, 1) := by decide +kernel
theorem dL_law_650 : decode cL_law 650 = .ok (.iaload, 1) := by decide +kernel
theorem dL_law_651 : decode cL_law 651 = .ok (.aload_n 0, 1) := by decide +kernel
theorem dL_law_652 : decode cL_law 652 = .ok (.iload_n 3, 1) := by decide +kernel
theorem dL_law_653 : decode cL_law 653 = .ok (.iconst 2, 1) := by decide +kernel
theorem dL_law_654 : decode cL_law 654 = .ok (.iadd, 1) := by decide +kernel
theorem dL_law_655 : decode cL_law 655 = .ok (.iaload, 1) := by decide +kernel
theorem dL_law_656 : decode cL_law 656 = .ok (.invokevirtual 93, 3) := by decide +kernel
theorem dL_law_659 : decode cL_law 659 = .ok (.lcmp, 1) := by decide +kernel
theorem dL_law_660 : decode cL_law 660 = .ok (.ifCond .eq 416, 3) := by decide +kernel
theorem dL_law_663 : decode cL_law 663 = .ok (.iconst 0, 1) := by decide +kernel
theorem dL_law_664 : decode cL_law 664 = .ok (.ireturn, 1) := by decide +kernel
theorem dL_law_665 : decode cL_law 665 = .ok (.aload_n 1, 1) := by decide +kernel
theorem dL_law_666 : decode cL_law 666 = .ok (.aload_n 0, 1) := by decide +kernel
theorem dL_law_667 : decode cL_law 667 = .ok (.iload_n 3, 1) := by decide +kernel
theorem dL_law_668 : decode cL_law 668 = .ok (.iconst 1, 1) := by decide +kernel
theorem dL_law_669 : decode cL_law 669 = .ok (.iadd, 1) := by decide +kernel
theorem dL_law_670 : decode cL_law 670 = .ok (.iaload, 1) := by decide +kernel
theorem dL_law_671 : decode cL_law 671 = .ok (.invokevirtual 94, 3) := by decide +kernel
theorem dL_law_674 : decode cL_law 674 = .ok (.aload_n 2, 1) := by decide +kernel
theorem dL_law_675 : decode cL_law 675 = .ok (.aload_n 0, 1) := by decide +kernel
theorem dL_law_676 : decode cL_law 676 = .ok (.iload_n 3, 1) := by decide +kernel
theorem dL_law_677 : decode cL_law 677 = .ok (.iconst 1, 1) := by decide +kernel
theorem dL_law_678 : decode cL_law 678 = .ok (.iadd, 1) := by decide +kernel
theorem dL_law_679 : decode cL_law 679 = .ok (.iaload, 1) := by decide +kernel
theorem dL_law_680 : decode cL_law 680 = .ok (.invokevirtual 97, 3) := by decide +kernel
theorem dL_law_683 : decode cL_law 683 = .ok (.if_icmp .eq 393, 3) := by decide +kernel
theorem dL_law_686 : decode cL_law 686 = .ok (.iconst 0, 1) := by decide +kernel
theorem dL_law_687 : decode cL_law 687 = .ok (.ireturn, 1) := by decide +kernel
theorem dL_law_688 : decode cL_law 688 = .ok (.aload_n 1, 1) := by decide +kernel
theorem dL_law_689 : decode cL_law 689 = .ok (.aload_n 0, 1) := by decide +kernel
theorem dL_law_690 : decode cL_law 690 = .ok (.iload_n 3, 1) := by decide +kernel
theorem dL_law_691 : decode cL_law 691 = .ok (.iconst 1, 1) := by decide +kernel
theorem dL_law_692 : decode cL_law 692 = .ok (.iadd, 1) := by decide +kernel
theorem dL_law_693 : decode cL_law 693 = .ok (.iaload, 1) := by decide +kernel
theorem dL_law_694 : decode cL_law 694 = .ok (.aload_n 0, 1) := by decide +kernel
theorem dL_law_695 : decode cL_law 695 = .ok (.iload_n 3, 1) := by decide +kernel
theorem dL_law_696 : decode cL_law 696 = .ok (.iconst 2, 1) := by decide +kernel
theorem dL_law_697 : decode cL_law 697 = .ok (.iadd, 1) := by decide +kernel
theorem dL_law_698 : decode cL_law 698 = .ok (.iaload, 1) := by decide +kernel
theorem dL_law_699 : decode cL_law 699 = .ok (.i2l, 1) := by decide +kernel
theorem dL_law_700 : decode cL_law 700 = .ok (.bipush 32, 2) := by decide +kernel
theorem dL_law_702 : decode cL_law 702 = .ok (.lshl, 1) := by decide +kernel
theorem dL_law_703 : decode cL_law 703 = .ok (.aload_n 0, 1) := by decide +kernel
theorem dL_law_704 : decode cL_law 704 = .ok (.iload_n 3, 1) := by decide +kernel
theorem dL_law_705 : decode cL_law 705 = .ok (.iconst 3, 1) := by decide +kernel
theorem dL_law_706 : decode cL_law 706 = .ok (.iadd, 1) := by decide +kernel
theorem dL_law_707 : decode cL_law 707 = .ok (.iaload, 1) := by decide +kernel
theorem dL_law_708 : decode cL_law 708 = .ok (.i2l, 1) := by decide +kernel
theorem dL_law_709 : decode cL_law 709 = .ok (.ldc2_w 78, 3) := by decide +kernel
theorem dL_law_712 : decode cL_law 712 = .ok (.land, 1) := by decide +kernel
theorem dL_law_713 : decode cL_law 713 = .ok (.lor, 1) := by decide +kernel
theorem dL_law_714 : decode cL_law 714 = .ok (.invokevirtual 98, 3) := by decide +kernel
theorem dL_law_717 : decode cL_law 717 = .ok (.aload_n 2, 1) := by decide +kernel
theorem dL_law_718 : decode cL_law 718 = .ok (.aload_n 0, 1) := by decide +kernel
theorem dL_law_719 : decode cL_law 719 = .ok (.iload_n 3, 1) := by decide +kernel
theorem dL_law_720 : decode cL_law 720 = .ok (.iconst 1, 1) := by decide +kernel
theorem dL_law_721 : decode cL_law 721 = .ok (.iadd, 1) := by decide +kernel
theorem dL_law_722 : decode cL_law 722 = .ok (.iaload, 1) := by decide +kernel
theorem dL_law_723 : decode cL_law 723 = .ok (.aload_n 0, 1) := by decide +kernel
theorem dL_law_724 : decode cL_law 724 = .ok (.iload_n 3, 1) := by decide +kernel
theorem dL_law_725 : decode cL_law 725 = .ok (.iconst 2, 1) := by decide +kernel
theorem dL_law_726 : decode cL_law 726 = .ok (.iadd, 1) := by decide +kernel
theorem dL_law_727 : decode cL_law 727 = .ok (.iaload, 1) := by decide +kernel
theorem dL_law_728 : decode cL_law 728 = .ok (.i2l, 1) := by decide +kernel
theorem dL_law_729 : decode cL_law 729 = .ok (.bipush 32, 2) := by decide +kernel
theorem dL_law_731 : decode cL_law 731 = .ok (.lshl, 1) := by decide +kernel
theorem dL_law_732 : decode cL_law 732 = .ok (.aload_n 0, 1) := by decide +kernel
theorem dL_law_733 : decode cL_law 733 = .ok (.iload_n 3, 1) := by decide +kernel
theorem dL_law_734 : decode cL_law 734 = .ok (.iconst 3, 1) := by decide +kernel
theorem dL_law_735 : decode cL_law 735 = .ok (.iadd, 1) := by decide +kernel
theorem dL_law_736 : decode cL_law 736 = .ok (.iaload, 1) := by decide +kernel
theorem dL_law_737 : decode cL_law 737 = .ok (.i2l, 1) := by decide +kernel
theorem dL_law_738 : decode cL_law 738 = .ok (.ldc2_w 78, 3) := by decide +kernel
theorem dL_law_741 : decode cL_law 741 = .ok (.land, 1) := by decide +kernel
theorem dL_law_742 : decode cL_law 742 = .ok (.lor, 1) := by decide +kernel
theorem dL_law_743 : decode cL_law 743 = .ok (.invokevirtual 102, 3) := by decide +kernel
theorem dL_law_746 : decode cL_law 746 = .ok (.if_icmp .eq 330, 3) := by decide +kernel
theorem dL_law_749 : decode cL_law 749 = .ok (.iconst 0, 1) := by decide +kernel
theorem dL_law_750 : decode cL_law 750 = .ok (.ireturn, 1) := by decide +kernel
theorem dL_law_751 : decode cL_law 751 = .ok (.aload_n 1, 1) := by decide +kernel
theorem dL_law_752 : decode cL_law 752 = .ok (.aload_n 0, 1) := by decide +kernel
theorem dL_law_753 : decode cL_law 753 = .ok (.iload_n 3, 1) := by decide +kernel
theorem dL_law_754 : decode cL_law 754 = .ok (.iconst 1, 1) := by decide +kernel
theorem dL_law_755 : decode cL_law 755 = .ok (.iadd, 1) := by decide +kernel
theorem dL_law_756 : decode cL_law 756 = .ok (.iaload, 1) := by decide +kernel
theorem dL_law_757 : decode cL_law 757 = .ok (.aload_n 0, 1) := by decide +kernel
theorem dL_law_758 : decode cL_law 758 = .ok (.iload_n 3, 1) := by decide +kernel
theorem dL_law_759 : decode cL_law 759 = .ok (.iconst 2, 1) := by decide +kernel
theorem dL_law_760 : decode cL_law 760 = .ok (.iadd, 1) := by decide +kernel
theorem dL_law_761 : decode cL_law 761 = .ok (.iaload, 1) := by decide +kernel
theorem dL_law_762 : decode cL_law 762 = .ok (.aload_n 0, 1) := by decide +kernel
theorem dL_law_763 : decode cL_law 763 = .ok (.iload_n 3, 1) := by decide +kernel
theorem dL_law_764 : decode cL_law 764 = .ok (.iconst 3, 1) := by decide +kernel
theorem dL_law_765 : decode cL_law 765 = .ok (.iadd, 1) := by decide +kernel
theorem dL_law_766 : decode cL_law 766 = .ok (.iaload, 1) := by decide +kernel
theorem dL_law_767 : decode cL_law 767 = .ok (.invokevirtual 103, 3) := by decide +kernel
theorem dL_law_770 : decode cL_law 770 = .ok (.aload_n 2, 1) := by decide +kernel
theorem dL_law_771 : decode cL_law 771 = .ok (.aload_n 0, 1) := by decide +kernel
theorem dL_law_772 : decode cL_law 772 = .ok (.iload_n 3, 1) := by decide +kernel
theorem dL_law_773 : decode cL_law 773 = .ok (.iconst 1, 1) := by decide +kernel
theorem dL_law_774 : decode cL_law 774 = .ok (.iadd, 1) := by decide +kernel
theorem dL_law_775 : decode cL_law 775 = .ok (.iaload, 1) := by decide +kernel
theorem dL_law_776 : decode cL_law 776 = .ok (.aload_n 0, 1) := by decide +kernel
theorem dL_law_777 : decode cL_law 777 = .ok (.iload_n 3, 1) := by decide +kernel
theorem dL_law_778 : decode cL_law 778 = .ok (.iconst 2, 1) := by decide +kernel
theorem dL_law_779 : decode cL_law 779 = .ok (.iadd, 1) := by decide +kernel
theorem dL_law_780 : decode cL_law 780 = .ok (.iaload, 1) := by decide +kernel
theorem dL_law_781 : decode cL_law 781 = .ok (.aload_n 0, 1) := by decide +kernel
theorem dL_law_782 : decode cL_law 782 = .ok (.iload_n 3, 1) := by decide +kernel
theorem dL_law_783 : decode cL_law 783 = .ok (.iconst 3, 1) := by decide +kernel
theorem dL_law_784 : decode cL_law 784 = .ok (.iadd, 1) := by decide +kernel
theorem dL_law_785 : decode cL_law 785 = .ok (.iaload, 1) := by decide +kernel
theorem dL_law_786 : decode cL_law 786 = .ok (.invokevirtual 106, 3) := by decide +kernel
theorem dL_law_789 : decode cL_law 789 = .ok (.if_icmp .eq 287, 3) := by decide +kernel
theorem dL_law_792 : decode cL_law 792 = .ok (.iconst 0, 1) := by decide +kernel
theorem dL_law_793 : decode cL_law 793 = .ok (.ireturn, 1) := by decide +kernel
theorem dL_law_794 : decode cL_law 794 = .ok (.aload_n 1, 1) := by decide +kernel
theorem dL_law_795 : decode cL_law 795 = .ok (.invokevirtual 107, 3) := by decide +kernel
theorem dL_law_798 : decode cL_law 798 = .ok (.aload_n 2, 1) := by decide +kernel
theorem dL_law_799 : decode cL_law 799 = .ok (.invokevirtual 110, 3) := by decide +kernel
theorem dL_law_802 : decode cL_law 802 = .ok (.if_icmp .eq 274, 3) := by decide +kernel
theorem dL_law_805 : decode cL_law 805 = .ok (.iconst 0, 1) := by decide +kernel
theorem dL_law_806 : decode cL_law 806 = .ok (.ireturn, 1) := by decide +kernel
theorem dL_law_807 : decode cL_law 807 = .ok (.aload_n 1, 1) := by decide +kernel
theorem dL_law_808 : decode cL_law 808 = .ok (.aload_n 0, 1) := by decide +kernel
theorem dL_law_809 : decode cL_law 809 = .ok (.iload_n 3, 1) := by decide +kernel
theorem dL_law_810 : decode cL_law 810 = .ok (.iconst 1, 1) := by decide +kernel
theorem dL_law_811 : decode cL_law 811 = .ok (.iadd, 1) := by decide +kernel
theorem dL_law_812 : decode cL_law 812 = .ok (.iaload, 1) := by decide +kernel
theorem dL_law_813 : decode cL_law 813 = .ok (.invokevirtual 111, 3) := by decide +kernel
theorem dL_law_816 : decode cL_law 816 = .ok (.aload_n 2, 1) := by decide +kernel
theorem dL_law_817 : decode cL_law 817 = .ok (.aload_n 0, 1) := by decide +kernel
theorem dL_law_818 : decode cL_law 818 = .ok (.iload_n 3, 1) := by decide +kernel
theorem dL_law_819 : decode cL_law 819 = .ok (.iconst 1, 1) := by decide +kernel
theorem dL_law_820 : decode cL_law 820 = .ok (.iadd, 1) := by decide +kernel
theorem dL_law_821 : decode cL_law 821 = .ok (.iaload, 1) := by decide +kernel
theorem dL_law_822 : decode cL_law 822 = .ok (.invokevirtual 115, 3) := by decide +kernel
theorem dL_law_825 : decode cL_law 825 = .ok (.lcmp, 1) := by decide +kernel
theorem dL_law_826 : decode cL_law 826 = .ok (.ifCond .eq 250, 3) := by decide +kernel
theorem dL_law_829 : decode cL_law 829 = .ok (.iconst 0, 1) := by decide +kernel
theorem dL_law_830 : decode cL_law 830 = .ok (.ireturn, 1) := by decide +kernel
theorem dL_law_831 : decode cL_law 831 = .ok (.aload_n 1, 1) := by decide +kernel
theorem dL_law_832 : decode cL_law 832 = .ok (.aload_n 0, 1) := by decide +kernel
theorem dL_law_833 : decode cL_law 833 = .ok (.iload_n 3, 1) := by decide +kernel
theorem dL_law_834 : decode cL_law 834 = .ok (.iconst 1, 1) := by decide +kernel
theorem dL_law_835 : decode cL_law 835 = .ok (.iadd, 1) := by decide +kernel
theorem dL_law_836 : decode cL_law 836 = .ok (.iaload, 1) := by decide +kernel
theorem dL_law_837 : decode cL_law 837 = .ok (.aload_n 0, 1) := by decide +kernel
theorem dL_law_838 : decode cL_law 838 = .ok (.iload_n 3, 1) := by decide +kernel
theorem dL_law_839 : decode cL_law 839 = .ok (.iconst 2, 1) := by decide +kernel
theorem dL_law_840 : decode cL_law 840 = .ok (.iadd, 1) := by decide +kernel
theorem dL_law_841 : decode cL_law 841 = .ok (.iaload, 1) := by decide +kernel
theorem dL_law_842 : decode cL_law 842 = .ok (.ifCond .eq 7, 3) := by decide +kernel
theorem dL_law_845 : decode cL_law 845 = .ok (.iconst 1, 1) := by decide +kernel
theorem dL_law_846 : decode cL_law 846 = .ok (.goto 4, 3) := by decide +kernel
theorem dL_law_849 : decode cL_law 849 = .ok (.iconst 0, 1) := by decide +kernel
theorem dL_law_850 : decode cL_law 850 = .ok (.invokevirtual 116, 3) := by decide +kernel
theorem dL_law_853 : decode cL_law 853 = .ok (.aload_n 2, 1) := by decide +kernel
theorem dL_law_854 : decode cL_law 854 = .ok (.aload_n 0, 1) := by decide +kernel
theorem dL_law_855 : decode cL_law 855 = .ok (.iload_n 3, 1) := by decide +kernel
theorem dL_law_856 : decode cL_law 856 = .ok (.iconst 1, 1) := by decide +kernel
theorem dL_law_857 : decode cL_law 857 = .ok (.iadd, 1) := by decide +kernel
theorem dL_law_858 : decode cL_law 858 = .ok (.iaload, 1) := by decide +kernel
theorem dL_law_859 : decode cL_law 859 = .ok (.aload_n 0, 1) := by decide +kernel
theorem dL_law_860 : decode cL_law 860 = .ok (.iload_n 3, 1) := by decide +kernel
theorem dL_law_861 : decode cL_law 861 = .ok (.iconst 2, 1) := by decide +kernel
theorem dL_law_862 : decode cL_law 862 = .ok (.iadd, 1) := by decide +kernel
theorem dL_law_863 : decode cL_law 863 = .ok (.iaload, 1) := by decide +kernel
theorem dL_law_864 : decode cL_law 864 = .ok (.ifCond .eq 7, 3) := by decide +kernel
theorem dL_law_867 : decode cL_law 867 = .ok (.iconst 1, 1) := by decide +kernel
theorem dL_law_868 : decode cL_law 868 = .ok (.goto 4, 3) := by decide +kernel
theorem dL_law_871 : decode cL_law 871 = .ok (.iconst 0, 1) := by decide +kernel
theorem dL_law_872 : decode cL_law 872 = .ok (.invokevirtual 120, 3) := by decide +kernel
theorem dL_law_875 : decode cL_law 875 = .ok (.lcmp, 1) := by decide +kernel
theorem dL_law_876 : decode cL_law 876 = .ok (.ifCond .eq 200, 3) := by decide +kernel
theorem dL_law_879 : decode cL_law 879 = .ok (.iconst 0, 1) := by decide +kernel
theorem dL_law_880 : decode cL_law 880 = .ok (.ireturn, 1) := by decide +kernel
theorem dL_law_881 : decode cL_law 881 = .ok (.aload_n 1, 1) := by decide +kernel
theorem dL_law_882 : decode cL_law 882 = .ok (.aload_n 0, 1) := by decide +kernel
theorem dL_law_883 : decode cL_law 883 = .ok (.iload_n 3, 1) := by decide +kernel
theorem dL_law_884 : decode cL_law 884 = .ok (.iconst 1, 1) := by decide +kernel
theorem dL_law_885 : decode cL_law 885 = .ok (.iadd, 1) := by decide +kernel
theorem dL_law_886 : decode cL_law 886 = .ok (.iaload, 1) := by decide +kernel
theorem dL_law_887 : decode cL_law 887 = .ok (.aload_n 0, 1) := by decide +kernel
theorem dL_law_888 : decode cL_law 888 = .ok (.iload_n 3, 1) := by decide +kernel
theorem dL_law_889 : decode cL_law 889 = .ok (.iconst 2, 1) := by decide +kernel
theorem dL_law_890 : decode cL_law 890 = .ok (.iadd, 1) := by decide +kernel
theorem dL_law_891 : decode cL_law 891 = .ok (.iaload, 1) := by decide +kernel
theorem dL_law_892 : decode cL_law 892 = .ok (.ifCond .eq 7, 3) := by decide +kernel
theorem dL_law_895 : decode cL_law 895 = .ok (.iconst 1, 1) := by decide +kernel
theorem dL_law_896 : decode cL_law 896 = .ok (.goto 4, 3) := by decide +kernel
theorem dL_law_899 : decode cL_law 899 = .ok (.iconst 0, 1) := by decide +kernel
theorem dL_law_900 : decode cL_law 900 = .ok (.invokevirtual 121, 3) := by decide +kernel
theorem dL_law_903 : decode cL_law 903 = .ok (.aload_n 2, 1) := by decide +kernel
theorem dL_law_904 : decode cL_law 904 = .ok (.aload_n 0, 1) := by decide +kernel
theorem dL_law_905 : decode cL_law 905 = .ok (.iload_n 3, 1) := by decide +kernel
theorem dL_law_906 : decode cL_law 906 = .ok (.iconst 1, 1) := by decide +kernel
theorem dL_law_907 : decode cL_law 907 = .ok (.iadd, 1) := by decide +kernel
theorem dL_law_908 : decode cL_law 908 = .ok (.iaload, 1) := by decide +kernel
theorem dL_law_909 : decode cL_law 909 = .ok (.aload_n 0, 1) := by decide +kernel
theorem dL_law_910 : decode cL_law 910 = .ok (.iload_n 3, 1) := by decide +kernel
theorem dL_law_911 : decode cL_law 911 = .ok (.iconst 2, 1) := by decide +kernel
theorem dL_law_912 : decode cL_law 912 = .ok (.iadd, 1) := by decide +kernel
theorem dL_law_913 : decode cL_law 913 = .ok (.iaload, 1) := by decide +kernel
theorem dL_law_914 : decode cL_law 914 = .ok (.ifCond .eq 7, 3) := by decide +kernel
theorem dL_law_917 : decode cL_law 917 = .ok (.iconst 1, 1) := by decide +kernel
theorem dL_law_918 : decode cL_law 918 = .ok (.goto 4, 3) := by decide +kernel
theorem dL_law_921 : decode cL_law 921 = .ok (.iconst 0, 1) := by decide +kernel
theorem dL_law_922 : decode cL_law 922 = .ok (.invokevirtual 125, 3) := by decide +kernel
theorem dL_law_925 : decode cL_law 925 = .ok (.if_icmp .eq 151, 3) := by decide +kernel
theorem dL_law_928 : decode cL_law 928 = .ok (.iconst 0, 1) := by decide +kernel
theorem dL_law_929 : decode cL_law 929 = .ok (.ireturn, 1) := by decide +kernel
theorem dL_law_930 : decode cL_law 930 = .ok (.aload_n 1, 1) := by decide +kernel
theorem dL_law_931 : decode cL_law 931 = .ok (.aload_n 0, 1) := by decide +kernel
theorem dL_law_932 : decode cL_law 932 = .ok (.iload_n 3, 1) := by decide +kernel
theorem dL_law_933 : decode cL_law 933 = .ok (.iconst 1, 1) := by decide +kernel
theorem dL_law_934 : decode cL_law 934 = .ok (.iadd, 1) := by decide +kernel
theorem dL_law_935 : decode cL_law 935 = .ok (.iaload, 1) := by decide +kernel
theorem dL_law_936 : decode cL_law 936 = .ok (.i2l, 1) := by decide +kernel
theorem dL_law_937 : decode cL_law 937 = .ok (.bipush 32, 2) := by decide +kernel
theorem dL_law_939 : decode cL_law 939 = .ok (.lshl, 1) := by decide +kernel
theorem dL_law_940 : decode cL_law 940 = .ok (.aload_n 0, 1) := by decide +kernel
theorem dL_law_941 : decode cL_law 941 = .ok (.iload_n 3, 1) := by decide +kernel
theorem dL_law_942 : decode cL_law 942 = .ok (.iconst 2, 1) := by decide +kernel
theorem dL_law_943 : decode cL_law 943 = .ok (.iadd, 1) := by decide +kernel
theorem dL_law_944 : decode cL_law 944 = .ok (.iaload, 1) := by decide +kernel
theorem dL_law_945 : decode cL_law 945 = .ok (.i2l, 1) := by decide +kernel
theorem dL_law_946 : decode cL_law 946 = .ok (.ldc2_w 78, 3) := by decide +kernel
theorem dL_law_949 : decode cL_law 949 = .ok (.land, 1) := by decide +kernel
theorem dL_law_950 : decode cL_law 950 = .ok (.lor, 1) := by decide +kernel
theorem dL_law_951 : decode cL_law 951 = .ok (.invokevirtual 126, 3) := by decide +kernel
theorem dL_law_954 : decode cL_law 954 = .ok (.aload_n 2, 1) := by decide +kernel
theorem dL_law_955 : decode cL_law 955 = .ok (.aload_n 0, 1) := by decide +kernel
theorem dL_law_956 : decode cL_law 956 = .ok (.iload_n 3, 1) := by decide +kernel
theorem dL_law_957 : decode cL_law 957 = .ok (.iconst 1, 1) := by decide +kernel
theorem dL_law_958 : decode cL_law 958 = .ok (.iadd, 1) := by decide +kernel
theorem dL_law_959 : decode cL_law 959 = .ok (.iaload, 1) := by decide +kernel
theorem dL_law_960 : decode cL_law 960 = .ok (.i2l, 1) := by decide +kernel
theorem dL_law_961 : decode cL_law 961 = .ok (.bipush 32, 2) := by decide +kernel
theorem dL_law_963 : decode cL_law 963 = .ok (.lshl, 1) := by decide +kernel
theorem dL_law_964 : decode cL_law 964 = .ok (.aload_n 0, 1) := by decide +kernel
theorem dL_law_965 : decode cL_law 965 = .ok (.iload_n 3, 1) := by decide +kernel
theorem dL_law_966 : decode cL_law 966 = .ok (.iconst 2, 1) := by decide +kernel
theorem dL_law_967 : decode cL_law 967 = .ok (.iadd, 1) := by decide +kernel
theorem dL_law_968 : decode cL_law 968 = .ok (.iaload, 1) := by decide +kernel
theorem dL_law_969 : decode cL_law 969 = .ok (.i2l, 1) := by decide +kernel
theorem dL_law_970 : decode cL_law 970 = .ok (.ldc2_w 78, 3) := by decide +kernel
theorem dL_law_973 : decode cL_law 973 = .ok (.land, 1) := by decide +kernel
theorem dL_law_974 : decode cL_law 974 = .ok (.lor, 1) := by decide +kernel
theorem dL_law_975 : decode cL_law 975 = .ok (.invokevirtual 130, 3) := by decide +kernel
theorem dL_law_978 : decode cL_law 978 = .ok (.lcmp, 1) := by decide +kernel
theorem dL_law_979 : decode cL_law 979 = .ok (.ifCond .eq 97, 3) := by decide +kernel
theorem dL_law_982 : decode cL_law 982 = .ok (.iconst 0, 1) := by decide +kernel
theorem dL_law_983 : decode cL_law 983 = .ok (.ireturn, 1) := by decide +kernel
theorem dL_law_984 : decode cL_law 984 = .ok (.aload_n 1, 1) := by decide +kernel
theorem dL_law_985 : decode cL_law 985 = .ok (.aload_n 0, 1) := by decide +kernel
theorem dL_law_986 : decode cL_law 986 = .ok (.iload_n 3, 1) := by decide +kernel
theorem dL_law_987 : decode cL_law 987 = .ok (.iconst 1, 1) := by decide +kernel
theorem dL_law_988 : decode cL_law 988 = .ok (.iadd, 1) := by decide +kernel
theorem dL_law_989 : decode cL_law 989 = .ok (.iaload, 1) := by decide +kernel
theorem dL_law_990 : decode cL_law 990 = .ok (.invokevirtual 131, 3) := by decide +kernel
theorem dL_law_993 : decode cL_law 993 = .ok (.aload_n 2, 1) := by decide +kernel
theorem dL_law_994 : decode cL_law 994 = .ok (.aload_n 0, 1) := by decide +kernel
theorem dL_law_995 : decode cL_law 995 = .ok (.iload_n 3, 1) := by decide +kernel
theorem dL_law_996 : decode cL_law 996 = .ok (.iconst 1, 1) := by decide +kernel
theorem dL_law_997 : decode cL_law 997 = .ok (.iadd, 1) := by decide +kernel
theorem dL_law_998 : decode cL_law 998 = .ok (.iaload, 1) := by decide +kernel
theorem dL_law_999 : decode cL_law 999 = .ok (.invokevirtual 134, 3) := by decide +kernel
theorem dL_law_1002 : decode cL_law 1002 = .ok (.if_icmp .eq 74, 3) := by decide +kernel
theorem dL_law_1005 : decode cL_law 1005 = .ok (.iconst 0, 1) := by decide +kernel
theorem dL_law_1006 : decode cL_law 1006 = .ok (.ireturn, 1) := by decide +kernel
theorem dL_law_1007 : decode cL_law 1007 = .ok (.aload_n 1, 1) := by decide +kernel
theorem dL_law_1008 : decode cL_law 1008 = .ok (.aload_n 0, 1) := by decide +kernel
theorem dL_law_1009 : decode cL_law 1009 = .ok (.iload_n 3, 1) := by decide +kernel
theorem dL_law_1010 : decode cL_law 1010 = .ok (.iconst 1, 1) := by decide +kernel
theorem dL_law_1011 : decode cL_law 1011 = .ok (.iadd, 1) := by decide +kernel
theorem dL_law_1012 : decode cL_law 1012 = .ok (.iaload, 1) := by decide +kernel
theorem dL_law_1013 : decode cL_law 1013 = .ok (.invokevirtual 135, 3) := by decide +kernel
theorem dL_law_1016 : decode cL_law 1016 = .ok (.aload_n 2, 1) := by decide +kernel
theorem dL_law_1017 : decode cL_law 1017 = .ok (.aload_n 0, 1) := by decide +kernel
theorem dL_law_1018 : decode cL_law 1018 = .ok (.iload_n 3, 1) := by decide +kernel
theorem dL_law_1019 : decode cL_law 1019 = .ok (.iconst 1, 1) := by decide +kernel
theorem dL_law_1020 : decode cL_law 1020 = .ok (.iadd, 1) := by decide +kernel
theorem dL_law_1021 : decode cL_law 1021 = .ok (.iaload, 1) := by decide +kernel
theorem dL_law_1022 : decode cL_law 1022 = .ok (.invokevirtual 138, 3) := by decide +kernel
theorem dL_law_1025 : decode cL_law 1025 = .ok (.if_icmp .eq 51, 3) := by decide +kernel
theorem dL_law_1028 : decode cL_law 1028 = .ok (.iconst 0, 1) := by decide +kernel
theorem dL_law_1029 : decode cL_law 1029 = .ok (.ireturn, 1) := by decide +kernel
theorem dL_law_1030 : decode cL_law 1030 = .ok (.aload_n 1, 1) := by decide +kernel
theorem dL_law_1031 : decode cL_law 1031 = .ok (.aload_n 0, 1) := by decide +kernel
theorem dL_law_1032 : decode cL_law 1032 = .ok (.iload_n 3, 1) := by decide +kernel
theorem dL_law_1033 : decode cL_law 1033 = .ok (.iconst 1, 1) := by decide +kernel
theorem dL_law_1034 : decode cL_law 1034 = .ok (.iadd, 1) := by decide +kernel
theorem dL_law_1035 : decode cL_law 1035 = .ok (.iaload, 1) := by decide +kernel
theorem dL_law_1036 : decode cL_law 1036 = .ok (.invokevirtual 139, 3) := by decide +kernel
end
section
theorem dL_law_1039 : decode cL_law 1039 = .ok (.aload_n 2, 1) := by decide +kernel
theorem dL_law_1040 : decode cL_law 1040 = .ok (.aload_n 0, 1) := by decide +kernel
theorem dL_law_1041 : decode cL_law 1041 = .ok (.iload_n 3, 1) := by decide +kernel
theorem dL_law_1042 : decode cL_law 1042 = .ok (.iconst 1, 1) := by decide +kernel
theorem dL_law_1043 : decode cL_law 1043 = .ok (.iadd, 1) := by decide +kernel
theorem dL_law_1044 : decode cL_law 1044 = .ok (.iaload, 1) := by decide +kernel
theorem dL_law_1045 : decode cL_law 1045 = .ok (.invokevirtual 142, 3) := by decide +kernel
theorem dL_law_1048 : decode cL_law 1048 = .ok (.if_icmp .eq 28, 3) := by decide +kernel
theorem dL_law_1051 : decode cL_law 1051 = .ok (.iconst 0, 1) := by decide +kernel
theorem dL_law_1052 : decode cL_law 1052 = .ok (.ireturn, 1) := by decide +kernel
theorem dL_law_1053 : decode cL_law 1053 = .ok (.aload_n 1, 1) := by decide +kernel
theorem dL_law_1054 : decode cL_law 1054 = .ok (.aload_n 0, 1) := by decide +kernel
theorem dL_law_1055 : decode cL_law 1055 = .ok (.iload_n 3, 1) := by decide +kernel
theorem dL_law_1056 : decode cL_law 1056 = .ok (.iconst 1, 1) := by decide +kernel
theorem dL_law_1057 : decode cL_law 1057 = .ok (.iadd, 1) := by decide +kernel
theorem dL_law_1058 : decode cL_law 1058 = .ok (.iaload, 1) := by decide +kernel
theorem dL_law_1059 : decode cL_law 1059 = .ok (.invokevirtual 143, 3) := by decide +kernel
theorem dL_law_1062 : decode cL_law 1062 = .ok (.aload_n 2, 1) := by decide +kernel
theorem dL_law_1063 : decode cL_law 1063 = .ok (.aload_n 0, 1) := by decide +kernel
theorem dL_law_1064 : decode cL_law 1064 = .ok (.iload_n 3, 1) := by decide +kernel
theorem dL_law_1065 : decode cL_law 1065 = .ok (.iconst 1, 1) := by decide +kernel
theorem dL_law_1066 : decode cL_law 1066 = .ok (.iadd, 1) := by decide +kernel
theorem dL_law_1067 : decode cL_law 1067 = .ok (.iaload, 1) := by decide +kernel
theorem dL_law_1068 : decode cL_law 1068 = .ok (.invokevirtual 146, 3) := by decide +kernel
theorem dL_law_1071 : decode cL_law 1071 = .ok (.if_icmp .eq 5, 3) := by decide +kernel
theorem dL_law_1074 : decode cL_law 1074 = .ok (.iconst 0, 1) := by decide +kernel
theorem dL_law_1075 : decode cL_law 1075 = .ok (.ireturn, 1) := by decide +kernel
theorem dL_law_1076 : decode cL_law 1076 = .ok (.iinc 3 4, 3) := by decide +kernel
theorem dL_law_1079 : decode cL_law 1079 = .ok (.goto (-1061), 3) := by decide +kernel
theorem dL_law_1082 : decode cL_law 1082 = .ok (.iconst 1, 1) := by decide +kernel
theorem dL_law_1083 : decode cL_law 1083 = .ok (.ireturn, 1) := by decide +kernel
end
section
/-! the tables' words, carried in a contract's start rather than in its list of words -/
def zz_good : Cond → Bool
  | .fieldLinkNest .. => true
  | .methodLinkNest .. => true
  | w => goodWord w
def zz_W (U : State) : Prop := ∀ w ∈ lw_tbl, zz_good w = true → va_Nw w U
theorem zz_W_warm {s U : State} (hW : s.WarmedH U.vm) (h : zz_W s) : zz_W U := by
  intro w hw hg
  have h1 := h w hw hg
  cases w <;> first
    | exact va_Nw.warmF hW h1
    | exact va_Nw.warmM hW h1
    | exact word_at hW (good_of_word hg) h1
theorem zz_W_of {A : Array Value} {s : State} (h : ∀ w ∈ lw_tbl, w.before A s = true) : zz_W s := by
  intro w hw hg
  have h1 := h w hw
  cases w <;> first
    | exact va_Nw.of rfl h1
    | exact word_at (State.WarmedH.refl s) (good_of_word hg) h1
theorem zz_W_use {A : Array Value} {s : State} (h : zz_W s) {w : Cond} (hw : w ∈ lw_tbl) (hg : zz_good w = true) : w.before A s = true := by
  have h1 := h w hw hg
  cases w <;> first
    | exact va_Nw.use rfl h1
    | exact word_at (State.WarmedH.refl s) (good_of_word hg) h1
theorem zz_W_call {s : State} {g : JFrame} {mk : MethodId} {a : Array Value} (h : zz_W s) : zz_W (s.calling g mk a) := zz_W_warm (U := s.calling g mk a) (State.WarmedH.refl s) h
/-! the memory: cells by number; ints and longs by cell and place -/
abbrev zz_I : Type := Nat → Nat → Int32
abbrev zz_L : Type := Nat → Nat → Int64
abbrev zz_D : Type := (Nat × Nat) ⊕ (Nat × List (Nat ⊕ Bool))
def zz_up {α : Type} (f : Nat → Nat → α) (k i : Nat) (v : α) : Nat → Nat → α := fun k' i' => if k' = k ∧ i' = i then v else f k' i'
def zz_val (a : Nat → Nat) (I : zz_I) (L : zz_L) (k j : Nat) : Nat ⊕ Bool → Value
  | .inl d => .ref (a (k + d))
  | .inr false => .int (I k j)
  | .inr true => .long (L k j)
def zz_arr (ca : Nat → ClassId) (I : zz_I) (L : zz_L) (k n : Nat) : Nat → ClassId × vp_A
  | 0 => (ca 0, n, .inl (I k))
  | 1 => (ca 1, n, .inl (I k))
  | 2 => (ca 2, n, .inr (.inl (L k)))
  | _ => (ca 2, (I k 0).toNatClampNeg, .inr (.inl (L k)))
def zz_cell (ca : Nat → ClassId) (a : Nat → Nat) (I : zz_I) (L : zz_L) (k : Nat) : zz_D → va_E
  | .inl q => .inl (zz_arr ca I L k q.2 q.1)
  | .inr q => .inr (q.1, q.2.mapIdx (zz_val a I L k))
def zz_cells (ca : Nat → ClassId) (ds : List zz_D) (a : Nat → Nat) (I : zz_I) (L : zz_L) : va_W := ds.mapIdx (fun k d => (a k, zz_cell ca a I L k d))
theorem zz_get {ca : Nat → ClassId} {ds : List zz_D} {a : Nat → Nat} {I : zz_I} {L : zz_L} {k : Nat} {d : zz_D} (h : ds[k]? = some d) : (zz_cells ca ds a I L)[k]? = some (a k, zz_cell ca a I L k d) := by
  unfold zz_cells
  rw [List.getElem?_mapIdx, h]
  rfl
theorem zz_val_congr {a : Nat → Nat} {I I' : zz_I} {L L' : zz_L} {k : Nat} (h1 : I' k = I k) (h2 : L' k = L k) : zz_val a I' L' k = zz_val a I L k := by
  funext j f
  cases f with
  | inl d => rfl
  | inr b => cases b <;> simp [zz_val, h1, h2]
theorem zz_cell_congr {ca : Nat → ClassId} {a : Nat → Nat} {I I' : zz_I} {L L' : zz_L} {k : Nat} {d : zz_D} (h1 : I' k = I k) (h2 : L' k = L k) : zz_cell ca a I' L' k d = zz_cell ca a I L k d := by
  cases d with
  | inl q =>
    obtain ⟨t, n⟩ := q
    show Sum.inl (zz_arr ca I' L' k n t) = Sum.inl (zz_arr ca I L k n t)
    congr 1
    match t with
    | 0 => simp [zz_arr, h1]
    | 1 => simp [zz_arr, h1]
    | 2 => simp [zz_arr, h2]
    | t + 3 => simp [zz_arr, h1, h2]
  | inr q =>
    show Sum.inr (q.1, q.2.mapIdx (zz_val a I' L' k)) = Sum.inr (q.1, q.2.mapIdx (zz_val a I L k))
    rw [zz_val_congr h1 h2]
theorem zz_get_map {ca : Nat → ClassId} {ds : List zz_D} {a : Nat → Nat} {I : zz_I} {L : zz_L} (j : Nat) : (zz_cells ca ds a I L)[j]? = (ds[j]?).map (fun d => (a j, zz_cell ca a I L j d)) := List.getElem?_mapIdx
theorem zz_set {ca : Nat → ClassId} {ds : List zz_D} {a : Nat → Nat} {I I' : zz_I} {L L' : zz_L} {k : Nat} {d : zz_D} {e : va_E} (hd : ds[k]? = some d) (he : e = zz_cell ca a I' L' k d) (hI : ∀ j, j ≠ k → I' j = I j) (hL : ∀ j, j ≠ k → L' j = L j) :
    (zz_cells ca ds a I L).set k (a k, e) = zz_cells ca ds a I' L' := by
  subst he
  have hk : k < (zz_cells ca ds a I L).length := (List.getElem?_eq_some_iff.mp (zz_get (ca := ca) (a := a) (I := I) (L := L) hd)).1
  refine List.ext_getElem? (fun j => ?_)
  by_cases hj : k = j
  · subst hj
    exact (List.getElem?_set_self hk).trans (zz_get hd).symm
  · refine (List.getElem?_set_ne hj).trans ?_
    refine (zz_get_map j).trans (Eq.trans ?_ (zz_get_map j).symm)
    refine congrArg (fun f => (ds[j]?).map f) ?_
    funext dj
    exact congrArg (fun z => (a j, z)) (zz_cell_congr (hI j (fun q => hj q.symm)) (hL j (fun q => hj q.symm))).symm
theorem zz_up_ne {α : Type} (f : Nat → Nat → α) (k i : Nat) (v : α) (j : Nat) (h : j ≠ k) : zz_up f k i v j = f j := by
  funext q
  simp [zz_up, h]
theorem zz_up_at {α : Type} (f : Nat → Nat → α) (k i : Nat) (v : α) : zz_up f k i v k = fun q => if q = i then v else f k q := by
  funext q
  simp [zz_up]
def zz_tys (ca : Nat → ClassId) : List (ClassId × FieldType) := [(ca 0, .int), (ca 1, .boolean), (ca 2, .long)]
/-- the bundle: tables, cells, apart, frame -/
def zz_B (D : va_G) (ca : Nat → ClassId) (ds : List zz_D) (A : Nat → Prop) (H0 : Heap) (s : State) (a : Nat → Nat) (I : zz_I) (L : zz_L) (H : Heap) (locs : List Loc) : Prop :=
  va_K D vwCl (zz_tys ca) s ∧ va_P D vwCl (zz_cells ca ds a I L) H ∧ va_D A (zz_cells ca ds a I L) ∧ va_S A H0 H locs
/-- what is fixed while a method runs -/
def zz_X (p : Program) (s : State) (m : MethodId) (meth : Method) (c : Code) (cc : ByteArray) (own : String) (ret : Option FieldType) (nL : Nat) : Prop :=
  p.tables.exec = Jvm.exec ∧ c.code = cc ∧ c.maxLocals = nL ∧ s.vm.findClass own = some m.cls ∧ zz_W s ∧ meth.sig.returnType = ret ∧ meth.locks = false
/-- a contract's start -/
def zz_Pre (D : va_G) (ca : Nat → ClassId) (ds : List zz_D) (av : List Value) (a : Nat → Nat) (I : zz_I) (L : zz_L) (sz : Nat) : Array Value → State → Prop :=
  va_Pc av (fun U => U.heap.size = sz ∧ zz_W U ∧ va_K D vwCl (zz_tys ca) U ∧ va_P D vwCl (zz_cells ca ds a I L) U.heap ∧ va_D (fun _ => True) (zz_cells ca ds a I L))
/-- the world behind a method -/
def zz_At (D : va_G) (ca : Nat → ClassId) (ds : List zz_D) (A : Nat → Prop) (a : Nat → Nat) (u : zz_I × zz_L) (t : State) : Prop :=
  va_K D vwCl (zz_tys ca) t ∧ va_P D vwCl (zz_cells ca ds a u.1 u.2) t.heap ∧ va_D A (zz_cells ca ds a u.1 u.2)
def zz_Qi (D : va_G) (ca : Nat → ClassId) (ds : List zz_D) (A : Nat → Prop) (a : Nat → Nat) (P : Int32 → zz_I → zz_L → Prop) : Array Value → State → Outcome → State → Prop := va_Qi (fun r (u : zz_I × zz_L) => P r u.1 u.2) (zz_At D ca ds A a) A
def zz_Ql (D : va_G) (ca : Nat → ClassId) (ds : List zz_D) (A : Nat → Prop) (a : Nat → Nat) (P : Int64 → zz_I → zz_L → Prop) : Array Value → State → Outcome → State → Prop := va_Ql (fun r (u : zz_I × zz_L) => P r u.1 u.2) (zz_At D ca ds A a) A
def zz_Qv (D : va_G) (ca : Nat → ClassId) (ds : List zz_D) (A : Nat → Prop) (a : Nat → Nat) (P : zz_I → zz_L → Prop) : Array Value → State → Outcome → State → Prop := va_Qv (fun (u : zz_I × zz_L) => P u.1 u.2) (zz_At D ca ds A a) A
/-- which cells a method may change -/
def zz_A (ca : Nat → ClassId) (ds : List zz_D) (a : Nat → Nat) (I : zz_I) (L : zz_L) (sz : Nat) : Nat → Prop := va_A (zz_cells ca ds a I L) sz
/-- the goal at a pc: any heap that holds the bundle, any locals that hold the list -/
def zz_Go (p : Program) (l : Launch) (e : Env) (R : Room) (s : State) (m : MethodId) (args : Array Value) (below : List Frame) (meth : Method) (c : Code) (cells slots : Nat) (Q : State → Prop) (D : va_G) (ca : Nat → ClassId) (ds : List zz_D) (A : Nat → Prop) (nL pc : Nat) (a : Nat → Nat) (st : List Value) (lv : List (Nat × Value)) (I : zz_I) (L : zz_L) : Prop :=
  ∀ (H : Heap) (locs : List Loc) (ls : Array Slot), zz_B D ca ds A s.heap s a I L H locs → lv_has ls nL lv → W p l e R s m args below meth c H locs cells slots Q (F0 m pc ls st)
end
section
/-! one row an instruction, over the bundle -/
theorem zz_hts {args : Array Value} {s : State} (h : zz_W s) : ∀ w ∈ lw_tbl.filter zz_good, w.before args s = true := fun w hw => zz_W_use h (List.mem_filter.mp hw).1 (List.mem_filter.mp hw).2
/-- a field that can be read: entry 'index' of 'own' is field j of class ci -/
def zz_FL (own : String) (index ci j : Nat) : Prop :=
  ∃ (C : String) (T : u_T) (N : Nat), vwCl[ci]? = some (C, T, N) ∧ j < N ∧ (∀ w ∈ u_ws C T N, w ∈ lw_tbl.filter zz_good) ∧ (Cond.fieldLink own index (T j).1 (T j).2.1 (T j).2.2.1 ∈ lw_tbl ∨ ∃ host : String, Cond.fieldLinkNest own index (T j).1 (T j).2.1 (T j).2.2.1 host ∈ lw_tbl)
/-- a field that can be written, of type ty -/
def zz_FP (own : String) (index ci j : Nat) (ty : FieldType) : Prop :=
  ∃ (C : String) (T : u_T) (N : Nat) (ty0 : Nat → FieldType), vwCl[ci]? = some (C, T, N) ∧ j < N ∧ (∀ w ∈ u_ws C T N, w ∈ lw_tbl.filter zz_good) ∧ (Cond.fieldLink own index (T j).1 (T j).2.1 (T j).2.2.1 ∈ lw_tbl ∨ ∃ host : String, Cond.fieldLinkNest own index (T j).1 (T j).2.1 (T j).2.2.1 host ∈ lw_tbl) ∧ (∀ k, k < N → parseFieldDescriptor (T k).2.2.1 = some (ty0 k)) ∧ (∀ a, a < N → ∀ b, b < N → a ≠ b → (T a).2.1 ≠ (T b).2.1) ∧ (T j).2.2.2 = false ∧ parseFieldDescriptor (T j).2.2.1 = some ty
section ZR
variable {p : Program} {l : Launch} {e : Env} {R : Room} {s : State} {m : MethodId} {args : Array Value} {below : List Frame} {meth : Method} {c : Code} {H : Heap} {locs : List Loc} {cells slots : Nat} {Q : State → Prop}
variable {cc : ByteArray} {pc : Nat} {ls : Array Slot} {rest : List Value} {D : va_G} {A : Nat → Prop} {H0 : Heap} {ca : Nat → ClassId} {ds : List zz_D} {a : Nat → Nat} {I : zz_I} {L : zz_L}
theorem zz_getv (hx : p.tables.exec = Jvm.exec) (hb : c.code = cc) {own : String} (hown : s.vm.findClass own = some m.cls) (zw : zz_W s) (hB : zz_B D ca ds A H0 s a I L H locs) {index ci j k : Nat} {fs : List (Nat ⊕ Bool)} {f : Nat ⊕ Bool} {v : Value} (F : zz_FL own index ci j) (hd : ds[k]? = some (.inr (ci, fs))) (hf : fs[j]? = some f) (hv : zz_val a I L k j f = v) (hdg : decode cc pc = .ok (.getfield index, 3))
    (kk : W p l e R s m args below meth c H locs cells slots Q (F0 m (pc + 3) ls (v :: rest))) : W p l e R s m args below meth c H locs cells slots Q (F0 m pc ls (.ref (a k) :: rest)) := by
  obtain ⟨hK, hP, hD, hS⟩ := hB
  obtain ⟨C, T, N, hc, hj, hin, hl⟩ := F
  have he : (zz_cells ca ds a I L)[k]? = some (a k, .inr (ci, fs.mapIdx (zz_val a I L k))) := zz_get hd
  have hfv : (fs.mapIdx (zz_val a I L k))[j]? = some v := by rw [List.getElem?_mapIdx, hf, ← hv]; rfl
  rcases hl with hl | ⟨host, hl⟩
  · exact va_get (D := D) (ci := ci) (v := v) (C := C) (T := T) (N := N) hx hb (zz_hts zw) hin hown hK hP k he hc j hj (zz_W_use zw hl rfl) (fun _ h9 => h9) hfv hdg kk
  · exact va_getN (D := D) (ci := ci) (v := v) (C := C) (T := T) (N := N) hx hb (zz_hts zw) hin hown hK hP k he hc j hj (zz_W_use zw hl rfl) (fun _ h9 => h9) hfv hdg kk
theorem zz_geti (hx : p.tables.exec = Jvm.exec) (hb : c.code = cc) {own : String} (hown : s.vm.findClass own = some m.cls) (zw : zz_W s) (hB : zz_B D ca ds A H0 s a I L H locs) {index ci j k : Nat} {fs : List (Nat ⊕ Bool)} (F : zz_FL own index ci j) (hd : ds[k]? = some (.inr (ci, fs))) (hf : fs[j]? = some (.inr false)) (hdg : decode cc pc = .ok (.getfield index, 3))
    (kk : W p l e R s m args below meth c H locs cells slots Q (F0 m (pc + 3) ls (.int (I k j) :: rest))) : W p l e R s m args below meth c H locs cells slots Q (F0 m pc ls (.ref (a k) :: rest)) := zz_getv hx hb hown zw hB F hd hf rfl hdg kk
theorem zz_getl (hx : p.tables.exec = Jvm.exec) (hb : c.code = cc) {own : String} (hown : s.vm.findClass own = some m.cls) (zw : zz_W s) (hB : zz_B D ca ds A H0 s a I L H locs) {index ci j k : Nat} {fs : List (Nat ⊕ Bool)} (F : zz_FL own index ci j) (hd : ds[k]? = some (.inr (ci, fs))) (hf : fs[j]? = some (.inr true)) (hdg : decode cc pc = .ok (.getfield index, 3))
    (kk : W p l e R s m args below meth c H locs cells slots Q (F0 m (pc + 3) ls (.long (L k j) :: rest))) : W p l e R s m args below meth c H locs cells slots Q (F0 m pc ls (.ref (a k) :: rest)) := zz_getv hx hb hown zw hB F hd hf rfl hdg kk
theorem zz_getr (hx : p.tables.exec = Jvm.exec) (hb : c.code = cc) {own : String} (hown : s.vm.findClass own = some m.cls) (zw : zz_W s) (hB : zz_B D ca ds A H0 s a I L H locs) {index ci j k k' d : Nat} {fs : List (Nat ⊕ Bool)} (F : zz_FL own index ci j) (hd : ds[k]? = some (.inr (ci, fs))) (hf : fs[j]? = some (.inl d)) (hk : k + d = k') (hdg : decode cc pc = .ok (.getfield index, 3))
    (kk : W p l e R s m args below meth c H locs cells slots Q (F0 m (pc + 3) ls (.ref (a k') :: rest))) : W p l e R s m args below meth c H locs cells slots Q (F0 m pc ls (.ref (a k) :: rest)) := zz_getv hx hb hown zw hB F hd hf (by rw [← hk]; rfl) hdg kk
theorem zz_mapIdx_set {fs : List (Nat ⊕ Bool)} {f g : Nat → Nat ⊕ Bool → Value} {j : Nat} {q : Nat ⊕ Bool} (hf : fs[j]? = some q) (h : ∀ i z, i ≠ j → g i z = f i z) : (fs.mapIdx f).set j (g j q) = fs.mapIdx g := by
  have hk : j < (fs.mapIdx f).length := by rw [List.length_mapIdx]; exact (List.getElem?_eq_some_iff.mp hf).1
  refine List.ext_getElem? (fun i => ?_)
  by_cases hj : j = i
  · subst hj
    refine (List.getElem?_set_self hk).trans ?_
    rw [List.getElem?_mapIdx, hf]
    rfl
  · refine (List.getElem?_set_ne hj).trans ?_
    rw [List.getElem?_mapIdx, List.getElem?_mapIdx]
    refine congrArg (fun f => (fs[i]?).map f) ?_
    funext z
    exact (h i z (fun q => hj q.symm)).symm
theorem zz_putv (hx : p.tables.exec = Jvm.exec) (hb : c.code = cc) {own : String} (hown : s.vm.findClass own = some m.cls) (zw : zz_W s) (hB : zz_B D ca ds A H0 s a I L H locs) {index ci j k : Nat} {ty : FieldType} {fs : List (Nat ⊕ Bool)} {f : Nat ⊕ Bool} {v : Value} {I' : zz_I} {L' : zz_L} (F : zz_FP own index ci j ty) (hd : ds[k]? = some (.inr (ci, fs))) (hf : fs[j]? = some f) (hv : zz_val a I' L' k j f = v) (hI : ∀ q, q ≠ k → I' q = I q) (hL : ∀ q, q ≠ k → L' q = L q) (hz : ∀ i z, i ≠ j → zz_val a I' L' k i z = zz_val a I L k i z) (hn : narrow ty v = v) (hfit : fits ty v = true) (hdg : decode cc pc = .ok (.putfield index, 3))
    (kk : ∀ (H : Heap) (locs : List Loc), zz_B D ca ds A H0 s a I' L' H locs → W p l e R s m args below meth c H locs cells slots Q (F0 m (pc + 3) ls rest)) : W p l e R s m args below meth c H locs cells slots Q (F0 m pc ls (v :: .ref (a k) :: rest)) := by
  obtain ⟨hK, hP, hD, hS⟩ := hB
  obtain ⟨C, T, N, ty0, hc, hj, hin, hl, hty, hnm, hfin, hpd⟩ := F
  have he : (zz_cells ca ds a I L)[k]? = some (a k, .inr (ci, fs.mapIdx (zz_val a I L k))) := zz_get hd
  have hlen : j < (fs.mapIdx (zz_val a I L k)).length := by rw [List.length_mapIdx]; exact (List.getElem?_eq_some_iff.mp hf).1
  have hset : (zz_cells ca ds a I L).set k (a k, .inr (ci, (fs.mapIdx (zz_val a I L k)).set j v)) = zz_cells ca ds a I' L' := by
    refine zz_set hd ?_ hI hL
    show Sum.inr (ci, (fs.mapIdx (zz_val a I L k)).set j v) = Sum.inr (ci, fs.mapIdx (zz_val a I' L' k))
    rw [← hv, zz_mapIdx_set hf hz]
  have kk' : ∀ (H1 : Heap) (locs1 : List Loc), va_P D vwCl ((zz_cells ca ds a I L).set k (a k, .inr (ci, (fs.mapIdx (zz_val a I L k)).set j v))) H1 → va_D A ((zz_cells ca ds a I L).set k (a k, .inr (ci, (fs.mapIdx (zz_val a I L k)).set j v))) → va_S A H0 H1 locs1 → W p l e R s m args below meth c H1 locs1 cells slots Q (F0 m (pc + 3) ls rest) := by
    intro H1 locs1 h1 h2 h3
    rw [hset] at h1 h2
    exact kk H1 locs1 ⟨hK, h1, h2, h3⟩
  rcases hl with hl | ⟨host, hl⟩
  · exact va_put (D := D) (ci := ci) (v := v) (ty := ty) (C := C) (T := T) (N := N) hx hb (zz_hts zw) hin ty0 hty hnm hown hK hP hD hS k he hc j hj (zz_W_use zw hl rfl) (fun _ h9 => h9) hfin hpd hn hfit hlen hdg kk'
  · exact va_putN (D := D) (ci := ci) (v := v) (ty := ty) (C := C) (T := T) (N := N) hx hb (zz_hts zw) hin ty0 hty hnm hown hK hP hD hS k he hc j hj (zz_W_use zw hl rfl) (fun _ h9 => h9) hfin hpd hn hfit hlen hdg kk'
theorem zz_val_upi {a : Nat → Nat} {I : zz_I} {L : zz_L} {k j : Nat} {x : Int32} : ∀ i z, i ≠ j → zz_val a (zz_up I k j x) L k i z = zz_val a I L k i z := by
  intro i z hi
  cases z with
  | inl d => rfl
  | inr b => cases b <;> simp [zz_val, zz_up, hi]
theorem zz_val_upl {a : Nat → Nat} {I : zz_I} {L : zz_L} {k j : Nat} {x : Int64} : ∀ i z, i ≠ j → zz_val a I (zz_up L k j x) k i z = zz_val a I L k i z := by
  intro i z hi
  cases z with
  | inl d => rfl
  | inr b => cases b <;> simp [zz_val, zz_up, hi]
theorem zz_puti (hx : p.tables.exec = Jvm.exec) (hb : c.code = cc) {own : String} (hown : s.vm.findClass own = some m.cls) (zw : zz_W s) (hB : zz_B D ca ds A H0 s a I L H locs) {index ci j k : Nat} {fs : List (Nat ⊕ Bool)} {x : Int32} (F : zz_FP own index ci j .int) (hd : ds[k]? = some (.inr (ci, fs))) (hf : fs[j]? = some (.inr false)) (hdg : decode cc pc = .ok (.putfield index, 3))
    (kk : ∀ (H : Heap) (locs : List Loc), zz_B D ca ds A H0 s a (zz_up I k j x) L H locs → W p l e R s m args below meth c H locs cells slots Q (F0 m (pc + 3) ls rest)) : W p l e R s m args below meth c H locs cells slots Q (F0 m pc ls (.int x :: .ref (a k) :: rest)) :=
  zz_putv hx hb hown zw hB F hd hf (by simp [zz_val, zz_up]) (fun q hq => zz_up_ne I k j x q hq) (fun _ _ => rfl) zz_val_upi rfl rfl hdg kk
theorem zz_putl (hx : p.tables.exec = Jvm.exec) (hb : c.code = cc) {own : String} (hown : s.vm.findClass own = some m.cls) (zw : zz_W s) (hB : zz_B D ca ds A H0 s a I L H locs) {index ci j k : Nat} {fs : List (Nat ⊕ Bool)} {x : Int64} (F : zz_FP own index ci j .long) (hd : ds[k]? = some (.inr (ci, fs))) (hf : fs[j]? = some (.inr true)) (hdg : decode cc pc = .ok (.putfield index, 3))
    (kk : ∀ (H : Heap) (locs : List Loc), zz_B D ca ds A H0 s a I (zz_up L k j x) H locs → W p l e R s m args below meth c H locs cells slots Q (F0 m (pc + 3) ls rest)) : W p l e R s m args below meth c H locs cells slots Q (F0 m pc ls (.long x :: .ref (a k) :: rest)) :=
  zz_putv hx hb hown zw hB F hd hf (by simp [zz_val, zz_up]) (fun _ _ => rfl) (fun q hq => zz_up_ne L k j x q hq) zz_val_upl rfl rfl hdg kk
def zz_bool (x : Int32) : Prop := x = 0 ∨ x = 1
theorem zz_bool0 : zz_bool 0 := Or.inl rfl
theorem zz_bool1 : zz_bool 1 := Or.inr rfl
theorem zz_putz (hx : p.tables.exec = Jvm.exec) (hb : c.code = cc) {own : String} (hown : s.vm.findClass own = some m.cls) (zw : zz_W s) (hB : zz_B D ca ds A H0 s a I L H locs) {index ci j k : Nat} {fs : List (Nat ⊕ Bool)} {x : Int32} (F : zz_FP own index ci j .boolean) (hz : zz_bool x) (hd : ds[k]? = some (.inr (ci, fs))) (hf : fs[j]? = some (.inr false)) (hdg : decode cc pc = .ok (.putfield index, 3))
    (kk : ∀ (H : Heap) (locs : List Loc), zz_B D ca ds A H0 s a (zz_up I k j x) L H locs → W p l e R s m args below meth c H locs cells slots Q (F0 m (pc + 3) ls rest)) : W p l e R s m args below meth c H locs cells slots Q (F0 m pc ls (.int x :: .ref (a k) :: rest)) :=
  zz_putv hx hb hown zw hB F hd hf (by simp [zz_val, zz_up]) (fun q hq => zz_up_ne I k j x q hq) (fun _ _ => rfl) zz_val_upi (by rcases hz with rfl | rfl <;> decide) (by rcases hz with rfl | rfl <;> decide) hdg kk
theorem zz_iald (hx : p.tables.exec = Jvm.exec) (hb : c.code = cc) (hB : zz_B D ca ds A H0 s a I L H locs) {k n : Nat} (hd : ds[k]? = some (.inl (0, n))) {i : Int32} (hin : vp_in i n) (hdg : decode cc pc = .ok (.iaload, 1))
    (kk : W p l e R s m args below meth c H locs cells slots Q (F0 m (pc + 1) ls (.int (I k i.toNatClampNeg) :: rest))) : W p l e R s m args below meth c H locs cells slots Q (F0 m pc ls (.int i :: .ref (a k) :: rest)) := by
  obtain ⟨hK, hP, hD, hS⟩ := hB
  exact va_iald hx hb hK hP k 0 (cA := ca 0) (n := n) (f := I k) (zz_get hd) rfl hin hdg kk
theorem zz_zald (hx : p.tables.exec = Jvm.exec) (hb : c.code = cc) (hB : zz_B D ca ds A H0 s a I L H locs) {k n : Nat} (hd : ds[k]? = some (.inl (1, n))) {i : Int32} (hin : vp_in i n) (hdg : decode cc pc = .ok (.baload, 1))
    (kk : W p l e R s m args below meth c H locs cells slots Q (F0 m (pc + 1) ls (.int (I k i.toNatClampNeg) :: rest))) : W p l e R s m args below meth c H locs cells slots Q (F0 m pc ls (.int i :: .ref (a k) :: rest)) := by
  obtain ⟨hK, hP, hD, hS⟩ := hB
  exact va_zald hx hb hK hP k 1 (cA := ca 1) (n := n) (f := I k) (zz_get hd) rfl hin hdg kk
theorem zz_lald (hx : p.tables.exec = Jvm.exec) (hb : c.code = cc) (hB : zz_B D ca ds A H0 s a I L H locs) {k n : Nat} (hd : ds[k]? = some (.inl (2, n))) {i : Int32} (hin : vp_in i n) (hdg : decode cc pc = .ok (.laload, 1))
    (kk : W p l e R s m args below meth c H locs cells slots Q (F0 m (pc + 1) ls (.long (L k i.toNatClampNeg) :: rest))) : W p l e R s m args below meth c H locs cells slots Q (F0 m pc ls (.int i :: .ref (a k) :: rest)) := by
  obtain ⟨hK, hP, hD, hS⟩ := hB
  exact va_lald hx hb hK hP k 2 (cA := ca 2) (n := n) (f := L k) (zz_get hd) rfl hin hdg kk
theorem zz_lald3 (hx : p.tables.exec = Jvm.exec) (hb : c.code = cc) (hB : zz_B D ca ds A H0 s a I L H locs) {k n : Nat} (hd : ds[k]? = some (.inl (3, n))) {i : Int32} (hin : vp_in i (I k 0).toNatClampNeg) (hdg : decode cc pc = .ok (.laload, 1))
    (kk : W p l e R s m args below meth c H locs cells slots Q (F0 m (pc + 1) ls (.long (L k i.toNatClampNeg) :: rest))) : W p l e R s m args below meth c H locs cells slots Q (F0 m pc ls (.int i :: .ref (a k) :: rest)) := by
  obtain ⟨hK, hP, hD, hS⟩ := hB
  exact va_lald hx hb hK hP k 2 (cA := ca 2) (n := (I k 0).toNatClampNeg) (f := L k) (zz_get hd) rfl hin hdg kk
theorem zz_iast (hx : p.tables.exec = Jvm.exec) (hb : c.code = cc) (hB : zz_B D ca ds A H0 s a I L H locs) {k n : Nat} (hd : ds[k]? = some (.inl (0, n))) {i x : Int32} (hin : vp_in i n) (hdg : decode cc pc = .ok (.iastore, 1))
    (kk : ∀ (H : Heap) (locs : List Loc), zz_B D ca ds A H0 s a (zz_up I k i.toNatClampNeg x) L H locs → W p l e R s m args below meth c H locs cells slots Q (F0 m (pc + 1) ls rest)) : W p l e R s m args below meth c H locs cells slots Q (F0 m pc ls (.int x :: .int i :: .ref (a k) :: rest)) := by
  obtain ⟨hK, hP, hD, hS⟩ := hB
  have hset : (zz_cells ca ds a I L).set k (a k, .inl (ca 0, n, .inl (upd (I k) i.toNatClampNeg x))) = zz_cells ca ds a (zz_up I k i.toNatClampNeg x) L := by
    refine zz_set hd ?_ (fun q hq => zz_up_ne I k _ x q hq) (fun _ _ => rfl)
    show _ = (Sum.inl (ca 0, n, .inl (zz_up I k i.toNatClampNeg x k)) : va_E)
    rw [zz_up_at]; rfl
  refine va_iast hx hb hK hP hD hS k 0 (cA := ca 0) (n := n) (f := I k) (zz_get hd) rfl hin hdg (fun H1 locs1 h1 h2 h3 => ?_)
  rw [hset] at h1 h2
  exact kk H1 locs1 ⟨hK, h1, h2, h3⟩
theorem zz_zast (hx : p.tables.exec = Jvm.exec) (hb : c.code = cc) (hB : zz_B D ca ds A H0 s a I L H locs) {k n : Nat} (hd : ds[k]? = some (.inl (1, n))) {i x : Int32} (hin : vp_in i n) (hdg : decode cc pc = .ok (.bastore, 1))
    (kk : ∀ (H : Heap) (locs : List Loc), zz_B D ca ds A H0 s a (zz_up I k i.toNatClampNeg (vp_nar .boolean x)) L H locs → W p l e R s m args below meth c H locs cells slots Q (F0 m (pc + 1) ls rest)) : W p l e R s m args below meth c H locs cells slots Q (F0 m pc ls (.int x :: .int i :: .ref (a k) :: rest)) := by
  obtain ⟨hK, hP, hD, hS⟩ := hB
  have hset : (zz_cells ca ds a I L).set k (a k, .inl (ca 1, n, .inl (upd (I k) i.toNatClampNeg (vp_nar .boolean x)))) = zz_cells ca ds a (zz_up I k i.toNatClampNeg (vp_nar .boolean x)) L := by
    refine zz_set hd ?_ (fun q hq => zz_up_ne I k _ _ q hq) (fun _ _ => rfl)
    show _ = (Sum.inl (ca 1, n, .inl (zz_up I k i.toNatClampNeg (vp_nar .boolean x) k)) : va_E)
    rw [zz_up_at]; rfl
  refine va_zast hx hb hK hP hD hS k 1 (cA := ca 1) (n := n) (f := I k) (zz_get hd) rfl hin hdg (fun H1 locs1 h1 h2 h3 => ?_)
  rw [hset] at h1 h2
  exact kk H1 locs1 ⟨hK, h1, h2, h3⟩
theorem zz_last (hx : p.tables.exec = Jvm.exec) (hb : c.code = cc) (hB : zz_B D ca ds A H0 s a I L H locs) {k n : Nat} (hd : ds[k]? = some (.inl (2, n))) {i : Int32} {x : Int64} (hin : vp_in i n) (hdg : decode cc pc = .ok (.lastore, 1))
    (kk : ∀ (H : Heap) (locs : List Loc), zz_B D ca ds A H0 s a I (zz_up L k i.toNatClampNeg x) H locs → W p l e R s m args below meth c H locs cells slots Q (F0 m (pc + 1) ls rest)) : W p l e R s m args below meth c H locs cells slots Q (F0 m pc ls (.long x :: .int i :: .ref (a k) :: rest)) := by
  obtain ⟨hK, hP, hD, hS⟩ := hB
  have hset : (zz_cells ca ds a I L).set k (a k, .inl (ca 2, n, .inr (.inl (vp_updL (L k) i.toNatClampNeg x)))) = zz_cells ca ds a I (zz_up L k i.toNatClampNeg x) := by
    refine zz_set hd ?_ (fun _ _ => rfl) (fun q hq => zz_up_ne L k _ x q hq)
    show _ = (Sum.inl (ca 2, n, .inr (.inl (zz_up L k i.toNatClampNeg x k))) : va_E)
    rw [zz_up_at]; rfl
  refine va_last hx hb hK hP hD hS k 2 (cA := ca 2) (n := n) (f := L k) (zz_get hd) rfl hin hdg (fun H1 locs1 h1 h2 h3 => ?_)
  rw [hset] at h1 h2
  exact kk H1 locs1 ⟨hK, h1, h2, h3⟩
theorem zz_last3 (hx : p.tables.exec = Jvm.exec) (hb : c.code = cc) (hB : zz_B D ca ds A H0 s a I L H locs) {k n : Nat} (hd : ds[k]? = some (.inl (3, n))) {i : Int32} {x : Int64} (hin : vp_in i (I k 0).toNatClampNeg) (hdg : decode cc pc = .ok (.lastore, 1))
    (kk : ∀ (H : Heap) (locs : List Loc), zz_B D ca ds A H0 s a I (zz_up L k i.toNatClampNeg x) H locs → W p l e R s m args below meth c H locs cells slots Q (F0 m (pc + 1) ls rest)) : W p l e R s m args below meth c H locs cells slots Q (F0 m pc ls (.long x :: .int i :: .ref (a k) :: rest)) := by
  obtain ⟨hK, hP, hD, hS⟩ := hB
  have hset : (zz_cells ca ds a I L).set k (a k, .inl (ca 2, (I k 0).toNatClampNeg, .inr (.inl (vp_updL (L k) i.toNatClampNeg x)))) = zz_cells ca ds a I (zz_up L k i.toNatClampNeg x) := by
    refine zz_set hd ?_ (fun _ _ => rfl) (fun q hq => zz_up_ne L k _ x q hq)
    show _ = (Sum.inl (ca 2, (I k 0).toNatClampNeg, .inr (.inl (zz_up L k i.toNatClampNeg x k))) : va_E)
    rw [zz_up_at]; rfl
  refine va_last hx hb hK hP hD hS k 2 (cA := ca 2) (n := (I k 0).toNatClampNeg) (f := L k) (zz_get hd) rfl hin hdg (fun H1 locs1 h1 h2 h3 => ?_)
  rw [hset] at h1 h2
  exact kk H1 locs1 ⟨hK, h1, h2, h3⟩
theorem zz_alen0 (hx : p.tables.exec = Jvm.exec) (hb : c.code = cc) (hB : zz_B D ca ds A H0 s a I L H locs) {k n : Nat} (hd : ds[k]? = some (.inl (0, n))) (hdg : decode cc pc = .ok (.arraylength, 1))
    (kk : W p l e R s m args below meth c H locs cells slots Q (F0 m (pc + 1) ls (.int (nI n) :: rest))) : W p l e R s m args below meth c H locs cells slots Q (F0 m pc ls (.ref (a k) :: rest)) := by
  obtain ⟨hK, hP, hD, hS⟩ := hB
  exact va_alen hx hb hK hP k 0 (cA := ca 0) (x := (n, .inl (I k))) (zz_get hd) (ty := .int) rfl rfl hdg kk
theorem zz_alen2 (hx : p.tables.exec = Jvm.exec) (hb : c.code = cc) (hB : zz_B D ca ds A H0 s a I L H locs) {k n : Nat} (hd : ds[k]? = some (.inl (2, n))) (hdg : decode cc pc = .ok (.arraylength, 1))
    (kk : W p l e R s m args below meth c H locs cells slots Q (F0 m (pc + 1) ls (.int (nI n) :: rest))) : W p l e R s m args below meth c H locs cells slots Q (F0 m pc ls (.ref (a k) :: rest)) := by
  obtain ⟨hK, hP, hD, hS⟩ := hB
  exact va_alen hx hb hK hP k 2 (cA := ca 2) (x := (n, .inr (.inl (L k)))) (zz_get hd) (ty := .long) rfl rfl hdg kk
theorem zz_alen3 (hx : p.tables.exec = Jvm.exec) (hb : c.code = cc) (hB : zz_B D ca ds A H0 s a I L H locs) {k n : Nat} (hd : ds[k]? = some (.inl (3, n))) (hdg : decode cc pc = .ok (.arraylength, 1))
    (kk : W p l e R s m args below meth c H locs cells slots Q (F0 m (pc + 1) ls (.int (nI (I k 0).toNatClampNeg) :: rest))) : W p l e R s m args below meth c H locs cells slots Q (F0 m pc ls (.ref (a k) :: rest)) := by
  obtain ⟨hK, hP, hD, hS⟩ := hB
  exact va_alen hx hb hK hP k 2 (cA := ca 2) (x := ((I k 0).toNatClampNeg, .inr (.inl (L k)))) (zz_get hd) (ty := .long) rfl rfl hdg kk
/-! long compares with the branch behind them -/
theorem zz_lc3 (x y : Int64) : (lg_cmp x y = -1 ∧ x < y) ∨ (lg_cmp x y = 0 ∧ x = y) ∨ (lg_cmp x y = 1 ∧ y < x) := by
  unfold lg_cmp
  by_cases h1 : y < x
  · right; right
    simp [h1]
  · by_cases h2 : x = y
    · right; left
      subst h2; simp
    · left
      have h3 : x ≤ y := Int64.not_lt.mp h1
      simp [h1, h2]
      exact Int64.lt_of_le_of_ne h3 h2
theorem zz_lc_lt (x y : Int64) : lg_cmp x y < 0 ↔ x < y := by
  rcases zz_lc3 x y with ⟨h, g⟩ | ⟨h, g⟩ | ⟨h, g⟩ <;> rw [h]
  · exact ⟨fun _ => g, fun _ => by decide⟩
  · exact ⟨fun q => absurd q (by decide), fun q => absurd q (by rw [g]; exact Int64.lt_irrefl)⟩
  · exact ⟨fun q => absurd q (by decide), fun q => absurd q (Int64.lt_asymm g)⟩
theorem zz_lc_gt (x y : Int64) : 0 < lg_cmp x y ↔ y < x := by
  rcases zz_lc3 x y with ⟨h, g⟩ | ⟨h, g⟩ | ⟨h, g⟩ <;> rw [h]
  · exact ⟨fun q => absurd q (by decide), fun q => absurd q (Int64.lt_asymm g)⟩
  · exact ⟨fun q => absurd q (by decide), fun q => absurd q (by rw [g]; exact Int64.lt_irrefl)⟩
  · exact ⟨fun _ => g, fun _ => by decide⟩
theorem zz_lc_eq (x y : Int64) : lg_cmp x y = 0 ↔ x = y := by
  rcases zz_lc3 x y with ⟨h, g⟩ | ⟨h, g⟩ | ⟨h, g⟩ <;> rw [h]
  · exact ⟨fun q => absurd q (by decide), fun q => absurd q (by intro z; rw [z] at g; exact Int64.lt_irrefl g)⟩
  · exact ⟨fun _ => g, fun _ => rfl⟩
  · exact ⟨fun q => absurd q (by decide), fun q => absurd q (by intro z; rw [z] at g; exact Int64.lt_irrefl g)⟩
theorem zz_lc_le (x y : Int64) : lg_cmp x y ≤ 0 ↔ x ≤ y := by
  rw [← Int32.not_lt, zz_lc_gt, Int64.not_lt]
theorem zz_lc_ge (x y : Int64) : 0 ≤ lg_cmp x y ↔ y ≤ x := by
  rw [← Int32.not_lt, zz_lc_lt, Int64.not_lt]
theorem zz_l_lt (hx : p.tables.exec = Jvm.exec) (hb : c.code = cc) {x y : Int64} {off : Int} {tgt : Nat} (hdg : decode cc pc = .ok (.lcmp, 1)) (hdg2 : decode cc (pc + 1) = .ok (.ifCond .lt off, 3)) (ht : ((pc + 1 : Nat) : Int) + off = (tgt : Int))
    (kt : x < y → W p l e R s m args below meth c H locs cells slots Q (F0 m tgt ls rest)) (kf : ¬ x < y → W p l e R s m args below meth c H locs cells slots Q (F0 m (pc + 1 + 3) ls rest)) : W p l e R s m args below meth c H locs cells slots Q (F0 m pc ls (.long y :: .long x :: rest)) :=
  W.lcmp hx hb hdg (lv_if_lt hx hb hdg2 ht (fun h => kt ((zz_lc_lt x y).mp h)) (fun h => kf (fun q => h ((zz_lc_lt x y).mpr q))))
theorem zz_l_ge (hx : p.tables.exec = Jvm.exec) (hb : c.code = cc) {x y : Int64} {off : Int} {tgt : Nat} (hdg : decode cc pc = .ok (.lcmp, 1)) (hdg2 : decode cc (pc + 1) = .ok (.ifCond .ge off, 3)) (ht : ((pc + 1 : Nat) : Int) + off = (tgt : Int))
    (kt : y ≤ x → W p l e R s m args below meth c H locs cells slots Q (F0 m tgt ls rest)) (kf : ¬ y ≤ x → W p l e R s m args below meth c H locs cells slots Q (F0 m (pc + 1 + 3) ls rest)) : W p l e R s m args below meth c H locs cells slots Q (F0 m pc ls (.long y :: .long x :: rest)) :=
  W.lcmp hx hb hdg (lv_if_ge hx hb hdg2 ht (fun h => kt ((zz_lc_ge x y).mp h)) (fun h => kf (fun q => h ((zz_lc_ge x y).mpr q))))
theorem zz_l_gt (hx : p.tables.exec = Jvm.exec) (hb : c.code = cc) {x y : Int64} {off : Int} {tgt : Nat} (hdg : decode cc pc = .ok (.lcmp, 1)) (hdg2 : decode cc (pc + 1) = .ok (.ifCond .gt off, 3)) (ht : ((pc + 1 : Nat) : Int) + off = (tgt : Int))
    (kt : y < x → W p l e R s m args below meth c H locs cells slots Q (F0 m tgt ls rest)) (kf : ¬ y < x → W p l e R s m args below meth c H locs cells slots Q (F0 m (pc + 1 + 3) ls rest)) : W p l e R s m args below meth c H locs cells slots Q (F0 m pc ls (.long y :: .long x :: rest)) :=
  W.lcmp hx hb hdg (lv_if_gt hx hb hdg2 ht (fun h => kt ((zz_lc_gt x y).mp h)) (fun h => kf (fun q => h ((zz_lc_gt x y).mpr q))))
theorem zz_l_le (hx : p.tables.exec = Jvm.exec) (hb : c.code = cc) {x y : Int64} {off : Int} {tgt : Nat} (hdg : decode cc pc = .ok (.lcmp, 1)) (hdg2 : decode cc (pc + 1) = .ok (.ifCond .le off, 3)) (ht : ((pc + 1 : Nat) : Int) + off = (tgt : Int))
    (kt : x ≤ y → W p l e R s m args below meth c H locs cells slots Q (F0 m tgt ls rest)) (kf : ¬ x ≤ y → W p l e R s m args below meth c H locs cells slots Q (F0 m (pc + 1 + 3) ls rest)) : W p l e R s m args below meth c H locs cells slots Q (F0 m pc ls (.long y :: .long x :: rest)) :=
  W.lcmp hx hb hdg (lv_if_le hx hb hdg2 ht (fun h => kt ((zz_lc_le x y).mp h)) (fun h => kf (fun q => h ((zz_lc_le x y).mpr q))))
theorem zz_l_eq (hx : p.tables.exec = Jvm.exec) (hb : c.code = cc) {x y : Int64} {off : Int} {tgt : Nat} (hdg : decode cc pc = .ok (.lcmp, 1)) (hdg2 : decode cc (pc + 1) = .ok (.ifCond .eq off, 3)) (ht : ((pc + 1 : Nat) : Int) + off = (tgt : Int))
    (kt : x = y → W p l e R s m args below meth c H locs cells slots Q (F0 m tgt ls rest)) (kf : ¬ x = y → W p l e R s m args below meth c H locs cells slots Q (F0 m (pc + 1 + 3) ls rest)) : W p l e R s m args below meth c H locs cells slots Q (F0 m pc ls (.long y :: .long x :: rest)) :=
  W.lcmp hx hb hdg (lv_if_eq hx hb hdg2 ht (fun h => kt ((zz_lc_eq x y).mp h)) (fun h => kf (fun q => h ((zz_lc_eq x y).mpr q))))
theorem zz_l_ne (hx : p.tables.exec = Jvm.exec) (hb : c.code = cc) {x y : Int64} {off : Int} {tgt : Nat} (hdg : decode cc pc = .ok (.lcmp, 1)) (hdg2 : decode cc (pc + 1) = .ok (.ifCond .ne off, 3)) (ht : ((pc + 1 : Nat) : Int) + off = (tgt : Int))
    (kt : ¬ x = y → W p l e R s m args below meth c H locs cells slots Q (F0 m tgt ls rest)) (kf : x = y → W p l e R s m args below meth c H locs cells slots Q (F0 m (pc + 1 + 3) ls rest)) : W p l e R s m args below meth c H locs cells slots Q (F0 m pc ls (.long y :: .long x :: rest)) :=
  W.lcmp hx hb hdg (lv_if_ne hx hb hdg2 ht (fun h => kt (fun q => h ((zz_lc_eq x y).mpr q))) (fun h => kf ((zz_lc_eq x y).mp h)))
/-! returns -/
theorem zz_iret (hx : p.tables.exec = Jvm.exec) (hb : c.code = cc) (hr : meth.sig.returnType = some .int) (hlocks : meth.locks = false) {P : Int32 → zz_I → zz_L → Prop} {v : Int32} (hB : zz_B D ca ds A s.heap s a I L H locs) (hP : P v I L) (hdg : decode cc pc = .ok (.ireturn, 1)) :
    W p l e R s m args below meth c H locs cells slots (MQ below (zz_Qi D ca ds A a P) args s cells slots A) (F0 m pc ls [.int v]) := by
  obtain ⟨hK, hP1, hD, hS⟩ := hB
  exact W.iret (v := v) hx hb hr (fun t ht hW => ⟨⟨v, (I, L), rfl, hP, va_K.moved hW.alike hK, by rw [ht]; exact hP1, hD⟩, hS.F ht⟩) hS.2.2 hdg hlocks
theorem zz_zret (hx : p.tables.exec = Jvm.exec) (hb : c.code = cc) (hr : meth.sig.returnType = some .boolean) (hlocks : meth.locks = false) {P : Int32 → zz_I → zz_L → Prop} {v : Int32} (hz : zz_bool v) (hB : zz_B D ca ds A s.heap s a I L H locs) (hP : P v I L) (hdg : decode cc pc = .ok (.ireturn, 1)) :
    W p l e R s m args below meth c H locs cells slots (MQ below (zz_Qi D ca ds A a P) args s cells slots A) (F0 m pc ls [.int v]) := by
  obtain ⟨hK, hP1, hD, hS⟩ := hB
  exact W.zret (v := v) hx hb hr (by rcases hz with rfl | rfl <;> decide) (fun t ht hW => ⟨⟨v, (I, L), rfl, hP, va_K.moved hW.alike hK, by rw [ht]; exact hP1, hD⟩, hS.F ht⟩) hS.2.2 hdg hlocks
theorem zz_lret (hx : p.tables.exec = Jvm.exec) (hb : c.code = cc) (hr : meth.sig.returnType = some .long) (hlocks : meth.locks = false) {P : Int64 → zz_I → zz_L → Prop} {v : Int64} (hB : zz_B D ca ds A s.heap s a I L H locs) (hP : P v I L) (hdg : decode cc pc = .ok (.lreturn, 1)) :
    W p l e R s m args below meth c H locs cells slots (MQ below (zz_Ql D ca ds A a P) args s cells slots A) (F0 m pc ls [.long v]) := by
  obtain ⟨hK, hP1, hD, hS⟩ := hB
  exact W.lret (v := v) hx hb hr (fun t ht hW => ⟨⟨v, (I, L), rfl, hP, va_K.moved hW.alike hK, by rw [ht]; exact hP1, hD⟩, hS.F ht⟩) hS.2.2 hdg hlocks
theorem zz_vret (hx : p.tables.exec = Jvm.exec) (hb : c.code = cc) (hr : meth.sig.returnType = none) (hlocks : meth.locks = false) {P : zz_I → zz_L → Prop} (hB : zz_B D ca ds A s.heap s a I L H locs) (hP : P I L) (hdg : decode cc pc = .ok (.return_, 1)) :
    W p l e R s m args below meth c H locs cells slots (MQ below (zz_Qv D ca ds A a P) args s cells slots A) (F0 m pc ls []) := by
  obtain ⟨hK, hP1, hD, hS⟩ := hB
  exact W.vret hx hb hr (fun t ht hW => ⟨⟨(I, L), rfl, hP, va_K.moved hW.alike hK, by rw [ht]; exact hP1, hD⟩, hS.F ht⟩) hS.2.2 hdg hlocks
/-! the start of a method -/
theorem zz_start {y : MethodName} {bytes : ByteArray} {maxL : Nat} {ret : Option FieldType} {rm : Room} {av : List Value} {sz : Nat} {Qc : Array Value → State → Outcome → State → Prop} {mc ms : Nat} (hy : plainName y.cls = true) (hlen : (lg_sl av).length ≤ maxL)
    (body : ∀ (p : Program) (e : Env) (s : State) (m : MethodId) (below : List Frame) (meth : Method) (c : Code), zz_X p s m meth c bytes y.cls ret maxL → s.heap.size = sz → (∀ q, s.heap.size ≤ q → zz_A ca ds a I L sz q) → zz_Go p l e rm s m av.toArray below meth c 0 0 (MQ below Qc av.toArray s mc ms (zz_A ca ds a I L sz)) D ca ds (zz_A ca ds a I L sz) maxL 0 a [] (lv_args 0 av) I L) :
    Met l y [.code y bytes maxL ret] rm (zz_Pre D ca ds av a I L sz) Qc mc ms (zz_A ca ds a I L sz) := by
  refine Met.ofW (cc := bytes) (maxL := maxL) (ret := ret) hy rfl ?_
  intro p e s m args below meth c s₁ B hml hv
  obtain ⟨rfl, hsz, zw, hK, hP, hD0⟩ := hv
  have hX : zz_X p s m meth c bytes y.cls ret maxL := ⟨B.exec, B.bytes, hml, findClass_of_methodNamed B.named, zw, B.returns, B.notSynchronized⟩
  have hD := hD0.self (sz := sz)
  have hA : ∀ q, s.heap.size ≤ q → zz_A ca ds a I L sz q := fun q h => Or.inr (by rw [← hsz]; exact h)
  have hl := lv_entry av (n := maxL) hlen
  rw [lg_entry_eq]
  exact body p e s m below meth c hX hsz hA s.heap [] _ ⟨hK, hP, hD, va_S.rf⟩ hl
/-! calls -/
def zz_MC (own : String) (index : Nat) (y : MethodName) (bytes : ByteArray) (maxL : Nat) (ret : Option FieldType) (n : Nat) : Prop :=
  Cond.code y bytes maxL ret ∈ lw_tbl ∧ Cond.initialized y.cls ∈ lw_tbl ∧ (Cond.methodLink own index y ∈ lw_tbl ∨ ∃ host : String, Cond.methodLinkNest own index y host ∈ lw_tbl) ∧ (y.cls ≠ "java/lang/invoke/MethodHandle" ∧ y.cls ≠ "java/lang/invoke/VarHandle") ∧ (parseMethodDescriptor y.desc).map (fun d => d.parameters.length) = some n
def zz_MV (own : String) (index : Nat) (y : MethodName) (bytes : ByteArray) (maxL : Nat) (ret : Option FieldType) (n : Nat) : Prop := zz_MC own index y bytes maxL ret n ∧ Cond.instanceMethod y ∈ lw_tbl ∧ Cond.selects y.cls y y ∈ lw_tbl
def zz_MS (own : String) (index : Nat) (y : MethodName) (bytes : ByteArray) (maxL : Nat) (ret : Option FieldType) (n : Nat) : Prop := zz_MC own index y bytes maxL ret n ∧ Cond.static y ∈ lw_tbl
theorem zz_blind {av : List Value} {sz : Nat} : FrameBlind (zz_Pre D ca ds av a I L sz) := by
  intro v U g mk q
  obtain ⟨q0, q1, q2, q3, q4, q5⟩ := q
  exact ⟨q0, q1, zz_W_call q2, va_K.moved (u := U) (U := U.calling g mk v) (Vm.Alike.refl U.vm) q3, q4, q5⟩
theorem zz_pre {av : List Value} (zw : zz_W s) (hB : zz_B D ca ds A H0 s a I L H locs) : ∀ U : State, U.heap = H → s.WarmedH U.vm → zz_Pre D ca ds av a I L H.size av.toArray U := by
  intro U hU hW
  obtain ⟨hK, hP, hD, hS⟩ := hB
  exact ⟨rfl, by rw [hU], zz_W_warm hW zw, va_K.moved hW.alike hK, by rw [hU]; exact hP, hD.weaken (fun _ _ _ _ => trivial)⟩
theorem zz_mc_n {own : String} {index : Nat} {y : MethodName} {bytes : ByteArray} {maxL n : Nat} {ret : Option FieldType} (M : zz_MC own index y bytes maxL ret n) : ∀ sig, parseMethodDescriptor y.desc = some sig → n = sig.parameters.length := by
  intro sig h
  have h2 := M.2.2.2.2
  rw [h] at h2
  exact (Option.some.inj h2).symm
theorem zz_mc_w {own : String} {index : Nat} {y : MethodName} {bytes : ByteArray} {maxL n : Nat} {ret : Option FieldType} (zw : zz_W s) (M : zz_MC own index y bytes maxL ret n) : ∀ w ∈ [Cond.code y bytes maxL ret], ∀ (a' : Array Value) (U : State), s.WarmedH U.vm → w.before a' U = true := by
  intro w hw a' U hW
  rw [List.mem_singleton.mp hw]
  exact zz_W_use (zz_W_warm hW zw) M.1 rfl
theorem zz_runV (hx : p.tables.exec = Jvm.exec) (hb : c.code = cc) {nL : Nat} (hml : c.maxLocals = nL) {own : String} (hown : s.vm.findClass own = some m.cls) (zw : zz_W s) (hB : zz_B D ca ds A H0 s a I L H locs) {index maxL n k ci N mc ms : Nat} {T : u_T} {y : MethodName} {bytes : ByteArray} {ret : Option FieldType} {rm : Room} {As st : List Value} {fs : List (Nat ⊕ Bool)} {Qc : Array Value → State → Outcome → State → Prop} {free : Addr → Prop}
    (M : zz_MV own index y bytes maxL ret n) (hM : Met l y [.code y bytes maxL ret] rm (zz_Pre D ca ds (.ref (a k) :: As) a I L H.size) Qc mc ms free) (hd : ds[k]? = some (.inr (ci, fs))) (hc : vwCl[ci]? = some (y.cls, T, N)) (hn : As.length = n) (hls : ls.size = nL) (hst : st = As.reverse ++ .ref (a k) :: rest) (hW : (rest.map fun v => v.category).sum ≤ 8) (hrc : rm.cells = mc) (hrs : rm.slots = ms) (hR : rm.frames + 1 ≤ R.frames ∧ 8 + (maxL + 11) + rm.locals ≤ R.locals) (hdg : decode cc pc = .ok (.invokevirtual index, 3)) (hf : cells + mc ≤ R.cells ∧ slots + ms ≤ R.slots) :
    va_Run p l e R s m args below meth c H locs cells slots mc ms (F0 m pc ls st) rest (Qc (Value.ref (a k) :: As).toArray) free := by
  obtain ⟨M, hi, hse⟩ := M
  have hB' := hB
  obtain ⟨hK, hP, hD, hS⟩ := hB'
  have hrecv := va_recv hK hP (ci := ci) (q0 := k) hc (zz_get hd)
  have hpre : PreV s H y.cls (a k) (zz_Pre D ca ds (.ref (a k) :: As) a I L H.size) As := ⟨zz_blind, hrecv, zz_pre zw hB⟩
  have hS5 : CallFix p m c cc nL s args [] own := ⟨hx, hb, hml, hown, fun w h => by cases h⟩
  rcases M.2.2.1 with hl | ⟨host, hl⟩
  · exact va_runV (g := F0 m pc ls st) (n := n) hS5 hM ⟨⟨hrc, hrs, hR.1, hR.2, zz_mc_w zw M, List.mem_singleton.mpr rfl, zz_W_use zw M.1 rfl, zz_W_use zw M.2.1 rfl, M.2.2.2.1, zz_mc_n M, zz_W_use zw hl rfl⟩, zz_W_use zw hi rfl, zz_W_use zw hse rfl⟩ hpre rfl hn hls hst (lv_room hW) hdg hf
  · exact va_runVN (g := F0 m pc ls st) (n := n) (host := host) hS5 hM ⟨⟨⟨hrc, hrs, hR.1, hR.2, zz_mc_w zw M, List.mem_singleton.mpr rfl⟩, zz_W_use zw M.1 rfl, zz_W_use zw M.2.1 rfl, M.2.2.2.1, zz_mc_n M, zz_W_use zw hl rfl⟩, zz_W_use zw hi rfl, zz_W_use zw hse rfl⟩ hpre rfl hn hls hst (lv_room hW) hdg hf
theorem zz_runS (hx : p.tables.exec = Jvm.exec) (hb : c.code = cc) {nL : Nat} (hml : c.maxLocals = nL) {own : String} (hown : s.vm.findClass own = some m.cls) (zw : zz_W s) (hB : zz_B D ca ds A H0 s a I L H locs) {index maxL n mc ms : Nat} {y : MethodName} {bytes : ByteArray} {ret : Option FieldType} {rm : Room} {As st : List Value} {Qc : Array Value → State → Outcome → State → Prop} {free : Addr → Prop}
    (M : zz_MS own index y bytes maxL ret n) (hM : Met l y [.code y bytes maxL ret] rm (zz_Pre D ca ds As a I L H.size) Qc mc ms free) (hn : As.length = n) (hls : ls.size = nL) (hst : st = As.reverse ++ rest) (hW : (rest.map fun v => v.category).sum ≤ 8) (hrc : rm.cells = mc) (hrs : rm.slots = ms) (hR : rm.frames + 1 ≤ R.frames ∧ 8 + (maxL + 11) + rm.locals ≤ R.locals) (hdg : decode cc pc = .ok (.invokestatic index, 3)) (hf : cells + mc ≤ R.cells ∧ slots + ms ≤ R.slots) :
    va_Run p l e R s m args below meth c H locs cells slots mc ms (F0 m pc ls st) rest (Qc As.toArray) free := by
  obtain ⟨M, hi⟩ := M
  have hpre : PreS s H (zz_Pre D ca ds As a I L H.size) As := ⟨zz_blind, zz_pre zw hB⟩
  have hS5 : CallFix p m c cc nL s args [] own := ⟨hx, hb, hml, hown, fun w h => by cases h⟩
  rcases M.2.2.1 with hl | ⟨host, hl⟩
  · exact va_runS (g := F0 m pc ls st) (n := n) hS5 hM ⟨⟨hrc, hrs, hR.1, hR.2, zz_mc_w zw M, List.mem_singleton.mpr rfl, zz_W_use zw M.1 rfl, zz_W_use zw M.2.1 rfl, M.2.2.2.1, zz_mc_n M, zz_W_use zw hl rfl⟩, zz_W_use zw hi rfl⟩ hpre rfl hn hls hst (lv_room hW) hdg hf
  · exact va_runSN (g := F0 m pc ls st) (n := n) (host := host) hS5 hM ⟨⟨⟨hrc, hrs, hR.1, hR.2, zz_mc_w zw M, List.mem_singleton.mpr rfl⟩, zz_W_use zw M.1 rfl, zz_W_use zw M.2.1 rfl, M.2.2.2.1, zz_mc_n M, zz_W_use zw hl rfl⟩, zz_W_use zw hi rfl, trivial⟩ hpre rfl hn hls hst (lv_room hW) hdg hf
theorem zz_freeA (hB : zz_B D ca ds A H0 s a I L H locs) (hA : ∀ q, H0.size ≤ q → A q) : ∀ q, zz_A ca ds a I L H.size q → A q := by
  obtain ⟨hK, hP, hD, hS⟩ := hB
  intro q h
  rcases h with ⟨k, e, h⟩ | h
  · exact hD.2 k (q, e) h
  · exact hA q (Nat.le_trans hS.1 h)
theorem zz_back (hB : zz_B D ca ds A H0 s a I L H locs) (hA : ∀ q, H0.size ≤ q → A q) {u : zz_I × zz_L} {t : State} {H1 : Heap} {locs1 : List Loc} (ht : t.heap = H1) (hvm : s.vm.Alike t.vm) (hb : zz_At D ca ds (zz_A ca ds a I L H.size) a u t) (hS1 : va_S A H0 H1 locs1) : zz_B D ca ds A H0 s a u.1 u.2 H1 locs1 := by
  obtain ⟨b1, b2, b3⟩ := hb
  rw [ht] at b2
  exact ⟨va_K.moved hvm.symm b1, b2, b3.weaken (fun k q _ h => zz_freeA hB hA q.1 h), hS1⟩
theorem zz_goi (hB : zz_B D ca ds A H0 s a I L H locs) (hA : ∀ q, H0.size ≤ q → A q) {P : Int32 → zz_I → zz_L → Prop} {st : List Value} {av : Array Value} (hr : va_Run p l e R s m args below meth c H locs cells slots 0 0 (F0 m pc ls st) rest (zz_Qi D ca ds (zz_A ca ds a I L H.size) a P av) (zz_A ca ds a I L H.size))
    (kk : ∀ (r : Int32) (I : zz_I) (L : zz_L) (H : Heap) (locs : List Loc), P r I L → zz_B D ca ds A H0 s a I L H locs → W p l e R s m args below meth c H locs cells slots Q (F0 m (pc + 3) ls (.int r :: rest))) : W p l e R s m args below meth c H locs cells slots Q (F0 m pc ls st) :=
  va_calli hr hB.2.2.2 (fun q _ h => zz_freeA hB hA q h) (zz_freeA hB hA) (fun r u t H1 locs1 ht hvm hw hb _ _ hS1 => kk r u.1 u.2 H1 locs1 hw (zz_back hB hA ht hvm hb hS1))
theorem zz_gol (hB : zz_B D ca ds A H0 s a I L H locs) (hA : ∀ q, H0.size ≤ q → A q) {P : Int64 → zz_I → zz_L → Prop} {st : List Value} {av : Array Value} (hr : va_Run p l e R s m args below meth c H locs cells slots 0 0 (F0 m pc ls st) rest (zz_Ql D ca ds (zz_A ca ds a I L H.size) a P av) (zz_A ca ds a I L H.size))
    (kk : ∀ (r : Int64) (I : zz_I) (L : zz_L) (H : Heap) (locs : List Loc), P r I L → zz_B D ca ds A H0 s a I L H locs → W p l e R s m args below meth c H locs cells slots Q (F0 m (pc + 3) ls (.long r :: rest))) : W p l e R s m args below meth c H locs cells slots Q (F0 m pc ls st) :=
  va_calll hr hB.2.2.2 (fun q _ h => zz_freeA hB hA q h) (zz_freeA hB hA) (fun r u t H1 locs1 ht hvm hw hb _ _ hS1 => kk r u.1 u.2 H1 locs1 hw (zz_back hB hA ht hvm hb hS1))
theorem zz_gov (hB : zz_B D ca ds A H0 s a I L H locs) (hA : ∀ q, H0.size ≤ q → A q) {P : zz_I → zz_L → Prop} {st : List Value} {av : Array Value} (hr : va_Run p l e R s m args below meth c H locs cells slots 0 0 (F0 m pc ls st) rest (zz_Qv D ca ds (zz_A ca ds a I L H.size) a P av) (zz_A ca ds a I L H.size))
    (kk : ∀ (I : zz_I) (L : zz_L) (H : Heap) (locs : List Loc), P I L → zz_B D ca ds A H0 s a I L H locs → W p l e R s m args below meth c H locs cells slots Q (F0 m (pc + 3) ls rest)) : W p l e R s m args below meth c H locs cells slots Q (F0 m pc ls st) :=
  va_callv hr hB.2.2.2 (fun q _ h => zz_freeA hB hA q h) (zz_freeA hB hA) (fun u t H1 locs1 ht hvm hw hb _ _ hS1 => kk u.1 u.2 H1 locs1 hw (zz_back hB hA ht hvm hb hS1))
end ZR
end
section
theorem zl_X0 : ∀ w ∈ u_ws RX0 TX0 9, w ∈ lw_tbl.filter zz_good := by decide +kernel
theorem zl_X1 : ∀ w ∈ u_ws RX1 TX1 5, w ∈ lw_tbl.filter zz_good := by decide +kernel
theorem zl_X2 : ∀ w ∈ u_ws RX2 TX2 7, w ∈ lw_tbl.filter zz_good := by decide +kernel
theorem zl_X3 : ∀ w ∈ u_ws RX3 TX3 5, w ∈ lw_tbl.filter zz_good := by decide +kernel
theorem zl_X4 : ∀ w ∈ u_ws RX4 TX4 7, w ∈ lw_tbl.filter zz_good := by decide +kernel
theorem zl_X5 : ∀ w ∈ u_ws RX5 TX5 4, w ∈ lw_tbl.filter zz_good := by decide +kernel
theorem zl_X6 : ∀ w ∈ u_ws RX6 TX6 5, w ∈ lw_tbl.filter zz_good := by decide +kernel
theorem zl_X7 : ∀ w ∈ u_ws RX7 TX7 13, w ∈ lw_tbl.filter zz_good := by decide +kernel
theorem zl_X8 : ∀ w ∈ u_ws RX8 TX8 36, w ∈ lw_tbl.filter zz_good := by decide +kernel
theorem zM_X2_34 : zz_MS RX2 34 yJ7_fill_53178 cJ7_fill_53178 4 none 2 := ⟨⟨(List.mem_of_getElem? (i := 126) (by decide +kernel)), (List.mem_of_getElem? (i := 94) (by decide +kernel)), Or.inl (List.mem_of_getElem? (i := 124) (by decide +kernel)), by decide, by decide +kernel⟩, (List.mem_of_getElem? (i := 125) (by decide +kernel))⟩
theorem zF_X2_9 : zz_FL RX2 9 2 0 := ⟨RX2, TX2, 7, rfl, by decide, zl_X2, Or.inl (List.mem_of_getElem? (i := 127) (by decide +kernel))⟩
theorem zF_X4_71 : zz_FL RX4 71 2 0 := ⟨RX2, TX2, 7, rfl, by decide, zl_X2, Or.inr ⟨"WornLetters", (List.mem_of_getElem? (i := 128) (by decide +kernel))⟩⟩
theorem zF_X2_15 : zz_FL RX2 15 2 1 := ⟨RX2, TX2, 7, rfl, by decide, zl_X2, Or.inl (List.mem_of_getElem? (i := 129) (by decide +kernel))⟩
theorem zF_X4_91 : zz_FL RX4 91 2 1 := ⟨RX2, TX2, 7, rfl, by decide, zl_X2, Or.inr ⟨"WornLetters", (List.mem_of_getElem? (i := 130) (by decide +kernel))⟩⟩
theorem zF_X2_18 : zz_FL RX2 18 2 2 := ⟨RX2, TX2, 7, rfl, by decide, zl_X2, Or.inl (List.mem_of_getElem? (i := 131) (by decide +kernel))⟩
theorem zF_X7_109 : zz_FL RX7 109 2 2 := ⟨RX2, TX2, 7, rfl, by decide, zl_X2, Or.inr ⟨"WornLetters", (List.mem_of_getElem? (i := 132) (by decide +kernel))⟩⟩
theorem zF_X4_98 : zz_FL RX4 98 2 2 := ⟨RX2, TX2, 7, rfl, by decide, zl_X2, Or.inr ⟨"WornLetters", (List.mem_of_getElem? (i := 133) (by decide +kernel))⟩⟩
theorem zF_X6_49 : zz_FL RX6 49 2 2 := ⟨RX2, TX2, 7, rfl, by decide, zl_X2, Or.inr ⟨"WornLetters", (List.mem_of_getElem? (i := 134) (by decide +kernel))⟩⟩
theorem zF_X2_21 : zz_FL RX2 21 2 3 := ⟨RX2, TX2, 7, rfl, by decide, zl_X2, Or.inl (List.mem_of_getElem? (i := 135) (by decide +kernel))⟩
theorem zF_X0_100 : zz_FL RX0 100 2 3 := ⟨RX2, TX2, 7, rfl, by decide, zl_X2, Or.inr ⟨"WornLetters", (List.mem_of_getElem? (i := 136) (by decide +kernel))⟩⟩
theorem zF_X7_113 : zz_FL RX7 113 2 3 := ⟨RX2, TX2, 7, rfl, by decide, zl_X2, Or.inr ⟨"WornLetters", (List.mem_of_getElem? (i := 137) (by decide +kernel))⟩⟩
theorem zF_X4_104 : zz_FL RX4 104 2 3 := ⟨RX2, TX2, 7, rfl, by decide, zl_X2, Or.inr ⟨"WornLetters", (List.mem_of_getElem? (i := 138) (by decide +kernel))⟩⟩
theorem zF_X2_24 : zz_FL RX2 24 2 4 := ⟨RX2, TX2, 7, rfl, by decide, zl_X2, Or.inl (List.mem_of_getElem? (i := 139) (by decide +kernel))⟩
theorem zF_X0_103 : zz_FL RX0 103 2 4 := ⟨RX2, TX2, 7, rfl, by decide, zl_X2, Or.inr ⟨"WornLetters", (List.mem_of_getElem? (i := 140) (by decide +kernel))⟩⟩
theorem zF_X7_116 : zz_FL RX7 116 2 4 := ⟨RX2, TX2, 7, rfl, by decide, zl_X2, Or.inr ⟨"WornLetters", (List.mem_of_getElem? (i := 141) (by decide +kernel))⟩⟩
theorem zF_X4_107 : zz_FL RX4 107 2 4 := ⟨RX2, TX2, 7, rfl, by decide, zl_X2, Or.inr ⟨"WornLetters", (List.mem_of_getElem? (i := 142) (by decide +kernel))⟩⟩
theorem zF_X2_27 : zz_FL RX2 27 2 5 := ⟨RX2, TX2, 7, rfl, by decide, zl_X2, Or.inl (List.mem_of_getElem? (i := 143) (by decide +kernel))⟩
theorem zF_X0_81 : zz_FL RX0 81 2 5 := ⟨RX2, TX2, 7, rfl, by decide, zl_X2, Or.inr ⟨"WornLetters", (List.mem_of_getElem? (i := 144) (by decide +kernel))⟩⟩
theorem zF_X7_122 : zz_FL RX7 122 2 5 := ⟨RX2, TX2, 7, rfl, by decide, zl_X2, Or.inr ⟨"WornLetters", (List.mem_of_getElem? (i := 145) (by decide +kernel))⟩⟩
theorem zF_X4_101 : zz_FL RX4 101 2 5 := ⟨RX2, TX2, 7, rfl, by decide, zl_X2, Or.inr ⟨"WornLetters", (List.mem_of_getElem? (i := 146) (by decide +kernel))⟩⟩
theorem zF_X2_30 : zz_FL RX2 30 2 6 := ⟨RX2, TX2, 7, rfl, by decide, zl_X2, Or.inl (List.mem_of_getElem? (i := 147) (by decide +kernel))⟩
theorem zP_X2_30 : zz_FP RX2 30 2 6 .int := ⟨RX2, TX2, 7, tyX2, rfl, by decide, zl_X2, Or.inl (List.mem_of_getElem? (i := 147) (by decide +kernel)), tyX2_ok, nmX2, rfl, by decide +kernel⟩
theorem zF_X4_43 : zz_FL RX4 43 2 6 := ⟨RX2, TX2, 7, rfl, by decide, zl_X2, Or.inr ⟨"WornLetters", (List.mem_of_getElem? (i := 148) (by decide +kernel))⟩⟩
theorem zP_X4_43 : zz_FP RX4 43 2 6 .int := ⟨RX2, TX2, 7, tyX2, rfl, by decide, zl_X2, Or.inr ⟨"WornLetters", (List.mem_of_getElem? (i := 148) (by decide +kernel))⟩, tyX2_ok, nmX2, rfl, by decide +kernel⟩
theorem zF_X0_72 : zz_FL RX0 72 2 6 := ⟨RX2, TX2, 7, rfl, by decide, zl_X2, Or.inr ⟨"WornLetters", (List.mem_of_getElem? (i := 149) (by decide +kernel))⟩⟩
theorem zP_X0_72 : zz_FP RX0 72 2 6 .int := ⟨RX2, TX2, 7, tyX2, rfl, by decide, zl_X2, Or.inr ⟨"WornLetters", (List.mem_of_getElem? (i := 149) (by decide +kernel))⟩, tyX2_ok, nmX2, rfl, by decide +kernel⟩
theorem zF_X7_263 : zz_FL RX7 263 2 6 := ⟨RX2, TX2, 7, rfl, by decide, zl_X2, Or.inr ⟨"WornLetters", (List.mem_of_getElem? (i := 150) (by decide +kernel))⟩⟩
theorem zP_X7_263 : zz_FP RX7 263 2 6 .int := ⟨RX2, TX2, 7, tyX2, rfl, by decide, zl_X2, Or.inr ⟨"WornLetters", (List.mem_of_getElem? (i := 150) (by decide +kernel))⟩, tyX2_ok, nmX2, rfl, by decide +kernel⟩
theorem zM_X6_28 : zz_MS RX6 28 yJ7_fill_53178 cJ7_fill_53178 4 none 2 := ⟨⟨(List.mem_of_getElem? (i := 126) (by decide +kernel)), (List.mem_of_getElem? (i := 94) (by decide +kernel)), Or.inl (List.mem_of_getElem? (i := 173) (by decide +kernel)), by decide, by decide +kernel⟩, (List.mem_of_getElem? (i := 125) (by decide +kernel))⟩
theorem zF_X6_9 : zz_FL RX6 9 6 0 := ⟨RX6, TX6, 5, rfl, by decide, zl_X6, Or.inl (List.mem_of_getElem? (i := 174) (by decide +kernel))⟩
theorem zF_X7_135 : zz_FL RX7 135 6 0 := ⟨RX6, TX6, 5, rfl, by decide, zl_X6, Or.inr ⟨"WornLetters", (List.mem_of_getElem? (i := 175) (by decide +kernel))⟩⟩
theorem zF_X6_15 : zz_FL RX6 15 6 1 := ⟨RX6, TX6, 5, rfl, by decide, zl_X6, Or.inl (List.mem_of_getElem? (i := 176) (by decide +kernel))⟩
theorem zF_X4_52 : zz_FL RX4 52 6 1 := ⟨RX6, TX6, 5, rfl, by decide, zl_X6, Or.inr ⟨"WornLetters", (List.mem_of_getElem? (i := 177) (by decide +kernel))⟩⟩
theorem zF_X1_54 : zz_FL RX1 54 6 1 := ⟨RX6, TX6, 5, rfl, by decide, zl_X6, Or.inr ⟨"WornLetters", (List.mem_of_getElem? (i := 178) (by decide +kernel))⟩⟩
theorem zF_X0_97 : zz_FL RX0 97 6 1 := ⟨RX6, TX6, 5, rfl, by decide, zl_X6, Or.inr ⟨"WornLetters", (List.mem_of_getElem? (i := 179) (by decide +kernel))⟩⟩
theorem zF_X7_141 : zz_FL RX7 141 6 1 := ⟨RX6, TX6, 5, rfl, by decide, zl_X6, Or.inr ⟨"WornLetters", (List.mem_of_getElem? (i := 180) (by decide +kernel))⟩⟩
theorem zF_X6_18 : zz_FL RX6 18 6 2 := ⟨RX6, TX6, 5, rfl, by decide, zl_X6, Or.inl (List.mem_of_getElem? (i := 181) (by decide +kernel))⟩
theorem zF_X1_61 : zz_FL RX1 61 6 2 := ⟨RX6, TX6, 5, rfl, by decide, zl_X6, Or.inr ⟨"WornLetters", (List.mem_of_getElem? (i := 182) (by decide +kernel))⟩⟩
theorem zF_X7_119 : zz_FL RX7 119 6 2 := ⟨RX6, TX6, 5, rfl, by decide, zl_X6, Or.inr ⟨"WornLetters", (List.mem_of_getElem? (i := 183) (by decide +kernel))⟩⟩
theorem zF_X4_110 : zz_FL RX4 110 6 2 := ⟨RX6, TX6, 5, rfl, by decide, zl_X6, Or.inr ⟨"WornLetters", (List.mem_of_getElem? (i := 184) (by decide +kernel))⟩⟩
theorem zF_X6_21 : zz_FL RX6 21 6 3 := ⟨RX6, TX6, 5, rfl, by decide, zl_X6, Or.inl (List.mem_of_getElem? (i := 185) (by decide +kernel))⟩
theorem zP_X6_21 : zz_FP RX6 21 6 3 .int := ⟨RX6, TX6, 5, tyX6, rfl, by decide, zl_X6, Or.inl (List.mem_of_getElem? (i := 185) (by decide +kernel)), tyX6_ok, nmX6, rfl, by decide +kernel⟩
theorem zF_X4_46 : zz_FL RX4 46 6 3 := ⟨RX6, TX6, 5, rfl, by decide, zl_X6, Or.inr ⟨"WornLetters", (List.mem_of_getElem? (i := 186) (by decide +kernel))⟩⟩
theorem zP_X4_46 : zz_FP RX4 46 6 3 .int := ⟨RX6, TX6, 5, tyX6, rfl, by decide, zl_X6, Or.inr ⟨"WornLetters", (List.mem_of_getElem? (i := 186) (by decide +kernel))⟩, tyX6_ok, nmX6, rfl, by decide +kernel⟩
theorem zF_X0_69 : zz_FL RX0 69 6 3 := ⟨RX6, TX6, 5, rfl, by decide, zl_X6, Or.inr ⟨"WornLetters", (List.mem_of_getElem? (i := 187) (by decide +kernel))⟩⟩
theorem zP_X0_69 : zz_FP RX0 69 6 3 .int := ⟨RX6, TX6, 5, tyX6, rfl, by decide, zl_X6, Or.inr ⟨"WornLetters", (List.mem_of_getElem? (i := 187) (by decide +kernel))⟩, tyX6_ok, nmX6, rfl, by decide +kernel⟩
theorem zF_X7_102 : zz_FL RX7 102 6 3 := ⟨RX6, TX6, 5, rfl, by decide, zl_X6, Or.inr ⟨"WornLetters", (List.mem_of_getElem? (i := 188) (by decide +kernel))⟩⟩
theorem zP_X7_102 : zz_FP RX7 102 6 3 .int := ⟨RX6, TX6, 5, tyX6, rfl, by decide, zl_X6, Or.inr ⟨"WornLetters", (List.mem_of_getElem? (i := 188) (by decide +kernel))⟩, tyX6_ok, nmX6, rfl, by decide +kernel⟩
theorem zF_X6_25 : zz_FL RX6 25 6 4 := ⟨RX6, TX6, 5, rfl, by decide, zl_X6, Or.inl (List.mem_of_getElem? (i := 189) (by decide +kernel))⟩
theorem zP_X6_25 : zz_FP RX6 25 6 4 .int := ⟨RX6, TX6, 5, tyX6, rfl, by decide, zl_X6, Or.inl (List.mem_of_getElem? (i := 189) (by decide +kernel)), tyX6_ok, nmX6, rfl, by decide +kernel⟩
theorem zF_X4_49 : zz_FL RX4 49 6 4 := ⟨RX6, TX6, 5, rfl, by decide, zl_X6, Or.inr ⟨"WornLetters", (List.mem_of_getElem? (i := 190) (by decide +kernel))⟩⟩
theorem zP_X4_49 : zz_FP RX4 49 6 4 .int := ⟨RX6, TX6, 5, tyX6, rfl, by decide, zl_X6, Or.inr ⟨"WornLetters", (List.mem_of_getElem? (i := 190) (by decide +kernel))⟩, tyX6_ok, nmX6, rfl, by decide +kernel⟩
theorem zF_X0_86 : zz_FL RX0 86 6 4 := ⟨RX6, TX6, 5, rfl, by decide, zl_X6, Or.inr ⟨"WornLetters", (List.mem_of_getElem? (i := 191) (by decide +kernel))⟩⟩
theorem zP_X0_86 : zz_FP RX0 86 6 4 .int := ⟨RX6, TX6, 5, tyX6, rfl, by decide, zl_X6, Or.inr ⟨"WornLetters", (List.mem_of_getElem? (i := 191) (by decide +kernel))⟩, tyX6_ok, nmX6, rfl, by decide +kernel⟩
theorem zF_X7_125 : zz_FL RX7 125 6 4 := ⟨RX6, TX6, 5, rfl, by decide, zl_X6, Or.inr ⟨"WornLetters", (List.mem_of_getElem? (i := 192) (by decide +kernel))⟩⟩
theorem zP_X7_125 : zz_FP RX7 125 6 4 .int := ⟨RX6, TX6, 5, tyX6, rfl, by decide, zl_X6, Or.inr ⟨"WornLetters", (List.mem_of_getElem? (i := 192) (by decide +kernel))⟩, tyX6_ok, nmX6, rfl, by decide +kernel⟩
theorem zF_X4_9 : zz_FL RX4 9 4 0 := ⟨RX4, TX4, 7, rfl, by decide, zl_X4, Or.inl (List.mem_of_getElem? (i := 204) (by decide +kernel))⟩
theorem zF_X4_15 : zz_FL RX4 15 4 1 := ⟨RX4, TX4, 7, rfl, by decide, zl_X4, Or.inl (List.mem_of_getElem? (i := 205) (by decide +kernel))⟩
theorem zP_X4_15 : zz_FP RX4 15 4 1 .int := ⟨RX4, TX4, 7, tyX4, rfl, by decide, zl_X4, Or.inl (List.mem_of_getElem? (i := 205) (by decide +kernel)), tyX4_ok, nmX4, rfl, by decide +kernel⟩
theorem zF_X7_78 : zz_FL RX7 78 4 1 := ⟨RX4, TX4, 7, rfl, by decide, zl_X4, Or.inr ⟨"WornLetters", (List.mem_of_getElem? (i := 206) (by decide +kernel))⟩⟩
theorem zP_X7_78 : zz_FP RX7 78 4 1 .int := ⟨RX4, TX4, 7, tyX4, rfl, by decide, zl_X4, Or.inr ⟨"WornLetters", (List.mem_of_getElem? (i := 206) (by decide +kernel))⟩, tyX4_ok, nmX4, rfl, by decide +kernel⟩
theorem zF_X4_22 : zz_FL RX4 22 4 2 := ⟨RX4, TX4, 7, rfl, by decide, zl_X4, Or.inl (List.mem_of_getElem? (i := 207) (by decide +kernel))⟩
theorem zF_X7_90 : zz_FL RX7 90 4 2 := ⟨RX4, TX4, 7, rfl, by decide, zl_X4, Or.inr ⟨"WornLetters", (List.mem_of_getElem? (i := 208) (by decide +kernel))⟩⟩
theorem zF_X4_29 : zz_FL RX4 29 4 3 := ⟨RX4, TX4, 7, rfl, by decide, zl_X4, Or.inl (List.mem_of_getElem? (i := 209) (by decide +kernel))⟩
theorem zF_X7_95 : zz_FL RX7 95 4 3 := ⟨RX4, TX4, 7, rfl, by decide, zl_X4, Or.inr ⟨"WornLetters", (List.mem_of_getElem? (i := 210) (by decide +kernel))⟩⟩
theorem zF_X4_33 : zz_FL RX4 33 4 4 := ⟨RX4, TX4, 7, rfl, by decide, zl_X4, Or.inl (List.mem_of_getElem? (i := 211) (by decide +kernel))⟩
theorem zP_X4_33 : zz_FP RX4 33 4 4 .int := ⟨RX4, TX4, 7, tyX4, rfl, by decide, zl_X4, Or.inl (List.mem_of_getElem? (i := 211) (by decide +kernel)), tyX4_ok, nmX4, rfl, by decide +kernel⟩
theorem zF_X4_36 : zz_FL RX4 36 4 5 := ⟨RX4, TX4, 7, rfl, by decide, zl_X4, Or.inl (List.mem_of_getElem? (i := 212) (by decide +kernel))⟩
theorem zP_X4_36 : zz_FP RX4 36 4 5 .boolean := ⟨RX4, TX4, 7, tyX4, rfl, by decide, zl_X4, Or.inl (List.mem_of_getElem? (i := 212) (by decide +kernel)), tyX4_ok, nmX4, rfl, by decide +kernel⟩
theorem zF_X4_40 : zz_FL RX4 40 4 6 := ⟨RX4, TX4, 7, rfl, by decide, zl_X4, Or.inl (List.mem_of_getElem? (i := 213) (by decide +kernel))⟩
theorem zP_X4_40 : zz_FP RX4 40 4 6 .int := ⟨RX4, TX4, 7, tyX4, rfl, by decide, zl_X4, Or.inl (List.mem_of_getElem? (i := 213) (by decide +kernel)), tyX4_ok, nmX4, rfl, by decide +kernel⟩
theorem zF_X1_9 : zz_FL RX1 9 1 0 := ⟨RX1, TX1, 5, rfl, by decide, zl_X1, Or.inl (List.mem_of_getElem? (i := 239) (by decide +kernel))⟩
theorem zF_X1_15 : zz_FL RX1 15 1 1 := ⟨RX1, TX1, 5, rfl, by decide, zl_X1, Or.inl (List.mem_of_getElem? (i := 240) (by decide +kernel))⟩
theorem zF_X1_18 : zz_FL RX1 18 1 2 := ⟨RX1, TX1, 5, rfl, by decide, zl_X1, Or.inl (List.mem_of_getElem? (i := 241) (by decide +kernel))⟩
theorem zF_X1_21 : zz_FL RX1 21 1 3 := ⟨RX1, TX1, 5, rfl, by decide, zl_X1, Or.inl (List.mem_of_getElem? (i := 242) (by decide +kernel))⟩
theorem zP_X1_21 : zz_FP RX1 21 1 3 .int := ⟨RX1, TX1, 5, tyX1, rfl, by decide, zl_X1, Or.inl (List.mem_of_getElem? (i := 242) (by decide +kernel)), tyX1_ok, nmX1, rfl, by decide +kernel⟩
theorem zF_X7_163 : zz_FL RX7 163 1 3 := ⟨RX1, TX1, 5, rfl, by decide, zl_X1, Or.inr ⟨"WornLetters", (List.mem_of_getElem? (i := 243) (by decide +kernel))⟩⟩
theorem zP_X7_163 : zz_FP RX7 163 1 3 .int := ⟨RX1, TX1, 5, tyX1, rfl, by decide, zl_X1, Or.inr ⟨"WornLetters", (List.mem_of_getElem? (i := 243) (by decide +kernel))⟩, tyX1_ok, nmX1, rfl, by decide +kernel⟩
theorem zF_X1_25 : zz_FL RX1 25 1 4 := ⟨RX1, TX1, 5, rfl, by decide, zl_X1, Or.inl (List.mem_of_getElem? (i := 244) (by decide +kernel))⟩
theorem zP_X1_25 : zz_FP RX1 25 1 4 .int := ⟨RX1, TX1, 5, tyX1, rfl, by decide, zl_X1, Or.inl (List.mem_of_getElem? (i := 244) (by decide +kernel)), tyX1_ok, nmX1, rfl, by decide +kernel⟩
theorem zF_X5_9 : zz_FL RX5 9 5 0 := ⟨RX5, TX5, 4, rfl, by decide, zl_X5, Or.inl (List.mem_of_getElem? (i := 262) (by decide +kernel))⟩
theorem zF_X0_57 : zz_FL RX0 57 5 0 := ⟨RX5, TX5, 4, rfl, by decide, zl_X5, Or.inr ⟨"WornLetters", (List.mem_of_getElem? (i := 263) (by decide +kernel))⟩⟩
theorem zF_X5_15 : zz_FL RX5 15 5 1 := ⟨RX5, TX5, 4, rfl, by decide, zl_X5, Or.inl (List.mem_of_getElem? (i := 264) (by decide +kernel))⟩
theorem zF_X0_59 : zz_FL RX0 59 5 1 := ⟨RX5, TX5, 4, rfl, by decide, zl_X5, Or.inr ⟨"WornLetters", (List.mem_of_getElem? (i := 265) (by decide +kernel))⟩⟩
theorem zF_X5_18 : zz_FL RX5 18 5 2 := ⟨RX5, TX5, 4, rfl, by decide, zl_X5, Or.inl (List.mem_of_getElem? (i := 266) (by decide +kernel))⟩
theorem zF_X0_61 : zz_FL RX0 61 5 2 := ⟨RX5, TX5, 4, rfl, by decide, zl_X5, Or.inr ⟨"WornLetters", (List.mem_of_getElem? (i := 267) (by decide +kernel))⟩⟩
theorem zF_X5_22 : zz_FL RX5 22 5 3 := ⟨RX5, TX5, 4, rfl, by decide, zl_X5, Or.inl (List.mem_of_getElem? (i := 268) (by decide +kernel))⟩
theorem zP_X5_22 : zz_FP RX5 22 5 3 .int := ⟨RX5, TX5, 4, tyX5, rfl, by decide, zl_X5, Or.inl (List.mem_of_getElem? (i := 268) (by decide +kernel)), tyX5_ok, nmX5, rfl, by decide +kernel⟩
theorem zF_X0_52 : zz_FL RX0 52 5 3 := ⟨RX5, TX5, 4, rfl, by decide, zl_X5, Or.inr ⟨"WornLetters", (List.mem_of_getElem? (i := 269) (by decide +kernel))⟩⟩
theorem zP_X0_52 : zz_FP RX0 52 5 3 .int := ⟨RX5, TX5, 4, tyX5, rfl, by decide, zl_X5, Or.inr ⟨"WornLetters", (List.mem_of_getElem? (i := 269) (by decide +kernel))⟩, tyX5_ok, nmX5, rfl, by decide +kernel⟩
theorem zF_X7_220 : zz_FL RX7 220 5 3 := ⟨RX5, TX5, 4, rfl, by decide, zl_X5, Or.inr ⟨"WornLetters", (List.mem_of_getElem? (i := 270) (by decide +kernel))⟩⟩
theorem zP_X7_220 : zz_FP RX7 220 5 3 .int := ⟨RX5, TX5, 4, tyX5, rfl, by decide, zl_X5, Or.inr ⟨"WornLetters", (List.mem_of_getElem? (i := 270) (by decide +kernel))⟩, tyX5_ok, nmX5, rfl, by decide +kernel⟩
theorem zF_X0_9 : zz_FL RX0 9 0 0 := ⟨RX0, TX0, 9, rfl, by decide, zl_X0, Or.inl (List.mem_of_getElem? (i := 287) (by decide +kernel))⟩
theorem zF_X0_15 : zz_FL RX0 15 0 1 := ⟨RX0, TX0, 9, rfl, by decide, zl_X0, Or.inl (List.mem_of_getElem? (i := 288) (by decide +kernel))⟩
theorem zF_X0_18 : zz_FL RX0 18 0 2 := ⟨RX0, TX0, 9, rfl, by decide, zl_X0, Or.inl (List.mem_of_getElem? (i := 289) (by decide +kernel))⟩
theorem zF_X3_67 : zz_FL RX3 67 0 2 := ⟨RX0, TX0, 9, rfl, by decide, zl_X0, Or.inr ⟨"WornLetters", (List.mem_of_getElem? (i := 290) (by decide +kernel))⟩⟩
theorem zF_X0_21 : zz_FL RX0 21 0 3 := ⟨RX0, TX0, 9, rfl, by decide, zl_X0, Or.inl (List.mem_of_getElem? (i := 291) (by decide +kernel))⟩
theorem zF_X0_24 : zz_FL RX0 24 0 4 := ⟨RX0, TX0, 9, rfl, by decide, zl_X0, Or.inl (List.mem_of_getElem? (i := 292) (by decide +kernel))⟩
theorem zF_X0_28 : zz_FL RX0 28 0 5 := ⟨RX0, TX0, 9, rfl, by decide, zl_X0, Or.inl (List.mem_of_getElem? (i := 293) (by decide +kernel))⟩
theorem zF_X0_31 : zz_FL RX0 31 0 6 := ⟨RX0, TX0, 9, rfl, by decide, zl_X0, Or.inl (List.mem_of_getElem? (i := 294) (by decide +kernel))⟩
theorem zP_X0_31 : zz_FP RX0 31 0 6 .int := ⟨RX0, TX0, 9, tyX0, rfl, by decide, zl_X0, Or.inl (List.mem_of_getElem? (i := 294) (by decide +kernel)), tyX0_ok, nmX0, rfl, by decide +kernel⟩
theorem zF_X3_35 : zz_FL RX3 35 0 6 := ⟨RX0, TX0, 9, rfl, by decide, zl_X0, Or.inr ⟨"WornLetters", (List.mem_of_getElem? (i := 295) (by decide +kernel))⟩⟩
theorem zP_X3_35 : zz_FP RX3 35 0 6 .int := ⟨RX0, TX0, 9, tyX0, rfl, by decide, zl_X0, Or.inr ⟨"WornLetters", (List.mem_of_getElem? (i := 295) (by decide +kernel))⟩, tyX0_ok, nmX0, rfl, by decide +kernel⟩
theorem zF_X0_35 : zz_FL RX0 35 0 7 := ⟨RX0, TX0, 9, rfl, by decide, zl_X0, Or.inl (List.mem_of_getElem? (i := 296) (by decide +kernel))⟩
theorem zP_X0_35 : zz_FP RX0 35 0 7 .int := ⟨RX0, TX0, 9, tyX0, rfl, by decide, zl_X0, Or.inl (List.mem_of_getElem? (i := 296) (by decide +kernel)), tyX0_ok, nmX0, rfl, by decide +kernel⟩
theorem zF_X3_40 : zz_FL RX3 40 0 7 := ⟨RX0, TX0, 9, rfl, by decide, zl_X0, Or.inr ⟨"WornLetters", (List.mem_of_getElem? (i := 297) (by decide +kernel))⟩⟩
theorem zP_X3_40 : zz_FP RX3 40 0 7 .int := ⟨RX0, TX0, 9, tyX0, rfl, by decide, zl_X0, Or.inr ⟨"WornLetters", (List.mem_of_getElem? (i := 297) (by decide +kernel))⟩, tyX0_ok, nmX0, rfl, by decide +kernel⟩
theorem zF_X0_38 : zz_FL RX0 38 0 8 := ⟨RX0, TX0, 9, rfl, by decide, zl_X0, Or.inl (List.mem_of_getElem? (i := 298) (by decide +kernel))⟩
theorem zP_X0_38 : zz_FP RX0 38 0 8 .int := ⟨RX0, TX0, 9, tyX0, rfl, by decide, zl_X0, Or.inl (List.mem_of_getElem? (i := 298) (by decide +kernel)), tyX0_ok, nmX0, rfl, by decide +kernel⟩
theorem zF_X3_78 : zz_FL RX3 78 0 8 := ⟨RX0, TX0, 9, rfl, by decide, zl_X0, Or.inr ⟨"WornLetters", (List.mem_of_getElem? (i := 299) (by decide +kernel))⟩⟩
theorem zP_X3_78 : zz_FP RX3 78 0 8 .int := ⟨RX0, TX0, 9, tyX0, rfl, by decide, zl_X0, Or.inr ⟨"WornLetters", (List.mem_of_getElem? (i := 299) (by decide +kernel))⟩, tyX0_ok, nmX0, rfl, by decide +kernel⟩
theorem zF_X7_236 : zz_FL RX7 236 0 8 := ⟨RX0, TX0, 9, rfl, by decide, zl_X0, Or.inr ⟨"WornLetters", (List.mem_of_getElem? (i := 300) (by decide +kernel))⟩⟩
theorem zP_X7_236 : zz_FP RX7 236 0 8 .int := ⟨RX0, TX0, 9, tyX0, rfl, by decide, zl_X0, Or.inr ⟨"WornLetters", (List.mem_of_getElem? (i := 300) (by decide +kernel))⟩, tyX0_ok, nmX0, rfl, by decide +kernel⟩
theorem zF_X3_9 : zz_FL RX3 9 3 0 := ⟨RX3, TX3, 5, rfl, by decide, zl_X3, Or.inl (List.mem_of_getElem? (i := 327) (by decide +kernel))⟩
theorem zF_X3_15 : zz_FL RX3 15 3 1 := ⟨RX3, TX3, 5, rfl, by decide, zl_X3, Or.inl (List.mem_of_getElem? (i := 328) (by decide +kernel))⟩
theorem zF_X3_19 : zz_FL RX3 19 3 2 := ⟨RX3, TX3, 5, rfl, by decide, zl_X3, Or.inl (List.mem_of_getElem? (i := 329) (by decide +kernel))⟩
theorem zF_X7_190 : zz_FL RX7 190 3 2 := ⟨RX3, TX3, 5, rfl, by decide, zl_X3, Or.inr ⟨"WornLetters", (List.mem_of_getElem? (i := 330) (by decide +kernel))⟩⟩
theorem zF_X3_22 : zz_FL RX3 22 3 3 := ⟨RX3, TX3, 5, rfl, by decide, zl_X3, Or.inl (List.mem_of_getElem? (i := 331) (by decide +kernel))⟩
theorem zP_X3_22 : zz_FP RX3 22 3 3 .int := ⟨RX3, TX3, 5, tyX3, rfl, by decide, zl_X3, Or.inl (List.mem_of_getElem? (i := 331) (by decide +kernel)), tyX3_ok, nmX3, rfl, by decide +kernel⟩
theorem zF_X7_189 : zz_FL RX7 189 3 3 := ⟨RX3, TX3, 5, rfl, by decide, zl_X3, Or.inr ⟨"WornLetters", (List.mem_of_getElem? (i := 332) (by decide +kernel))⟩⟩
theorem zP_X7_189 : zz_FP RX7 189 3 3 .int := ⟨RX3, TX3, 5, tyX3, rfl, by decide, zl_X3, Or.inr ⟨"WornLetters", (List.mem_of_getElem? (i := 332) (by decide +kernel))⟩, tyX3_ok, nmX3, rfl, by decide +kernel⟩
theorem zF_X3_26 : zz_FL RX3 26 3 4 := ⟨RX3, TX3, 5, rfl, by decide, zl_X3, Or.inl (List.mem_of_getElem? (i := 333) (by decide +kernel))⟩
theorem zP_X3_26 : zz_FP RX3 26 3 4 .int := ⟨RX3, TX3, 5, tyX3, rfl, by decide, zl_X3, Or.inl (List.mem_of_getElem? (i := 333) (by decide +kernel)), tyX3_ok, nmX3, rfl, by decide +kernel⟩
theorem zF_X7_186 : zz_FL RX7 186 3 4 := ⟨RX3, TX3, 5, rfl, by decide, zl_X3, Or.inr ⟨"WornLetters", (List.mem_of_getElem? (i := 334) (by decide +kernel))⟩⟩
theorem zP_X7_186 : zz_FP RX7 186 3 4 .int := ⟨RX3, TX3, 5, tyX3, rfl, by decide, zl_X3, Or.inr ⟨"WornLetters", (List.mem_of_getElem? (i := 334) (by decide +kernel))⟩, tyX3_ok, nmX3, rfl, by decide +kernel⟩
theorem zF_X7_12 : zz_FL RX7 12 7 0 := ⟨RX7, TX7, 13, rfl, by decide, zl_X7, Or.inl (List.mem_of_getElem? (i := 346) (by decide +kernel))⟩
theorem zF_X7_19 : zz_FL RX7 19 7 1 := ⟨RX7, TX7, 13, rfl, by decide, zl_X7, Or.inl (List.mem_of_getElem? (i := 347) (by decide +kernel))⟩
theorem zF_X7_26 : zz_FL RX7 26 7 2 := ⟨RX7, TX7, 13, rfl, by decide, zl_X7, Or.inl (List.mem_of_getElem? (i := 348) (by decide +kernel))⟩
theorem zF_X7_30 : zz_FL RX7 30 7 3 := ⟨RX7, TX7, 13, rfl, by decide, zl_X7, Or.inl (List.mem_of_getElem? (i := 349) (by decide +kernel))⟩
theorem zF_X7_36 : zz_FL RX7 36 7 4 := ⟨RX7, TX7, 13, rfl, by decide, zl_X7, Or.inl (List.mem_of_getElem? (i := 350) (by decide +kernel))⟩
theorem zF_X7_43 : zz_FL RX7 43 7 5 := ⟨RX7, TX7, 13, rfl, by decide, zl_X7, Or.inl (List.mem_of_getElem? (i := 351) (by decide +kernel))⟩
theorem zF_X7_50 : zz_FL RX7 50 7 6 := ⟨RX7, TX7, 13, rfl, by decide, zl_X7, Or.inl (List.mem_of_getElem? (i := 352) (by decide +kernel))⟩
theorem zF_X7_57 : zz_FL RX7 57 7 7 := ⟨RX7, TX7, 13, rfl, by decide, zl_X7, Or.inl (List.mem_of_getElem? (i := 353) (by decide +kernel))⟩
theorem zF_X7_61 : zz_FL RX7 61 7 8 := ⟨RX7, TX7, 13, rfl, by decide, zl_X7, Or.inl (List.mem_of_getElem? (i := 354) (by decide +kernel))⟩
theorem zF_X7_64 : zz_FL RX7 64 7 9 := ⟨RX7, TX7, 13, rfl, by decide, zl_X7, Or.inl (List.mem_of_getElem? (i := 355) (by decide +kernel))⟩
theorem zF_X7_67 : zz_FL RX7 67 7 10 := ⟨RX7, TX7, 13, rfl, by decide, zl_X7, Or.inl (List.mem_of_getElem? (i := 356) (by decide +kernel))⟩
theorem zP_X7_67 : zz_FP RX7 67 7 10 .boolean := ⟨RX7, TX7, 13, tyX7, rfl, by decide, zl_X7, Or.inl (List.mem_of_getElem? (i := 356) (by decide +kernel)), tyX7_ok, nmX7, rfl, by decide +kernel⟩
theorem zF_X7_71 : zz_FL RX7 71 7 11 := ⟨RX7, TX7, 13, rfl, by decide, zl_X7, Or.inl (List.mem_of_getElem? (i := 357) (by decide +kernel))⟩
theorem zP_X7_71 : zz_FP RX7 71 7 11 .boolean := ⟨RX7, TX7, 13, tyX7, rfl, by decide, zl_X7, Or.inl (List.mem_of_getElem? (i := 357) (by decide +kernel)), tyX7_ok, nmX7, rfl, by decide +kernel⟩
theorem zF_X7_74 : zz_FL RX7 74 7 12 := ⟨RX7, TX7, 13, rfl, by decide, zl_X7, Or.inl (List.mem_of_getElem? (i := 358) (by decide +kernel))⟩
theorem zP_X7_74 : zz_FP RX7 74 7 12 .long := ⟨RX7, TX7, 13, tyX7, rfl, by decide, zl_X7, Or.inl (List.mem_of_getElem? (i := 358) (by decide +kernel)), tyX7_ok, nmX7, rfl, by decide +kernel⟩
theorem zM_L_13 : zz_MV RL 13 yX7_write cX7_write 2 (some .int) 1 := ⟨⟨(List.mem_of_getElem? (i := 389) (by decide +kernel)), (List.mem_of_getElem? (i := 91) (by decide +kernel)), Or.inl (List.mem_of_getElem? (i := 386) (by decide +kernel)), by decide, by decide +kernel⟩, (List.mem_of_getElem? (i := 387) (by decide +kernel)), (List.mem_of_getElem? (i := 388) (by decide +kernel))⟩
theorem zM_X7_82 : zz_MV RX7 82 yX4_append cX4_append 2 none 1 := ⟨⟨(List.mem_of_getElem? (i := 393) (by decide +kernel)), (List.mem_of_getElem? (i := 92) (by decide +kernel)), Or.inr ⟨"WornLetters", (List.mem_of_getElem? (i := 390) (by decide +kernel))⟩, by decide, by decide +kernel⟩, (List.mem_of_getElem? (i := 392) (by decide +kernel)), (List.mem_of_getElem? (i := 0) (by decide +kernel))⟩
theorem zM_L_18 : zz_MV RL 18 yX7_wipe cX7_wipe 2 (some .int) 0 := ⟨⟨(List.mem_of_getElem? (i := 397) (by decide +kernel)), (List.mem_of_getElem? (i := 91) (by decide +kernel)), Or.inl (List.mem_of_getElem? (i := 394) (by decide +kernel)), by decide, by decide +kernel⟩, (List.mem_of_getElem? (i := 395) (by decide +kernel)), (List.mem_of_getElem? (i := 396) (by decide +kernel))⟩
theorem zM_L_23 : zz_MV RL 23 yX7_fault cX7_fault 1 (some .int) 0 := ⟨⟨(List.mem_of_getElem? (i := 401) (by decide +kernel)), (List.mem_of_getElem? (i := 91) (by decide +kernel)), Or.inl (List.mem_of_getElem? (i := 398) (by decide +kernel)), by decide, by decide +kernel⟩, (List.mem_of_getElem? (i := 399) (by decide +kernel)), (List.mem_of_getElem? (i := 400) (by decide +kernel))⟩
theorem zM_X7_86 : zz_MV RX7 86 yX4_parse cX4_parse 2 (some .int) 0 := ⟨⟨(List.mem_of_getElem? (i := 405) (by decide +kernel)), (List.mem_of_getElem? (i := 92) (by decide +kernel)), Or.inr ⟨"WornLetters", (List.mem_of_getElem? (i := 402) (by decide +kernel))⟩, by decide, by decide +kernel⟩, (List.mem_of_getElem? (i := 404) (by decide +kernel)), (List.mem_of_getElem? (i := 1) (by decide +kernel))⟩
theorem zM_X4_55 : zz_MS RX4 55 yJ7_fill_53178 cJ7_fill_53178 4 none 2 := ⟨⟨(List.mem_of_getElem? (i := 126) (by decide +kernel)), (List.mem_of_getElem? (i := 94) (by decide +kernel)), Or.inl (List.mem_of_getElem? (i := 406) (by decide +kernel)), by decide, by decide +kernel⟩, (List.mem_of_getElem? (i := 125) (by decide +kernel))⟩
theorem zM_X4_61 : zz_MV RX4 61 yX4_parseWidths cX4_parseWidths 2 none 0 := ⟨⟨(List.mem_of_getElem? (i := 410) (by decide +kernel)), (List.mem_of_getElem? (i := 92) (by decide +kernel)), Or.inl (List.mem_of_getElem? (i := 407) (by decide +kernel)), by decide, by decide +kernel⟩, (List.mem_of_getElem? (i := 409) (by decide +kernel)), (List.mem_of_getElem? (i := 2) (by decide +kernel))⟩
theorem zM_X4_67 : zz_MV RX4 67 yX4_peek cX4_peek 1 (some .int) 0 := ⟨⟨(List.mem_of_getElem? (i := 414) (by decide +kernel)), (List.mem_of_getElem? (i := 92) (by decide +kernel)), Or.inl (List.mem_of_getElem? (i := 411) (by decide +kernel)), by decide, by decide +kernel⟩, (List.mem_of_getElem? (i := 413) (by decide +kernel)), (List.mem_of_getElem? (i := 3) (by decide +kernel))⟩
theorem zM_X4_74 : zz_MV RX4 74 yX4_takeDigit cX4_takeDigit 4 (some .int) 2 := ⟨⟨(List.mem_of_getElem? (i := 418) (by decide +kernel)), (List.mem_of_getElem? (i := 92) (by decide +kernel)), Or.inl (List.mem_of_getElem? (i := 415) (by decide +kernel)), by decide, by decide +kernel⟩, (List.mem_of_getElem? (i := 417) (by decide +kernel)), (List.mem_of_getElem? (i := 4) (by decide +kernel))⟩
theorem zM_X4_64 : zz_MV RX4 64 yX4_parsePart cX4_parsePart 1 none 0 := ⟨⟨(List.mem_of_getElem? (i := 422) (by decide +kernel)), (List.mem_of_getElem? (i := 92) (by decide +kernel)), Or.inl (List.mem_of_getElem? (i := 419) (by decide +kernel)), by decide, by decide +kernel⟩, (List.mem_of_getElem? (i := 421) (by decide +kernel)), (List.mem_of_getElem? (i := 5) (by decide +kernel))⟩
theorem zM_X4_78 : zz_MV RX4 78 yX4_parseWord cX4_parseWord 5 none 0 := ⟨⟨(List.mem_of_getElem? (i := 426) (by decide +kernel)), (List.mem_of_getElem? (i := 92) (by decide +kernel)), Or.inl (List.mem_of_getElem? (i := 423) (by decide +kernel)), by decide, by decide +kernel⟩, (List.mem_of_getElem? (i := 425) (by decide +kernel)), (List.mem_of_getElem? (i := 6) (by decide +kernel))⟩
theorem zM_X4_87 : zz_MS RX4 87 yX4_isLetter cX4_isLetter 1 (some .boolean) 1 := ⟨⟨(List.mem_of_getElem? (i := 429) (by decide +kernel)), (List.mem_of_getElem? (i := 92) (by decide +kernel)), Or.inl (List.mem_of_getElem? (i := 427) (by decide +kernel)), by decide, by decide +kernel⟩, (List.mem_of_getElem? (i := 428) (by decide +kernel))⟩
theorem zM_X4_94 : zz_MV RX4 94 yX2_widthOf cX2_widthOf 2 (some .int) 1 := ⟨⟨(List.mem_of_getElem? (i := 433) (by decide +kernel)), (List.mem_of_getElem? (i := 93) (by decide +kernel)), Or.inr ⟨"WornLetters", (List.mem_of_getElem? (i := 430) (by decide +kernel))⟩, by decide, by decide +kernel⟩, (List.mem_of_getElem? (i := 432) (by decide +kernel)), (List.mem_of_getElem? (i := 7) (by decide +kernel))⟩
theorem zM_X4_81 : zz_MV RX4 81 yX4_parseRule cX4_parseRule 7 none 0 := ⟨⟨(List.mem_of_getElem? (i := 437) (by decide +kernel)), (List.mem_of_getElem? (i := 92) (by decide +kernel)), Or.inl (List.mem_of_getElem? (i := 434) (by decide +kernel)), by decide, by decide +kernel⟩, (List.mem_of_getElem? (i := 436) (by decide +kernel)), (List.mem_of_getElem? (i := 8) (by decide +kernel))⟩
theorem zM_X4_113 : zz_MV RX4 113 yX4_refuseLast cX4_refuseLast 1 none 0 := ⟨⟨(List.mem_of_getElem? (i := 441) (by decide +kernel)), (List.mem_of_getElem? (i := 92) (by decide +kernel)), Or.inl (List.mem_of_getElem? (i := 438) (by decide +kernel)), by decide, by decide +kernel⟩, (List.mem_of_getElem? (i := 440) (by decide +kernel)), (List.mem_of_getElem? (i := 9) (by decide +kernel))⟩
theorem zM_X4_116 : zz_MV RX4 116 yX6_changeRule cX6_changeRule 5 (some .int) 3 := ⟨⟨(List.mem_of_getElem? (i := 445) (by decide +kernel)), (List.mem_of_getElem? (i := 95) (by decide +kernel)), Or.inr ⟨"WornLetters", (List.mem_of_getElem? (i := 442) (by decide +kernel))⟩, by decide, by decide +kernel⟩, (List.mem_of_getElem? (i := 444) (by decide +kernel)), (List.mem_of_getElem? (i := 10) (by decide +kernel))⟩
theorem zM_X6_79 : zz_MS RX6 79 yX7_isKind cX7_isKind 1 (some .boolean) 1 := ⟨⟨(List.mem_of_getElem? (i := 448) (by decide +kernel)), (List.mem_of_getElem? (i := 91) (by decide +kernel)), Or.inr ⟨"WornLetters", (List.mem_of_getElem? (i := 446) (by decide +kernel))⟩, by decide, by decide +kernel⟩, (List.mem_of_getElem? (i := 447) (by decide +kernel))⟩
theorem zM_X4_84 : zz_MV RX4 84 yX4_parseLine cX4_parseLine 2 none 0 := ⟨⟨(List.mem_of_getElem? (i := 452) (by decide +kernel)), (List.mem_of_getElem? (i := 92) (by decide +kernel)), Or.inl (List.mem_of_getElem? (i := 449) (by decide +kernel)), by decide, by decide +kernel⟩, (List.mem_of_getElem? (i := 451) (by decide +kernel)), (List.mem_of_getElem? (i := 11) (by decide +kernel))⟩
theorem zM_X4_120 : zz_MV RX4 120 yX4_parseSign cX4_parseSign 5 none 1 := ⟨⟨(List.mem_of_getElem? (i := 456) (by decide +kernel)), (List.mem_of_getElem? (i := 92) (by decide +kernel)), Or.inl (List.mem_of_getElem? (i := 453) (by decide +kernel)), by decide, by decide +kernel⟩, (List.mem_of_getElem? (i := 455) (by decide +kernel)), (List.mem_of_getElem? (i := 12) (by decide +kernel))⟩
theorem zM_X4_124 : zz_MV RX4 124 yX6_putGap cX6_putGap 4 none 2 := ⟨⟨(List.mem_of_getElem? (i := 460) (by decide +kernel)), (List.mem_of_getElem? (i := 95) (by decide +kernel)), Or.inr ⟨"WornLetters", (List.mem_of_getElem? (i := 457) (by decide +kernel))⟩, by decide, by decide +kernel⟩, (List.mem_of_getElem? (i := 459) (by decide +kernel)), (List.mem_of_getElem? (i := 13) (by decide +kernel))⟩
theorem zM_X6_40 : zz_MV RX6 40 yX6_hasUnit cX6_hasUnit 2 (some .boolean) 1 := ⟨⟨(List.mem_of_getElem? (i := 464) (by decide +kernel)), (List.mem_of_getElem? (i := 95) (by decide +kernel)), Or.inl (List.mem_of_getElem? (i := 461) (by decide +kernel)), by decide, by decide +kernel⟩, (List.mem_of_getElem? (i := 463) (by decide +kernel)), (List.mem_of_getElem? (i := 14) (by decide +kernel))⟩
theorem zM_X4_128 : zz_MV RX4 128 yX6_putSign cX6_putSign 5 none 3 := ⟨⟨(List.mem_of_getElem? (i := 468) (by decide +kernel)), (List.mem_of_getElem? (i := 95) (by decide +kernel)), Or.inr ⟨"WornLetters", (List.mem_of_getElem? (i := 465) (by decide +kernel))⟩, by decide, by decide +kernel⟩, (List.mem_of_getElem? (i := 467) (by decide +kernel)), (List.mem_of_getElem? (i := 15) (by decide +kernel))⟩
theorem zM_L_27 : zz_MV RL 27 yX7_stone cX7_stone 1 (some .int) 0 := ⟨⟨(List.mem_of_getElem? (i := 472) (by decide +kernel)), (List.mem_of_getElem? (i := 91) (by decide +kernel)), Or.inl (List.mem_of_getElem? (i := 469) (by decide +kernel)), by decide, by decide +kernel⟩, (List.mem_of_getElem? (i := 470) (by decide +kernel)), (List.mem_of_getElem? (i := 471) (by decide +kernel))⟩
theorem zM_X7_91 : zz_MV RX7 91 yX2_copyFrom cX2_copyFrom 2 none 1 := ⟨⟨(List.mem_of_getElem? (i := 476) (by decide +kernel)), (List.mem_of_getElem? (i := 93) (by decide +kernel)), Or.inr ⟨"WornLetters", (List.mem_of_getElem? (i := 473) (by decide +kernel))⟩, by decide, by decide +kernel⟩, (List.mem_of_getElem? (i := 475) (by decide +kernel)), (List.mem_of_getElem? (i := 16) (by decide +kernel))⟩
theorem zM_X7_96 : zz_MV RX7 96 yX6_copyFrom cX6_copyFrom 2 none 1 := ⟨⟨(List.mem_of_getElem? (i := 483) (by decide +kernel)), (List.mem_of_getElem? (i := 95) (by decide +kernel)), Or.inr ⟨"WornLetters", (List.mem_of_getElem? (i := 480) (by decide +kernel))⟩, by decide, by decide +kernel⟩, (List.mem_of_getElem? (i := 482) (by decide +kernel)), (List.mem_of_getElem? (i := 17) (by decide +kernel))⟩
theorem zM_X7_99 : zz_MV RX7 99 yX1_forget cX1_forget 1 none 0 := ⟨⟨(List.mem_of_getElem? (i := 488) (by decide +kernel)), (List.mem_of_getElem? (i := 96) (by decide +kernel)), Or.inr ⟨"WornLetters", (List.mem_of_getElem? (i := 485) (by decide +kernel))⟩, by decide, by decide +kernel⟩, (List.mem_of_getElem? (i := 487) (by decide +kernel)), (List.mem_of_getElem? (i := 18) (by decide +kernel))⟩
theorem zM_L_31 : zz_MV RL 31 yX7_word cX7_word 3 (some .int) 2 := ⟨⟨(List.mem_of_getElem? (i := 492) (by decide +kernel)), (List.mem_of_getElem? (i := 91) (by decide +kernel)), Or.inl (List.mem_of_getElem? (i := 489) (by decide +kernel)), by decide, by decide +kernel⟩, (List.mem_of_getElem? (i := 490) (by decide +kernel)), (List.mem_of_getElem? (i := 491) (by decide +kernel))⟩
theorem zM_X7_105 : zz_MV RX7 105 yX2_hasWord cX2_hasWord 2 (some .boolean) 1 := ⟨⟨(List.mem_of_getElem? (i := 496) (by decide +kernel)), (List.mem_of_getElem? (i := 93) (by decide +kernel)), Or.inr ⟨"WornLetters", (List.mem_of_getElem? (i := 493) (by decide +kernel))⟩, by decide, by decide +kernel⟩, (List.mem_of_getElem? (i := 495) (by decide +kernel)), (List.mem_of_getElem? (i := 19) (by decide +kernel))⟩
theorem zM_X7_128 : zz_MV RX7 128 yX2_letterOf cX2_letterOf 4 (some .int) 2 := ⟨⟨(List.mem_of_getElem? (i := 500) (by decide +kernel)), (List.mem_of_getElem? (i := 93) (by decide +kernel)), Or.inr ⟨"WornLetters", (List.mem_of_getElem? (i := 497) (by decide +kernel))⟩, by decide, by decide +kernel⟩, (List.mem_of_getElem? (i := 499) (by decide +kernel)), (List.mem_of_getElem? (i := 20) (by decide +kernel))⟩
theorem zM_L_36 : zz_MV RL 36 yX7_line cX7_line 2 (some .int) 1 := ⟨⟨(List.mem_of_getElem? (i := 504) (by decide +kernel)), (List.mem_of_getElem? (i := 91) (by decide +kernel)), Or.inl (List.mem_of_getElem? (i := 501) (by decide +kernel)), by decide, by decide +kernel⟩, (List.mem_of_getElem? (i := 502) (by decide +kernel)), (List.mem_of_getElem? (i := 503) (by decide +kernel))⟩
theorem zM_X7_132 : zz_MV RX7 132 yX6_hasUnit cX6_hasUnit 2 (some .boolean) 1 := ⟨⟨(List.mem_of_getElem? (i := 464) (by decide +kernel)), (List.mem_of_getElem? (i := 95) (by decide +kernel)), Or.inr ⟨"WornLetters", (List.mem_of_getElem? (i := 505) (by decide +kernel))⟩, by decide, by decide +kernel⟩, (List.mem_of_getElem? (i := 463) (by decide +kernel)), (List.mem_of_getElem? (i := 14) (by decide +kernel))⟩
theorem zM_L_40 : zz_MV RL 40 yX7_rule cX7_rule 3 (some .int) 2 := ⟨⟨(List.mem_of_getElem? (i := 509) (by decide +kernel)), (List.mem_of_getElem? (i := 91) (by decide +kernel)), Or.inl (List.mem_of_getElem? (i := 506) (by decide +kernel)), by decide, by decide +kernel⟩, (List.mem_of_getElem? (i := 507) (by decide +kernel)), (List.mem_of_getElem? (i := 508) (by decide +kernel))⟩
theorem zM_X7_138 : zz_MS RX7 138 yX7_isKind cX7_isKind 1 (some .boolean) 1 := ⟨⟨(List.mem_of_getElem? (i := 448) (by decide +kernel)), (List.mem_of_getElem? (i := 91) (by decide +kernel)), Or.inl (List.mem_of_getElem? (i := 510) (by decide +kernel)), by decide, by decide +kernel⟩, (List.mem_of_getElem? (i := 447) (by decide +kernel))⟩
theorem zM_L_44 : zz_MV RL 44 yX7_wear cX7_wear 3 (some .int) 1 := ⟨⟨(List.mem_of_getElem? (i := 514) (by decide +kernel)), (List.mem_of_getElem? (i := 91) (by decide +kernel)), Or.inl (List.mem_of_getElem? (i := 511) (by decide +kernel)), by decide, by decide +kernel⟩, (List.mem_of_getElem? (i := 512) (by decide +kernel)), (List.mem_of_getElem? (i := 513) (by decide +kernel))⟩
theorem zM_X7_144 : zz_MV RX7 144 yX6_removeSign cX6_removeSign 4 (some .int) 2 := ⟨⟨(List.mem_of_getElem? (i := 518) (by decide +kernel)), (List.mem_of_getElem? (i := 95) (by decide +kernel)), Or.inr ⟨"WornLetters", (List.mem_of_getElem? (i := 515) (by decide +kernel))⟩, by decide, by decide +kernel⟩, (List.mem_of_getElem? (i := 517) (by decide +kernel)), (List.mem_of_getElem? (i := 21) (by decide +kernel))⟩
theorem zM_X6_64 : zz_MS RX6 64 yX7_isSign cX7_isSign 1 (some .boolean) 1 := ⟨⟨(List.mem_of_getElem? (i := 521) (by decide +kernel)), (List.mem_of_getElem? (i := 91) (by decide +kernel)), Or.inr ⟨"WornLetters", (List.mem_of_getElem? (i := 519) (by decide +kernel))⟩, by decide, by decide +kernel⟩, (List.mem_of_getElem? (i := 520) (by decide +kernel))⟩
theorem zM_X6_56 : zz_MV RX6 56 yX2_widthOf cX2_widthOf 2 (some .int) 1 := ⟨⟨(List.mem_of_getElem? (i := 433) (by decide +kernel)), (List.mem_of_getElem? (i := 93) (by decide +kernel)), Or.inr ⟨"WornLetters", (List.mem_of_getElem? (i := 522) (by decide +kernel))⟩, by decide, by decide +kernel⟩, (List.mem_of_getElem? (i := 432) (by decide +kernel)), (List.mem_of_getElem? (i := 7) (by decide +kernel))⟩
theorem zM_X6_67 : zz_MV RX6 67 yX6_putGap cX6_putGap 4 none 2 := ⟨⟨(List.mem_of_getElem? (i := 460) (by decide +kernel)), (List.mem_of_getElem? (i := 95) (by decide +kernel)), Or.inl (List.mem_of_getElem? (i := 523) (by decide +kernel)), by decide, by decide +kernel⟩, (List.mem_of_getElem? (i := 459) (by decide +kernel)), (List.mem_of_getElem? (i := 13) (by decide +kernel))⟩
theorem zM_X7_148 : zz_MV RX7 148 yX1_record cX1_record 4 none 3 := ⟨⟨(List.mem_of_getElem? (i := 527) (by decide +kernel)), (List.mem_of_getElem? (i := 96) (by decide +kernel)), Or.inr ⟨"WornLetters", (List.mem_of_getElem? (i := 524) (by decide +kernel))⟩, by decide, by decide +kernel⟩, (List.mem_of_getElem? (i := 526) (by decide +kernel)), (List.mem_of_getElem? (i := 22) (by decide +kernel))⟩
theorem zM_X1_28 : zz_MS RX1 28 yJ9_min_7cf53 cJ9_min_7cf53 2 (some .int) 2 := ⟨⟨(List.mem_of_getElem? (i := 530) (by decide +kernel)), (List.mem_of_getElem? (i := 102) (by decide +kernel)), Or.inl (List.mem_of_getElem? (i := 528) (by decide +kernel)), by decide, by decide +kernel⟩, (List.mem_of_getElem? (i := 529) (by decide +kernel))⟩
theorem zM_L_48 : zz_MV RL 48 yX7_carve cX7_carve 4 (some .int) 2 := ⟨⟨(List.mem_of_getElem? (i := 534) (by decide +kernel)), (List.mem_of_getElem? (i := 91) (by decide +kernel)), Or.inl (List.mem_of_getElem? (i := 531) (by decide +kernel)), by decide, by decide +kernel⟩, (List.mem_of_getElem? (i := 532) (by decide +kernel)), (List.mem_of_getElem? (i := 533) (by decide +kernel))⟩
theorem zM_X7_152 : zz_MV RX7 152 yX6_insertSign cX6_insertSign 5 (some .int) 3 := ⟨⟨(List.mem_of_getElem? (i := 538) (by decide +kernel)), (List.mem_of_getElem? (i := 95) (by decide +kernel)), Or.inr ⟨"WornLetters", (List.mem_of_getElem? (i := 535) (by decide +kernel))⟩, by decide, by decide +kernel⟩, (List.mem_of_getElem? (i := 537) (by decide +kernel)), (List.mem_of_getElem? (i := 23) (by decide +kernel))⟩
theorem zM_X6_60 : zz_MV RX6 60 yX6_isFree cX6_isFree 4 (some .boolean) 2 := ⟨⟨(List.mem_of_getElem? (i := 542) (by decide +kernel)), (List.mem_of_getElem? (i := 95) (by decide +kernel)), Or.inl (List.mem_of_getElem? (i := 539) (by decide +kernel)), by decide, by decide +kernel⟩, (List.mem_of_getElem? (i := 541) (by decide +kernel)), (List.mem_of_getElem? (i := 24) (by decide +kernel))⟩
theorem zM_X6_71 : zz_MV RX6 71 yX6_putSign cX6_putSign 5 none 3 := ⟨⟨(List.mem_of_getElem? (i := 468) (by decide +kernel)), (List.mem_of_getElem? (i := 95) (by decide +kernel)), Or.inl (List.mem_of_getElem? (i := 543) (by decide +kernel)), by decide, by decide +kernel⟩, (List.mem_of_getElem? (i := 467) (by decide +kernel)), (List.mem_of_getElem? (i := 15) (by decide +kernel))⟩
theorem zM_X6_75 : zz_MV RX6 75 yX6_countGaps cX6_countGaps 3 (some .int) 0 := ⟨⟨(List.mem_of_getElem? (i := 547) (by decide +kernel)), (List.mem_of_getElem? (i := 95) (by decide +kernel)), Or.inl (List.mem_of_getElem? (i := 544) (by decide +kernel)), by decide, by decide +kernel⟩, (List.mem_of_getElem? (i := 546) (by decide +kernel)), (List.mem_of_getElem? (i := 25) (by decide +kernel))⟩
theorem zM_L_52 : zz_MV RL 52 yX7_bar cX7_bar 3 (some .int) 1 := ⟨⟨(List.mem_of_getElem? (i := 551) (by decide +kernel)), (List.mem_of_getElem? (i := 91) (by decide +kernel)), Or.inl (List.mem_of_getElem? (i := 548) (by decide +kernel)), by decide, by decide +kernel⟩, (List.mem_of_getElem? (i := 549) (by decide +kernel)), (List.mem_of_getElem? (i := 550) (by decide +kernel))⟩
theorem zM_X7_156 : zz_MV RX7 156 yX6_flipWord cX6_flipWord 3 (some .int) 2 := ⟨⟨(List.mem_of_getElem? (i := 555) (by decide +kernel)), (List.mem_of_getElem? (i := 95) (by decide +kernel)), Or.inr ⟨"WornLetters", (List.mem_of_getElem? (i := 552) (by decide +kernel))⟩, by decide, by decide +kernel⟩, (List.mem_of_getElem? (i := 554) (by decide +kernel)), (List.mem_of_getElem? (i := 26) (by decide +kernel))⟩
theorem zM_X6_44 : zz_MV RX6 44 yX2_hasWord cX2_hasWord 2 (some .boolean) 1 := ⟨⟨(List.mem_of_getElem? (i := 496) (by decide +kernel)), (List.mem_of_getElem? (i := 93) (by decide +kernel)), Or.inr ⟨"WornLetters", (List.mem_of_getElem? (i := 556) (by decide +kernel))⟩, by decide, by decide +kernel⟩, (List.mem_of_getElem? (i := 495) (by decide +kernel)), (List.mem_of_getElem? (i := 19) (by decide +kernel))⟩
theorem zM_L_56 : zz_MV RL 56 yX7_setRule cX7_setRule 5 (some .int) 3 := ⟨⟨(List.mem_of_getElem? (i := 560) (by decide +kernel)), (List.mem_of_getElem? (i := 91) (by decide +kernel)), Or.inl (List.mem_of_getElem? (i := 557) (by decide +kernel)), by decide, by decide +kernel⟩, (List.mem_of_getElem? (i := 558) (by decide +kernel)), (List.mem_of_getElem? (i := 559) (by decide +kernel))⟩
theorem zM_X7_159 : zz_MV RX7 159 yX6_changeRule cX6_changeRule 5 (some .int) 3 := ⟨⟨(List.mem_of_getElem? (i := 445) (by decide +kernel)), (List.mem_of_getElem? (i := 95) (by decide +kernel)), Or.inr ⟨"WornLetters", (List.mem_of_getElem? (i := 561) (by decide +kernel))⟩, by decide, by decide +kernel⟩, (List.mem_of_getElem? (i := 444) (by decide +kernel)), (List.mem_of_getElem? (i := 10) (by decide +kernel))⟩
theorem zM_L_61 : zz_MV RL 61 yX7_weigh cX7_weigh 4 (some .int) 2 := ⟨⟨(List.mem_of_getElem? (i := 565) (by decide +kernel)), (List.mem_of_getElem? (i := 91) (by decide +kernel)), Or.inl (List.mem_of_getElem? (i := 562) (by decide +kernel)), by decide, by decide +kernel⟩, (List.mem_of_getElem? (i := 563) (by decide +kernel)), (List.mem_of_getElem? (i := 564) (by decide +kernel))⟩
theorem zM_L_65 : zz_MV RL 65 yX7_undo cX7_undo 1 (some .int) 0 := ⟨⟨(List.mem_of_getElem? (i := 569) (by decide +kernel)), (List.mem_of_getElem? (i := 91) (by decide +kernel)), Or.inl (List.mem_of_getElem? (i := 566) (by decide +kernel)), by decide, by decide +kernel⟩, (List.mem_of_getElem? (i := 567) (by decide +kernel)), (List.mem_of_getElem? (i := 568) (by decide +kernel))⟩
theorem zM_X7_166 : zz_MV RX7 166 yX1_takeBack cX1_takeBack 6 none 2 := ⟨⟨(List.mem_of_getElem? (i := 573) (by decide +kernel)), (List.mem_of_getElem? (i := 96) (by decide +kernel)), Or.inr ⟨"WornLetters", (List.mem_of_getElem? (i := 570) (by decide +kernel))⟩, by decide, by decide +kernel⟩, (List.mem_of_getElem? (i := 572) (by decide +kernel)), (List.mem_of_getElem? (i := 27) (by decide +kernel))⟩
theorem zM_X1_34 : zz_MV RX1 34 yX2_widthOf cX2_widthOf 2 (some .int) 1 := ⟨⟨(List.mem_of_getElem? (i := 433) (by decide +kernel)), (List.mem_of_getElem? (i := 93) (by decide +kernel)), Or.inr ⟨"WornLetters", (List.mem_of_getElem? (i := 574) (by decide +kernel))⟩, by decide, by decide +kernel⟩, (List.mem_of_getElem? (i := 432) (by decide +kernel)), (List.mem_of_getElem? (i := 7) (by decide +kernel))⟩
theorem zM_X1_40 : zz_MV RX1 40 yX6_putSign cX6_putSign 5 none 3 := ⟨⟨(List.mem_of_getElem? (i := 468) (by decide +kernel)), (List.mem_of_getElem? (i := 95) (by decide +kernel)), Or.inr ⟨"WornLetters", (List.mem_of_getElem? (i := 575) (by decide +kernel))⟩, by decide, by decide +kernel⟩, (List.mem_of_getElem? (i := 467) (by decide +kernel)), (List.mem_of_getElem? (i := 15) (by decide +kernel))⟩
theorem zM_X1_46 : zz_MV RX1 46 yX6_putGap cX6_putGap 4 none 2 := ⟨⟨(List.mem_of_getElem? (i := 460) (by decide +kernel)), (List.mem_of_getElem? (i := 95) (by decide +kernel)), Or.inr ⟨"WornLetters", (List.mem_of_getElem? (i := 576) (by decide +kernel))⟩, by decide, by decide +kernel⟩, (List.mem_of_getElem? (i := 459) (by decide +kernel)), (List.mem_of_getElem? (i := 13) (by decide +kernel))⟩
theorem zM_X1_50 : zz_MV RX1 50 yX6_flipWord cX6_flipWord 3 (some .int) 2 := ⟨⟨(List.mem_of_getElem? (i := 555) (by decide +kernel)), (List.mem_of_getElem? (i := 95) (by decide +kernel)), Or.inr ⟨"WornLetters", (List.mem_of_getElem? (i := 577) (by decide +kernel))⟩, by decide, by decide +kernel⟩, (List.mem_of_getElem? (i := 554) (by decide +kernel)), (List.mem_of_getElem? (i := 26) (by decide +kernel))⟩
theorem zM_X1_57 : zz_MV RX1 57 yX2_hasWord cX2_hasWord 2 (some .boolean) 1 := ⟨⟨(List.mem_of_getElem? (i := 496) (by decide +kernel)), (List.mem_of_getElem? (i := 93) (by decide +kernel)), Or.inr ⟨"WornLetters", (List.mem_of_getElem? (i := 578) (by decide +kernel))⟩, by decide, by decide +kernel⟩, (List.mem_of_getElem? (i := 495) (by decide +kernel)), (List.mem_of_getElem? (i := 19) (by decide +kernel))⟩
theorem zM_L_69 : zz_MV RL 69 yX7_lies cX7_lies 3 (some .int) 2 := ⟨⟨(List.mem_of_getElem? (i := 582) (by decide +kernel)), (List.mem_of_getElem? (i := 91) (by decide +kernel)), Or.inl (List.mem_of_getElem? (i := 579) (by decide +kernel)), by decide, by decide +kernel⟩, (List.mem_of_getElem? (i := 580) (by decide +kernel)), (List.mem_of_getElem? (i := 581) (by decide +kernel))⟩
theorem zM_X7_170 : zz_MV RX7 170 yX6_holdsWord cX6_holdsWord 9 (some .boolean) 3 := ⟨⟨(List.mem_of_getElem? (i := 586) (by decide +kernel)), (List.mem_of_getElem? (i := 95) (by decide +kernel)), Or.inr ⟨"WornLetters", (List.mem_of_getElem? (i := 583) (by decide +kernel))⟩, by decide, by decide +kernel⟩, (List.mem_of_getElem? (i := 585) (by decide +kernel)), (List.mem_of_getElem? (i := 28) (by decide +kernel))⟩
theorem zM_X6_52 : zz_MV RX6 52 yX2_letterOf cX2_letterOf 4 (some .int) 2 := ⟨⟨(List.mem_of_getElem? (i := 500) (by decide +kernel)), (List.mem_of_getElem? (i := 93) (by decide +kernel)), Or.inr ⟨"WornLetters", (List.mem_of_getElem? (i := 587) (by decide +kernel))⟩, by decide, by decide +kernel⟩, (List.mem_of_getElem? (i := 499) (by decide +kernel)), (List.mem_of_getElem? (i := 20) (by decide +kernel))⟩
theorem zM_L_73 : zz_MV RL 73 yX7_readings cX7_readings 1 (some .long) 0 := ⟨⟨(List.mem_of_getElem? (i := 591) (by decide +kernel)), (List.mem_of_getElem? (i := 91) (by decide +kernel)), Or.inl (List.mem_of_getElem? (i := 588) (by decide +kernel)), by decide, by decide +kernel⟩, (List.mem_of_getElem? (i := 589) (by decide +kernel)), (List.mem_of_getElem? (i := 590) (by decide +kernel))⟩
theorem zM_X7_174 : zz_MV RX7 174 yX0_countAll cX0_countAll 3 (some .long) 2 := ⟨⟨(List.mem_of_getElem? (i := 595) (by decide +kernel)), (List.mem_of_getElem? (i := 98) (by decide +kernel)), Or.inr ⟨"WornLetters", (List.mem_of_getElem? (i := 592) (by decide +kernel))⟩, by decide, by decide +kernel⟩, (List.mem_of_getElem? (i := 594) (by decide +kernel)), (List.mem_of_getElem? (i := 29) (by decide +kernel))⟩
theorem zM_X0_41 : zz_MV RX0 41 yX0_lay cX0_lay 7 none 2 := ⟨⟨(List.mem_of_getElem? (i := 599) (by decide +kernel)), (List.mem_of_getElem? (i := 98) (by decide +kernel)), Or.inl (List.mem_of_getElem? (i := 596) (by decide +kernel)), by decide, by decide +kernel⟩, (List.mem_of_getElem? (i := 598) (by decide +kernel)), (List.mem_of_getElem? (i := 30) (by decide +kernel))⟩
theorem zM_X0_75 : zz_MS RX0 75 yJ7_fill_53178 cJ7_fill_53178 4 none 2 := ⟨⟨(List.mem_of_getElem? (i := 126) (by decide +kernel)), (List.mem_of_getElem? (i := 94) (by decide +kernel)), Or.inl (List.mem_of_getElem? (i := 600) (by decide +kernel)), by decide, by decide +kernel⟩, (List.mem_of_getElem? (i := 125) (by decide +kernel))⟩
theorem zM_X0_82 : zz_MS RX0 82 yX0_followersOf cX0_followersOf 7 (some .int) 3 := ⟨⟨(List.mem_of_getElem? (i := 603) (by decide +kernel)), (List.mem_of_getElem? (i := 98) (by decide +kernel)), Or.inl (List.mem_of_getElem? (i := 601) (by decide +kernel)), by decide, by decide +kernel⟩, (List.mem_of_getElem? (i := 602) (by decide +kernel))⟩
theorem zM_X0_89 : zz_MV RX0 89 yX6_holdsBlank cX6_holdsBlank 2 (some .boolean) 1 := ⟨⟨(List.mem_of_getElem? (i := 607) (by decide +kernel)), (List.mem_of_getElem? (i := 95) (by decide +kernel)), Or.inr ⟨"WornLetters", (List.mem_of_getElem? (i := 604) (by decide +kernel))⟩, by decide, by decide +kernel⟩, (List.mem_of_getElem? (i := 606) (by decide +kernel)), (List.mem_of_getElem? (i := 31) (by decide +kernel))⟩
theorem zM_X0_93 : zz_MV RX0 93 yX6_holdsWord cX6_holdsWord 9 (some .boolean) 3 := ⟨⟨(List.mem_of_getElem? (i := 586) (by decide +kernel)), (List.mem_of_getElem? (i := 95) (by decide +kernel)), Or.inr ⟨"WornLetters", (List.mem_of_getElem? (i := 608) (by decide +kernel))⟩, by decide, by decide +kernel⟩, (List.mem_of_getElem? (i := 585) (by decide +kernel)), (List.mem_of_getElem? (i := 28) (by decide +kernel))⟩
theorem zM_X0_45 : zz_MV RX0 45 yX0_prune cX0_prune 3 none 0 := ⟨⟨(List.mem_of_getElem? (i := 612) (by decide +kernel)), (List.mem_of_getElem? (i := 98) (by decide +kernel)), Or.inl (List.mem_of_getElem? (i := 609) (by decide +kernel)), by decide, by decide +kernel⟩, (List.mem_of_getElem? (i := 611) (by decide +kernel)), (List.mem_of_getElem? (i := 32) (by decide +kernel))⟩
theorem zM_X0_106 : zz_MV RX0 106 yX0_isOpen cX0_isOpen 3 (some .boolean) 2 := ⟨⟨(List.mem_of_getElem? (i := 616) (by decide +kernel)), (List.mem_of_getElem? (i := 98) (by decide +kernel)), Or.inl (List.mem_of_getElem? (i := 613) (by decide +kernel)), by decide, by decide +kernel⟩, (List.mem_of_getElem? (i := 615) (by decide +kernel)), (List.mem_of_getElem? (i := 33) (by decide +kernel))⟩
theorem zM_X0_114 : zz_MV RX0 114 yX0_leadsOn cX0_leadsOn 4 (some .boolean) 2 := ⟨⟨(List.mem_of_getElem? (i := 620) (by decide +kernel)), (List.mem_of_getElem? (i := 98) (by decide +kernel)), Or.inl (List.mem_of_getElem? (i := 617) (by decide +kernel)), by decide, by decide +kernel⟩, (List.mem_of_getElem? (i := 619) (by decide +kernel)), (List.mem_of_getElem? (i := 34) (by decide +kernel))⟩
theorem zM_X0_110 : zz_MV RX0 110 yX0_nextUnit cX0_nextUnit 3 (some .int) 2 := ⟨⟨(List.mem_of_getElem? (i := 624) (by decide +kernel)), (List.mem_of_getElem? (i := 98) (by decide +kernel)), Or.inl (List.mem_of_getElem? (i := 621) (by decide +kernel)), by decide, by decide +kernel⟩, (List.mem_of_getElem? (i := 623) (by decide +kernel)), (List.mem_of_getElem? (i := 35) (by decide +kernel))⟩
theorem zM_X0_48 : zz_MV RX0 48 yX0_countFrom cX0_countFrom 6 (some .long) 1 := ⟨⟨(List.mem_of_getElem? (i := 628) (by decide +kernel)), (List.mem_of_getElem? (i := 98) (by decide +kernel)), Or.inl (List.mem_of_getElem? (i := 625) (by decide +kernel)), by decide, by decide +kernel⟩, (List.mem_of_getElem? (i := 627) (by decide +kernel)), (List.mem_of_getElem? (i := 36) (by decide +kernel))⟩
theorem zM_X0_117 : zz_MV RX0 117 yX0_sumTails cX0_sumTails 7 (some .long) 2 := ⟨⟨(List.mem_of_getElem? (i := 632) (by decide +kernel)), (List.mem_of_getElem? (i := 98) (by decide +kernel)), Or.inl (List.mem_of_getElem? (i := 629) (by decide +kernel)), by decide, by decide +kernel⟩, (List.mem_of_getElem? (i := 631) (by decide +kernel)), (List.mem_of_getElem? (i := 37) (by decide +kernel))⟩
theorem zM_L_80 : zz_MV RL 80 yX7_rank cX7_rank 6 (some .int) 2 := ⟨⟨(List.mem_of_getElem? (i := 636) (by decide +kernel)), (List.mem_of_getElem? (i := 91) (by decide +kernel)), Or.inl (List.mem_of_getElem? (i := 633) (by decide +kernel)), by decide, by decide +kernel⟩, (List.mem_of_getElem? (i := 634) (by decide +kernel)), (List.mem_of_getElem? (i := 635) (by decide +kernel))⟩
theorem zM_X7_178 : zz_MV RX7 178 yX3_build cX3_build 5 none 2 := ⟨⟨(List.mem_of_getElem? (i := 640) (by decide +kernel)), (List.mem_of_getElem? (i := 99) (by decide +kernel)), Or.inr ⟨"WornLetters", (List.mem_of_getElem? (i := 637) (by decide +kernel))⟩, by decide, by decide +kernel⟩, (List.mem_of_getElem? (i := 639) (by decide +kernel)), (List.mem_of_getElem? (i := 38) (by decide +kernel))⟩
theorem zM_X3_43 : zz_MV RX3 43 yX0_isOpen cX0_isOpen 3 (some .boolean) 2 := ⟨⟨(List.mem_of_getElem? (i := 616) (by decide +kernel)), (List.mem_of_getElem? (i := 98) (by decide +kernel)), Or.inr ⟨"WornLetters", (List.mem_of_getElem? (i := 642) (by decide +kernel))⟩, by decide, by decide +kernel⟩, (List.mem_of_getElem? (i := 615) (by decide +kernel)), (List.mem_of_getElem? (i := 33) (by decide +kernel))⟩
theorem zM_X3_47 : zz_MV RX3 47 yX3_fillRow cX3_fillRow 11 none 3 := ⟨⟨(List.mem_of_getElem? (i := 646) (by decide +kernel)), (List.mem_of_getElem? (i := 99) (by decide +kernel)), Or.inl (List.mem_of_getElem? (i := 643) (by decide +kernel)), by decide, by decide +kernel⟩, (List.mem_of_getElem? (i := 645) (by decide +kernel)), (List.mem_of_getElem? (i := 39) (by decide +kernel))⟩
theorem zM_X3_51 : zz_MS RX3 51 yX3_rowOf cX3_rowOf 2 (some .int) 2 := ⟨⟨(List.mem_of_getElem? (i := 649) (by decide +kernel)), (List.mem_of_getElem? (i := 99) (by decide +kernel)), Or.inl (List.mem_of_getElem? (i := 647) (by decide +kernel)), by decide, by decide +kernel⟩, (List.mem_of_getElem? (i := 648) (by decide +kernel))⟩
theorem zM_X3_55 : zz_MV RX3 55 yX0_nextUnit cX0_nextUnit 3 (some .int) 2 := ⟨⟨(List.mem_of_getElem? (i := 624) (by decide +kernel)), (List.mem_of_getElem? (i := 98) (by decide +kernel)), Or.inr ⟨"WornLetters", (List.mem_of_getElem? (i := 650) (by decide +kernel))⟩, by decide, by decide +kernel⟩, (List.mem_of_getElem? (i := 623) (by decide +kernel)), (List.mem_of_getElem? (i := 35) (by decide +kernel))⟩
theorem zM_X3_58 : zz_MS RX3 58 yX3_heaviestFrom cX3_heaviestFrom 2 (some .int) 2 := ⟨⟨(List.mem_of_getElem? (i := 653) (by decide +kernel)), (List.mem_of_getElem? (i := 99) (by decide +kernel)), Or.inl (List.mem_of_getElem? (i := 651) (by decide +kernel)), by decide, by decide +kernel⟩, (List.mem_of_getElem? (i := 652) (by decide +kernel))⟩
theorem zM_X3_62 : zz_MS RX3 62 yJ9_min_7cf53 cJ9_min_7cf53 2 (some .int) 2 := ⟨⟨(List.mem_of_getElem? (i := 530) (by decide +kernel)), (List.mem_of_getElem? (i := 102) (by decide +kernel)), Or.inl (List.mem_of_getElem? (i := 654) (by decide +kernel)), by decide, by decide +kernel⟩, (List.mem_of_getElem? (i := 529) (by decide +kernel))⟩
theorem zM_X7_182 : zz_MV RX7 182 yX3_find cX3_find 9 none 2 := ⟨⟨(List.mem_of_getElem? (i := 658) (by decide +kernel)), (List.mem_of_getElem? (i := 99) (by decide +kernel)), Or.inr ⟨"WornLetters", (List.mem_of_getElem? (i := 655) (by decide +kernel))⟩, by decide, by decide +kernel⟩, (List.mem_of_getElem? (i := 657) (by decide +kernel)), (List.mem_of_getElem? (i := 40) (by decide +kernel))⟩
theorem zM_X3_70 : zz_MV RX3 70 yX3_countWithWeight cX3_countWithWeight 6 (some .long) 2 := ⟨⟨(List.mem_of_getElem? (i := 662) (by decide +kernel)), (List.mem_of_getElem? (i := 99) (by decide +kernel)), Or.inl (List.mem_of_getElem? (i := 659) (by decide +kernel)), by decide, by decide +kernel⟩, (List.mem_of_getElem? (i := 661) (by decide +kernel)), (List.mem_of_getElem? (i := 41) (by decide +kernel))⟩
theorem zM_X3_74 : zz_MV RX3 74 yX3_walk cX3_walk 14 none 2 := ⟨⟨(List.mem_of_getElem? (i := 666) (by decide +kernel)), (List.mem_of_getElem? (i := 99) (by decide +kernel)), Or.inl (List.mem_of_getElem? (i := 663) (by decide +kernel)), by decide, by decide +kernel⟩, (List.mem_of_getElem? (i := 665) (by decide +kernel)), (List.mem_of_getElem? (i := 42) (by decide +kernel))⟩
theorem zM_X3_81 : zz_MV RX3 81 yX3_endsOf cX3_endsOf 7 (some .long) 5 := ⟨⟨(List.mem_of_getElem? (i := 670) (by decide +kernel)), (List.mem_of_getElem? (i := 99) (by decide +kernel)), Or.inl (List.mem_of_getElem? (i := 667) (by decide +kernel)), by decide, by decide +kernel⟩, (List.mem_of_getElem? (i := 669) (by decide +kernel)), (List.mem_of_getElem? (i := 43) (by decide +kernel))⟩
theorem zM_L_85 : zz_MV RL 85 yX7_stands cX7_stands 3 (some .long) 2 := ⟨⟨(List.mem_of_getElem? (i := 674) (by decide +kernel)), (List.mem_of_getElem? (i := 91) (by decide +kernel)), Or.inl (List.mem_of_getElem? (i := 671) (by decide +kernel)), by decide, by decide +kernel⟩, (List.mem_of_getElem? (i := 672) (by decide +kernel)), (List.mem_of_getElem? (i := 673) (by decide +kernel))⟩
theorem zM_X7_195 : zz_MS RX7 195 yX7_isSign cX7_isSign 1 (some .boolean) 1 := ⟨⟨(List.mem_of_getElem? (i := 521) (by decide +kernel)), (List.mem_of_getElem? (i := 91) (by decide +kernel)), Or.inl (List.mem_of_getElem? (i := 676) (by decide +kernel)), by decide, by decide +kernel⟩, (List.mem_of_getElem? (i := 520) (by decide +kernel))⟩
theorem zM_X7_200 : zz_MV RX7 200 yX0_countHeads cX0_countHeads 3 none 0 := ⟨⟨(List.mem_of_getElem? (i := 681) (by decide +kernel)), (List.mem_of_getElem? (i := 98) (by decide +kernel)), Or.inr ⟨"WornLetters", (List.mem_of_getElem? (i := 678) (by decide +kernel))⟩, by decide, by decide +kernel⟩, (List.mem_of_getElem? (i := 680) (by decide +kernel)), (List.mem_of_getElem? (i := 44) (by decide +kernel))⟩
theorem zM_X0_121 : zz_MS RX0 121 yJ7_fill_d0a16 cJ7_fill_d0a16 5 none 2 := ⟨⟨(List.mem_of_getElem? (i := 684) (by decide +kernel)), (List.mem_of_getElem? (i := 94) (by decide +kernel)), Or.inl (List.mem_of_getElem? (i := 682) (by decide +kernel)), by decide, by decide +kernel⟩, (List.mem_of_getElem? (i := 683) (by decide +kernel))⟩
theorem zM_X0_124 : zz_MV RX0 124 yX0_passOn cX0_passOn 6 none 3 := ⟨⟨(List.mem_of_getElem? (i := 688) (by decide +kernel)), (List.mem_of_getElem? (i := 98) (by decide +kernel)), Or.inl (List.mem_of_getElem? (i := 685) (by decide +kernel)), by decide, by decide +kernel⟩, (List.mem_of_getElem? (i := 687) (by decide +kernel)), (List.mem_of_getElem? (i := 45) (by decide +kernel))⟩
theorem zM_X7_203 : zz_MV RX7 203 yX0_countSign cX0_countSign 8 (some .long) 3 := ⟨⟨(List.mem_of_getElem? (i := 692) (by decide +kernel)), (List.mem_of_getElem? (i := 98) (by decide +kernel)), Or.inr ⟨"WornLetters", (List.mem_of_getElem? (i := 689) (by decide +kernel))⟩, by decide, by decide +kernel⟩, (List.mem_of_getElem? (i := 691) (by decide +kernel)), (List.mem_of_getElem? (i := 46) (by decide +kernel))⟩
theorem zM_X0_128 : zz_MV RX0 128 yX2_signBehind cX2_signBehind 6 (some .int) 2 := ⟨⟨(List.mem_of_getElem? (i := 696) (by decide +kernel)), (List.mem_of_getElem? (i := 93) (by decide +kernel)), Or.inr ⟨"WornLetters", (List.mem_of_getElem? (i := 693) (by decide +kernel))⟩, by decide, by decide +kernel⟩, (List.mem_of_getElem? (i := 695) (by decide +kernel)), (List.mem_of_getElem? (i := 47) (by decide +kernel))⟩
theorem zM_X2_46 : zz_MV RX2 46 yX2_hasWord cX2_hasWord 2 (some .boolean) 1 := ⟨⟨(List.mem_of_getElem? (i := 496) (by decide +kernel)), (List.mem_of_getElem? (i := 93) (by decide +kernel)), Or.inl (List.mem_of_getElem? (i := 697) (by decide +kernel)), by decide, by decide +kernel⟩, (List.mem_of_getElem? (i := 495) (by decide +kernel)), (List.mem_of_getElem? (i := 19) (by decide +kernel))⟩
theorem zM_X2_50 : zz_MV RX2 50 yX2_letterOf cX2_letterOf 4 (some .int) 2 := ⟨⟨(List.mem_of_getElem? (i := 500) (by decide +kernel)), (List.mem_of_getElem? (i := 93) (by decide +kernel)), Or.inl (List.mem_of_getElem? (i := 698) (by decide +kernel)), by decide, by decide +kernel⟩, (List.mem_of_getElem? (i := 499) (by decide +kernel)), (List.mem_of_getElem? (i := 20) (by decide +kernel))⟩
theorem zM_X2_54 : zz_MV RX2 54 yX2_widthOf cX2_widthOf 2 (some .int) 1 := ⟨⟨(List.mem_of_getElem? (i := 433) (by decide +kernel)), (List.mem_of_getElem? (i := 93) (by decide +kernel)), Or.inl (List.mem_of_getElem? (i := 699) (by decide +kernel)), by decide, by decide +kernel⟩, (List.mem_of_getElem? (i := 432) (by decide +kernel)), (List.mem_of_getElem? (i := 7) (by decide +kernel))⟩
theorem zM_X0_131 : zz_MV RX0 131 yX0_countThrough cX0_countThrough 4 (some .long) 2 := ⟨⟨(List.mem_of_getElem? (i := 703) (by decide +kernel)), (List.mem_of_getElem? (i := 98) (by decide +kernel)), Or.inl (List.mem_of_getElem? (i := 700) (by decide +kernel)), by decide, by decide +kernel⟩, (List.mem_of_getElem? (i := 702) (by decide +kernel)), (List.mem_of_getElem? (i := 48) (by decide +kernel))⟩
theorem zM_L_90 : zz_MV RL 90 yX7_begins cX7_begins 3 (some .long) 2 := ⟨⟨(List.mem_of_getElem? (i := 707) (by decide +kernel)), (List.mem_of_getElem? (i := 91) (by decide +kernel)), Or.inl (List.mem_of_getElem? (i := 704) (by decide +kernel)), by decide, by decide +kernel⟩, (List.mem_of_getElem? (i := 705) (by decide +kernel)), (List.mem_of_getElem? (i := 706) (by decide +kernel))⟩
theorem zM_X7_207 : zz_MV RX7 207 yX0_countThrough cX0_countThrough 4 (some .long) 2 := ⟨⟨(List.mem_of_getElem? (i := 703) (by decide +kernel)), (List.mem_of_getElem? (i := 98) (by decide +kernel)), Or.inr ⟨"WornLetters", (List.mem_of_getElem? (i := 708) (by decide +kernel))⟩, by decide, by decide +kernel⟩, (List.mem_of_getElem? (i := 702) (by decide +kernel)), (List.mem_of_getElem? (i := 48) (by decide +kernel))⟩
theorem zM_L_94 : zz_MV RL 94 yX7_sure cX7_sure 2 (some .int) 1 := ⟨⟨(List.mem_of_getElem? (i := 712) (by decide +kernel)), (List.mem_of_getElem? (i := 91) (by decide +kernel)), Or.inl (List.mem_of_getElem? (i := 709) (by decide +kernel)), by decide, by decide +kernel⟩, (List.mem_of_getElem? (i := 710) (by decide +kernel)), (List.mem_of_getElem? (i := 711) (by decide +kernel))⟩
theorem zM_X7_211 : zz_MV RX7 211 yX7_certainSign cX7_certainSign 6 (some .int) 2 := ⟨⟨(List.mem_of_getElem? (i := 716) (by decide +kernel)), (List.mem_of_getElem? (i := 91) (by decide +kernel)), Or.inl (List.mem_of_getElem? (i := 713) (by decide +kernel)), by decide, by decide +kernel⟩, (List.mem_of_getElem? (i := 715) (by decide +kernel)), (List.mem_of_getElem? (i := 49) (by decide +kernel))⟩
theorem zM_L_98 : zz_MV RL 98 yX7_judge cX7_judge 9 (some .int) 2 := ⟨⟨(List.mem_of_getElem? (i := 720) (by decide +kernel)), (List.mem_of_getElem? (i := 91) (by decide +kernel)), Or.inl (List.mem_of_getElem? (i := 717) (by decide +kernel)), by decide, by decide +kernel⟩, (List.mem_of_getElem? (i := 718) (by decide +kernel)), (List.mem_of_getElem? (i := 719) (by decide +kernel))⟩
theorem zM_X7_217 : zz_MV RX7 217 yX7_accepts cX7_accepts 8 (some .boolean) 1 := ⟨⟨(List.mem_of_getElem? (i := 725) (by decide +kernel)), (List.mem_of_getElem? (i := 91) (by decide +kernel)), Or.inl (List.mem_of_getElem? (i := 722) (by decide +kernel)), by decide, by decide +kernel⟩, (List.mem_of_getElem? (i := 724) (by decide +kernel)), (List.mem_of_getElem? (i := 50) (by decide +kernel))⟩
theorem zM_L_103 : zz_MV RL 103 yX7_see cX7_see 4 (some .int) 3 := ⟨⟨(List.mem_of_getElem? (i := 729) (by decide +kernel)), (List.mem_of_getElem? (i := 91) (by decide +kernel)), Or.inl (List.mem_of_getElem? (i := 726) (by decide +kernel)), by decide, by decide +kernel⟩, (List.mem_of_getElem? (i := 727) (by decide +kernel)), (List.mem_of_getElem? (i := 728) (by decide +kernel))⟩
theorem zM_X7_223 : zz_MV RX7 223 yX5_append cX5_append 4 none 3 := ⟨⟨(List.mem_of_getElem? (i := 733) (by decide +kernel)), (List.mem_of_getElem? (i := 97) (by decide +kernel)), Or.inr ⟨"WornLetters", (List.mem_of_getElem? (i := 730) (by decide +kernel))⟩, by decide, by decide +kernel⟩, (List.mem_of_getElem? (i := 732) (by decide +kernel)), (List.mem_of_getElem? (i := 51) (by decide +kernel))⟩
theorem zM_L_107 : zz_MV RL 107 yX7_unsee cX7_unsee 2 (some .int) 0 := ⟨⟨(List.mem_of_getElem? (i := 737) (by decide +kernel)), (List.mem_of_getElem? (i := 91) (by decide +kernel)), Or.inl (List.mem_of_getElem? (i := 734) (by decide +kernel)), by decide, by decide +kernel⟩, (List.mem_of_getElem? (i := 735) (by decide +kernel)), (List.mem_of_getElem? (i := 736) (by decide +kernel))⟩
theorem zM_L_111 : zz_MV RL 111 yX7_which cX7_which 4 (some .long) 1 := ⟨⟨(List.mem_of_getElem? (i := 741) (by decide +kernel)), (List.mem_of_getElem? (i := 91) (by decide +kernel)), Or.inl (List.mem_of_getElem? (i := 738) (by decide +kernel)), by decide, by decide +kernel⟩, (List.mem_of_getElem? (i := 739) (by decide +kernel)), (List.mem_of_getElem? (i := 740) (by decide +kernel))⟩
theorem zM_X7_226 : zz_MV RX7 226 yX0_countSelected cX0_countSelected 5 (some .long) 3 := ⟨⟨(List.mem_of_getElem? (i := 745) (by decide +kernel)), (List.mem_of_getElem? (i := 98) (by decide +kernel)), Or.inr ⟨"WornLetters", (List.mem_of_getElem? (i := 742) (by decide +kernel))⟩, by decide, by decide +kernel⟩, (List.mem_of_getElem? (i := 744) (by decide +kernel)), (List.mem_of_getElem? (i := 52) (by decide +kernel))⟩
theorem zM_X0_65 : zz_MV RX0 65 yX0_select cX0_select 6 none 3 := ⟨⟨(List.mem_of_getElem? (i := 749) (by decide +kernel)), (List.mem_of_getElem? (i := 98) (by decide +kernel)), Or.inl (List.mem_of_getElem? (i := 746) (by decide +kernel)), by decide, by decide +kernel⟩, (List.mem_of_getElem? (i := 748) (by decide +kernel)), (List.mem_of_getElem? (i := 53) (by decide +kernel))⟩
theorem zM_X7_232 : zz_MV RX7 232 yX3_rankOfPath cX3_rankOfPath 9 (some .long) 1 := ⟨⟨(List.mem_of_getElem? (i := 754) (by decide +kernel)), (List.mem_of_getElem? (i := 99) (by decide +kernel)), Or.inr ⟨"WornLetters", (List.mem_of_getElem? (i := 751) (by decide +kernel))⟩, by decide, by decide +kernel⟩, (List.mem_of_getElem? (i := 753) (by decide +kernel)), (List.mem_of_getElem? (i := 54) (by decide +kernel))⟩
theorem zM_L_116 : zz_MV RL 116 yX7_share cX7_share 12 (some .long) 2 := ⟨⟨(List.mem_of_getElem? (i := 758) (by decide +kernel)), (List.mem_of_getElem? (i := 91) (by decide +kernel)), Or.inl (List.mem_of_getElem? (i := 755) (by decide +kernel)), by decide, by decide +kernel⟩, (List.mem_of_getElem? (i := 756) (by decide +kernel)), (List.mem_of_getElem? (i := 757) (by decide +kernel))⟩
theorem zM_X7_239 : zz_MS RX7 239 yX7_lowestTerms cX7_lowestTerms 12 (some .long) 3 := ⟨⟨(List.mem_of_getElem? (i := 761) (by decide +kernel)), (List.mem_of_getElem? (i := 91) (by decide +kernel)), Or.inl (List.mem_of_getElem? (i := 759) (by decide +kernel)), by decide, by decide +kernel⟩, (List.mem_of_getElem? (i := 760) (by decide +kernel))⟩
theorem zM_X7_243 : zz_MS RX7 243 yJ6_bitCount_0f7a4 cJ6_bitCount_0f7a4 1 (some .int) 1 := ⟨⟨(List.mem_of_getElem? (i := 764) (by decide +kernel)), (List.mem_of_getElem? (i := 103) (by decide +kernel)), Or.inl (List.mem_of_getElem? (i := 762) (by decide +kernel)), by decide, by decide +kernel⟩, (List.mem_of_getElem? (i := 763) (by decide +kernel))⟩
theorem zM_X7_249 : zz_MS RX7 249 yX7_factorial cX7_factorial 1 (some .long) 1 := ⟨⟨(List.mem_of_getElem? (i := 770) (by decide +kernel)), (List.mem_of_getElem? (i := 91) (by decide +kernel)), Or.inl (List.mem_of_getElem? (i := 768) (by decide +kernel)), by decide, by decide +kernel⟩, (List.mem_of_getElem? (i := 769) (by decide +kernel))⟩
theorem zM_X7_253 : zz_MV RX7 253 yX0_countFrom cX0_countFrom 6 (some .long) 1 := ⟨⟨(List.mem_of_getElem? (i := 628) (by decide +kernel)), (List.mem_of_getElem? (i := 98) (by decide +kernel)), Or.inr ⟨"WornLetters", (List.mem_of_getElem? (i := 773) (by decide +kernel))⟩, by decide, by decide +kernel⟩, (List.mem_of_getElem? (i := 627) (by decide +kernel)), (List.mem_of_getElem? (i := 36) (by decide +kernel))⟩
theorem zM_L_121 : zz_MV RL 121 yX7_lost cX7_lost 9 (some .int) 2 := ⟨⟨(List.mem_of_getElem? (i := 777) (by decide +kernel)), (List.mem_of_getElem? (i := 91) (by decide +kernel)), Or.inl (List.mem_of_getElem? (i := 774) (by decide +kernel)), by decide, by decide +kernel⟩, (List.mem_of_getElem? (i := 775) (by decide +kernel)), (List.mem_of_getElem? (i := 776) (by decide +kernel))⟩
theorem zM_X7_256 : zz_MS RX7 256 yX7_power cX7_power 5 (some .long) 2 := ⟨⟨(List.mem_of_getElem? (i := 780) (by decide +kernel)), (List.mem_of_getElem? (i := 91) (by decide +kernel)), Or.inl (List.mem_of_getElem? (i := 778) (by decide +kernel)), by decide, by decide +kernel⟩, (List.mem_of_getElem? (i := 779) (by decide +kernel))⟩
theorem zM_L_126 : zz_MV RL 126 yX7_seed cX7_seed 5 (some .long) 1 := ⟨⟨(List.mem_of_getElem? (i := 784) (by decide +kernel)), (List.mem_of_getElem? (i := 91) (by decide +kernel)), Or.inl (List.mem_of_getElem? (i := 781) (by decide +kernel)), by decide, by decide +kernel⟩, (List.mem_of_getElem? (i := 782) (by decide +kernel)), (List.mem_of_getElem? (i := 783) (by decide +kernel))⟩
theorem zM_L_131 : zz_MV RL 131 yX7_drawn cX7_drawn 6 (some .int) 1 := ⟨⟨(List.mem_of_getElem? (i := 788) (by decide +kernel)), (List.mem_of_getElem? (i := 91) (by decide +kernel)), Or.inl (List.mem_of_getElem? (i := 785) (by decide +kernel)), by decide, by decide +kernel⟩, (List.mem_of_getElem? (i := 786) (by decide +kernel)), (List.mem_of_getElem? (i := 787) (by decide +kernel))⟩
theorem zM_L_135 : zz_MV RL 135 yX7_keep cX7_keep 2 (some .int) 1 := ⟨⟨(List.mem_of_getElem? (i := 794) (by decide +kernel)), (List.mem_of_getElem? (i := 91) (by decide +kernel)), Or.inl (List.mem_of_getElem? (i := 791) (by decide +kernel)), by decide, by decide +kernel⟩, (List.mem_of_getElem? (i := 792) (by decide +kernel)), (List.mem_of_getElem? (i := 793) (by decide +kernel))⟩
theorem zM_L_139 : zz_MV RL 139 yX7_again cX7_again 3 (some .int) 1 := ⟨⟨(List.mem_of_getElem? (i := 798) (by decide +kernel)), (List.mem_of_getElem? (i := 91) (by decide +kernel)), Or.inl (List.mem_of_getElem? (i := 795) (by decide +kernel)), by decide, by decide +kernel⟩, (List.mem_of_getElem? (i := 796) (by decide +kernel)), (List.mem_of_getElem? (i := 797) (by decide +kernel))⟩
theorem zM_L_143 : zz_MV RL 143 yX7_count cX7_count 2 (some .int) 1 := ⟨⟨(List.mem_of_getElem? (i := 802) (by decide +kernel)), (List.mem_of_getElem? (i := 91) (by decide +kernel)), Or.inl (List.mem_of_getElem? (i := 799) (by decide +kernel)), by decide, by decide +kernel⟩, (List.mem_of_getElem? (i := 800) (by decide +kernel)), (List.mem_of_getElem? (i := 801) (by decide +kernel))⟩
theorem zM_X7_266 : zz_MV RX7 266 yX6_countGaps cX6_countGaps 3 (some .int) 0 := ⟨⟨(List.mem_of_getElem? (i := 547) (by decide +kernel)), (List.mem_of_getElem? (i := 95) (by decide +kernel)), Or.inr ⟨"WornLetters", (List.mem_of_getElem? (i := 803) (by decide +kernel))⟩, by decide, by decide +kernel⟩, (List.mem_of_getElem? (i := 546) (by decide +kernel)), (List.mem_of_getElem? (i := 25) (by decide +kernel))⟩
theorem zM_X8_90 : zz_MS RX8 90 yX8_begin cX8_begin 2 none 1 := ⟨⟨(List.mem_of_getElem? (i := 812) (by decide +kernel)), (List.mem_of_getElem? (i := 100) (by decide +kernel)), Or.inl (List.mem_of_getElem? (i := 810) (by decide +kernel)), by decide, by decide +kernel⟩, (List.mem_of_getElem? (i := 811) (by decide +kernel))⟩
theorem zF_X8_94 : zz_FL RX8 94 8 0 := ⟨RX8, TX8, 36, rfl, by decide, zl_X8, Or.inl (List.mem_of_getElem? (i := 813) (by decide +kernel))⟩
theorem zP_X8_94 : zz_FP RX8 94 8 0 .int := ⟨RX8, TX8, 36, tyX8, rfl, by decide, zl_X8, Or.inl (List.mem_of_getElem? (i := 813) (by decide +kernel)), tyX8_ok, nmX8, rfl, by decide +kernel⟩
theorem zF_X8_7 : zz_FL RX8 7 8 1 := ⟨RX8, TX8, 36, rfl, by decide, zl_X8, Or.inl (List.mem_of_getElem? (i := 814) (by decide +kernel))⟩
theorem zF_X8_107 : zz_FL RX8 107 8 2 := ⟨RX8, TX8, 36, rfl, by decide, zl_X8, Or.inl (List.mem_of_getElem? (i := 815) (by decide +kernel))⟩
theorem zP_X8_107 : zz_FP RX8 107 8 2 .int := ⟨RX8, TX8, 36, tyX8, rfl, by decide, zl_X8, Or.inl (List.mem_of_getElem? (i := 815) (by decide +kernel)), tyX8_ok, nmX8, rfl, by decide +kernel⟩
theorem zF_X8_110 : zz_FL RX8 110 8 3 := ⟨RX8, TX8, 36, rfl, by decide, zl_X8, Or.inl (List.mem_of_getElem? (i := 816) (by decide +kernel))⟩
theorem zP_X8_110 : zz_FP RX8 110 8 3 .int := ⟨RX8, TX8, 36, tyX8, rfl, by decide, zl_X8, Or.inl (List.mem_of_getElem? (i := 816) (by decide +kernel)), tyX8_ok, nmX8, rfl, by decide +kernel⟩
theorem zF_X8_13 : zz_FL RX8 13 8 4 := ⟨RX8, TX8, 36, rfl, by decide, zl_X8, Or.inl (List.mem_of_getElem? (i := 817) (by decide +kernel))⟩
theorem zF_X8_98 : zz_FL RX8 98 8 5 := ⟨RX8, TX8, 36, rfl, by decide, zl_X8, Or.inl (List.mem_of_getElem? (i := 818) (by decide +kernel))⟩
theorem zP_X8_98 : zz_FP RX8 98 8 5 .int := ⟨RX8, TX8, 36, tyX8, rfl, by decide, zl_X8, Or.inl (List.mem_of_getElem? (i := 818) (by decide +kernel)), tyX8_ok, nmX8, rfl, by decide +kernel⟩
theorem zF_X8_16 : zz_FL RX8 16 8 6 := ⟨RX8, TX8, 36, rfl, by decide, zl_X8, Or.inl (List.mem_of_getElem? (i := 819) (by decide +kernel))⟩
theorem zF_X8_19 : zz_FL RX8 19 8 7 := ⟨RX8, TX8, 36, rfl, by decide, zl_X8, Or.inl (List.mem_of_getElem? (i := 820) (by decide +kernel))⟩
theorem zF_X8_22 : zz_FL RX8 22 8 8 := ⟨RX8, TX8, 36, rfl, by decide, zl_X8, Or.inl (List.mem_of_getElem? (i := 821) (by decide +kernel))⟩
theorem zF_X8_25 : zz_FL RX8 25 8 9 := ⟨RX8, TX8, 36, rfl, by decide, zl_X8, Or.inl (List.mem_of_getElem? (i := 822) (by decide +kernel))⟩
theorem zF_X8_28 : zz_FL RX8 28 8 10 := ⟨RX8, TX8, 36, rfl, by decide, zl_X8, Or.inl (List.mem_of_getElem? (i := 823) (by decide +kernel))⟩
theorem zF_X8_113 : zz_FL RX8 113 8 11 := ⟨RX8, TX8, 36, rfl, by decide, zl_X8, Or.inl (List.mem_of_getElem? (i := 824) (by decide +kernel))⟩
theorem zP_X8_113 : zz_FP RX8 113 8 11 .int := ⟨RX8, TX8, 36, tyX8, rfl, by decide, zl_X8, Or.inl (List.mem_of_getElem? (i := 824) (by decide +kernel)), tyX8_ok, nmX8, rfl, by decide +kernel⟩
theorem zF_X8_31 : zz_FL RX8 31 8 12 := ⟨RX8, TX8, 36, rfl, by decide, zl_X8, Or.inl (List.mem_of_getElem? (i := 825) (by decide +kernel))⟩
theorem zF_X8_34 : zz_FL RX8 34 8 13 := ⟨RX8, TX8, 36, rfl, by decide, zl_X8, Or.inl (List.mem_of_getElem? (i := 826) (by decide +kernel))⟩
theorem zF_X8_37 : zz_FL RX8 37 8 14 := ⟨RX8, TX8, 36, rfl, by decide, zl_X8, Or.inl (List.mem_of_getElem? (i := 827) (by decide +kernel))⟩
theorem zF_X8_40 : zz_FL RX8 40 8 15 := ⟨RX8, TX8, 36, rfl, by decide, zl_X8, Or.inl (List.mem_of_getElem? (i := 828) (by decide +kernel))⟩
theorem zF_X8_43 : zz_FL RX8 43 8 16 := ⟨RX8, TX8, 36, rfl, by decide, zl_X8, Or.inl (List.mem_of_getElem? (i := 829) (by decide +kernel))⟩
theorem zF_X8_47 : zz_FL RX8 47 8 17 := ⟨RX8, TX8, 36, rfl, by decide, zl_X8, Or.inl (List.mem_of_getElem? (i := 830) (by decide +kernel))⟩
theorem zF_X8_50 : zz_FL RX8 50 8 18 := ⟨RX8, TX8, 36, rfl, by decide, zl_X8, Or.inl (List.mem_of_getElem? (i := 831) (by decide +kernel))⟩
theorem zF_X8_53 : zz_FL RX8 53 8 19 := ⟨RX8, TX8, 36, rfl, by decide, zl_X8, Or.inl (List.mem_of_getElem? (i := 832) (by decide +kernel))⟩
theorem zF_X8_56 : zz_FL RX8 56 8 20 := ⟨RX8, TX8, 36, rfl, by decide, zl_X8, Or.inl (List.mem_of_getElem? (i := 833) (by decide +kernel))⟩
theorem zF_X8_145 : zz_FL RX8 145 8 21 := ⟨RX8, TX8, 36, rfl, by decide, zl_X8, Or.inl (List.mem_of_getElem? (i := 834) (by decide +kernel))⟩
theorem zP_X8_145 : zz_FP RX8 145 8 21 .int := ⟨RX8, TX8, 36, tyX8, rfl, by decide, zl_X8, Or.inl (List.mem_of_getElem? (i := 834) (by decide +kernel)), tyX8_ok, nmX8, rfl, by decide +kernel⟩
theorem zF_X8_59 : zz_FL RX8 59 8 22 := ⟨RX8, TX8, 36, rfl, by decide, zl_X8, Or.inl (List.mem_of_getElem? (i := 835) (by decide +kernel))⟩
theorem zF_X8_62 : zz_FL RX8 62 8 23 := ⟨RX8, TX8, 36, rfl, by decide, zl_X8, Or.inl (List.mem_of_getElem? (i := 836) (by decide +kernel))⟩
theorem zF_X8_196 : zz_FL RX8 196 8 24 := ⟨RX8, TX8, 36, rfl, by decide, zl_X8, Or.inl (List.mem_of_getElem? (i := 837) (by decide +kernel))⟩
theorem zP_X8_196 : zz_FP RX8 196 8 24 .int := ⟨RX8, TX8, 36, tyX8, rfl, by decide, zl_X8, Or.inl (List.mem_of_getElem? (i := 837) (by decide +kernel)), tyX8_ok, nmX8, rfl, by decide +kernel⟩
theorem zF_X8_65 : zz_FL RX8 65 8 25 := ⟨RX8, TX8, 36, rfl, by decide, zl_X8, Or.inl (List.mem_of_getElem? (i := 838) (by decide +kernel))⟩
theorem zF_X8_68 : zz_FL RX8 68 8 26 := ⟨RX8, TX8, 36, rfl, by decide, zl_X8, Or.inl (List.mem_of_getElem? (i := 839) (by decide +kernel))⟩
theorem zF_X8_71 : zz_FL RX8 71 8 27 := ⟨RX8, TX8, 36, rfl, by decide, zl_X8, Or.inl (List.mem_of_getElem? (i := 840) (by decide +kernel))⟩
theorem zF_X8_301 : zz_FL RX8 301 8 28 := ⟨RX8, TX8, 36, rfl, by decide, zl_X8, Or.inl (List.mem_of_getElem? (i := 841) (by decide +kernel))⟩
theorem zP_X8_301 : zz_FP RX8 301 8 28 .long := ⟨RX8, TX8, 36, tyX8, rfl, by decide, zl_X8, Or.inl (List.mem_of_getElem? (i := 841) (by decide +kernel)), tyX8_ok, nmX8, rfl, by decide +kernel⟩
theorem zF_X8_74 : zz_FL RX8 74 8 29 := ⟨RX8, TX8, 36, rfl, by decide, zl_X8, Or.inl (List.mem_of_getElem? (i := 842) (by decide +kernel))⟩
theorem zF_X8_78 : zz_FL RX8 78 8 30 := ⟨RX8, TX8, 36, rfl, by decide, zl_X8, Or.inl (List.mem_of_getElem? (i := 843) (by decide +kernel))⟩
theorem zF_X8_81 : zz_FL RX8 81 8 31 := ⟨RX8, TX8, 36, rfl, by decide, zl_X8, Or.inl (List.mem_of_getElem? (i := 844) (by decide +kernel))⟩
theorem zF_X8_84 : zz_FL RX8 84 8 32 := ⟨RX8, TX8, 36, rfl, by decide, zl_X8, Or.inl (List.mem_of_getElem? (i := 845) (by decide +kernel))⟩
theorem zF_X8_213 : zz_FL RX8 213 8 33 := ⟨RX8, TX8, 36, rfl, by decide, zl_X8, Or.inl (List.mem_of_getElem? (i := 846) (by decide +kernel))⟩
theorem zP_X8_213 : zz_FP RX8 213 8 33 .int := ⟨RX8, TX8, 36, tyX8, rfl, by decide, zl_X8, Or.inl (List.mem_of_getElem? (i := 846) (by decide +kernel)), tyX8_ok, nmX8, rfl, by decide +kernel⟩
theorem zF_X8_216 : zz_FL RX8 216 8 34 := ⟨RX8, TX8, 36, rfl, by decide, zl_X8, Or.inl (List.mem_of_getElem? (i := 847) (by decide +kernel))⟩
theorem zP_X8_216 : zz_FP RX8 216 8 34 .int := ⟨RX8, TX8, 36, tyX8, rfl, by decide, zl_X8, Or.inl (List.mem_of_getElem? (i := 847) (by decide +kernel)), tyX8_ok, nmX8, rfl, by decide +kernel⟩
theorem zF_X8_87 : zz_FL RX8 87 8 35 := ⟨RX8, TX8, 36, rfl, by decide, zl_X8, Or.inl (List.mem_of_getElem? (i := 848) (by decide +kernel))⟩
theorem zM_L_17 : zz_MV RL 17 yX8_write cX8_write 2 (some .int) 1 := ⟨⟨(List.mem_of_getElem? (i := 925) (by decide +kernel)), (List.mem_of_getElem? (i := 100) (by decide +kernel)), Or.inl (List.mem_of_getElem? (i := 922) (by decide +kernel)), by decide, by decide +kernel⟩, (List.mem_of_getElem? (i := 923) (by decide +kernel)), (List.mem_of_getElem? (i := 924) (by decide +kernel))⟩
theorem zM_X8_101 : zz_MS RX8 101 yX8_in cX8_in 6 (some .boolean) 3 := ⟨⟨(List.mem_of_getElem? (i := 929) (by decide +kernel)), (List.mem_of_getElem? (i := 100) (by decide +kernel)), Or.inl (List.mem_of_getElem? (i := 927) (by decide +kernel)), by decide, by decide +kernel⟩, (List.mem_of_getElem? (i := 928) (by decide +kernel))⟩
theorem zM_L_22 : zz_MV RL 22 yX8_wipe cX8_wipe 2 (some .int) 0 := ⟨⟨(List.mem_of_getElem? (i := 933) (by decide +kernel)), (List.mem_of_getElem? (i := 100) (by decide +kernel)), Or.inl (List.mem_of_getElem? (i := 930) (by decide +kernel)), by decide, by decide +kernel⟩, (List.mem_of_getElem? (i := 931) (by decide +kernel)), (List.mem_of_getElem? (i := 932) (by decide +kernel))⟩
theorem zM_L_26 : zz_MV RL 26 yX8_fault cX8_fault 1 (some .int) 0 := ⟨⟨(List.mem_of_getElem? (i := 937) (by decide +kernel)), (List.mem_of_getElem? (i := 100) (by decide +kernel)), Or.inl (List.mem_of_getElem? (i := 934) (by decide +kernel)), by decide, by decide +kernel⟩, (List.mem_of_getElem? (i := 935) (by decide +kernel)), (List.mem_of_getElem? (i := 936) (by decide +kernel))⟩
theorem zM_X8_137 : zz_MV RX8 137 yX8_readStone cX8_readStone 2 (some .int) 0 := ⟨⟨(List.mem_of_getElem? (i := 941) (by decide +kernel)), (List.mem_of_getElem? (i := 100) (by decide +kernel)), Or.inl (List.mem_of_getElem? (i := 938) (by decide +kernel)), by decide, by decide +kernel⟩, (List.mem_of_getElem? (i := 940) (by decide +kernel)), (List.mem_of_getElem? (i := 55) (by decide +kernel))⟩
theorem zM_X8_116 : zz_MV RX8 116 yX8_isNext cX8_isNext 4 (some .boolean) 3 := ⟨⟨(List.mem_of_getElem? (i := 945) (by decide +kernel)), (List.mem_of_getElem? (i := 100) (by decide +kernel)), Or.inl (List.mem_of_getElem? (i := 942) (by decide +kernel)), by decide, by decide +kernel⟩, (List.mem_of_getElem? (i := 944) (by decide +kernel)), (List.mem_of_getElem? (i := 56) (by decide +kernel))⟩
theorem zM_X8_134 : zz_MV RX8 134 yX8_readPart cX8_readPart 1 (some .boolean) 0 := ⟨⟨(List.mem_of_getElem? (i := 949) (by decide +kernel)), (List.mem_of_getElem? (i := 100) (by decide +kernel)), Or.inl (List.mem_of_getElem? (i := 946) (by decide +kernel)), by decide, by decide +kernel⟩, (List.mem_of_getElem? (i := 948) (by decide +kernel)), (List.mem_of_getElem? (i := 57) (by decide +kernel))⟩
theorem zM_X8_124 : zz_MV RX8 124 yX8_readWord cX8_readWord 4 (some .boolean) 0 := ⟨⟨(List.mem_of_getElem? (i := 953) (by decide +kernel)), (List.mem_of_getElem? (i := 100) (by decide +kernel)), Or.inl (List.mem_of_getElem? (i := 950) (by decide +kernel)), by decide, by decide +kernel⟩, (List.mem_of_getElem? (i := 952) (by decide +kernel)), (List.mem_of_getElem? (i := 58) (by decide +kernel))⟩
theorem zM_X8_128 : zz_MV RX8 128 yX8_readOneRule cX8_readOneRule 3 (some .boolean) 0 := ⟨⟨(List.mem_of_getElem? (i := 957) (by decide +kernel)), (List.mem_of_getElem? (i := 100) (by decide +kernel)), Or.inl (List.mem_of_getElem? (i := 954) (by decide +kernel)), by decide, by decide +kernel⟩, (List.mem_of_getElem? (i := 956) (by decide +kernel)), (List.mem_of_getElem? (i := 59) (by decide +kernel))⟩
theorem zM_X8_120 : zz_MV RX8 120 yX8_toldOf cX8_toldOf 2 (some .int) 1 := ⟨⟨(List.mem_of_getElem? (i := 961) (by decide +kernel)), (List.mem_of_getElem? (i := 100) (by decide +kernel)), Or.inl (List.mem_of_getElem? (i := 958) (by decide +kernel)), by decide, by decide +kernel⟩, (List.mem_of_getElem? (i := 960) (by decide +kernel)), (List.mem_of_getElem? (i := 60) (by decide +kernel))⟩
theorem zM_X8_131 : zz_MV RX8 131 yX8_readLine cX8_readLine 4 (some .boolean) 0 := ⟨⟨(List.mem_of_getElem? (i := 965) (by decide +kernel)), (List.mem_of_getElem? (i := 100) (by decide +kernel)), Or.inl (List.mem_of_getElem? (i := 962) (by decide +kernel)), by decide, by decide +kernel⟩, (List.mem_of_getElem? (i := 964) (by decide +kernel)), (List.mem_of_getElem? (i := 61) (by decide +kernel))⟩
theorem zM_L_30 : zz_MV RL 30 yX8_stone cX8_stone 2 (some .int) 0 := ⟨⟨(List.mem_of_getElem? (i := 969) (by decide +kernel)), (List.mem_of_getElem? (i := 100) (by decide +kernel)), Or.inl (List.mem_of_getElem? (i := 966) (by decide +kernel)), by decide, by decide +kernel⟩, (List.mem_of_getElem? (i := 967) (by decide +kernel)), (List.mem_of_getElem? (i := 968) (by decide +kernel))⟩
theorem zM_X8_141 : zz_MS RX8 141 yX8_lay cX8_lay 3 none 2 := ⟨⟨(List.mem_of_getElem? (i := 972) (by decide +kernel)), (List.mem_of_getElem? (i := 100) (by decide +kernel)), Or.inl (List.mem_of_getElem? (i := 970) (by decide +kernel)), by decide, by decide +kernel⟩, (List.mem_of_getElem? (i := 971) (by decide +kernel))⟩
theorem zM_L_35 : zz_MV RL 35 yX8_word cX8_word 3 (some .int) 2 := ⟨⟨(List.mem_of_getElem? (i := 976) (by decide +kernel)), (List.mem_of_getElem? (i := 100) (by decide +kernel)), Or.inl (List.mem_of_getElem? (i := 973) (by decide +kernel)), by decide, by decide +kernel⟩, (List.mem_of_getElem? (i := 974) (by decide +kernel)), (List.mem_of_getElem? (i := 975) (by decide +kernel))⟩
theorem zM_X8_148 : zz_MV RX8 148 yX8_noWord cX8_noWord 2 (some .boolean) 1 := ⟨⟨(List.mem_of_getElem? (i := 980) (by decide +kernel)), (List.mem_of_getElem? (i := 100) (by decide +kernel)), Or.inl (List.mem_of_getElem? (i := 977) (by decide +kernel)), by decide, by decide +kernel⟩, (List.mem_of_getElem? (i := 979) (by decide +kernel)), (List.mem_of_getElem? (i := 62) (by decide +kernel))⟩
theorem zM_X8_152 : zz_MV RX8 152 yX8_unitsOf cX8_unitsOf 4 (some .int) 1 := ⟨⟨(List.mem_of_getElem? (i := 984) (by decide +kernel)), (List.mem_of_getElem? (i := 100) (by decide +kernel)), Or.inl (List.mem_of_getElem? (i := 981) (by decide +kernel)), by decide, by decide +kernel⟩, (List.mem_of_getElem? (i := 983) (by decide +kernel)), (List.mem_of_getElem? (i := 63) (by decide +kernel))⟩
theorem zM_L_39 : zz_MV RL 39 yX8_line cX8_line 2 (some .int) 1 := ⟨⟨(List.mem_of_getElem? (i := 988) (by decide +kernel)), (List.mem_of_getElem? (i := 100) (by decide +kernel)), Or.inl (List.mem_of_getElem? (i := 985) (by decide +kernel)), by decide, by decide +kernel⟩, (List.mem_of_getElem? (i := 986) (by decide +kernel)), (List.mem_of_getElem? (i := 987) (by decide +kernel))⟩
theorem zM_X8_155 : zz_MV RX8 155 yX8_noUnit cX8_noUnit 2 (some .boolean) 1 := ⟨⟨(List.mem_of_getElem? (i := 992) (by decide +kernel)), (List.mem_of_getElem? (i := 100) (by decide +kernel)), Or.inl (List.mem_of_getElem? (i := 989) (by decide +kernel)), by decide, by decide +kernel⟩, (List.mem_of_getElem? (i := 991) (by decide +kernel)), (List.mem_of_getElem? (i := 64) (by decide +kernel))⟩
theorem zM_L_43 : zz_MV RL 43 yX8_rule cX8_rule 3 (some .int) 2 := ⟨⟨(List.mem_of_getElem? (i := 996) (by decide +kernel)), (List.mem_of_getElem? (i := 100) (by decide +kernel)), Or.inl (List.mem_of_getElem? (i := 993) (by decide +kernel)), by decide, by decide +kernel⟩, (List.mem_of_getElem? (i := 994) (by decide +kernel)), (List.mem_of_getElem? (i := 995) (by decide +kernel))⟩
theorem zM_L_47 : zz_MV RL 47 yX8_wear cX8_wear 3 (some .int) 1 := ⟨⟨(List.mem_of_getElem? (i := 1001) (by decide +kernel)), (List.mem_of_getElem? (i := 100) (by decide +kernel)), Or.inl (List.mem_of_getElem? (i := 998) (by decide +kernel)), by decide, by decide +kernel⟩, (List.mem_of_getElem? (i := 999) (by decide +kernel)), (List.mem_of_getElem? (i := 1000) (by decide +kernel))⟩
theorem zM_X8_167 : zz_MV RX8 167 yX8_note cX8_note 2 none 0 := ⟨⟨(List.mem_of_getElem? (i := 1005) (by decide +kernel)), (List.mem_of_getElem? (i := 100) (by decide +kernel)), Or.inl (List.mem_of_getElem? (i := 1002) (by decide +kernel)), by decide, by decide +kernel⟩, (List.mem_of_getElem? (i := 1004) (by decide +kernel)), (List.mem_of_getElem? (i := 65) (by decide +kernel))⟩
theorem zM_X8_170 : zz_MV RX8 170 yX8_wearOn cX8_wearOn 5 none 2 := ⟨⟨(List.mem_of_getElem? (i := 1009) (by decide +kernel)), (List.mem_of_getElem? (i := 100) (by decide +kernel)), Or.inl (List.mem_of_getElem? (i := 1006) (by decide +kernel)), by decide, by decide +kernel⟩, (List.mem_of_getElem? (i := 1008) (by decide +kernel)), (List.mem_of_getElem? (i := 66) (by decide +kernel))⟩
theorem zM_L_51 : zz_MV RL 51 yX8_carve cX8_carve 3 (some .int) 2 := ⟨⟨(List.mem_of_getElem? (i := 1013) (by decide +kernel)), (List.mem_of_getElem? (i := 100) (by decide +kernel)), Or.inl (List.mem_of_getElem? (i := 1010) (by decide +kernel)), by decide, by decide +kernel⟩, (List.mem_of_getElem? (i := 1011) (by decide +kernel)), (List.mem_of_getElem? (i := 1012) (by decide +kernel))⟩
theorem zM_X8_160 : zz_MV RX8 160 yX8_isInGaps cX8_isInGaps 6 (some .boolean) 3 := ⟨⟨(List.mem_of_getElem? (i := 1018) (by decide +kernel)), (List.mem_of_getElem? (i := 100) (by decide +kernel)), Or.inl (List.mem_of_getElem? (i := 1015) (by decide +kernel)), by decide, by decide +kernel⟩, (List.mem_of_getElem? (i := 1017) (by decide +kernel)), (List.mem_of_getElem? (i := 67) (by decide +kernel))⟩
theorem zM_X8_176 : zz_MV RX8 176 yX8_carveOn cX8_carveOn 5 none 3 := ⟨⟨(List.mem_of_getElem? (i := 1022) (by decide +kernel)), (List.mem_of_getElem? (i := 100) (by decide +kernel)), Or.inl (List.mem_of_getElem? (i := 1019) (by decide +kernel)), by decide, by decide +kernel⟩, (List.mem_of_getElem? (i := 1021) (by decide +kernel)), (List.mem_of_getElem? (i := 68) (by decide +kernel))⟩
theorem zM_X8_180 : zz_MV RX8 180 yX8_gaps cX8_gaps 4 (some .int) 1 := ⟨⟨(List.mem_of_getElem? (i := 1026) (by decide +kernel)), (List.mem_of_getElem? (i := 100) (by decide +kernel)), Or.inl (List.mem_of_getElem? (i := 1023) (by decide +kernel)), by decide, by decide +kernel⟩, (List.mem_of_getElem? (i := 1025) (by decide +kernel)), (List.mem_of_getElem? (i := 69) (by decide +kernel))⟩
theorem zM_L_55 : zz_MV RL 55 yX8_bar cX8_bar 2 (some .int) 1 := ⟨⟨(List.mem_of_getElem? (i := 1030) (by decide +kernel)), (List.mem_of_getElem? (i := 100) (by decide +kernel)), Or.inl (List.mem_of_getElem? (i := 1027) (by decide +kernel)), by decide, by decide +kernel⟩, (List.mem_of_getElem? (i := 1028) (by decide +kernel)), (List.mem_of_getElem? (i := 1029) (by decide +kernel))⟩
theorem zM_L_60 : zz_MV RL 60 yX8_setRule cX8_setRule 5 (some .int) 3 := ⟨⟨(List.mem_of_getElem? (i := 1034) (by decide +kernel)), (List.mem_of_getElem? (i := 100) (by decide +kernel)), Or.inl (List.mem_of_getElem? (i := 1031) (by decide +kernel)), by decide, by decide +kernel⟩, (List.mem_of_getElem? (i := 1032) (by decide +kernel)), (List.mem_of_getElem? (i := 1033) (by decide +kernel))⟩
theorem zM_L_64 : zz_MV RL 64 yX8_weigh cX8_weigh 4 (some .int) 2 := ⟨⟨(List.mem_of_getElem? (i := 1038) (by decide +kernel)), (List.mem_of_getElem? (i := 100) (by decide +kernel)), Or.inl (List.mem_of_getElem? (i := 1035) (by decide +kernel)), by decide, by decide +kernel⟩, (List.mem_of_getElem? (i := 1036) (by decide +kernel)), (List.mem_of_getElem? (i := 1037) (by decide +kernel))⟩
theorem zM_L_68 : zz_MV RL 68 yX8_undo cX8_undo 2 (some .int) 0 := ⟨⟨(List.mem_of_getElem? (i := 1043) (by decide +kernel)), (List.mem_of_getElem? (i := 100) (by decide +kernel)), Or.inl (List.mem_of_getElem? (i := 1040) (by decide +kernel)), by decide, by decide +kernel⟩, (List.mem_of_getElem? (i := 1041) (by decide +kernel)), (List.mem_of_getElem? (i := 1042) (by decide +kernel))⟩
theorem zM_L_72 : zz_MV RL 72 yX8_lies cX8_lies 3 (some .int) 2 := ⟨⟨(List.mem_of_getElem? (i := 1047) (by decide +kernel)), (List.mem_of_getElem? (i := 100) (by decide +kernel)), Or.inl (List.mem_of_getElem? (i := 1044) (by decide +kernel)), by decide, by decide +kernel⟩, (List.mem_of_getElem? (i := 1045) (by decide +kernel)), (List.mem_of_getElem? (i := 1046) (by decide +kernel))⟩
theorem zM_X8_193 : zz_MV RX8 193 yX8_wordLies cX8_wordLies 8 (some .boolean) 3 := ⟨⟨(List.mem_of_getElem? (i := 1051) (by decide +kernel)), (List.mem_of_getElem? (i := 100) (by decide +kernel)), Or.inl (List.mem_of_getElem? (i := 1048) (by decide +kernel)), by decide, by decide +kernel⟩, (List.mem_of_getElem? (i := 1050) (by decide +kernel)), (List.mem_of_getElem? (i := 70) (by decide +kernel))⟩
theorem zM_X8_164 : zz_MV RX8 164 yX8_canLie cX8_canLie 4 (some .boolean) 3 := ⟨⟨(List.mem_of_getElem? (i := 1055) (by decide +kernel)), (List.mem_of_getElem? (i := 100) (by decide +kernel)), Or.inl (List.mem_of_getElem? (i := 1052) (by decide +kernel)), by decide, by decide +kernel⟩, (List.mem_of_getElem? (i := 1054) (by decide +kernel)), (List.mem_of_getElem? (i := 71) (by decide +kernel))⟩
theorem zM_L_77 : zz_MV RL 77 yX8_readings cX8_readings 1 (some .long) 0 := ⟨⟨(List.mem_of_getElem? (i := 1059) (by decide +kernel)), (List.mem_of_getElem? (i := 100) (by decide +kernel)), Or.inl (List.mem_of_getElem? (i := 1056) (by decide +kernel)), by decide, by decide +kernel⟩, (List.mem_of_getElem? (i := 1057) (by decide +kernel)), (List.mem_of_getElem? (i := 1058) (by decide +kernel))⟩
theorem zM_X8_231 : zz_MV RX8 231 yX8_all cX8_all 2 (some .long) 1 := ⟨⟨(List.mem_of_getElem? (i := 1063) (by decide +kernel)), (List.mem_of_getElem? (i := 100) (by decide +kernel)), Or.inl (List.mem_of_getElem? (i := 1060) (by decide +kernel)), by decide, by decide +kernel⟩, (List.mem_of_getElem? (i := 1062) (by decide +kernel)), (List.mem_of_getElem? (i := 72) (by decide +kernel))⟩
theorem zM_X8_203 : zz_MV RX8 203 yX8_layFrom cX8_layFrom 8 none 1 := ⟨⟨(List.mem_of_getElem? (i := 1067) (by decide +kernel)), (List.mem_of_getElem? (i := 100) (by decide +kernel)), Or.inl (List.mem_of_getElem? (i := 1064) (by decide +kernel)), by decide, by decide +kernel⟩, (List.mem_of_getElem? (i := 1066) (by decide +kernel)), (List.mem_of_getElem? (i := 73) (by decide +kernel))⟩
theorem zM_X8_199 : zz_MV RX8 199 yX8_fits cX8_fits 6 (some .boolean) 4 := ⟨⟨(List.mem_of_getElem? (i := 1071) (by decide +kernel)), (List.mem_of_getElem? (i := 100) (by decide +kernel)), Or.inl (List.mem_of_getElem? (i := 1068) (by decide +kernel)), by decide, by decide +kernel⟩, (List.mem_of_getElem? (i := 1070) (by decide +kernel)), (List.mem_of_getElem? (i := 74) (by decide +kernel))⟩
theorem zM_X8_186 : zz_MS RX8 186 yX8_has cX8_has 2 (some .boolean) 2 := ⟨⟨(List.mem_of_getElem? (i := 1074) (by decide +kernel)), (List.mem_of_getElem? (i := 100) (by decide +kernel)), Or.inl (List.mem_of_getElem? (i := 1072) (by decide +kernel)), by decide, by decide +kernel⟩, (List.mem_of_getElem? (i := 1073) (by decide +kernel))⟩
theorem zM_X8_190 : zz_MV RX8 190 yX8_mayFollow cX8_mayFollow 5 (some .boolean) 3 := ⟨⟨(List.mem_of_getElem? (i := 1078) (by decide +kernel)), (List.mem_of_getElem? (i := 100) (by decide +kernel)), Or.inl (List.mem_of_getElem? (i := 1075) (by decide +kernel)), by decide, by decide +kernel⟩, (List.mem_of_getElem? (i := 1077) (by decide +kernel)), (List.mem_of_getElem? (i := 75) (by decide +kernel))⟩
theorem zM_L_84 : zz_MV RL 84 yX8_rank cX8_rank 4 (some .int) 2 := ⟨⟨(List.mem_of_getElem? (i := 1082) (by decide +kernel)), (List.mem_of_getElem? (i := 100) (by decide +kernel)), Or.inl (List.mem_of_getElem? (i := 1079) (by decide +kernel)), by decide, by decide +kernel⟩, (List.mem_of_getElem? (i := 1080) (by decide +kernel)), (List.mem_of_getElem? (i := 1081) (by decide +kernel))⟩
theorem zM_X8_235 : zz_MV RX8 235 yX8_findRank cX8_findRank 9 (some .boolean) 2 := ⟨⟨(List.mem_of_getElem? (i := 1086) (by decide +kernel)), (List.mem_of_getElem? (i := 100) (by decide +kernel)), Or.inl (List.mem_of_getElem? (i := 1083) (by decide +kernel)), by decide, by decide +kernel⟩, (List.mem_of_getElem? (i := 1085) (by decide +kernel)), (List.mem_of_getElem? (i := 76) (by decide +kernel))⟩
theorem zM_X8_223 : zz_MV RX8 223 yX8_layHeavy cX8_layHeavy 7 none 2 := ⟨⟨(List.mem_of_getElem? (i := 1090) (by decide +kernel)), (List.mem_of_getElem? (i := 100) (by decide +kernel)), Or.inl (List.mem_of_getElem? (i := 1087) (by decide +kernel)), by decide, by decide +kernel⟩, (List.mem_of_getElem? (i := 1089) (by decide +kernel)), (List.mem_of_getElem? (i := 77) (by decide +kernel))⟩
theorem zM_X8_206 : zz_MV RX8 206 yX8_agrees cX8_agrees 9 (some .boolean) 3 := ⟨⟨(List.mem_of_getElem? (i := 1094) (by decide +kernel)), (List.mem_of_getElem? (i := 100) (by decide +kernel)), Or.inl (List.mem_of_getElem? (i := 1091) (by decide +kernel)), by decide, by decide +kernel⟩, (List.mem_of_getElem? (i := 1093) (by decide +kernel)), (List.mem_of_getElem? (i := 78) (by decide +kernel))⟩
theorem zM_X8_209 : zz_MV RX8 209 yX8_addHeavy cX8_addHeavy 8 none 4 := ⟨⟨(List.mem_of_getElem? (i := 1098) (by decide +kernel)), (List.mem_of_getElem? (i := 100) (by decide +kernel)), Or.inl (List.mem_of_getElem? (i := 1095) (by decide +kernel)), by decide, by decide +kernel⟩, (List.mem_of_getElem? (i := 1097) (by decide +kernel)), (List.mem_of_getElem? (i := 79) (by decide +kernel))⟩
theorem zM_X8_227 : zz_MV RX8 227 yX8_find cX8_find 14 none 4 := ⟨⟨(List.mem_of_getElem? (i := 1102) (by decide +kernel)), (List.mem_of_getElem? (i := 100) (by decide +kernel)), Or.inl (List.mem_of_getElem? (i := 1099) (by decide +kernel)), by decide, by decide +kernel⟩, (List.mem_of_getElem? (i := 1101) (by decide +kernel)), (List.mem_of_getElem? (i := 80) (by decide +kernel))⟩
theorem zM_X8_219 : zz_MV RX8 219 yX8_heavyBehind cX8_heavyBehind 7 (some .long) 4 := ⟨⟨(List.mem_of_getElem? (i := 1106) (by decide +kernel)), (List.mem_of_getElem? (i := 100) (by decide +kernel)), Or.inl (List.mem_of_getElem? (i := 1103) (by decide +kernel)), by decide, by decide +kernel⟩, (List.mem_of_getElem? (i := 1105) (by decide +kernel)), (List.mem_of_getElem? (i := 81) (by decide +kernel))⟩
theorem zM_L_89 : zz_MV RL 89 yX8_stands cX8_stands 3 (some .long) 2 := ⟨⟨(List.mem_of_getElem? (i := 1110) (by decide +kernel)), (List.mem_of_getElem? (i := 100) (by decide +kernel)), Or.inl (List.mem_of_getElem? (i := 1107) (by decide +kernel)), by decide, by decide +kernel⟩, (List.mem_of_getElem? (i := 1108) (by decide +kernel)), (List.mem_of_getElem? (i := 1109) (by decide +kernel))⟩
theorem zM_X8_252 : zz_MV RX8 252 yX8_standing cX8_standing 10 (some .long) 3 := ⟨⟨(List.mem_of_getElem? (i := 1115) (by decide +kernel)), (List.mem_of_getElem? (i := 100) (by decide +kernel)), Or.inl (List.mem_of_getElem? (i := 1112) (by decide +kernel)), by decide, by decide +kernel⟩, (List.mem_of_getElem? (i := 1114) (by decide +kernel)), (List.mem_of_getElem? (i := 82) (by decide +kernel))⟩
theorem zM_X8_239 : zz_MV RX8 239 yX8_layTo cX8_layTo 7 none 1 := ⟨⟨(List.mem_of_getElem? (i := 1119) (by decide +kernel)), (List.mem_of_getElem? (i := 100) (by decide +kernel)), Or.inl (List.mem_of_getElem? (i := 1116) (by decide +kernel)), by decide, by decide +kernel⟩, (List.mem_of_getElem? (i := 1118) (by decide +kernel)), (List.mem_of_getElem? (i := 83) (by decide +kernel))⟩
theorem zM_X8_242 : zz_MV RX8 242 yX8_hasAt cX8_hasAt 9 (some .boolean) 5 := ⟨⟨(List.mem_of_getElem? (i := 1123) (by decide +kernel)), (List.mem_of_getElem? (i := 100) (by decide +kernel)), Or.inl (List.mem_of_getElem? (i := 1120) (by decide +kernel)), by decide, by decide +kernel⟩, (List.mem_of_getElem? (i := 1122) (by decide +kernel)), (List.mem_of_getElem? (i := 84) (by decide +kernel))⟩
theorem zM_X8_246 : zz_MV RX8 246 yX8_behind cX8_behind 5 (some .long) 3 := ⟨⟨(List.mem_of_getElem? (i := 1127) (by decide +kernel)), (List.mem_of_getElem? (i := 100) (by decide +kernel)), Or.inl (List.mem_of_getElem? (i := 1124) (by decide +kernel)), by decide, by decide +kernel⟩, (List.mem_of_getElem? (i := 1126) (by decide +kernel)), (List.mem_of_getElem? (i := 85) (by decide +kernel))⟩
theorem zM_L_93 : zz_MV RL 93 yX8_begins cX8_begins 8 (some .long) 2 := ⟨⟨(List.mem_of_getElem? (i := 1132) (by decide +kernel)), (List.mem_of_getElem? (i := 100) (by decide +kernel)), Or.inl (List.mem_of_getElem? (i := 1129) (by decide +kernel)), by decide, by decide +kernel⟩, (List.mem_of_getElem? (i := 1130) (by decide +kernel)), (List.mem_of_getElem? (i := 1131) (by decide +kernel))⟩
theorem zM_L_97 : zz_MV RL 97 yX8_sure cX8_sure 2 (some .int) 1 := ⟨⟨(List.mem_of_getElem? (i := 1136) (by decide +kernel)), (List.mem_of_getElem? (i := 100) (by decide +kernel)), Or.inl (List.mem_of_getElem? (i := 1133) (by decide +kernel)), by decide, by decide +kernel⟩, (List.mem_of_getElem? (i := 1134) (by decide +kernel)), (List.mem_of_getElem? (i := 1135) (by decide +kernel))⟩
theorem zM_X8_257 : zz_MV RX8 257 yX8_sureAt cX8_sureAt 7 (some .int) 2 := ⟨⟨(List.mem_of_getElem? (i := 1140) (by decide +kernel)), (List.mem_of_getElem? (i := 100) (by decide +kernel)), Or.inl (List.mem_of_getElem? (i := 1137) (by decide +kernel)), by decide, by decide +kernel⟩, (List.mem_of_getElem? (i := 1139) (by decide +kernel)), (List.mem_of_getElem? (i := 86) (by decide +kernel))⟩
theorem zM_L_102 : zz_MV RL 102 yX8_judge cX8_judge 5 (some .int) 2 := ⟨⟨(List.mem_of_getElem? (i := 1144) (by decide +kernel)), (List.mem_of_getElem? (i := 100) (by decide +kernel)), Or.inl (List.mem_of_getElem? (i := 1141) (by decide +kernel)), by decide, by decide +kernel⟩, (List.mem_of_getElem? (i := 1142) (by decide +kernel)), (List.mem_of_getElem? (i := 1143) (by decide +kernel))⟩
theorem zM_X8_265 : zz_MS RX8 265 yX8_longPower cX8_longPower 6 (some .long) 2 := ⟨⟨(List.mem_of_getElem? (i := 1149) (by decide +kernel)), (List.mem_of_getElem? (i := 100) (by decide +kernel)), Or.inl (List.mem_of_getElem? (i := 1147) (by decide +kernel)), by decide, by decide +kernel⟩, (List.mem_of_getElem? (i := 1148) (by decide +kernel))⟩
theorem zM_X8_269 : zz_MV RX8 269 yX8_does cX8_does 10 (some .boolean) 1 := ⟨⟨(List.mem_of_getElem? (i := 1153) (by decide +kernel)), (List.mem_of_getElem? (i := 100) (by decide +kernel)), Or.inl (List.mem_of_getElem? (i := 1150) (by decide +kernel)), by decide, by decide +kernel⟩, (List.mem_of_getElem? (i := 1152) (by decide +kernel)), (List.mem_of_getElem? (i := 87) (by decide +kernel))⟩
theorem zM_L_106 : zz_MV RL 106 yX8_see cX8_see 4 (some .int) 3 := ⟨⟨(List.mem_of_getElem? (i := 1157) (by decide +kernel)), (List.mem_of_getElem? (i := 100) (by decide +kernel)), Or.inl (List.mem_of_getElem? (i := 1154) (by decide +kernel)), by decide, by decide +kernel⟩, (List.mem_of_getElem? (i := 1155) (by decide +kernel)), (List.mem_of_getElem? (i := 1156) (by decide +kernel))⟩
theorem zM_L_110 : zz_MV RL 110 yX8_unsee cX8_unsee 2 (some .int) 0 := ⟨⟨(List.mem_of_getElem? (i := 1161) (by decide +kernel)), (List.mem_of_getElem? (i := 100) (by decide +kernel)), Or.inl (List.mem_of_getElem? (i := 1158) (by decide +kernel)), by decide, by decide +kernel⟩, (List.mem_of_getElem? (i := 1159) (by decide +kernel)), (List.mem_of_getElem? (i := 1160) (by decide +kernel))⟩
theorem zM_L_115 : zz_MV RL 115 yX8_which cX8_which 6 (some .long) 1 := ⟨⟨(List.mem_of_getElem? (i := 1165) (by decide +kernel)), (List.mem_of_getElem? (i := 100) (by decide +kernel)), Or.inl (List.mem_of_getElem? (i := 1162) (by decide +kernel)), by decide, by decide +kernel⟩, (List.mem_of_getElem? (i := 1163) (by decide +kernel)), (List.mem_of_getElem? (i := 1164) (by decide +kernel))⟩
theorem zM_X8_274 : zz_MV RX8 274 yX8_aheadOf cX8_aheadOf 9 (some .long) 1 := ⟨⟨(List.mem_of_getElem? (i := 1170) (by decide +kernel)), (List.mem_of_getElem? (i := 100) (by decide +kernel)), Or.inl (List.mem_of_getElem? (i := 1167) (by decide +kernel)), by decide, by decide +kernel⟩, (List.mem_of_getElem? (i := 1169) (by decide +kernel)), (List.mem_of_getElem? (i := 88) (by decide +kernel))⟩
theorem zM_L_120 : zz_MV RL 120 yX8_share cX8_share 7 (some .long) 2 := ⟨⟨(List.mem_of_getElem? (i := 1174) (by decide +kernel)), (List.mem_of_getElem? (i := 100) (by decide +kernel)), Or.inl (List.mem_of_getElem? (i := 1171) (by decide +kernel)), by decide, by decide +kernel⟩, (List.mem_of_getElem? (i := 1172) (by decide +kernel)), (List.mem_of_getElem? (i := 1173) (by decide +kernel))⟩
theorem zM_X8_281 : zz_MV RX8 281 yX8_weighSets cX8_weighSets 2 none 0 := ⟨⟨(List.mem_of_getElem? (i := 1178) (by decide +kernel)), (List.mem_of_getElem? (i := 100) (by decide +kernel)), Or.inl (List.mem_of_getElem? (i := 1175) (by decide +kernel)), by decide, by decide +kernel⟩, (List.mem_of_getElem? (i := 1177) (by decide +kernel)), (List.mem_of_getElem? (i := 89) (by decide +kernel))⟩
theorem zM_X8_284 : zz_MS RX8 284 yX8_ones cX8_ones 3 (some .int) 1 := ⟨⟨(List.mem_of_getElem? (i := 1181) (by decide +kernel)), (List.mem_of_getElem? (i := 100) (by decide +kernel)), Or.inl (List.mem_of_getElem? (i := 1179) (by decide +kernel)), by decide, by decide +kernel⟩, (List.mem_of_getElem? (i := 1180) (by decide +kernel))⟩
theorem zM_X8_287 : zz_MS RX8 287 yX8_factorial cX8_factorial 4 (some .long) 1 := ⟨⟨(List.mem_of_getElem? (i := 1184) (by decide +kernel)), (List.mem_of_getElem? (i := 100) (by decide +kernel)), Or.inl (List.mem_of_getElem? (i := 1182) (by decide +kernel)), by decide, by decide +kernel⟩, (List.mem_of_getElem? (i := 1183) (by decide +kernel))⟩
theorem zM_X8_291 : zz_MS RX8 291 yX8_fraction cX8_fraction 7 (some .long) 3 := ⟨⟨(List.mem_of_getElem? (i := 1187) (by decide +kernel)), (List.mem_of_getElem? (i := 100) (by decide +kernel)), Or.inl (List.mem_of_getElem? (i := 1185) (by decide +kernel)), by decide, by decide +kernel⟩, (List.mem_of_getElem? (i := 1186) (by decide +kernel))⟩
theorem zM_X8_277 : zz_MS RX8 277 yX8_divisor cX8_divisor 10 (some .long) 2 := ⟨⟨(List.mem_of_getElem? (i := 1190) (by decide +kernel)), (List.mem_of_getElem? (i := 100) (by decide +kernel)), Or.inl (List.mem_of_getElem? (i := 1188) (by decide +kernel)), by decide, by decide +kernel⟩, (List.mem_of_getElem? (i := 1189) (by decide +kernel))⟩
theorem zM_L_125 : zz_MV RL 125 yX8_lost cX8_lost 7 (some .int) 2 := ⟨⟨(List.mem_of_getElem? (i := 1194) (by decide +kernel)), (List.mem_of_getElem? (i := 100) (by decide +kernel)), Or.inl (List.mem_of_getElem? (i := 1191) (by decide +kernel)), by decide, by decide +kernel⟩, (List.mem_of_getElem? (i := 1192) (by decide +kernel)), (List.mem_of_getElem? (i := 1193) (by decide +kernel))⟩
theorem zM_X8_297 : zz_MS RX8 297 yX8_power cX8_power 4 (some .int) 2 := ⟨⟨(List.mem_of_getElem? (i := 1198) (by decide +kernel)), (List.mem_of_getElem? (i := 100) (by decide +kernel)), Or.inl (List.mem_of_getElem? (i := 1196) (by decide +kernel)), by decide, by decide +kernel⟩, (List.mem_of_getElem? (i := 1197) (by decide +kernel))⟩
theorem zM_L_130 : zz_MV RL 130 yX8_seed cX8_seed 5 (some .long) 1 := ⟨⟨(List.mem_of_getElem? (i := 1202) (by decide +kernel)), (List.mem_of_getElem? (i := 100) (by decide +kernel)), Or.inl (List.mem_of_getElem? (i := 1199) (by decide +kernel)), by decide, by decide +kernel⟩, (List.mem_of_getElem? (i := 1200) (by decide +kernel)), (List.mem_of_getElem? (i := 1201) (by decide +kernel))⟩
theorem zM_L_134 : zz_MV RL 134 yX8_drawn cX8_drawn 6 (some .int) 1 := ⟨⟨(List.mem_of_getElem? (i := 1206) (by decide +kernel)), (List.mem_of_getElem? (i := 100) (by decide +kernel)), Or.inl (List.mem_of_getElem? (i := 1203) (by decide +kernel)), by decide, by decide +kernel⟩, (List.mem_of_getElem? (i := 1204) (by decide +kernel)), (List.mem_of_getElem? (i := 1205) (by decide +kernel))⟩
theorem zM_L_138 : zz_MV RL 138 yX8_keep cX8_keep 3 (some .int) 1 := ⟨⟨(List.mem_of_getElem? (i := 1213) (by decide +kernel)), (List.mem_of_getElem? (i := 100) (by decide +kernel)), Or.inl (List.mem_of_getElem? (i := 1210) (by decide +kernel)), by decide, by decide +kernel⟩, (List.mem_of_getElem? (i := 1211) (by decide +kernel)), (List.mem_of_getElem? (i := 1212) (by decide +kernel))⟩
theorem zM_L_142 : zz_MV RL 142 yX8_again cX8_again 3 (some .int) 1 := ⟨⟨(List.mem_of_getElem? (i := 1217) (by decide +kernel)), (List.mem_of_getElem? (i := 100) (by decide +kernel)), Or.inl (List.mem_of_getElem? (i := 1214) (by decide +kernel)), by decide, by decide +kernel⟩, (List.mem_of_getElem? (i := 1215) (by decide +kernel)), (List.mem_of_getElem? (i := 1216) (by decide +kernel))⟩
theorem zM_L_146 : zz_MV RL 146 yX8_count cX8_count 2 (some .int) 1 := ⟨⟨(List.mem_of_getElem? (i := 1221) (by decide +kernel)), (List.mem_of_getElem? (i := 100) (by decide +kernel)), Or.inl (List.mem_of_getElem? (i := 1218) (by decide +kernel)), by decide, by decide +kernel⟩, (List.mem_of_getElem? (i := 1219) (by decide +kernel)), (List.mem_of_getElem? (i := 1220) (by decide +kernel))⟩
end
section
/-! the cells of the class and of the reference, by number -/
def zz_fTab : List (Nat ⊕ Bool) := [.inl 1, .inl 2, .inl 3, .inr false, .inr false]
def zz_fLex : List (Nat ⊕ Bool) := [.inl 1, .inl 2, .inl 3, .inl 4, .inl 5, .inl 6, .inr false]
def zz_fScr : List (Nat ⊕ Bool) := [.inl 1, .inr false, .inl 2, .inl 9, .inr false, .inr false, .inr false]
def zz_fHis : List (Nat ⊕ Bool) := [.inl 1, .inl 2, .inl 3, .inr false, .inr false]
def zz_fSig : List (Nat ⊕ Bool) := [.inl 1, .inl 2, .inl 3, .inr false]
def zz_fCha : List (Nat ⊕ Bool) := [.inl 1, .inl 2, .inl 3, .inl 4, .inl 5, .inl 6, .inr false, .inr false, .inr false]
def zz_fRan : List (Nat ⊕ Bool) := [.inl 1, .inl 2, .inl 3, .inr false, .inr false]
def zz_fWor : List (Nat ⊕ Bool) := [.inl 1, .inl 14, .inl 21, .inl 25, .inl 29, .inl 33, .inl 37, .inl 44, .inl 48, .inl 52, .inr false, .inr false, .inr true]
def zz_dC : List zz_D := [.inr (7, zz_fWor), .inr (4, zz_fScr), .inl (0, 110), .inr (2, zz_fLex), .inl (0, 7), .inl (0, 40), .inl (0, 8), .inl (0, 8), .inl (0, 8), .inl (0, 8), .inr (6, zz_fTab), .inl (0, 24), .inl (0, 9), .inl (0, 8), .inr (2, zz_fLex), .inl (0, 7), .inl (0, 40), .inl (0, 8), .inl (0, 8), .inl (0, 8), .inl (0, 8), .inr (6, zz_fTab), .inl (0, 24), .inl (0, 9), .inl (0, 8), .inr (6, zz_fTab), .inl (0, 24), .inl (0, 9), .inl (0, 8), .inr (1, zz_fHis), .inl (0, 14), .inl (0, 14), .inl (0, 14), .inr (5, zz_fSig), .inl (0, 6), .inl (0, 6), .inl (1, 6), .inr (0, zz_fCha), .inl (0, 25), .inl (0, 25), .inl (0, 8), .inl (0, 8), .inl (2, 200), .inl (2, 200), .inr (3, zz_fRan), .inl (3, 0), .inl (0, 8), .inl (0, 8), .inr (6, zz_fTab), .inl (0, 24), .inl (0, 9), .inl (0, 8), .inr (6, zz_fTab), .inl (0, 24), .inl (0, 9), .inl (0, 8)]
def zz_fMod : List (Nat ⊕ Bool) := [.inr false, .inl 1, .inr false, .inr false, .inl 2, .inr false, .inl 3, .inl 4, .inl 5, .inl 6, .inl 7, .inr false, .inl 8, .inl 9, .inl 10, .inl 11, .inl 12, .inl 13, .inl 14, .inl 15, .inl 16, .inr false, .inl 17, .inl 18, .inr false, .inl 19, .inl 20, .inl 21, .inr true, .inl 22, .inl 23, .inl 24, .inl 25, .inr false, .inr false, .inl 26]
def zz_dM : List zz_D := [.inr (8, zz_fMod), .inl (0, 110), .inl (0, 7), .inl (0, 8), .inl (0, 40), .inl (0, 8), .inl (0, 8), .inl (0, 7), .inl (0, 8), .inl (0, 40), .inl (0, 8), .inl (0, 8), .inl (1, 9), .inl (0, 43), .inl (0, 43), .inl (0, 43), .inl (0, 602), .inl (0, 86), .inl (1, 2), .inl (0, 6), .inl (0, 6), .inl (0, 6), .inl (2, 16425), .inl (2, 225), .inl (2, 225), .inl (0, 8), .inl (2, 256)]
theorem zdC_0 : zz_dC[0]? = some (.inr (7, zz_fWor)) := rfl
theorem zdC_1 : zz_dC[1]? = some (.inr (4, zz_fScr)) := rfl
theorem zdC_2 : zz_dC[2]? = some (.inl (0, 110)) := rfl
theorem zdC_3 : zz_dC[3]? = some (.inr (2, zz_fLex)) := rfl
theorem zdC_4 : zz_dC[4]? = some (.inl (0, 7)) := rfl
theorem zdC_5 : zz_dC[5]? = some (.inl (0, 40)) := rfl
theorem zdC_6 : zz_dC[6]? = some (.inl (0, 8)) := rfl
theorem zdC_7 : zz_dC[7]? = some (.inl (0, 8)) := rfl
theorem zdC_8 : zz_dC[8]? = some (.inl (0, 8)) := rfl
theorem zdC_9 : zz_dC[9]? = some (.inl (0, 8)) := rfl
theorem zdC_10 : zz_dC[10]? = some (.inr (6, zz_fTab)) := rfl
theorem zdC_11 : zz_dC[11]? = some (.inl (0, 24)) := rfl
theorem zdC_12 : zz_dC[12]? = some (.inl (0, 9)) := rfl
theorem zdC_13 : zz_dC[13]? = some (.inl (0, 8)) := rfl
theorem zdC_14 : zz_dC[14]? = some (.inr (2, zz_fLex)) := rfl
theorem zdC_15 : zz_dC[15]? = some (.inl (0, 7)) := rfl
theorem zdC_16 : zz_dC[16]? = some (.inl (0, 40)) := rfl
theorem zdC_17 : zz_dC[17]? = some (.inl (0, 8)) := rfl
theorem zdC_18 : zz_dC[18]? = some (.inl (0, 8)) := rfl
theorem zdC_19 : zz_dC[19]? = some (.inl (0, 8)) := rfl
theorem zdC_20 : zz_dC[20]? = some (.inl (0, 8)) := rfl
theorem zdC_21 : zz_dC[21]? = some (.inr (6, zz_fTab)) := rfl
theorem zdC_22 : zz_dC[22]? = some (.inl (0, 24)) := rfl
theorem zdC_23 : zz_dC[23]? = some (.inl (0, 9)) := rfl
theorem zdC_24 : zz_dC[24]? = some (.inl (0, 8)) := rfl
theorem zdC_25 : zz_dC[25]? = some (.inr (6, zz_fTab)) := rfl
theorem zdC_26 : zz_dC[26]? = some (.inl (0, 24)) := rfl
theorem zdC_27 : zz_dC[27]? = some (.inl (0, 9)) := rfl
theorem zdC_28 : zz_dC[28]? = some (.inl (0, 8)) := rfl
theorem zdC_29 : zz_dC[29]? = some (.inr (1, zz_fHis)) := rfl
theorem zdC_30 : zz_dC[30]? = some (.inl (0, 14)) := rfl
theorem zdC_31 : zz_dC[31]? = some (.inl (0, 14)) := rfl
theorem zdC_32 : zz_dC[32]? = some (.inl (0, 14)) := rfl
theorem zdC_33 : zz_dC[33]? = some (.inr (5, zz_fSig)) := rfl
theorem zdC_34 : zz_dC[34]? = some (.inl (0, 6)) := rfl
theorem zdC_35 : zz_dC[35]? = some (.inl (0, 6)) := rfl
theorem zdC_36 : zz_dC[36]? = some (.inl (1, 6)) := rfl
theorem zdC_37 : zz_dC[37]? = some (.inr (0, zz_fCha)) := rfl
theorem zdC_38 : zz_dC[38]? = some (.inl (0, 25)) := rfl
theorem zdC_39 : zz_dC[39]? = some (.inl (0, 25)) := rfl
theorem zdC_40 : zz_dC[40]? = some (.inl (0, 8)) := rfl
theorem zdC_41 : zz_dC[41]? = some (.inl (0, 8)) := rfl
theorem zdC_42 : zz_dC[42]? = some (.inl (2, 200)) := rfl
theorem zdC_43 : zz_dC[43]? = some (.inl (2, 200)) := rfl
theorem zdC_44 : zz_dC[44]? = some (.inr (3, zz_fRan)) := rfl
theorem zdC_45 : zz_dC[45]? = some (.inl (3, 0)) := rfl
theorem zdC_46 : zz_dC[46]? = some (.inl (0, 8)) := rfl
theorem zdC_47 : zz_dC[47]? = some (.inl (0, 8)) := rfl
theorem zdC_48 : zz_dC[48]? = some (.inr (6, zz_fTab)) := rfl
theorem zdC_49 : zz_dC[49]? = some (.inl (0, 24)) := rfl
theorem zdC_50 : zz_dC[50]? = some (.inl (0, 9)) := rfl
theorem zdC_51 : zz_dC[51]? = some (.inl (0, 8)) := rfl
theorem zdC_52 : zz_dC[52]? = some (.inr (6, zz_fTab)) := rfl
theorem zdC_53 : zz_dC[53]? = some (.inl (0, 24)) := rfl
theorem zdC_54 : zz_dC[54]? = some (.inl (0, 9)) := rfl
theorem zdC_55 : zz_dC[55]? = some (.inl (0, 8)) := rfl
theorem zdM_0 : zz_dM[0]? = some (.inr (8, zz_fMod)) := rfl
theorem zdM_1 : zz_dM[1]? = some (.inl (0, 110)) := rfl
theorem zdM_2 : zz_dM[2]? = some (.inl (0, 7)) := rfl
theorem zdM_3 : zz_dM[3]? = some (.inl (0, 8)) := rfl
theorem zdM_4 : zz_dM[4]? = some (.inl (0, 40)) := rfl
theorem zdM_5 : zz_dM[5]? = some (.inl (0, 8)) := rfl
theorem zdM_6 : zz_dM[6]? = some (.inl (0, 8)) := rfl
theorem zdM_7 : zz_dM[7]? = some (.inl (0, 7)) := rfl
theorem zdM_8 : zz_dM[8]? = some (.inl (0, 8)) := rfl
theorem zdM_9 : zz_dM[9]? = some (.inl (0, 40)) := rfl
theorem zdM_10 : zz_dM[10]? = some (.inl (0, 8)) := rfl
theorem zdM_11 : zz_dM[11]? = some (.inl (0, 8)) := rfl
theorem zdM_12 : zz_dM[12]? = some (.inl (1, 9)) := rfl
theorem zdM_13 : zz_dM[13]? = some (.inl (0, 43)) := rfl
theorem zdM_14 : zz_dM[14]? = some (.inl (0, 43)) := rfl
theorem zdM_15 : zz_dM[15]? = some (.inl (0, 43)) := rfl
theorem zdM_16 : zz_dM[16]? = some (.inl (0, 602)) := rfl
theorem zdM_17 : zz_dM[17]? = some (.inl (0, 86)) := rfl
theorem zdM_18 : zz_dM[18]? = some (.inl (1, 2)) := rfl
theorem zdM_19 : zz_dM[19]? = some (.inl (0, 6)) := rfl
theorem zdM_20 : zz_dM[20]? = some (.inl (0, 6)) := rfl
theorem zdM_21 : zz_dM[21]? = some (.inl (0, 6)) := rfl
theorem zdM_22 : zz_dM[22]? = some (.inl (2, 16425)) := rfl
theorem zdM_23 : zz_dM[23]? = some (.inl (2, 225)) := rfl
theorem zdM_24 : zz_dM[24]? = some (.inl (2, 225)) := rfl
theorem zdM_25 : zz_dM[25]? = some (.inl (0, 8)) := rfl
theorem zdM_26 : zz_dM[26]? = some (.inl (2, 256)) := rfl
/-- a tablet, a lexicon: the object and its rows behind it -/
def zz_isT (k : Nat) : Prop := zz_dC[k]? = some (.inr (6, zz_fTab)) ∧ zz_dC[k + 1]? = some (.inl (0, 24)) ∧ zz_dC[k + 2]? = some (.inl (0, 9)) ∧ zz_dC[k + 3]? = some (.inl (0, 8))
def zz_isX (k : Nat) : Prop := zz_dC[k]? = some (.inr (2, zz_fLex)) ∧ zz_dC[k + 1]? = some (.inl (0, 7)) ∧ zz_dC[k + 2]? = some (.inl (0, 40)) ∧ zz_dC[k + 3]? = some (.inl (0, 8)) ∧ zz_dC[k + 4]? = some (.inl (0, 8)) ∧ zz_dC[k + 5]? = some (.inl (0, 8)) ∧ zz_dC[k + 6]? = some (.inl (0, 8))
theorem zz_isT_10 : zz_isT 10 := ⟨rfl, rfl, rfl, rfl⟩
theorem zz_isT_21 : zz_isT 21 := ⟨rfl, rfl, rfl, rfl⟩
theorem zz_isT_25 : zz_isT 25 := ⟨rfl, rfl, rfl, rfl⟩
theorem zz_isT_48 : zz_isT 48 := ⟨rfl, rfl, rfl, rfl⟩
theorem zz_isT_52 : zz_isT 52 := ⟨rfl, rfl, rfl, rfl⟩
theorem zz_isX_3 : zz_isX 3 := ⟨rfl, rfl, rfl, rfl, rfl, rfl, rfl⟩
theorem zz_isX_14 : zz_isX 14 := ⟨rfl, rfl, rfl, rfl, rfl, rfl, rfl⟩
end
section
theorem zk_X2_acp : Cond.methodLink RX2 40 arraycopyName ∈ lw_tbl := List.mem_of_getElem? (i := 477) (by decide +kernel)
theorem zk_X6_acp : Cond.methodLink RX6 34 arraycopyName ∈ lw_tbl := List.mem_of_getElem? (i := 484) (by decide +kernel)
theorem zk_X1_min : Cond.methodLink RX1 28 Lib.Math.min.name ∈ lw_tbl := List.mem_of_getElem? (i := 528) (by decide +kernel)
theorem zk_X3_acp : Cond.methodLink RX3 29 arraycopyName ∈ lw_tbl := List.mem_of_getElem? (i := 641) (by decide +kernel)
theorem zk_X3_min : Cond.methodLink RX3 62 Lib.Math.min.name ∈ lw_tbl := List.mem_of_getElem? (i := 654) (by decide +kernel)
theorem zk_X7_193 : Cond.constantLong RX7 193 (-1) ∈ lw_tbl := List.mem_of_getElem? (i := 675) (by decide +kernel)
theorem zk_X7_198 : Cond.constantLong RX7 198 (-2) ∈ lw_tbl := List.mem_of_getElem? (i := 677) (by decide +kernel)
theorem zk_X7_215 : Cond.constantLong RX7 215 (100000) ∈ lw_tbl := List.mem_of_getElem? (i := 721) (by decide +kernel)
theorem zk_X7_230 : Cond.constantLong RX7 230 (-9) ∈ lw_tbl := List.mem_of_getElem? (i := 750) (by decide +kernel)
theorem zk_J6_265 : Cond.constant RJ6 265 (1431655765) ∈ lw_tbl := List.mem_of_getElem? (i := 765) (by decide +kernel)
theorem zk_J6_266 : Cond.constant RJ6 266 (858993459) ∈ lw_tbl := List.mem_of_getElem? (i := 766) (by decide +kernel)
theorem zk_J6_267 : Cond.constant RJ6 267 (252645135) ∈ lw_tbl := List.mem_of_getElem? (i := 767) (by decide +kernel)
theorem zk_X7_259 : Cond.constantLong RX7 259 (6364136223846793005) ∈ lw_tbl := List.mem_of_getElem? (i := 789) (by decide +kernel)
theorem zk_X7_261 : Cond.constantLong RX7 261 (1442695040888963407) ∈ lw_tbl := List.mem_of_getElem? (i := 790) (by decide +kernel)
theorem zk_X8_105 : Cond.constantLong RX8 105 (255) ∈ lw_tbl := List.mem_of_getElem? (i := 926) (by decide +kernel)
theorem zk_X8_158 : Cond.constantLong RX8 158 (2) ∈ lw_tbl := List.mem_of_getElem? (i := 997) (by decide +kernel)
theorem zk_X8_174 : Cond.constantLong RX8 174 (6) ∈ lw_tbl := List.mem_of_getElem? (i := 1014) (by decide +kernel)
theorem zk_X8_184 : Cond.constantLong RX8 184 (9) ∈ lw_tbl := List.mem_of_getElem? (i := 1039) (by decide +kernel)
theorem zk_X8_250 : Cond.constantLong RX8 250 (-1) ∈ lw_tbl := List.mem_of_getElem? (i := 1111) (by decide +kernel)
theorem zk_X8_255 : Cond.constantLong RX8 255 (-2) ∈ lw_tbl := List.mem_of_getElem? (i := 1128) (by decide +kernel)
theorem zk_X8_261 : Cond.constantLong RX8 261 (3) ∈ lw_tbl := List.mem_of_getElem? (i := 1145) (by decide +kernel)
theorem zk_X8_263 : Cond.constantLong RX8 263 (100000) ∈ lw_tbl := List.mem_of_getElem? (i := 1146) (by decide +kernel)
theorem zk_X8_272 : Cond.constantLong RX8 272 (-9) ∈ lw_tbl := List.mem_of_getElem? (i := 1166) (by decide +kernel)
theorem zk_X8_295 : Cond.constantLong RX8 295 (10) ∈ lw_tbl := List.mem_of_getElem? (i := 1195) (by decide +kernel)
theorem zk_X8_305 : Cond.constantLong RX8 305 (20) ∈ lw_tbl := List.mem_of_getElem? (i := 1207) (by decide +kernel)
theorem zk_X8_307 : Cond.constantLong RX8 307 (6364136223846793005) ∈ lw_tbl := List.mem_of_getElem? (i := 1208) (by decide +kernel)
theorem zk_X8_309 : Cond.constantLong RX8 309 (1442695040888963407) ∈ lw_tbl := List.mem_of_getElem? (i := 1209) (by decide +kernel)
theorem zk_L_78 : Cond.constantLong RL 78 (4294967295) ∈ lw_tbl := List.mem_of_getElem? (i := 1222) (by decide +kernel)
theorem zk_min_s : Cond.static Lib.Math.min.name ∈ lw_tbl := List.mem_of_getElem? (i := 529) (by decide +kernel)
theorem zk_min_i : Cond.initialized "java/lang/Math" ∈ lw_tbl := List.mem_of_getElem? (i := 102) (by decide +kernel)
theorem zk_min_c : Cond.code Lib.Math.min.name Lib.Math.min.code 2 (some .int) ∈ lw_tbl := List.mem_of_getElem? (i := 530) (by decide +kernel)
theorem zk_ac_n : Cond.native arraycopyName ∈ lw_tbl := List.mem_of_getElem? (i := 479) (by decide +kernel)
theorem zk_ac_s : Cond.static arraycopyName ∈ lw_tbl := List.mem_of_getElem? (i := 478) (by decide +kernel)
theorem zk_ac_i : Cond.initialized "java/lang/System" ∈ lw_tbl := List.mem_of_getElem? (i := 101) (by decide +kernel)
theorem zz_ne_int {x k : Int32} (h : ¬ x = k) : x.toInt ≠ k.toInt := fun q => h (Int32.toInt_inj.mp q)
def zz_cp (I : zz_I) (k0 k1 n : Nat) : zz_I := fun k j => if k = k1 ∧ j < n then I k0 j else I k j
section ZR2
variable {p : Program} {l : Launch} {e : Env} {R : Room} {s : State} {m : MethodId} {args : Array Value} {below : List Frame} {meth : Method} {c : Code} {H : Heap} {locs : List Loc} {cells slots : Nat} {Q : State → Prop}
variable {cc : ByteArray} {pc : Nat} {ls : Array Slot} {rest : List Value} {D : va_G} {A : Nat → Prop} {H0 : Heap} {ca : Nat → ClassId} {ds : List zz_D} {a : Nat → Nat} {I : zz_I} {L : zz_L}
theorem zz_goip (hB : zz_B D ca ds A H0 s a I L H locs) (hA : ∀ q, H0.size ≤ q → A q) {P : Int32 → Prop} {st : List Value} {av : Array Value} (hr : va_Run p l e R s m args below meth c H locs cells slots 0 0 (F0 m pc ls st) rest (zz_Qi D ca ds (zz_A ca ds a I L H.size) a (fun r I9 L9 => P r ∧ I9 = I ∧ L9 = L) av) (zz_A ca ds a I L H.size))
    (kk : ∀ (r : Int32) (H : Heap) (locs : List Loc), P r → zz_B D ca ds A H0 s a I L H locs → W p l e R s m args below meth c H locs cells slots Q (F0 m (pc + 3) ls (.int r :: rest))) : W p l e R s m args below meth c H locs cells slots Q (F0 m pc ls st) :=
  zz_goi hB hA hr (fun r I9 L9 H1 locs1 hw hB1 => by
    obtain ⟨h1, h2, h3⟩ := hw
    rw [h2, h3] at hB1
    exact kk r H1 locs1 h1 hB1)
theorem zz_golp (hB : zz_B D ca ds A H0 s a I L H locs) (hA : ∀ q, H0.size ≤ q → A q) {P : Int64 → Prop} {st : List Value} {av : Array Value} (hr : va_Run p l e R s m args below meth c H locs cells slots 0 0 (F0 m pc ls st) rest (zz_Ql D ca ds (zz_A ca ds a I L H.size) a (fun r I9 L9 => P r ∧ I9 = I ∧ L9 = L) av) (zz_A ca ds a I L H.size))
    (kk : ∀ (r : Int64) (H : Heap) (locs : List Loc), P r → zz_B D ca ds A H0 s a I L H locs → W p l e R s m args below meth c H locs cells slots Q (F0 m (pc + 3) ls (.long r :: rest))) : W p l e R s m args below meth c H locs cells slots Q (F0 m pc ls st) :=
  zz_gol hB hA hr (fun r I9 L9 H1 locs1 hw hB1 => by
    obtain ⟨h1, h2, h3⟩ := hw
    rw [h2, h3] at hB1
    exact kk r H1 locs1 h1 hB1)
theorem zz_copy (hx : p.tables.exec = Jvm.exec) (hb : c.code = cc) (hml : c.maxLocals = ls.size) {own : String} {index : Nat} (hown : s.vm.findClass own = some m.cls) (zw : zz_W s) (hl : Cond.methodLink own index arraycopyName ∈ lw_tbl) (hB : zz_B D ca ds A H0 s a I L H locs) {k0 k1 n0 n1 nn : Nat} {n : Int32} (hd0 : ds[k0]? = some (.inl (0, n0))) (hd1 : ds[k1]? = some (.inl (0, n1))) (hnn : n = nI nn) (hn0 : nn ≤ n0) (hn1 : nn ≤ n1) (hsm : nn < 2 ^ 31) (hframes : 1 ≤ R.frames) (hlocals : (rest.map fun v => v.category).sum + (nativeFrameWords "java/lang/System" "arraycopy" 5 + 11) ≤ R.locals) (hdg : decode cc pc = .ok (.invokestatic index, 3))
    (kk : ∀ (H : Heap) (locs : List Loc), zz_B D ca ds A H0 s a (zz_cp I k0 k1 nn) L H locs → W p l e R s m args below meth c H locs cells slots Q (F0 m (pc + 3) ls rest)) : W p l e R s m args below meth c H locs cells slots Q (F0 m pc ls (.int n :: .int 0 :: .ref (a k1) :: .int 0 :: .ref (a k0) :: rest)) := by
  obtain ⟨hK, hP, hD, hS⟩ := hB
  have hc : n.toNatClampNeg = nn := by rw [hnn]; exact nI_clamp hsm
  have hneg : ¬ n < 0 := by rw [hnn]; exact nI_pos hsm
  have hset : (zz_cells ca ds a I L).set k1 (a k1, .inl (ca 0, n1, .inl (va_cpy (I k0) (I k1) (0 : Int32).toNatClampNeg (0 : Int32).toNatClampNeg n.toNatClampNeg))) = zz_cells ca ds a (zz_cp I k0 k1 nn) L := by
    refine zz_set hd1 ?_ (fun q hq => ?_) (fun _ _ => rfl)
    · show _ = (Sum.inl (ca 0, n1, .inl (zz_cp I k0 k1 nn k1)) : va_E)
      have e1 : va_cpy (I k0) (I k1) (0 : Int32).toNatClampNeg (0 : Int32).toNatClampNeg n.toNatClampNeg = zz_cp I k0 k1 nn k1 := by
        funext j
        have e0 : (0 : Int32).toNatClampNeg = 0 := rfl
        rw [e0, hc]
        simp [va_cpy, zz_cp]
      rw [e1]
    · funext j
      simp [zz_cp, hq]
  refine va_copyi hx hb hml hown (zz_W_use zw hl rfl) (zz_W_use zw zk_ac_n rfl) (zz_W_use zw zk_ac_s rfl) (zz_W_use zw zk_ac_i rfl) hK hP hD hS k0 k1 0 0 (zz_get hd0) (zz_get hd1) (ty := .int) rfl rfl rfl (by decide) (by decide) hneg (by rw [hc]; show 0 + nn ≤ n0; omega) (by rw [hc]; show 0 + nn ≤ n1; omega) (fun _ _ => rfl) hframes hlocals hdg (fun H1 locs1 h1 h2 h3 => ?_)
  rw [hset] at h1 h2
  exact kk H1 locs1 ⟨hK, h1, h2, h3⟩
end ZR2
end
section
def zp_X6_hasUnit (k0 : Nat) (x1 : Int32) (P : Int32 → Prop) (I : zz_I) (L : zz_L) : Prop := (x1 < 0 → P (0 : Int32)) ∧ (¬ x1 < 0 → ((I k0 3) ≤ x1 → P (0 : Int32)) ∧ (¬ (I k0 3) ≤ x1 → P (1 : Int32)))
set_option maxHeartbeats 4000000 in
set_option maxRecDepth 100000 in
theorem zq_X6_hasUnit {p : Program} {l : Launch} {e : Env} {s : State} {m : MethodId} {args : Array Value} {below : List Frame} {meth : Method} {c : Code} {D : va_G} {ca : Nat → ClassId} {A : Nat → Prop} {a : Nat → Nat}  {P : Int32 → Prop} {I : zz_I} {L : zz_L} {k0 : Nat} {x1 : Int32} (X : zz_X p s m meth c cX6_hasUnit RX6 (some .boolean) 2) (hA : ∀ q, s.heap.size ≤ q → A q) (hk0 : zz_isT k0)  (h : zp_X6_hasUnit k0 x1 P I L) : zz_Go p l e ({ frames := 0, cells := 0, slots := 0, locals := 0 } : Room) s m args below meth c 0 0 (MQ below (zz_Qi D ca zz_dC A a (fun r I9 L9 => P r ∧ I9 = I ∧ L9 = L)) args s 0 0 A) D ca zz_dC A 2 0 a [] [(0, .ref (a k0)), (1, .int x1)] I L := by
  obtain ⟨hx, hb, hml, hown, zw, hr, hlocks⟩ := id X
  intro H locs ls hB hl
  unfold zp_X6_hasUnit at h
  refine lv_iload_n hx hb dX6_hasUnit_0 rfl (lv_at hl 1 rfl) ?_
  refine lv_if_lt (tgt := 16) hx hb dX6_hasUnit_1 (by decide) (fun c1 => ?_) (fun c1 => ?_)
  · have h := h.1 c1
    refine lv_iconst (v := (0 : Int32)) hx hb dX6_hasUnit_16 (by decide) ?_
    exact zz_zret hx hb hr hlocks zz_bool0 hB ⟨h, rfl, rfl⟩ dX6_hasUnit_17
  · have h := h.2 c1
    refine lv_iload_n hx hb dX6_hasUnit_4 rfl (lv_at hl 1 rfl) ?_
    refine lv_aload_n hx hb dX6_hasUnit_5 rfl (lv_at hl 0 rfl) ?_
    refine zz_geti hx hb hown zw hB zF_X6_21 hk0.1 rfl dX6_hasUnit_6 ?_
    refine lv_icmp_ge (tgt := 16) hx hb dX6_hasUnit_9 (by decide) (fun c9 => ?_) (fun c9 => ?_)
    · have h := h.1 c9
      refine lv_iconst (v := (0 : Int32)) hx hb dX6_hasUnit_16 (by decide) ?_
      exact zz_zret hx hb hr hlocks zz_bool0 hB ⟨h, rfl, rfl⟩ dX6_hasUnit_17
    · have h := h.2 c9
      refine lv_iconst (v := (1 : Int32)) hx hb dX6_hasUnit_12 (by decide) ?_
      refine lv_goto (tgt := 17) hx hb dX6_hasUnit_13 (by decide) ?_
      exact zz_zret hx hb hr hlocks zz_bool1 hB ⟨h, rfl, rfl⟩ dX6_hasUnit_17
theorem zc_X6_hasUnit (l : Launch) (D : va_G) (ca : Nat → ClassId) (a : Nat → Nat) (I : zz_I) (L : zz_L) (sz : Nat) {k0 : Nat} {x1 : Int32} {P : Int32 → Prop} (hk0 : zz_isT k0) (h : zp_X6_hasUnit k0 x1 P I L) : Met l yX6_hasUnit [.code yX6_hasUnit cX6_hasUnit 2 (some .boolean)] ({ frames := 0, cells := 0, slots := 0, locals := 0 } : Room) (zz_Pre D ca zz_dC [.ref (a k0), .int x1] a I L sz) (zz_Qi D ca zz_dC (zz_A ca zz_dC a I L sz) a (fun r I9 L9 => P r ∧ I9 = I ∧ L9 = L)) 0 0 (zz_A ca zz_dC a I L sz) :=
  zz_start (by decide) (Nat.le_of_ble_eq_true rfl) (fun p e s m below meth c X hsz hA => zq_X6_hasUnit X hA hk0 h)
def zp_X0_isOpen (x1 : Int32) (x2 : Int32) (P : Int32 → Prop) (I : zz_I) (L : zz_L) : Prop := vp_in x1 25 ∧ (((((I 38 x1.toNatClampNeg) >>> (x2 &&& 31)) &&& (1 : Int32)) = 0 → P (0 : Int32)) ∧ (¬ (((I 38 x1.toNatClampNeg) >>> (x2 &&& 31)) &&& (1 : Int32)) = 0 → P (1 : Int32)))
set_option maxHeartbeats 4000000 in
set_option maxRecDepth 100000 in
theorem zq_X0_isOpen {p : Program} {l : Launch} {e : Env} {s : State} {m : MethodId} {args : Array Value} {below : List Frame} {meth : Method} {c : Code} {D : va_G} {ca : Nat → ClassId} {A : Nat → Prop} {a : Nat → Nat}  {P : Int32 → Prop} {I : zz_I} {L : zz_L} {x1 : Int32} {x2 : Int32} (X : zz_X p s m meth c cX0_isOpen RX0 (some .boolean) 3) (hA : ∀ q, s.heap.size ≤ q → A q)   (h : zp_X0_isOpen x1 x2 P I L) : zz_Go p l e ({ frames := 0, cells := 0, slots := 0, locals := 0 } : Room) s m args below meth c 0 0 (MQ below (zz_Qi D ca zz_dC A a (fun r I9 L9 => P r ∧ I9 = I ∧ L9 = L)) args s 0 0 A) D ca zz_dC A 3 0 a [] [(0, .ref (a 37)), (1, .int x1), (2, .int x2)] I L := by
  obtain ⟨hx, hb, hml, hown, zw, hr, hlocks⟩ := id X
  intro H locs ls hB hl
  unfold zp_X0_isOpen at h
  refine lv_aload_n hx hb dX0_isOpen_0 rfl (lv_at hl 0 rfl) ?_
  refine zz_getr (k' := 38) hx hb hown zw hB zF_X0_9 zdC_37 rfl rfl dX0_isOpen_1 ?_
  refine lv_iload_n hx hb dX0_isOpen_4 rfl (lv_at hl 1 rfl) ?_
  obtain ⟨hi5, h⟩ := h
  refine zz_iald hx hb hB zdC_38 hi5 dX0_isOpen_5 ?_
  refine lv_iload_n hx hb dX0_isOpen_6 rfl (lv_at hl 2 rfl) ?_
  refine lv_ishr hx hb dX0_isOpen_7 ?_
  refine lv_iconst (v := (1 : Int32)) hx hb dX0_isOpen_8 (by decide) ?_
  refine lv_iand hx hb dX0_isOpen_9 ?_
  refine lv_if_eq (tgt := 17) hx hb dX0_isOpen_10 (by decide) (fun c10 => ?_) (fun c10 => ?_)
  · have h := h.1 c10
    refine lv_iconst (v := (0 : Int32)) hx hb dX0_isOpen_17 (by decide) ?_
    exact zz_zret hx hb hr hlocks zz_bool0 hB ⟨h, rfl, rfl⟩ dX0_isOpen_18
  · have h := h.2 c10
    refine lv_iconst (v := (1 : Int32)) hx hb dX0_isOpen_13 (by decide) ?_
    refine lv_goto (tgt := 18) hx hb dX0_isOpen_14 (by decide) ?_
    exact zz_zret hx hb hr hlocks zz_bool1 hB ⟨h, rfl, rfl⟩ dX0_isOpen_18
theorem zc_X0_isOpen (l : Launch) (D : va_G) (ca : Nat → ClassId) (a : Nat → Nat) (I : zz_I) (L : zz_L) (sz : Nat) {x1 : Int32} {x2 : Int32} {P : Int32 → Prop}  (h : zp_X0_isOpen x1 x2 P I L) : Met l yX0_isOpen [.code yX0_isOpen cX0_isOpen 3 (some .boolean)] ({ frames := 0, cells := 0, slots := 0, locals := 0 } : Room) (zz_Pre D ca zz_dC [.ref (a 37), .int x1, .int x2] a I L sz) (zz_Qi D ca zz_dC (zz_A ca zz_dC a I L sz) a (fun r I9 L9 => P r ∧ I9 = I ∧ L9 = L)) 0 0 (zz_A ca zz_dC a I L sz) :=
  zz_start (by decide) (Nat.le_of_ble_eq_true rfl) (fun p e s m below meth c X hsz hA => zq_X0_isOpen X hA  h)
def zp_X0_nextUnit (x1 : Int32) (x2 : Int32) (P : Int32 → Prop) (I : zz_I) (L : zz_L) : Prop := vp_in x2 8 ∧ (P ((x1 + (I 41 x2.toNatClampNeg)) + (1 : Int32)))
set_option maxHeartbeats 4000000 in
set_option maxRecDepth 100000 in
theorem zq_X0_nextUnit {p : Program} {l : Launch} {e : Env} {s : State} {m : MethodId} {args : Array Value} {below : List Frame} {meth : Method} {c : Code} {D : va_G} {ca : Nat → ClassId} {A : Nat → Prop} {a : Nat → Nat}  {P : Int32 → Prop} {I : zz_I} {L : zz_L} {x1 : Int32} {x2 : Int32} (X : zz_X p s m meth c cX0_nextUnit RX0 (some .int) 3) (hA : ∀ q, s.heap.size ≤ q → A q)   (h : zp_X0_nextUnit x1 x2 P I L) : zz_Go p l e ({ frames := 0, cells := 0, slots := 0, locals := 0 } : Room) s m args below meth c 0 0 (MQ below (zz_Qi D ca zz_dC A a (fun r I9 L9 => P r ∧ I9 = I ∧ L9 = L)) args s 0 0 A) D ca zz_dC A 3 0 a [] [(0, .ref (a 37)), (1, .int x1), (2, .int x2)] I L := by
  obtain ⟨hx, hb, hml, hown, zw, hr, hlocks⟩ := id X
  intro H locs ls hB hl
  unfold zp_X0_nextUnit at h
  refine lv_iload_n hx hb dX0_nextUnit_0 rfl (lv_at hl 1 rfl) ?_
  refine lv_aload_n hx hb dX0_nextUnit_1 rfl (lv_at hl 0 rfl) ?_
  refine zz_getr (k' := 41) hx hb hown zw hB zF_X0_21 zdC_37 rfl rfl dX0_nextUnit_2 ?_
  refine lv_iload_n hx hb dX0_nextUnit_5 rfl (lv_at hl 2 rfl) ?_
  obtain ⟨hi6, h⟩ := h
  refine zz_iald hx hb hB zdC_41 hi6 dX0_nextUnit_6 ?_
  refine lv_iadd hx hb dX0_nextUnit_7 ?_
  refine lv_iconst (v := (1 : Int32)) hx hb dX0_nextUnit_8 (by decide) ?_
  refine lv_iadd hx hb dX0_nextUnit_9 ?_
  exact zz_iret hx hb hr hlocks hB ⟨h, rfl, rfl⟩ dX0_nextUnit_10
theorem zc_X0_nextUnit (l : Launch) (D : va_G) (ca : Nat → ClassId) (a : Nat → Nat) (I : zz_I) (L : zz_L) (sz : Nat) {x1 : Int32} {x2 : Int32} {P : Int32 → Prop}  (h : zp_X0_nextUnit x1 x2 P I L) : Met l yX0_nextUnit [.code yX0_nextUnit cX0_nextUnit 3 (some .int)] ({ frames := 0, cells := 0, slots := 0, locals := 0 } : Room) (zz_Pre D ca zz_dC [.ref (a 37), .int x1, .int x2] a I L sz) (zz_Qi D ca zz_dC (zz_A ca zz_dC a I L sz) a (fun r I9 L9 => P r ∧ I9 = I ∧ L9 = L)) 0 0 (zz_A ca zz_dC a I L sz) :=
  zz_start (by decide) (Nat.le_of_ble_eq_true rfl) (fun p e s m below meth c X hsz hA => zq_X0_nextUnit X hA  h)
def zp_X0_leadsOn (x1 : Int32) (x2 : Int32) (P : Int32 → Prop) (I : zz_I) (L : zz_L) : Prop := zp_X0_nextUnit x1 x2 (fun r3 => ((I 37 6) < r3 → P (1 : Int32)) ∧ (¬ (I 37 6) < r3 → vp_in r3 25 ∧ (vp_in x2 8 ∧ ((((I 38 r3.toNatClampNeg) &&& (I 40 x2.toNatClampNeg)) = 0 → P (0 : Int32)) ∧ (¬ ((I 38 r3.toNatClampNeg) &&& (I 40 x2.toNatClampNeg)) = 0 → P (1 : Int32)))))) I L
set_option maxHeartbeats 4000000 in
set_option maxRecDepth 100000 in
theorem zq_X0_leadsOn {p : Program} {l : Launch} {e : Env} {s : State} {m : MethodId} {args : Array Value} {below : List Frame} {meth : Method} {c : Code} {D : va_G} {ca : Nat → ClassId} {A : Nat → Prop} {a : Nat → Nat}  {P : Int32 → Prop} {I : zz_I} {L : zz_L} {x1 : Int32} {x2 : Int32} (X : zz_X p s m meth c cX0_leadsOn RX0 (some .boolean) 4) (hA : ∀ q, s.heap.size ≤ q → A q)   (h : zp_X0_leadsOn x1 x2 P I L) : zz_Go p l e ({ frames := 1, cells := 0, slots := 0, locals := 22 } : Room) s m args below meth c 0 0 (MQ below (zz_Qi D ca zz_dC A a (fun r I9 L9 => P r ∧ I9 = I ∧ L9 = L)) args s 0 0 A) D ca zz_dC A 4 0 a [] [(0, .ref (a 37)), (1, .int x1), (2, .int x2)] I L := by
  obtain ⟨hx, hb, hml, hown, zw, hr, hlocks⟩ := id X
  intro H locs ls hB hl
  unfold zp_X0_leadsOn at h
  refine lv_aload_n hx hb dX0_leadsOn_0 rfl (lv_at hl 0 rfl) ?_
  refine lv_iload_n hx hb dX0_leadsOn_1 rfl (lv_at hl 1 rfl) ?_
  refine lv_iload_n hx hb dX0_leadsOn_2 rfl (lv_at hl 2 rfl) ?_
  refine zz_goip hB hA (zz_runV (As := [.int x1, .int x2]) (rest := []) hx hb hml hown zw hB zM_X0_110 (zc_X0_nextUnit l D ca a I L H.size h) zdC_37 rfl rfl hl.1 rfl (Nat.le_of_ble_eq_true rfl) rfl rfl ⟨Nat.le_of_ble_eq_true rfl, Nat.le_of_ble_eq_true rfl⟩ dX0_leadsOn_3 ⟨Nat.zero_le _, Nat.zero_le _⟩) (fun r3 H locs h hB => ?_)
  refine lv_istore_n (lv' := [(3, .int r3), (0, .ref (a 37)), (1, .int x1), (2, .int x2)]) hx hb dX0_leadsOn_6 rfl hl (by decide) rfl (fun ls hl => ?_)
  refine lv_iload_n hx hb dX0_leadsOn_7 rfl (lv_at hl 0 rfl) ?_
  refine lv_aload_n hx hb dX0_leadsOn_8 rfl (lv_at hl 1 rfl) ?_
  refine zz_geti hx hb hown zw hB zF_X0_31 zdC_37 rfl dX0_leadsOn_9 ?_
  refine lv_icmp_gt (tgt := 31) hx hb dX0_leadsOn_12 (by decide) (fun c12 => ?_) (fun c12 => ?_)
  · have h := h.1 c12
    refine lv_iconst (v := (1 : Int32)) hx hb dX0_leadsOn_31 (by decide) ?_
    refine lv_goto (tgt := 36) hx hb dX0_leadsOn_32 (by decide) ?_
    exact zz_zret hx hb hr hlocks zz_bool1 hB ⟨h, rfl, rfl⟩ dX0_leadsOn_36
  · have h := h.2 c12
    refine lv_aload_n hx hb dX0_leadsOn_15 rfl (lv_at hl 1 rfl) ?_
    refine zz_getr (k' := 38) hx hb hown zw hB zF_X0_9 zdC_37 rfl rfl dX0_leadsOn_16 ?_
    refine lv_iload_n hx hb dX0_leadsOn_19 rfl (lv_at hl 0 rfl) ?_
    obtain ⟨hi20, h⟩ := h
    refine zz_iald hx hb hB zdC_38 hi20 dX0_leadsOn_20 ?_
    refine lv_aload_n hx hb dX0_leadsOn_21 rfl (lv_at hl 1 rfl) ?_
    refine zz_getr (k' := 40) hx hb hown zw hB zF_X0_18 zdC_37 rfl rfl dX0_leadsOn_22 ?_
    refine lv_iload_n hx hb dX0_leadsOn_25 rfl (lv_at hl 3 rfl) ?_
    obtain ⟨hi26, h⟩ := h
    refine zz_iald hx hb hB zdC_40 hi26 dX0_leadsOn_26 ?_
    refine lv_iand hx hb dX0_leadsOn_27 ?_
    refine lv_if_eq (tgt := 35) hx hb dX0_leadsOn_28 (by decide) (fun c28 => ?_) (fun c28 => ?_)
    · have h := h.1 c28
      refine lv_iconst (v := (0 : Int32)) hx hb dX0_leadsOn_35 (by decide) ?_
      exact zz_zret hx hb hr hlocks zz_bool0 hB ⟨h, rfl, rfl⟩ dX0_leadsOn_36
    · have h := h.2 c28
      refine lv_iconst (v := (1 : Int32)) hx hb dX0_leadsOn_31 (by decide) ?_
      refine lv_goto (tgt := 36) hx hb dX0_leadsOn_32 (by decide) ?_
      exact zz_zret hx hb hr hlocks zz_bool1 hB ⟨h, rfl, rfl⟩ dX0_leadsOn_36
theorem zc_X0_leadsOn (l : Launch) (D : va_G) (ca : Nat → ClassId) (a : Nat → Nat) (I : zz_I) (L : zz_L) (sz : Nat) {x1 : Int32} {x2 : Int32} {P : Int32 → Prop}  (h : zp_X0_leadsOn x1 x2 P I L) : Met l yX0_leadsOn [.code yX0_leadsOn cX0_leadsOn 4 (some .boolean)] ({ frames := 1, cells := 0, slots := 0, locals := 22 } : Room) (zz_Pre D ca zz_dC [.ref (a 37), .int x1, .int x2] a I L sz) (zz_Qi D ca zz_dC (zz_A ca zz_dC a I L sz) a (fun r I9 L9 => P r ∧ I9 = I ∧ L9 = L)) 0 0 (zz_A ca zz_dC a I L sz) :=
  zz_start (by decide) (Nat.le_of_ble_eq_true rfl) (fun p e s m below meth c X hsz hA => zq_X0_leadsOn X hA  h)
def zp_X6_countGaps_4b (K4 : Int32 → Int32 → Prop) (P : Int32 → Prop) (k0 : Nat) (x1 : Int32) (x2 : Int32) (I : zz_I) (L : zz_L) : Prop := ((I k0 3) ≤ x2 → P x1) ∧ (¬ (I k0 3) ≤ x2 → vp_in x2 24 ∧ ((¬ (I (k0 + 1) x2.toNatClampNeg) = (7 : Int32) → ∀ v26 : Int32, v26 = x2 + (1 : Int32) → (K4 x1 v26)) ∧ ((I (k0 + 1) x2.toNatClampNeg) = (7 : Int32) → ∀ v23 : Int32, v23 = x1 + (1 : Int32) → (∀ v26 : Int32, v26 = x2 + (1 : Int32) → (K4 v23 v26)))))
set_option maxHeartbeats 4000000 in
set_option maxRecDepth 100000 in
theorem zq_X6_countGaps_4b {p : Program} {l : Launch} {e : Env} {s : State} {m : MethodId} {args : Array Value} {below : List Frame} {meth : Method} {c : Code} {D : va_G} {ca : Nat → ClassId} {A : Nat → Prop} {a : Nat → Nat} {K4 : Int32 → Int32 → Prop} {P : Int32 → Prop} {I : zz_I} {L : zz_L} {k0 : Nat} {x1 : Int32} {x2 : Int32} (X : zz_X p s m meth c cX6_countGaps RX6 (some .int) 3) (hA : ∀ q, s.heap.size ≤ q → A q) (hk0 : zz_isT k0) (hK4 : ∀ (y1 : Int32) (y2 : Int32), K4 y1 y2 → zz_Go p l e ({ frames := 0, cells := 0, slots := 0, locals := 0 } : Room) s m args below meth c 0 0 (MQ below (zz_Qi D ca zz_dC A a (fun r I9 L9 => P r ∧ I9 = I ∧ L9 = L)) args s 0 0 A) D ca zz_dC A 3 4 a [] [(0, .ref (a k0)), (1, .int y1), (2, .int y2)] I L) (h : zp_X6_countGaps_4b K4 P k0 x1 x2 I L) : zz_Go p l e ({ frames := 0, cells := 0, slots := 0, locals := 0 } : Room) s m args below meth c 0 0 (MQ below (zz_Qi D ca zz_dC A a (fun r I9 L9 => P r ∧ I9 = I ∧ L9 = L)) args s 0 0 A) D ca zz_dC A 3 4 a [] [(0, .ref (a k0)), (1, .int x1), (2, .int x2)] I L := by
  obtain ⟨hx, hb, hml, hown, zw, hr, hlocks⟩ := id X
  intro H locs ls hB hl
  unfold zp_X6_countGaps_4b at h
  refine lv_iload_n hx hb dX6_countGaps_4 rfl (lv_at hl 2 rfl) ?_
  refine lv_aload_n hx hb dX6_countGaps_5 rfl (lv_at hl 0 rfl) ?_
  refine zz_geti hx hb hown zw hB zF_X6_21 hk0.1 rfl dX6_countGaps_6 ?_
  refine lv_icmp_ge (tgt := 32) hx hb dX6_countGaps_9 (by decide) (fun c9 => ?_) (fun c9 => ?_)
  · have h := h.1 c9
    refine lv_iload_n hx hb dX6_countGaps_32 rfl (lv_at hl 1 rfl) ?_
    exact zz_iret hx hb hr hlocks hB ⟨h, rfl, rfl⟩ dX6_countGaps_33
  · have h := h.2 c9
    refine lv_aload_n hx hb dX6_countGaps_12 rfl (lv_at hl 0 rfl) ?_
    refine zz_getr (k' := k0 + 1) hx hb hown zw hB zF_X6_9 hk0.1 rfl rfl dX6_countGaps_13 ?_
    refine lv_iload_n hx hb dX6_countGaps_16 rfl (lv_at hl 2 rfl) ?_
    obtain ⟨hi17, h⟩ := h
    refine zz_iald hx hb hB hk0.2.1 hi17 dX6_countGaps_17 ?_
    refine lv_bipush (v := (7 : Int32)) hx hb dX6_countGaps_18 (by decide) ?_
    refine lv_icmp_ne (tgt := 26) hx hb dX6_countGaps_20 (by decide) (fun c20 => ?_) (fun c20 => ?_)
    · have h := h.1 c20
      obtain ⟨v26, ev26⟩ : ∃ z : Int32, z = x2 + (1 : Int32) := ⟨_, rfl⟩
      have h := h v26 ev26
      refine lv_iinc (v := v26) (lv' := [(2, .int v26), (0, .ref (a k0)), (1, .int x1)]) hx hb dX6_countGaps_26 hl (k := 2) rfl (by rw [ev26]; rfl) (by decide) rfl (fun ls hl => ?_)
      refine lv_goto (tgt := 4) hx hb dX6_countGaps_29 (by decide) ?_
      exact hK4 _ _ h H locs ls hB (lv_sub hl [1, 2, 0] rfl)
    · have h := h.2 c20
      obtain ⟨v23, ev23⟩ : ∃ z : Int32, z = x1 + (1 : Int32) := ⟨_, rfl⟩
      have h := h v23 ev23
      refine lv_iinc (v := v23) (lv' := [(1, .int v23), (0, .ref (a k0)), (2, .int x2)]) hx hb dX6_countGaps_23 hl (k := 1) rfl (by rw [ev23]; rfl) (by decide) rfl (fun ls hl => ?_)
      obtain ⟨v26, ev26⟩ : ∃ z : Int32, z = x2 + (1 : Int32) := ⟨_, rfl⟩
      have h := h v26 ev26
      refine lv_iinc (v := v26) (lv' := [(2, .int v26), (1, .int v23), (0, .ref (a k0))]) hx hb dX6_countGaps_26 hl (k := 2) rfl (by rw [ev26]; rfl) (by decide) rfl (fun ls hl => ?_)
      refine lv_goto (tgt := 4) hx hb dX6_countGaps_29 (by decide) ?_
      exact hK4 _ _ h H locs ls hB (lv_sub hl [2, 1, 0] rfl)
def zp_X6_countGaps_4  (P : Int32 → Prop) (k0 : Nat) (x1 : Int32) (x2 : Int32) (I : zz_I) (L : zz_L) : Prop := ∃ (Inv : Int32 → Int32 → Prop) (μ : Int32 → Int32 → Nat), Inv x1 x2 ∧ ∀ (y1 : Int32) (y2 : Int32), Inv y1 y2 → zp_X6_countGaps_4b  (fun z1 z2 => Inv z1 z2 ∧ μ z1 z2 < μ y1 y2) P k0 y1 y2 I L
set_option maxHeartbeats 4000000 in
set_option maxRecDepth 100000 in
theorem zq_X6_countGaps_4 {p : Program} {l : Launch} {e : Env} {s : State} {m : MethodId} {args : Array Value} {below : List Frame} {meth : Method} {c : Code} {D : va_G} {ca : Nat → ClassId} {A : Nat → Prop} {a : Nat → Nat}  {P : Int32 → Prop} {I : zz_I} {L : zz_L} {k0 : Nat} {x1 : Int32} {x2 : Int32} (X : zz_X p s m meth c cX6_countGaps RX6 (some .int) 3) (hA : ∀ q, s.heap.size ≤ q → A q) (hk0 : zz_isT k0)  (h : zp_X6_countGaps_4  P k0 x1 x2 I L) : zz_Go p l e ({ frames := 0, cells := 0, slots := 0, locals := 0 } : Room) s m args below meth c 0 0 (MQ below (zz_Qi D ca zz_dC A a (fun r I9 L9 => P r ∧ I9 = I ∧ L9 = L)) args s 0 0 A) D ca zz_dC A 3 4 a [] [(0, .ref (a k0)), (1, .int x1), (2, .int x2)] I L := by
  unfold zp_X6_countGaps_4 at h
  obtain ⟨Inv, μ, h0, hs⟩ := h
  have key : ∀ (n9 : Nat) (y1 : Int32) (y2 : Int32), μ y1 y2 < n9 → Inv y1 y2 → zz_Go p l e ({ frames := 0, cells := 0, slots := 0, locals := 0 } : Room) s m args below meth c 0 0 (MQ below (zz_Qi D ca zz_dC A a (fun r I9 L9 => P r ∧ I9 = I ∧ L9 = L)) args s 0 0 A) D ca zz_dC A 3 4 a [] [(0, .ref (a k0)), (1, .int y1), (2, .int y2)] I L := by
    intro n9
    induction n9 with
    | zero => intro y1 y2 hn; exact absurd hn (Nat.not_lt_zero _)
    | succ n9 ih =>
      intro y1 y2 hn hi
      exact zq_X6_countGaps_4b (K4 := (fun z1 z2 => Inv z1 z2 ∧ μ z1 z2 < μ y1 y2)) X hA hk0  (fun z1 z2 hz => ih z1 z2 (Nat.lt_of_lt_of_le hz.2 (Nat.le_of_lt_succ hn)) hz.1) (hs y1 y2 hi)
  exact key _ x1 x2 (Nat.lt_succ_self _) h0
def zp_X6_countGaps (k0 : Nat) (P : Int32 → Prop) (I : zz_I) (L : zz_L) : Prop := zp_X6_countGaps_4 P k0 (0 : Int32) (0 : Int32) I L
set_option maxHeartbeats 4000000 in
set_option maxRecDepth 100000 in
theorem zq_X6_countGaps {p : Program} {l : Launch} {e : Env} {s : State} {m : MethodId} {args : Array Value} {below : List Frame} {meth : Method} {c : Code} {D : va_G} {ca : Nat → ClassId} {A : Nat → Prop} {a : Nat → Nat}  {P : Int32 → Prop} {I : zz_I} {L : zz_L} {k0 : Nat} (X : zz_X p s m meth c cX6_countGaps RX6 (some .int) 3) (hA : ∀ q, s.heap.size ≤ q → A q) (hk0 : zz_isT k0)  (h : zp_X6_countGaps k0 P I L) : zz_Go p l e ({ frames := 0, cells := 0, slots := 0, locals := 0 } : Room) s m args below meth c 0 0 (MQ below (zz_Qi D ca zz_dC A a (fun r I9 L9 => P r ∧ I9 = I ∧ L9 = L)) args s 0 0 A) D ca zz_dC A 3 0 a [] [(0, .ref (a k0))] I L := by
  obtain ⟨hx, hb, hml, hown, zw, hr, hlocks⟩ := id X
  intro H locs ls hB hl
  unfold zp_X6_countGaps at h
  refine lv_iconst (v := (0 : Int32)) hx hb dX6_countGaps_0 (by decide) ?_
  refine lv_istore_n (lv' := [(1, .int (0 : Int32)), (0, .ref (a k0))]) hx hb dX6_countGaps_1 rfl hl (by decide) rfl (fun ls hl => ?_)
  refine lv_iconst (v := (0 : Int32)) hx hb dX6_countGaps_2 (by decide) ?_
  refine lv_istore_n (lv' := [(2, .int (0 : Int32)), (1, .int (0 : Int32)), (0, .ref (a k0))]) hx hb dX6_countGaps_3 rfl hl (by decide) rfl (fun ls hl => ?_)
  exact zq_X6_countGaps_4 X hA hk0 h H locs ls hB (lv_sub hl [2, 1, 0] rfl)
theorem zc_X6_countGaps (l : Launch) (D : va_G) (ca : Nat → ClassId) (a : Nat → Nat) (I : zz_I) (L : zz_L) (sz : Nat) {k0 : Nat} {P : Int32 → Prop} (hk0 : zz_isT k0) (h : zp_X6_countGaps k0 P I L) : Met l yX6_countGaps [.code yX6_countGaps cX6_countGaps 3 (some .int)] ({ frames := 0, cells := 0, slots := 0, locals := 0 } : Room) (zz_Pre D ca zz_dC [.ref (a k0)] a I L sz) (zz_Qi D ca zz_dC (zz_A ca zz_dC a I L sz) a (fun r I9 L9 => P r ∧ I9 = I ∧ L9 = L)) 0 0 (zz_A ca zz_dC a I L sz) :=
  zz_start (by decide) (Nat.le_of_ble_eq_true rfl) (fun p e s m below meth c X hsz hA => zq_X6_countGaps X hA hk0 h)
def zp_X6_isFree_18b (K18 : Int32 → Prop) (P : Int32 → Prop) (k0 : Nat) (x1 : Int32) (x2 : Int32) (x3 : Int32) (I : zz_I) (L : zz_L) : Prop := (x2 ≤ x3 → P (1 : Int32)) ∧ (¬ x2 ≤ x3 → vp_in (x1 + x3) 24 ∧ (((I (k0 + 1) (x1 + x3).toNatClampNeg) = (7 : Int32) → ∀ v38 : Int32, v38 = x3 + (1 : Int32) → (K18 v38)) ∧ (¬ (I (k0 + 1) (x1 + x3).toNatClampNeg) = (7 : Int32) → P (0 : Int32))))
set_option maxHeartbeats 4000000 in
set_option maxRecDepth 100000 in
theorem zq_X6_isFree_18b {p : Program} {l : Launch} {e : Env} {s : State} {m : MethodId} {args : Array Value} {below : List Frame} {meth : Method} {c : Code} {D : va_G} {ca : Nat → ClassId} {A : Nat → Prop} {a : Nat → Nat} {K18 : Int32 → Prop} {P : Int32 → Prop} {I : zz_I} {L : zz_L} {k0 : Nat} {x1 : Int32} {x2 : Int32} {x3 : Int32} (X : zz_X p s m meth c cX6_isFree RX6 (some .boolean) 4) (hA : ∀ q, s.heap.size ≤ q → A q) (hk0 : zz_isT k0) (hK18 : ∀ (y3 : Int32), K18 y3 → zz_Go p l e ({ frames := 0, cells := 0, slots := 0, locals := 0 } : Room) s m args below meth c 0 0 (MQ below (zz_Qi D ca zz_dC A a (fun r I9 L9 => P r ∧ I9 = I ∧ L9 = L)) args s 0 0 A) D ca zz_dC A 4 18 a [] [(0, .ref (a k0)), (1, .int x1), (2, .int x2), (3, .int y3)] I L) (h : zp_X6_isFree_18b K18 P k0 x1 x2 x3 I L) : zz_Go p l e ({ frames := 0, cells := 0, slots := 0, locals := 0 } : Room) s m args below meth c 0 0 (MQ below (zz_Qi D ca zz_dC A a (fun r I9 L9 => P r ∧ I9 = I ∧ L9 = L)) args s 0 0 A) D ca zz_dC A 4 18 a [] [(0, .ref (a k0)), (1, .int x1), (2, .int x2), (3, .int x3)] I L := by
  obtain ⟨hx, hb, hml, hown, zw, hr, hlocks⟩ := id X
  intro H locs ls hB hl
  unfold zp_X6_isFree_18b at h
  refine lv_iload_n hx hb dX6_isFree_18 rfl (lv_at hl 3 rfl) ?_
  refine lv_iload_n hx hb dX6_isFree_19 rfl (lv_at hl 2 rfl) ?_
  refine lv_icmp_ge (tgt := 44) hx hb dX6_isFree_20 (by decide) (fun c20 => ?_) (fun c20 => ?_)
  · have h := h.1 c20
    refine lv_iconst (v := (1 : Int32)) hx hb dX6_isFree_44 (by decide) ?_
    exact zz_zret hx hb hr hlocks zz_bool1 hB ⟨h, rfl, rfl⟩ dX6_isFree_45
  · have h := h.2 c20
    refine lv_aload_n hx hb dX6_isFree_23 rfl (lv_at hl 0 rfl) ?_
    refine zz_getr (k' := k0 + 1) hx hb hown zw hB zF_X6_9 hk0.1 rfl rfl dX6_isFree_24 ?_
    refine lv_iload_n hx hb dX6_isFree_27 rfl (lv_at hl 1 rfl) ?_
    refine lv_iload_n hx hb dX6_isFree_28 rfl (lv_at hl 3 rfl) ?_
    refine lv_iadd hx hb dX6_isFree_29 ?_
    obtain ⟨hi30, h⟩ := h
    refine zz_iald hx hb hB hk0.2.1 hi30 dX6_isFree_30 ?_
    refine lv_bipush (v := (7 : Int32)) hx hb dX6_isFree_31 (by decide) ?_
    refine lv_icmp_eq (tgt := 38) hx hb dX6_isFree_33 (by decide) (fun c33 => ?_) (fun c33 => ?_)
    · have h := h.1 c33
      obtain ⟨v38, ev38⟩ : ∃ z : Int32, z = x3 + (1 : Int32) := ⟨_, rfl⟩
      have h := h v38 ev38
      refine lv_iinc (v := v38) (lv' := [(3, .int v38), (0, .ref (a k0)), (1, .int x1), (2, .int x2)]) hx hb dX6_isFree_38 hl (k := 3) rfl (by rw [ev38]; rfl) (by decide) rfl (fun ls hl => ?_)
      refine lv_goto (tgt := 18) hx hb dX6_isFree_41 (by decide) ?_
      exact hK18 _ h H locs ls hB (lv_sub hl [1, 2, 3, 0] rfl)
    · have h := h.2 c33
      refine lv_iconst (v := (0 : Int32)) hx hb dX6_isFree_36 (by decide) ?_
      exact zz_zret hx hb hr hlocks zz_bool0 hB ⟨h, rfl, rfl⟩ dX6_isFree_37
def zp_X6_isFree_18  (P : Int32 → Prop) (k0 : Nat) (x1 : Int32) (x2 : Int32) (x3 : Int32) (I : zz_I) (L : zz_L) : Prop := ∃ (Inv : Int32 → Prop) (μ : Int32 → Nat), Inv x3 ∧ ∀ (y3 : Int32), Inv y3 → zp_X6_isFree_18b  (fun z3 => Inv z3 ∧ μ z3 < μ y3) P k0 x1 x2 y3 I L
set_option maxHeartbeats 4000000 in
set_option maxRecDepth 100000 in
theorem zq_X6_isFree_18 {p : Program} {l : Launch} {e : Env} {s : State} {m : MethodId} {args : Array Value} {below : List Frame} {meth : Method} {c : Code} {D : va_G} {ca : Nat → ClassId} {A : Nat → Prop} {a : Nat → Nat}  {P : Int32 → Prop} {I : zz_I} {L : zz_L} {k0 : Nat} {x1 : Int32} {x2 : Int32} {x3 : Int32} (X : zz_X p s m meth c cX6_isFree RX6 (some .boolean) 4) (hA : ∀ q, s.heap.size ≤ q → A q) (hk0 : zz_isT k0)  (h : zp_X6_isFree_18  P k0 x1 x2 x3 I L) : zz_Go p l e ({ frames := 0, cells := 0, slots := 0, locals := 0 } : Room) s m args below meth c 0 0 (MQ below (zz_Qi D ca zz_dC A a (fun r I9 L9 => P r ∧ I9 = I ∧ L9 = L)) args s 0 0 A) D ca zz_dC A 4 18 a [] [(0, .ref (a k0)), (1, .int x1), (2, .int x2), (3, .int x3)] I L := by
  unfold zp_X6_isFree_18 at h
  obtain ⟨Inv, μ, h0, hs⟩ := h
  have key : ∀ (n9 : Nat) (y3 : Int32), μ y3 < n9 → Inv y3 → zz_Go p l e ({ frames := 0, cells := 0, slots := 0, locals := 0 } : Room) s m args below meth c 0 0 (MQ below (zz_Qi D ca zz_dC A a (fun r I9 L9 => P r ∧ I9 = I ∧ L9 = L)) args s 0 0 A) D ca zz_dC A 4 18 a [] [(0, .ref (a k0)), (1, .int x1), (2, .int x2), (3, .int y3)] I L := by
    intro n9
    induction n9 with
    | zero => intro y3 hn; exact absurd hn (Nat.not_lt_zero _)
    | succ n9 ih =>
      intro y3 hn hi
      exact zq_X6_isFree_18b (K18 := (fun z3 => Inv z3 ∧ μ z3 < μ y3)) X hA hk0  (fun z3 hz => ih z3 (Nat.lt_of_lt_of_le hz.2 (Nat.le_of_lt_succ hn)) hz.1) (hs y3 hi)
  exact key _ x3 (Nat.lt_succ_self _) h0
def zp_X6_isFree (k0 : Nat) (x1 : Int32) (x2 : Int32) (P : Int32 → Prop) (I : zz_I) (L : zz_L) : Prop := (x1 < 0 → P (0 : Int32)) ∧ (¬ x1 < 0 → ((x1 + x2) ≤ (I k0 3) → zp_X6_isFree_18 P k0 x1 x2 (0 : Int32) I L) ∧ (¬ (x1 + x2) ≤ (I k0 3) → P (0 : Int32)))
set_option maxHeartbeats 4000000 in
set_option maxRecDepth 100000 in
theorem zq_X6_isFree {p : Program} {l : Launch} {e : Env} {s : State} {m : MethodId} {args : Array Value} {below : List Frame} {meth : Method} {c : Code} {D : va_G} {ca : Nat → ClassId} {A : Nat → Prop} {a : Nat → Nat}  {P : Int32 → Prop} {I : zz_I} {L : zz_L} {k0 : Nat} {x1 : Int32} {x2 : Int32} (X : zz_X p s m meth c cX6_isFree RX6 (some .boolean) 4) (hA : ∀ q, s.heap.size ≤ q → A q) (hk0 : zz_isT k0)  (h : zp_X6_isFree k0 x1 x2 P I L) : zz_Go p l e ({ frames := 0, cells := 0, slots := 0, locals := 0 } : Room) s m args below meth c 0 0 (MQ below (zz_Qi D ca zz_dC A a (fun r I9 L9 => P r ∧ I9 = I ∧ L9 = L)) args s 0 0 A) D ca zz_dC A 4 0 a [] [(0, .ref (a k0)), (1, .int x1), (2, .int x2)] I L := by
  obtain ⟨hx, hb, hml, hown, zw, hr, hlocks⟩ := id X
  intro H locs ls hB hl
  unfold zp_X6_isFree at h
  refine lv_iload_n hx hb dX6_isFree_0 rfl (lv_at hl 1 rfl) ?_
  refine lv_if_lt (tgt := 14) hx hb dX6_isFree_1 (by decide) (fun c1 => ?_) (fun c1 => ?_)
  · have h := h.1 c1
    refine lv_iconst (v := (0 : Int32)) hx hb dX6_isFree_14 (by decide) ?_
    exact zz_zret hx hb hr hlocks zz_bool0 hB ⟨h, rfl, rfl⟩ dX6_isFree_15
  · have h := h.2 c1
    refine lv_iload_n hx hb dX6_isFree_4 rfl (lv_at hl 1 rfl) ?_
    refine lv_iload_n hx hb dX6_isFree_5 rfl (lv_at hl 2 rfl) ?_
    refine lv_iadd hx hb dX6_isFree_6 ?_
    refine lv_aload_n hx hb dX6_isFree_7 rfl (lv_at hl 0 rfl) ?_
    refine zz_geti hx hb hown zw hB zF_X6_21 hk0.1 rfl dX6_isFree_8 ?_
    refine lv_icmp_le (tgt := 16) hx hb dX6_isFree_11 (by decide) (fun c11 => ?_) (fun c11 => ?_)
    · have h := h.1 c11
      refine lv_iconst (v := (0 : Int32)) hx hb dX6_isFree_16 (by decide) ?_
      refine lv_istore_n (lv' := [(3, .int (0 : Int32)), (0, .ref (a k0)), (1, .int x1), (2, .int x2)]) hx hb dX6_isFree_17 rfl hl (by decide) rfl (fun ls hl => ?_)
      exact zq_X6_isFree_18 X hA hk0 h H locs ls hB (lv_sub hl [1, 2, 3, 0] rfl)
    · have h := h.2 c11
      refine lv_iconst (v := (0 : Int32)) hx hb dX6_isFree_14 (by decide) ?_
      exact zz_zret hx hb hr hlocks zz_bool0 hB ⟨h, rfl, rfl⟩ dX6_isFree_15
theorem zc_X6_isFree (l : Launch) (D : va_G) (ca : Nat → ClassId) (a : Nat → Nat) (I : zz_I) (L : zz_L) (sz : Nat) {k0 : Nat} {x1 : Int32} {x2 : Int32} {P : Int32 → Prop} (hk0 : zz_isT k0) (h : zp_X6_isFree k0 x1 x2 P I L) : Met l yX6_isFree [.code yX6_isFree cX6_isFree 4 (some .boolean)] ({ frames := 0, cells := 0, slots := 0, locals := 0 } : Room) (zz_Pre D ca zz_dC [.ref (a k0), .int x1, .int x2] a I L sz) (zz_Qi D ca zz_dC (zz_A ca zz_dC a I L sz) a (fun r I9 L9 => P r ∧ I9 = I ∧ L9 = L)) 0 0 (zz_A ca zz_dC a I L sz) :=
  zz_start (by decide) (Nat.le_of_ble_eq_true rfl) (fun p e s m below meth c X hsz hA => zq_X6_isFree X hA hk0 h)
def zp_X6_putSign_3b (K3 : Int32 → zz_I → zz_L → Prop) (P : zz_I → zz_L → Prop) (k0 : Nat) (x1 : Int32) (x2 : Int32) (x3 : Int32) (x4 : Int32) (I : zz_I) (L : zz_L) : Prop := (x3 ≤ x4 → P I L) ∧ (¬ x3 ≤ x4 → zp_X6_hasUnit k0 (x1 + x4) (fun r14 => (r14 = 0 → P I L) ∧ (¬ r14 = 0 → (¬ x4 = 0 → vp_in (x1 + x4) 24 ∧ (∀ I39 : zz_I, I39 = zz_up I (k0 + 1) (x1 + x4).toNatClampNeg (8 : Int32) → (∀ v40 : Int32, v40 = x4 + (1 : Int32) → (K3 v40 I39 L)))) ∧ (x4 = 0 → vp_in (x1 + x4) 24 ∧ (∀ I39 : zz_I, I39 = zz_up I (k0 + 1) (x1 + x4).toNatClampNeg x2 → (∀ v40 : Int32, v40 = x4 + (1 : Int32) → (K3 v40 I39 L)))))) I L)
set_option maxHeartbeats 4000000 in
set_option maxRecDepth 100000 in
theorem zq_X6_putSign_3b {p : Program} {l : Launch} {e : Env} {s : State} {m : MethodId} {args : Array Value} {below : List Frame} {meth : Method} {c : Code} {D : va_G} {ca : Nat → ClassId} {A : Nat → Prop} {a : Nat → Nat} {K3 : Int32 → zz_I → zz_L → Prop} {P : zz_I → zz_L → Prop} {I : zz_I} {L : zz_L} {k0 : Nat} {x1 : Int32} {x2 : Int32} {x3 : Int32} {x4 : Int32} (X : zz_X p s m meth c cX6_putSign RX6 none 5) (hA : ∀ q, s.heap.size ≤ q → A q) (hk0 : zz_isT k0) (hK3 : ∀ (y4 : Int32) (I8 : zz_I) (L8 : zz_L), K3 y4 I8 L8 → zz_Go p l e ({ frames := 1, cells := 0, slots := 0, locals := 21 } : Room) s m args below meth c 0 0 (MQ below (zz_Qv D ca zz_dC A a P) args s 0 0 A) D ca zz_dC A 5 3 a [] [(0, .ref (a k0)), (1, .int x1), (2, .int x2), (3, .int x3), (4, .int y4)] I8 L8) (h : zp_X6_putSign_3b K3 P k0 x1 x2 x3 x4 I L) : zz_Go p l e ({ frames := 1, cells := 0, slots := 0, locals := 21 } : Room) s m args below meth c 0 0 (MQ below (zz_Qv D ca zz_dC A a P) args s 0 0 A) D ca zz_dC A 5 3 a [] [(0, .ref (a k0)), (1, .int x1), (2, .int x2), (3, .int x3), (4, .int x4)] I L := by
  obtain ⟨hx, hb, hml, hown, zw, hr, hlocks⟩ := id X
  intro H locs ls hB hl
  unfold zp_X6_putSign_3b at h
  refine lv_iload hx hb dX6_putSign_3 (lv_at hl 4 rfl) ?_
  refine lv_iload_n hx hb dX6_putSign_5 rfl (lv_at hl 3 rfl) ?_
  refine lv_icmp_ge (tgt := 46) hx hb dX6_putSign_6 (by decide) (fun c6 => ?_) (fun c6 => ?_)
  · have h := h.1 c6
    exact zz_vret hx hb hr hlocks hB h dX6_putSign_46
  · have h := h.2 c6
    refine lv_aload_n hx hb dX6_putSign_9 rfl (lv_at hl 0 rfl) ?_
    refine lv_iload_n hx hb dX6_putSign_10 rfl (lv_at hl 1 rfl) ?_
    refine lv_iload hx hb dX6_putSign_11 (lv_at hl 4 rfl) ?_
    refine lv_iadd hx hb dX6_putSign_13 ?_
    refine zz_goip hB hA (zz_runV (As := [.int (x1 + x4)]) (rest := []) hx hb hml hown zw hB zM_X6_40 (zc_X6_hasUnit l D ca a I L H.size hk0 h) hk0.1 rfl rfl hl.1 rfl (Nat.le_of_ble_eq_true rfl) rfl rfl ⟨Nat.le_of_ble_eq_true rfl, Nat.le_of_ble_eq_true rfl⟩ dX6_putSign_14 ⟨Nat.zero_le _, Nat.zero_le _⟩) (fun r14 H locs h hB => ?_)
    refine lv_if_eq (tgt := 46) hx hb dX6_putSign_17 (by decide) (fun c17 => ?_) (fun c17 => ?_)
    · have h := h.1 c17
      exact zz_vret hx hb hr hlocks hB h dX6_putSign_46
    · have h := h.2 c17
      refine lv_aload_n hx hb dX6_putSign_20 rfl (lv_at hl 0 rfl) ?_
      refine zz_getr (k' := k0 + 1) hx hb hown zw hB zF_X6_9 hk0.1 rfl rfl dX6_putSign_21 ?_
      refine lv_iload_n hx hb dX6_putSign_24 rfl (lv_at hl 1 rfl) ?_
      refine lv_iload hx hb dX6_putSign_25 (lv_at hl 4 rfl) ?_
      refine lv_iadd hx hb dX6_putSign_27 ?_
      refine lv_iload hx hb dX6_putSign_28 (lv_at hl 4 rfl) ?_
      refine lv_if_ne (tgt := 37) hx hb dX6_putSign_30 (by decide) (fun c30 => ?_) (fun c30 => ?_)
      · have h := h.1 c30
        refine lv_bipush (v := (8 : Int32)) hx hb dX6_putSign_37 (by decide) ?_
        obtain ⟨hi39, h⟩ := h
        refine zz_iast hx hb hB hk0.2.1 hi39 dX6_putSign_39 (fun H locs hB => ?_)
        obtain ⟨I39, eI39⟩ : ∃ z : zz_I, z = zz_up I (k0 + 1) (x1 + x4).toNatClampNeg (8 : Int32) := ⟨_, rfl⟩
        rw [← eI39] at hB
        have h := h I39 eI39
        obtain ⟨v40, ev40⟩ : ∃ z : Int32, z = x4 + (1 : Int32) := ⟨_, rfl⟩
        have h := h v40 ev40
        refine lv_iinc (v := v40) (lv' := [(4, .int v40), (0, .ref (a k0)), (1, .int x1), (2, .int x2), (3, .int x3)]) hx hb dX6_putSign_40 hl (k := 4) rfl (by rw [ev40]; rfl) (by decide) rfl (fun ls hl => ?_)
        refine lv_goto (tgt := 3) hx hb dX6_putSign_43 (by decide) ?_
        exact hK3 _ _ _ h H locs ls hB (lv_sub hl [1, 2, 3, 4, 0] rfl)
      · have h := h.2 c30
        refine lv_iload_n hx hb dX6_putSign_33 rfl (lv_at hl 2 rfl) ?_
        refine lv_goto (tgt := 39) hx hb dX6_putSign_34 (by decide) ?_
        obtain ⟨hi39, h⟩ := h
        refine zz_iast hx hb hB hk0.2.1 hi39 dX6_putSign_39 (fun H locs hB => ?_)
        obtain ⟨I39, eI39⟩ : ∃ z : zz_I, z = zz_up I (k0 + 1) (x1 + x4).toNatClampNeg x2 := ⟨_, rfl⟩
        rw [← eI39] at hB
        have h := h I39 eI39
        obtain ⟨v40, ev40⟩ : ∃ z : Int32, z = x4 + (1 : Int32) := ⟨_, rfl⟩
        have h := h v40 ev40
        refine lv_iinc (v := v40) (lv' := [(4, .int v40), (0, .ref (a k0)), (1, .int x1), (2, .int x2), (3, .int x3)]) hx hb dX6_putSign_40 hl (k := 4) rfl (by rw [ev40]; rfl) (by decide) rfl (fun ls hl => ?_)
        refine lv_goto (tgt := 3) hx hb dX6_putSign_43 (by decide) ?_
        exact hK3 _ _ _ h H locs ls hB (lv_sub hl [1, 2, 3, 4, 0] rfl)
def zp_X6_putSign_3  (P : zz_I → zz_L → Prop) (k0 : Nat) (x1 : Int32) (x2 : Int32) (x3 : Int32) (x4 : Int32) (I : zz_I) (L : zz_L) : Prop := ∃ (Inv : Int32 → zz_I → zz_L → Prop) (μ : Int32 → zz_I → zz_L → Nat), Inv x4 I L ∧ ∀ (y4 : Int32) (I8 : zz_I) (L8 : zz_L), Inv y4 I8 L8 → zp_X6_putSign_3b  (fun z4 I7 L7 => Inv z4 I7 L7 ∧ μ z4 I7 L7 < μ y4 I8 L8) P k0 x1 x2 x3 y4 I8 L8
set_option maxHeartbeats 4000000 in
set_option maxRecDepth 100000 in
theorem zq_X6_putSign_3 {p : Program} {l : Launch} {e : Env} {s : State} {m : MethodId} {args : Array Value} {below : List Frame} {meth : Method} {c : Code} {D : va_G} {ca : Nat → ClassId} {A : Nat → Prop} {a : Nat → Nat}  {P : zz_I → zz_L → Prop} {I : zz_I} {L : zz_L} {k0 : Nat} {x1 : Int32} {x2 : Int32} {x3 : Int32} {x4 : Int32} (X : zz_X p s m meth c cX6_putSign RX6 none 5) (hA : ∀ q, s.heap.size ≤ q → A q) (hk0 : zz_isT k0)  (h : zp_X6_putSign_3  P k0 x1 x2 x3 x4 I L) : zz_Go p l e ({ frames := 1, cells := 0, slots := 0, locals := 21 } : Room) s m args below meth c 0 0 (MQ below (zz_Qv D ca zz_dC A a P) args s 0 0 A) D ca zz_dC A 5 3 a [] [(0, .ref (a k0)), (1, .int x1), (2, .int x2), (3, .int x3), (4, .int x4)] I L := by
  unfold zp_X6_putSign_3 at h
  obtain ⟨Inv, μ, h0, hs⟩ := h
  have key : ∀ (n9 : Nat) (y4 : Int32) (I8 : zz_I) (L8 : zz_L), μ y4 I8 L8 < n9 → Inv y4 I8 L8 → zz_Go p l e ({ frames := 1, cells := 0, slots := 0, locals := 21 } : Room) s m args below meth c 0 0 (MQ below (zz_Qv D ca zz_dC A a P) args s 0 0 A) D ca zz_dC A 5 3 a [] [(0, .ref (a k0)), (1, .int x1), (2, .int x2), (3, .int x3), (4, .int y4)] I8 L8 := by
    intro n9
    induction n9 with
    | zero => intro y4 I8 L8 hn; exact absurd hn (Nat.not_lt_zero _)
    | succ n9 ih =>
      intro y4 I8 L8 hn hi
      exact zq_X6_putSign_3b (K3 := (fun z4 I7 L7 => Inv z4 I7 L7 ∧ μ z4 I7 L7 < μ y4 I8 L8)) X hA hk0  (fun z4 I7 L7 hz => ih z4 I7 L7 (Nat.lt_of_lt_of_le hz.2 (Nat.le_of_lt_succ hn)) hz.1) (hs y4 I8 L8 hi)
  exact key _ x4 I L (Nat.lt_succ_self _) h0
def zp_X6_putSign (k0 : Nat) (x1 : Int32) (x2 : Int32) (x3 : Int32) (P : zz_I → zz_L → Prop) (I : zz_I) (L : zz_L) : Prop := zp_X6_putSign_3 P k0 x1 x2 x3 (0 : Int32) I L
set_option maxHeartbeats 4000000 in
set_option maxRecDepth 100000 in
theorem zq_X6_putSign {p : Program} {l : Launch} {e : Env} {s : State} {m : MethodId} {args : Array Value} {below : List Frame} {meth : Method} {c : Code} {D : va_G} {ca : Nat → ClassId} {A : Nat → Prop} {a : Nat → Nat}  {P : zz_I → zz_L → Prop} {I : zz_I} {L : zz_L} {k0 : Nat} {x1 : Int32} {x2 : Int32} {x3 : Int32} (X : zz_X p s m meth c cX6_putSign RX6 none 5) (hA : ∀ q, s.heap.size ≤ q → A q) (hk0 : zz_isT k0)  (h : zp_X6_putSign k0 x1 x2 x3 P I L) : zz_Go p l e ({ frames := 1, cells := 0, slots := 0, locals := 21 } : Room) s m args below meth c 0 0 (MQ below (zz_Qv D ca zz_dC A a P) args s 0 0 A) D ca zz_dC A 5 0 a [] [(0, .ref (a k0)), (1, .int x1), (2, .int x2), (3, .int x3)] I L := by
  obtain ⟨hx, hb, hml, hown, zw, hr, hlocks⟩ := id X
  intro H locs ls hB hl
  unfold zp_X6_putSign at h
  refine lv_iconst (v := (0 : Int32)) hx hb dX6_putSign_0 (by decide) ?_
  refine lv_istore (lv' := [(4, .int (0 : Int32)), (0, .ref (a k0)), (1, .int x1), (2, .int x2), (3, .int x3)]) hx hb dX6_putSign_1 hl (by decide) rfl (fun ls hl => ?_)
  exact zq_X6_putSign_3 X hA hk0 h H locs ls hB (lv_sub hl [1, 2, 3, 4, 0] rfl)
theorem zc_X6_putSign (l : Launch) (D : va_G) (ca : Nat → ClassId) (a : Nat → Nat) (I : zz_I) (L : zz_L) (sz : Nat) {k0 : Nat} {x1 : Int32} {x2 : Int32} {x3 : Int32} {P : zz_I → zz_L → Prop} (hk0 : zz_isT k0) (h : zp_X6_putSign k0 x1 x2 x3 P I L) : Met l yX6_putSign [.code yX6_putSign cX6_putSign 5 none] ({ frames := 1, cells := 0, slots := 0, locals := 21 } : Room) (zz_Pre D ca zz_dC [.ref (a k0), .int x1, .int x2, .int x3] a I L sz) (zz_Qv D ca zz_dC (zz_A ca zz_dC a I L sz) a P) 0 0 (zz_A ca zz_dC a I L sz) :=
  zz_start (by decide) (Nat.le_of_ble_eq_true rfl) (fun p e s m below meth c X hsz hA => zq_X6_putSign X hA hk0 h)
def zp_X6_putGap_2b (K2 : Int32 → zz_I → zz_L → Prop) (P : zz_I → zz_L → Prop) (k0 : Nat) (x1 : Int32) (x2 : Int32) (x3 : Int32) (I : zz_I) (L : zz_L) : Prop := (x2 ≤ x3 → P I L) ∧ (¬ x2 ≤ x3 → zp_X6_hasUnit k0 (x1 + x3) (fun r11 => (r11 = 0 → P I L) ∧ (¬ r11 = 0 → vp_in (x1 + x3) 24 ∧ (∀ I26 : zz_I, I26 = zz_up I (k0 + 1) (x1 + x3).toNatClampNeg (7 : Int32) → (∀ v27 : Int32, v27 = x3 + (1 : Int32) → (K2 v27 I26 L))))) I L)
set_option maxHeartbeats 4000000 in
set_option maxRecDepth 100000 in
theorem zq_X6_putGap_2b {p : Program} {l : Launch} {e : Env} {s : State} {m : MethodId} {args : Array Value} {below : List Frame} {meth : Method} {c : Code} {D : va_G} {ca : Nat → ClassId} {A : Nat → Prop} {a : Nat → Nat} {K2 : Int32 → zz_I → zz_L → Prop} {P : zz_I → zz_L → Prop} {I : zz_I} {L : zz_L} {k0 : Nat} {x1 : Int32} {x2 : Int32} {x3 : Int32} (X : zz_X p s m meth c cX6_putGap RX6 none 4) (hA : ∀ q, s.heap.size ≤ q → A q) (hk0 : zz_isT k0) (hK2 : ∀ (y3 : Int32) (I8 : zz_I) (L8 : zz_L), K2 y3 I8 L8 → zz_Go p l e ({ frames := 1, cells := 0, slots := 0, locals := 21 } : Room) s m args below meth c 0 0 (MQ below (zz_Qv D ca zz_dC A a P) args s 0 0 A) D ca zz_dC A 4 2 a [] [(0, .ref (a k0)), (1, .int x1), (2, .int x2), (3, .int y3)] I8 L8) (h : zp_X6_putGap_2b K2 P k0 x1 x2 x3 I L) : zz_Go p l e ({ frames := 1, cells := 0, slots := 0, locals := 21 } : Room) s m args below meth c 0 0 (MQ below (zz_Qv D ca zz_dC A a P) args s 0 0 A) D ca zz_dC A 4 2 a [] [(0, .ref (a k0)), (1, .int x1), (2, .int x2), (3, .int x3)] I L := by
  obtain ⟨hx, hb, hml, hown, zw, hr, hlocks⟩ := id X
  intro H locs ls hB hl
  unfold zp_X6_putGap_2b at h
  refine lv_iload_n hx hb dX6_putGap_2 rfl (lv_at hl 3 rfl) ?_
  refine lv_iload_n hx hb dX6_putGap_3 rfl (lv_at hl 2 rfl) ?_
  refine lv_icmp_ge (tgt := 33) hx hb dX6_putGap_4 (by decide) (fun c4 => ?_) (fun c4 => ?_)
  · have h := h.1 c4
    exact zz_vret hx hb hr hlocks hB h dX6_putGap_33
  · have h := h.2 c4
    refine lv_aload_n hx hb dX6_putGap_7 rfl (lv_at hl 0 rfl) ?_
    refine lv_iload_n hx hb dX6_putGap_8 rfl (lv_at hl 1 rfl) ?_
    refine lv_iload_n hx hb dX6_putGap_9 rfl (lv_at hl 3 rfl) ?_
    refine lv_iadd hx hb dX6_putGap_10 ?_
    refine zz_goip hB hA (zz_runV (As := [.int (x1 + x3)]) (rest := []) hx hb hml hown zw hB zM_X6_40 (zc_X6_hasUnit l D ca a I L H.size hk0 h) hk0.1 rfl rfl hl.1 rfl (Nat.le_of_ble_eq_true rfl) rfl rfl ⟨Nat.le_of_ble_eq_true rfl, Nat.le_of_ble_eq_true rfl⟩ dX6_putGap_11 ⟨Nat.zero_le _, Nat.zero_le _⟩) (fun r11 H locs h hB => ?_)
    refine lv_if_eq (tgt := 33) hx hb dX6_putGap_14 (by decide) (fun c14 => ?_) (fun c14 => ?_)
    · have h := h.1 c14
      exact zz_vret hx hb hr hlocks hB h dX6_putGap_33
    · have h := h.2 c14
      refine lv_aload_n hx hb dX6_putGap_17 rfl (lv_at hl 0 rfl) ?_
      refine zz_getr (k' := k0 + 1) hx hb hown zw hB zF_X6_9 hk0.1 rfl rfl dX6_putGap_18 ?_
      refine lv_iload_n hx hb dX6_putGap_21 rfl (lv_at hl 1 rfl) ?_
      refine lv_iload_n hx hb dX6_putGap_22 rfl (lv_at hl 3 rfl) ?_
      refine lv_iadd hx hb dX6_putGap_23 ?_
      refine lv_bipush (v := (7 : Int32)) hx hb dX6_putGap_24 (by decide) ?_
      obtain ⟨hi26, h⟩ := h
      refine zz_iast hx hb hB hk0.2.1 hi26 dX6_putGap_26 (fun H locs hB => ?_)
      obtain ⟨I26, eI26⟩ : ∃ z : zz_I, z = zz_up I (k0 + 1) (x1 + x3).toNatClampNeg (7 : Int32) := ⟨_, rfl⟩
      rw [← eI26] at hB
      have h := h I26 eI26
      obtain ⟨v27, ev27⟩ : ∃ z : Int32, z = x3 + (1 : Int32) := ⟨_, rfl⟩
      have h := h v27 ev27
      refine lv_iinc (v := v27) (lv' := [(3, .int v27), (0, .ref (a k0)), (1, .int x1), (2, .int x2)]) hx hb dX6_putGap_27 hl (k := 3) rfl (by rw [ev27]; rfl) (by decide) rfl (fun ls hl => ?_)
      refine lv_goto (tgt := 2) hx hb dX6_putGap_30 (by decide) ?_
      exact hK2 _ _ _ h H locs ls hB (lv_sub hl [1, 2, 3, 0] rfl)
def zp_X6_putGap_2  (P : zz_I → zz_L → Prop) (k0 : Nat) (x1 : Int32) (x2 : Int32) (x3 : Int32) (I : zz_I) (L : zz_L) : Prop := ∃ (Inv : Int32 → zz_I → zz_L → Prop) (μ : Int32 → zz_I → zz_L → Nat), Inv x3 I L ∧ ∀ (y3 : Int32) (I8 : zz_I) (L8 : zz_L), Inv y3 I8 L8 → zp_X6_putGap_2b  (fun z3 I7 L7 => Inv z3 I7 L7 ∧ μ z3 I7 L7 < μ y3 I8 L8) P k0 x1 x2 y3 I8 L8
set_option maxHeartbeats 4000000 in
set_option maxRecDepth 100000 in
theorem zq_X6_putGap_2 {p : Program} {l : Launch} {e : Env} {s : State} {m : MethodId} {args : Array Value} {below : List Frame} {meth : Method} {c : Code} {D : va_G} {ca : Nat → ClassId} {A : Nat → Prop} {a : Nat → Nat}  {P : zz_I → zz_L → Prop} {I : zz_I} {L : zz_L} {k0 : Nat} {x1 : Int32} {x2 : Int32} {x3 : Int32} (X : zz_X p s m meth c cX6_putGap RX6 none 4) (hA : ∀ q, s.heap.size ≤ q → A q) (hk0 : zz_isT k0)  (h : zp_X6_putGap_2  P k0 x1 x2 x3 I L) : zz_Go p l e ({ frames := 1, cells := 0, slots := 0, locals := 21 } : Room) s m args below meth c 0 0 (MQ below (zz_Qv D ca zz_dC A a P) args s 0 0 A) D ca zz_dC A 4 2 a [] [(0, .ref (a k0)), (1, .int x1), (2, .int x2), (3, .int x3)] I L := by
  unfold zp_X6_putGap_2 at h
  obtain ⟨Inv, μ, h0, hs⟩ := h
  have key : ∀ (n9 : Nat) (y3 : Int32) (I8 : zz_I) (L8 : zz_L), μ y3 I8 L8 < n9 → Inv y3 I8 L8 → zz_Go p l e ({ frames := 1, cells := 0, slots := 0, locals := 21 } : Room) s m args below meth c 0 0 (MQ below (zz_Qv D ca zz_dC A a P) args s 0 0 A) D ca zz_dC A 4 2 a [] [(0, .ref (a k0)), (1, .int x1), (2, .int x2), (3, .int y3)] I8 L8 := by
    intro n9
    induction n9 with
    | zero => intro y3 I8 L8 hn; exact absurd hn (Nat.not_lt_zero _)
    | succ n9 ih =>
      intro y3 I8 L8 hn hi
      exact zq_X6_putGap_2b (K2 := (fun z3 I7 L7 => Inv z3 I7 L7 ∧ μ z3 I7 L7 < μ y3 I8 L8)) X hA hk0  (fun z3 I7 L7 hz => ih z3 I7 L7 (Nat.lt_of_lt_of_le hz.2 (Nat.le_of_lt_succ hn)) hz.1) (hs y3 I8 L8 hi)
  exact key _ x3 I L (Nat.lt_succ_self _) h0
def zp_X6_putGap (k0 : Nat) (x1 : Int32) (x2 : Int32) (P : zz_I → zz_L → Prop) (I : zz_I) (L : zz_L) : Prop := zp_X6_putGap_2 P k0 x1 x2 (0 : Int32) I L
set_option maxHeartbeats 4000000 in
set_option maxRecDepth 100000 in
theorem zq_X6_putGap {p : Program} {l : Launch} {e : Env} {s : State} {m : MethodId} {args : Array Value} {below : List Frame} {meth : Method} {c : Code} {D : va_G} {ca : Nat → ClassId} {A : Nat → Prop} {a : Nat → Nat}  {P : zz_I → zz_L → Prop} {I : zz_I} {L : zz_L} {k0 : Nat} {x1 : Int32} {x2 : Int32} (X : zz_X p s m meth c cX6_putGap RX6 none 4) (hA : ∀ q, s.heap.size ≤ q → A q) (hk0 : zz_isT k0)  (h : zp_X6_putGap k0 x1 x2 P I L) : zz_Go p l e ({ frames := 1, cells := 0, slots := 0, locals := 21 } : Room) s m args below meth c 0 0 (MQ below (zz_Qv D ca zz_dC A a P) args s 0 0 A) D ca zz_dC A 4 0 a [] [(0, .ref (a k0)), (1, .int x1), (2, .int x2)] I L := by
  obtain ⟨hx, hb, hml, hown, zw, hr, hlocks⟩ := id X
  intro H locs ls hB hl
  unfold zp_X6_putGap at h
  refine lv_iconst (v := (0 : Int32)) hx hb dX6_putGap_0 (by decide) ?_
  refine lv_istore_n (lv' := [(3, .int (0 : Int32)), (0, .ref (a k0)), (1, .int x1), (2, .int x2)]) hx hb dX6_putGap_1 rfl hl (by decide) rfl (fun ls hl => ?_)
  exact zq_X6_putGap_2 X hA hk0 h H locs ls hB (lv_sub hl [1, 2, 3, 0] rfl)
theorem zc_X6_putGap (l : Launch) (D : va_G) (ca : Nat → ClassId) (a : Nat → Nat) (I : zz_I) (L : zz_L) (sz : Nat) {k0 : Nat} {x1 : Int32} {x2 : Int32} {P : zz_I → zz_L → Prop} (hk0 : zz_isT k0) (h : zp_X6_putGap k0 x1 x2 P I L) : Met l yX6_putGap [.code yX6_putGap cX6_putGap 4 none] ({ frames := 1, cells := 0, slots := 0, locals := 21 } : Room) (zz_Pre D ca zz_dC [.ref (a k0), .int x1, .int x2] a I L sz) (zz_Qv D ca zz_dC (zz_A ca zz_dC a I L sz) a P) 0 0 (zz_A ca zz_dC a I L sz) :=
  zz_start (by decide) (Nat.le_of_ble_eq_true rfl) (fun p e s m below meth c X hsz hA => zq_X6_putGap X hA hk0 h)
def zp_X6_copyFrom (k0 : Nat) (k1 : Nat) (P : zz_I → zz_L → Prop) (I : zz_I) (L : zz_L) : Prop := ∀ I12 : zz_I, I12 = zz_cp I (k1 + 1) (k0 + 1) 24 → (∀ I27 : zz_I, I27 = zz_cp I12 (k1 + 2) (k0 + 2) 9 → (∀ I42 : zz_I, I42 = zz_cp I27 (k1 + 3) (k0 + 3) 8 → (∀ I50 : zz_I, I50 = zz_up I42 k0 3 (I42 k1 3) → (∀ I58 : zz_I, I58 = zz_up I50 k0 4 (I50 k1 4) → (P I58 L)))))
set_option maxHeartbeats 4000000 in
set_option maxRecDepth 100000 in
theorem zq_X6_copyFrom {p : Program} {l : Launch} {e : Env} {s : State} {m : MethodId} {args : Array Value} {below : List Frame} {meth : Method} {c : Code} {D : va_G} {ca : Nat → ClassId} {A : Nat → Prop} {a : Nat → Nat}  {P : zz_I → zz_L → Prop} {I : zz_I} {L : zz_L} {k0 : Nat} {k1 : Nat} (X : zz_X p s m meth c cX6_copyFrom RX6 none 2) (hA : ∀ q, s.heap.size ≤ q → A q) (hk0 : zz_isT k0) (hk1 : zz_isT k1)  (h : zp_X6_copyFrom k0 k1 P I L) : zz_Go p l e ({ frames := 1, cells := 0, slots := 0, locals := 40 } : Room) s m args below meth c 0 0 (MQ below (zz_Qv D ca zz_dC A a P) args s 0 0 A) D ca zz_dC A 2 0 a [] [(0, .ref (a k0)), (1, .ref (a k1))] I L := by
  obtain ⟨hx, hb, hml, hown, zw, hr, hlocks⟩ := id X
  intro H locs ls hB hl
  unfold zp_X6_copyFrom at h
  refine lv_aload_n hx hb dX6_copyFrom_0 rfl (lv_at hl 1 rfl) ?_
  refine zz_getr (k' := k1 + 1) hx hb hown zw hB zF_X6_9 hk1.1 rfl rfl dX6_copyFrom_1 ?_
  refine lv_iconst (v := (0 : Int32)) hx hb dX6_copyFrom_4 (by decide) ?_
  refine lv_aload_n hx hb dX6_copyFrom_5 rfl (lv_at hl 0 rfl) ?_
  refine zz_getr (k' := k0 + 1) hx hb hown zw hB zF_X6_9 hk0.1 rfl rfl dX6_copyFrom_6 ?_
  refine lv_iconst (v := (0 : Int32)) hx hb dX6_copyFrom_9 (by decide) ?_
  refine lv_bipush (v := (24 : Int32)) hx hb dX6_copyFrom_10 (by decide) ?_
  refine zz_copy (nn := 24) hx hb (hml.trans hl.1.symm) hown zw zk_X6_acp hB hk1.2.1 hk0.2.1 rfl (Nat.le_of_ble_eq_true rfl) (Nat.le_of_ble_eq_true rfl) (Nat.le_of_ble_eq_true rfl) (Nat.le_of_ble_eq_true rfl) (Nat.le_of_ble_eq_true rfl) dX6_copyFrom_12 (fun H locs hB => ?_)
  obtain ⟨I12, eI12⟩ : ∃ z : zz_I, z = zz_cp I (k1 + 1) (k0 + 1) 24 := ⟨_, rfl⟩
  rw [← eI12] at hB
  have h := h I12 eI12
  refine lv_aload_n hx hb dX6_copyFrom_15 rfl (lv_at hl 1 rfl) ?_
  refine zz_getr (k' := k1 + 2) hx hb hown zw hB zF_X6_15 hk1.1 rfl rfl dX6_copyFrom_16 ?_
  refine lv_iconst (v := (0 : Int32)) hx hb dX6_copyFrom_19 (by decide) ?_
  refine lv_aload_n hx hb dX6_copyFrom_20 rfl (lv_at hl 0 rfl) ?_
  refine zz_getr (k' := k0 + 2) hx hb hown zw hB zF_X6_15 hk0.1 rfl rfl dX6_copyFrom_21 ?_
  refine lv_iconst (v := (0 : Int32)) hx hb dX6_copyFrom_24 (by decide) ?_
  refine lv_bipush (v := (9 : Int32)) hx hb dX6_copyFrom_25 (by decide) ?_
  refine zz_copy (nn := 9) hx hb (hml.trans hl.1.symm) hown zw zk_X6_acp hB hk1.2.2.1 hk0.2.2.1 rfl (Nat.le_of_ble_eq_true rfl) (Nat.le_of_ble_eq_true rfl) (Nat.le_of_ble_eq_true rfl) (Nat.le_of_ble_eq_true rfl) (Nat.le_of_ble_eq_true rfl) dX6_copyFrom_27 (fun H locs hB => ?_)
  obtain ⟨I27, eI27⟩ : ∃ z : zz_I, z = zz_cp I12 (k1 + 2) (k0 + 2) 9 := ⟨_, rfl⟩
  rw [← eI27] at hB
  have h := h I27 eI27
  refine lv_aload_n hx hb dX6_copyFrom_30 rfl (lv_at hl 1 rfl) ?_
  refine zz_getr (k' := k1 + 3) hx hb hown zw hB zF_X6_18 hk1.1 rfl rfl dX6_copyFrom_31 ?_
  refine lv_iconst (v := (0 : Int32)) hx hb dX6_copyFrom_34 (by decide) ?_
  refine lv_aload_n hx hb dX6_copyFrom_35 rfl (lv_at hl 0 rfl) ?_
  refine zz_getr (k' := k0 + 3) hx hb hown zw hB zF_X6_18 hk0.1 rfl rfl dX6_copyFrom_36 ?_
  refine lv_iconst (v := (0 : Int32)) hx hb dX6_copyFrom_39 (by decide) ?_
  refine lv_bipush (v := (8 : Int32)) hx hb dX6_copyFrom_40 (by decide) ?_
  refine zz_copy (nn := 8) hx hb (hml.trans hl.1.symm) hown zw zk_X6_acp hB hk1.2.2.2 hk0.2.2.2 rfl (Nat.le_of_ble_eq_true rfl) (Nat.le_of_ble_eq_true rfl) (Nat.le_of_ble_eq_true rfl) (Nat.le_of_ble_eq_true rfl) (Nat.le_of_ble_eq_true rfl) dX6_copyFrom_42 (fun H locs hB => ?_)
  obtain ⟨I42, eI42⟩ : ∃ z : zz_I, z = zz_cp I27 (k1 + 3) (k0 + 3) 8 := ⟨_, rfl⟩
  rw [← eI42] at hB
  have h := h I42 eI42
  refine lv_aload_n hx hb dX6_copyFrom_45 rfl (lv_at hl 0 rfl) ?_
  refine lv_aload_n hx hb dX6_copyFrom_46 rfl (lv_at hl 1 rfl) ?_
  refine zz_geti hx hb hown zw hB zF_X6_21 hk1.1 rfl dX6_copyFrom_47 ?_
  refine zz_puti hx hb hown zw hB zP_X6_21 hk0.1 rfl dX6_copyFrom_50 (fun H locs hB => ?_)
  obtain ⟨I50, eI50⟩ : ∃ z : zz_I, z = zz_up I42 k0 3 (I42 k1 3) := ⟨_, rfl⟩
  rw [← eI50] at hB
  have h := h I50 eI50
  refine lv_aload_n hx hb dX6_copyFrom_53 rfl (lv_at hl 0 rfl) ?_
  refine lv_aload_n hx hb dX6_copyFrom_54 rfl (lv_at hl 1 rfl) ?_
  refine zz_geti hx hb hown zw hB zF_X6_25 hk1.1 rfl dX6_copyFrom_55 ?_
  refine zz_puti hx hb hown zw hB zP_X6_25 hk0.1 rfl dX6_copyFrom_58 (fun H locs hB => ?_)
  obtain ⟨I58, eI58⟩ : ∃ z : zz_I, z = zz_up I50 k0 4 (I50 k1 4) := ⟨_, rfl⟩
  rw [← eI58] at hB
  have h := h I58 eI58
  exact zz_vret hx hb hr hlocks hB h dX6_copyFrom_61
theorem zc_X6_copyFrom (l : Launch) (D : va_G) (ca : Nat → ClassId) (a : Nat → Nat) (I : zz_I) (L : zz_L) (sz : Nat) {k0 : Nat} {k1 : Nat} {P : zz_I → zz_L → Prop} (hk0 : zz_isT k0) (hk1 : zz_isT k1) (h : zp_X6_copyFrom k0 k1 P I L) : Met l yX6_copyFrom [.code yX6_copyFrom cX6_copyFrom 2 none] ({ frames := 1, cells := 0, slots := 0, locals := 40 } : Room) (zz_Pre D ca zz_dC [.ref (a k0), .ref (a k1)] a I L sz) (zz_Qv D ca zz_dC (zz_A ca zz_dC a I L sz) a P) 0 0 (zz_A ca zz_dC a I L sz) :=
  zz_start (by decide) (Nat.le_of_ble_eq_true rfl) (fun p e s m below meth c X hsz hA => zq_X6_copyFrom X hA hk0 hk1 h)
end
