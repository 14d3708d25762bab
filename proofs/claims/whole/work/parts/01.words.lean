-- ===== PART A: goes FIRST, ahead of the names: the tables' words, and 'selects' of the private methods out of them =====
/-- a private method of a class that the tables say can be made, by its rows of tables_1 -/
def lw_okq (q : MethodName × Nat) : Prop := (q.1.cls ≠ "java/lang/invoke/MethodHandle" ∧ q.1.cls ≠ "java/lang/invoke/VarHandle") ∧ Cond.instantiable q.1.cls q.2 ∈ tables_1 ∧ Cond.privateMethod q.1 ∈ tables_1 ∧ Cond.instanceMethod q.1 ∈ tables_1
theorem lw_p0 : lw_okq (⟨"TreeDiffer$Text", "takes", "(I)Z"⟩, 6) := ⟨⟨by decide +kernel, by decide +kernel⟩, List.mem_of_getElem? (i := 22) (by decide +kernel), List.mem_of_getElem? (i := 390) (by decide +kernel), List.mem_of_getElem? (i := 391) (by decide +kernel)⟩
theorem lw_p1 : lw_okq (⟨"TreeDiffer$Text", "takesLabel", "(I)Z"⟩, 6) := ⟨⟨by decide +kernel, by decide +kernel⟩, List.mem_of_getElem? (i := 22) (by decide +kernel), List.mem_of_getElem? (i := 394) (by decide +kernel), List.mem_of_getElem? (i := 395) (by decide +kernel)⟩
theorem lw_p2 : lw_okq (⟨"TreeDiffer$Text", "takesOpening", "()Z"⟩, 6) := ⟨⟨by decide +kernel, by decide +kernel⟩, List.mem_of_getElem? (i := 22) (by decide +kernel), List.mem_of_getElem? (i := 402) (by decide +kernel), List.mem_of_getElem? (i := 403) (by decide +kernel)⟩
theorem lw_p3 : lw_okq (⟨"TreeDiffer$Text", "takesSpace", "()Z"⟩, 6) := ⟨⟨by decide +kernel, by decide +kernel⟩, List.mem_of_getElem? (i := 22) (by decide +kernel), List.mem_of_getElem? (i := 406) (by decide +kernel), List.mem_of_getElem? (i := 407) (by decide +kernel)⟩
theorem lw_p4 : lw_okq (⟨"TreeDiffer$Text", "takesClosing", "()Z"⟩, 6) := ⟨⟨by decide +kernel, by decide +kernel⟩, List.mem_of_getElem? (i := 22) (by decide +kernel), List.mem_of_getElem? (i := 410) (by decide +kernel), List.mem_of_getElem? (i := 411) (by decide +kernel)⟩
theorem lw_p5 : lw_okq (⟨"TreeDiffer$Text", "takesDigit", "(I)Z"⟩, 6) := ⟨⟨by decide +kernel, by decide +kernel⟩, List.mem_of_getElem? (i := 22) (by decide +kernel), List.mem_of_getElem? (i := 414) (by decide +kernel), List.mem_of_getElem? (i := 415) (by decide +kernel)⟩
theorem lw_p6 : lw_okq (⟨"TreeDiffer$Tree", "sortInPostorder", "()V"⟩, 10) := ⟨⟨by decide +kernel, by decide +kernel⟩, List.mem_of_getElem? (i := 28) (by decide +kernel), List.mem_of_getElem? (i := 444) (by decide +kernel), List.mem_of_getElem? (i := 445) (by decide +kernel)⟩
theorem lw_p7 : lw_okq (⟨"TreeDiffer", "forgetAnswers", "()V"⟩, 14) := ⟨⟨by decide +kernel, by decide +kernel⟩, List.mem_of_getElem? (i := 14) (by decide +kernel), List.mem_of_getElem? (i := 448) (by decide +kernel), List.mem_of_getElem? (i := 449) (by decide +kernel)⟩
theorem lw_p8 : lw_okq (⟨"TreeDiffer", "rewind", "()V"⟩, 14) := ⟨⟨by decide +kernel, by decide +kernel⟩, List.mem_of_getElem? (i := 14) (by decide +kernel), List.mem_of_getElem? (i := 452) (by decide +kernel), List.mem_of_getElem? (i := 453) (by decide +kernel)⟩
theorem lw_p9 : lw_okq (⟨"TreeDiffer", "isNode", "(II)Z"⟩, 14) := ⟨⟨by decide +kernel, by decide +kernel⟩, List.mem_of_getElem? (i := 14) (by decide +kernel), List.mem_of_getElem? (i := 472) (by decide +kernel), List.mem_of_getElem? (i := 473) (by decide +kernel)⟩
theorem lw_p10 : lw_okq (⟨"TreeDiffer", "compare", "()V"⟩, 14) := ⟨⟨by decide +kernel, by decide +kernel⟩, List.mem_of_getElem? (i := 14) (by decide +kernel), List.mem_of_getElem? (i := 508) (by decide +kernel), List.mem_of_getElem? (i := 509) (by decide +kernel)⟩
theorem lw_p11 : lw_okq (⟨"TreeDiffer$Matching", "pairEqualSubtrees", "(LTreeDiffer$Setup;)V"⟩, 4) := ⟨⟨by decide +kernel, by decide +kernel⟩, List.mem_of_getElem? (i := 155) (by decide +kernel), List.mem_of_getElem? (i := 516) (by decide +kernel), List.mem_of_getElem? (i := 517) (by decide +kernel)⟩
theorem lw_p12 : lw_okq (⟨"TreeDiffer$Matching", "pairNearest", "(LTreeDiffer$Setup;I)Z"⟩, 4) := ⟨⟨by decide +kernel, by decide +kernel⟩, List.mem_of_getElem? (i := 155) (by decide +kernel), List.mem_of_getElem? (i := 523) (by decide +kernel), List.mem_of_getElem? (i := 524) (by decide +kernel)⟩
theorem lw_p13 : lw_okq (⟨"TreeDiffer$Matching", "nearness", "(LTreeDiffer$Setup;II)I"⟩, 4) := ⟨⟨by decide +kernel, by decide +kernel⟩, List.mem_of_getElem? (i := 155) (by decide +kernel), List.mem_of_getElem? (i := 528) (by decide +kernel), List.mem_of_getElem? (i := 529) (by decide +kernel)⟩
theorem lw_p14 : lw_okq (⟨"TreeDiffer$Matching", "pair", "(III)V"⟩, 4) := ⟨⟨by decide +kernel, by decide +kernel⟩, List.mem_of_getElem? (i := 155) (by decide +kernel), List.mem_of_getElem? (i := 539) (by decide +kernel), List.mem_of_getElem? (i := 540) (by decide +kernel)⟩
theorem lw_p15 : lw_okq (⟨"TreeDiffer$Matching", "pairByDescendants", "(LTreeDiffer$Setup;)V"⟩, 4) := ⟨⟨by decide +kernel, by decide +kernel⟩, List.mem_of_getElem? (i := 155) (by decide +kernel), List.mem_of_getElem? (i := 543) (by decide +kernel), List.mem_of_getElem? (i := 544) (by decide +kernel)⟩
def lw_privs_1 : List (MethodName × Nat) := [(⟨"TreeDiffer$Text", "takes", "(I)Z"⟩, 6), (⟨"TreeDiffer$Text", "takesLabel", "(I)Z"⟩, 6), (⟨"TreeDiffer$Text", "takesOpening", "()Z"⟩, 6), (⟨"TreeDiffer$Text", "takesSpace", "()Z"⟩, 6), (⟨"TreeDiffer$Text", "takesClosing", "()Z"⟩, 6), (⟨"TreeDiffer$Text", "takesDigit", "(I)Z"⟩, 6), (⟨"TreeDiffer$Tree", "sortInPostorder", "()V"⟩, 10), (⟨"TreeDiffer", "forgetAnswers", "()V"⟩, 14), (⟨"TreeDiffer", "rewind", "()V"⟩, 14), (⟨"TreeDiffer", "isNode", "(II)Z"⟩, 14), (⟨"TreeDiffer", "compare", "()V"⟩, 14), (⟨"TreeDiffer$Matching", "pairEqualSubtrees", "(LTreeDiffer$Setup;)V"⟩, 4), (⟨"TreeDiffer$Matching", "pairNearest", "(LTreeDiffer$Setup;I)Z"⟩, 4), (⟨"TreeDiffer$Matching", "nearness", "(LTreeDiffer$Setup;II)I"⟩, 4), (⟨"TreeDiffer$Matching", "pair", "(III)V"⟩, 4), (⟨"TreeDiffer$Matching", "pairByDescendants", "(LTreeDiffer$Setup;)V"⟩, 4)]
theorem lw_r1 : ∀ q ∈ lw_privs_1, lw_okq q := List.forall_mem_cons.mpr ⟨lw_p0, List.forall_mem_cons.mpr ⟨lw_p1, List.forall_mem_cons.mpr ⟨lw_p2, List.forall_mem_cons.mpr ⟨lw_p3, List.forall_mem_cons.mpr ⟨lw_p4, List.forall_mem_cons.mpr ⟨lw_p5, List.forall_mem_cons.mpr ⟨lw_p6, List.forall_mem_cons.mpr ⟨lw_p7, List.forall_mem_cons.mpr ⟨lw_p8, List.forall_mem_cons.mpr ⟨lw_p9, List.forall_mem_cons.mpr ⟨lw_p10, List.forall_mem_cons.mpr ⟨lw_p11, List.forall_mem_cons.mpr ⟨lw_p12, List.forall_mem_cons.mpr ⟨lw_p13, List.forall_mem_cons.mpr ⟨lw_p14, List.forall_mem_cons.mpr ⟨lw_p15, fun _ h => absurd h List.not_mem_nil⟩⟩⟩⟩⟩⟩⟩⟩⟩⟩⟩⟩⟩⟩⟩⟩
theorem lw_p16 : lw_okq (⟨"TreeDiffer$Matching", "mostAlike", "(LTreeDiffer$Setup;I)I"⟩, 4) := ⟨⟨by decide +kernel, by decide +kernel⟩, List.mem_of_getElem? (i := 155) (by decide +kernel), List.mem_of_getElem? (i := 547) (by decide +kernel), List.mem_of_getElem? (i := 548) (by decide +kernel)⟩
theorem lw_p17 : lw_okq (⟨"TreeDiffer$Matching", "pairRoots", "(LTreeDiffer$Setup;)V"⟩, 4) := ⟨⟨by decide +kernel, by decide +kernel⟩, List.mem_of_getElem? (i := 155) (by decide +kernel), List.mem_of_getElem? (i := 560) (by decide +kernel), List.mem_of_getElem? (i := 561) (by decide +kernel)⟩
theorem lw_p18 : lw_okq (⟨"TreeDiffer$Script", "putChildrenInOrder", "(LTreeDiffer$Tree;I)V"⟩, 7) := ⟨⟨by decide +kernel, by decide +kernel⟩, List.mem_of_getElem? (i := 181) (by decide +kernel), List.mem_of_getElem? (i := 569) (by decide +kernel), List.mem_of_getElem? (i := 570) (by decide +kernel)⟩
theorem lw_p19 : lw_okq (⟨"TreeDiffer$Script", "gatherChildren", "(LTreeDiffer$Tree;I)I"⟩, 7) := ⟨⟨by decide +kernel, by decide +kernel⟩, List.mem_of_getElem? (i := 181) (by decide +kernel), List.mem_of_getElem? (i := 573) (by decide +kernel), List.mem_of_getElem? (i := 574) (by decide +kernel)⟩
theorem lw_p20 : lw_okq (⟨"TreeDiffer$Script", "partnerOf", "(I)I"⟩, 7) := ⟨⟨by decide +kernel, by decide +kernel⟩, List.mem_of_getElem? (i := 181) (by decide +kernel), List.mem_of_getElem? (i := 578) (by decide +kernel), List.mem_of_getElem? (i := 579) (by decide +kernel)⟩
theorem lw_p21 : lw_okq (⟨"TreeDiffer$Script", "isBelow", "(II)Z"⟩, 7) := ⟨⟨by decide +kernel, by decide +kernel⟩, List.mem_of_getElem? (i := 181) (by decide +kernel), List.mem_of_getElem? (i := 582) (by decide +kernel), List.mem_of_getElem? (i := 583) (by decide +kernel)⟩
theorem lw_p22 : lw_okq (⟨"TreeDiffer$Script", "measureSequences", "(I)I"⟩, 7) := ⟨⟨by decide +kernel, by decide +kernel⟩, List.mem_of_getElem? (i := 181) (by decide +kernel), List.mem_of_getElem? (i := 586) (by decide +kernel), List.mem_of_getElem? (i := 587) (by decide +kernel)⟩
theorem lw_p23 : lw_okq (⟨"TreeDiffer$Script", "placeOf", "(I)I"⟩, 7) := ⟨⟨by decide +kernel, by decide +kernel⟩, List.mem_of_getElem? (i := 181) (by decide +kernel), List.mem_of_getElem? (i := 590) (by decide +kernel), List.mem_of_getElem? (i := 591) (by decide +kernel)⟩
theorem lw_p24 : lw_okq (⟨"TreeDiffer$Script", "markLongest", "(II)V"⟩, 7) := ⟨⟨by decide +kernel, by decide +kernel⟩, List.mem_of_getElem? (i := 181) (by decide +kernel), List.mem_of_getElem? (i := 595) (by decide +kernel), List.mem_of_getElem? (i := 596) (by decide +kernel)⟩
theorem lw_p25 : lw_okq (⟨"TreeDiffer$Script", "move", "(LTreeDiffer$Tree;I)V"⟩, 7) := ⟨⟨by decide +kernel, by decide +kernel⟩, List.mem_of_getElem? (i := 181) (by decide +kernel), List.mem_of_getElem? (i := 599) (by decide +kernel), List.mem_of_getElem? (i := 600) (by decide +kernel)⟩
theorem lw_p26 : lw_okq (⟨"TreeDiffer$Script", "addStep", "(II)LTreeDiffer$Step;"⟩, 7) := ⟨⟨by decide +kernel, by decide +kernel⟩, List.mem_of_getElem? (i := 181) (by decide +kernel), List.mem_of_getElem? (i := 603) (by decide +kernel), List.mem_of_getElem? (i := 604) (by decide +kernel)⟩
theorem lw_p27 : lw_okq (⟨"TreeDiffer$Script", "placeFor", "(LTreeDiffer$Tree;I)I"⟩, 7) := ⟨⟨by decide +kernel, by decide +kernel⟩, List.mem_of_getElem? (i := 181) (by decide +kernel), List.mem_of_getElem? (i := 616) (by decide +kernel), List.mem_of_getElem? (i := 617) (by decide +kernel)⟩
theorem lw_p28 : lw_okq (⟨"TreeDiffer$Script", "bringIntoLine", "(LTreeDiffer$Tree;I)V"⟩, 7) := ⟨⟨by decide +kernel, by decide +kernel⟩, List.mem_of_getElem? (i := 181) (by decide +kernel), List.mem_of_getElem? (i := 624) (by decide +kernel), List.mem_of_getElem? (i := 625) (by decide +kernel)⟩
theorem lw_p29 : lw_okq (⟨"TreeDiffer$Script", "insert", "(LTreeDiffer$Tree;I)V"⟩, 7) := ⟨⟨by decide +kernel, by decide +kernel⟩, List.mem_of_getElem? (i := 181) (by decide +kernel), List.mem_of_getElem? (i := 628) (by decide +kernel), List.mem_of_getElem? (i := 629) (by decide +kernel)⟩
theorem lw_p30 : lw_okq (⟨"TreeDiffer$Script", "update", "(II)V"⟩, 7) := ⟨⟨by decide +kernel, by decide +kernel⟩, List.mem_of_getElem? (i := 181) (by decide +kernel), List.mem_of_getElem? (i := 641) (by decide +kernel), List.mem_of_getElem? (i := 642) (by decide +kernel)⟩
theorem lw_p31 : lw_okq (⟨"TreeDiffer$Script", "deleteRest", "(LTreeDiffer$Tree;LTreeDiffer$Matching;)V"⟩, 7) := ⟨⟨by decide +kernel, by decide +kernel⟩, List.mem_of_getElem? (i := 181) (by decide +kernel), List.mem_of_getElem? (i := 645) (by decide +kernel), List.mem_of_getElem? (i := 646) (by decide +kernel)⟩
def lw_privs_2 : List (MethodName × Nat) := [(⟨"TreeDiffer$Matching", "mostAlike", "(LTreeDiffer$Setup;I)I"⟩, 4), (⟨"TreeDiffer$Matching", "pairRoots", "(LTreeDiffer$Setup;)V"⟩, 4), (⟨"TreeDiffer$Script", "putChildrenInOrder", "(LTreeDiffer$Tree;I)V"⟩, 7), (⟨"TreeDiffer$Script", "gatherChildren", "(LTreeDiffer$Tree;I)I"⟩, 7), (⟨"TreeDiffer$Script", "partnerOf", "(I)I"⟩, 7), (⟨"TreeDiffer$Script", "isBelow", "(II)Z"⟩, 7), (⟨"TreeDiffer$Script", "measureSequences", "(I)I"⟩, 7), (⟨"TreeDiffer$Script", "placeOf", "(I)I"⟩, 7), (⟨"TreeDiffer$Script", "markLongest", "(II)V"⟩, 7), (⟨"TreeDiffer$Script", "move", "(LTreeDiffer$Tree;I)V"⟩, 7), (⟨"TreeDiffer$Script", "addStep", "(II)LTreeDiffer$Step;"⟩, 7), (⟨"TreeDiffer$Script", "placeFor", "(LTreeDiffer$Tree;I)I"⟩, 7), (⟨"TreeDiffer$Script", "bringIntoLine", "(LTreeDiffer$Tree;I)V"⟩, 7), (⟨"TreeDiffer$Script", "insert", "(LTreeDiffer$Tree;I)V"⟩, 7), (⟨"TreeDiffer$Script", "update", "(II)V"⟩, 7), (⟨"TreeDiffer$Script", "deleteRest", "(LTreeDiffer$Tree;LTreeDiffer$Matching;)V"⟩, 7)]
theorem lw_r2 : ∀ q ∈ lw_privs_2, lw_okq q := List.forall_mem_cons.mpr ⟨lw_p16, List.forall_mem_cons.mpr ⟨lw_p17, List.forall_mem_cons.mpr ⟨lw_p18, List.forall_mem_cons.mpr ⟨lw_p19, List.forall_mem_cons.mpr ⟨lw_p20, List.forall_mem_cons.mpr ⟨lw_p21, List.forall_mem_cons.mpr ⟨lw_p22, List.forall_mem_cons.mpr ⟨lw_p23, List.forall_mem_cons.mpr ⟨lw_p24, List.forall_mem_cons.mpr ⟨lw_p25, List.forall_mem_cons.mpr ⟨lw_p26, List.forall_mem_cons.mpr ⟨lw_p27, List.forall_mem_cons.mpr ⟨lw_p28, List.forall_mem_cons.mpr ⟨lw_p29, List.forall_mem_cons.mpr ⟨lw_p30, List.forall_mem_cons.mpr ⟨lw_p31, fun _ h => absurd h List.not_mem_nil⟩⟩⟩⟩⟩⟩⟩⟩⟩⟩⟩⟩⟩⟩⟩⟩
theorem lw_p32 : lw_okq (⟨"TreeDiffer$EditDistance", "compareSubtrees", "(LTreeDiffer$Setup;II)V"⟩, 2) := ⟨⟨by decide +kernel, by decide +kernel⟩, List.mem_of_getElem? (i := 291) (by decide +kernel), List.mem_of_getElem? (i := 696) (by decide +kernel), List.mem_of_getElem? (i := 697) (by decide +kernel)⟩
theorem lw_p33 : lw_okq (⟨"TreeDiffer$Output", "putContent", "(II)V"⟩, 2) := ⟨⟨by decide +kernel, by decide +kernel⟩, List.mem_of_getElem? (i := 308) (by decide +kernel), List.mem_of_getElem? (i := 746) (by decide +kernel), List.mem_of_getElem? (i := 747) (by decide +kernel)⟩
theorem lw_p34 : lw_okq (⟨"TreeDiffer$Output", "put", "(I)V"⟩, 2) := ⟨⟨by decide +kernel, by decide +kernel⟩, List.mem_of_getElem? (i := 308) (by decide +kernel), List.mem_of_getElem? (i := 750) (by decide +kernel), List.mem_of_getElem? (i := 751) (by decide +kernel)⟩
theorem lw_p35 : lw_okq (⟨"TreeDiffer$Output", "closeUpToNext", "(LTreeDiffer$WorkTree;I)I"⟩, 2) := ⟨⟨by decide +kernel, by decide +kernel⟩, List.mem_of_getElem? (i := 308) (by decide +kernel), List.mem_of_getElem? (i := 754) (by decide +kernel), List.mem_of_getElem? (i := 755) (by decide +kernel)⟩
theorem lw_p36 : lw_okq (⟨"TreeDifferModel", "changes", "()V"⟩, 45) := ⟨⟨by decide +kernel, by decide +kernel⟩, List.mem_of_getElem? (i := 786) (by decide +kernel), List.mem_of_getElem? (i := 795) (by decide +kernel), List.mem_of_getElem? (i := 796) (by decide +kernel)⟩
theorem lw_p37 : lw_okq (⟨"TreeDifferModel", "measures", "(I)V"⟩, 45) := ⟨⟨by decide +kernel, by decide +kernel⟩, List.mem_of_getElem? (i := 786) (by decide +kernel), List.mem_of_getElem? (i := 799) (by decide +kernel), List.mem_of_getElem? (i := 800) (by decide +kernel)⟩
theorem lw_p38 : lw_okq (⟨"TreeDifferModel", "isText", "()Z"⟩, 45) := ⟨⟨by decide +kernel, by decide +kernel⟩, List.mem_of_getElem? (i := 786) (by decide +kernel), List.mem_of_getElem? (i := 954) (by decide +kernel), List.mem_of_getElem? (i := 955) (by decide +kernel)⟩
theorem lw_p39 : lw_okq (⟨"TreeDifferModel", "here", "()I"⟩, 45) := ⟨⟨by decide +kernel, by decide +kernel⟩, List.mem_of_getElem? (i := 786) (by decide +kernel), List.mem_of_getElem? (i := 958) (by decide +kernel), List.mem_of_getElem? (i := 959) (by decide +kernel)⟩
theorem lw_p40 : lw_okq (⟨"TreeDifferModel", "isLabelRead", "(I)Z"⟩, 45) := ⟨⟨by decide +kernel, by decide +kernel⟩, List.mem_of_getElem? (i := 786) (by decide +kernel), List.mem_of_getElem? (i := 962) (by decide +kernel), List.mem_of_getElem? (i := 963) (by decide +kernel)⟩
theorem lw_p41 : lw_okq (⟨"TreeDifferModel", "isDigitRead", "(I)Z"⟩, 45) := ⟨⟨by decide +kernel, by decide +kernel⟩, List.mem_of_getElem? (i := 786) (by decide +kernel), List.mem_of_getElem? (i := 966) (by decide +kernel), List.mem_of_getElem? (i := 967) (by decide +kernel)⟩
theorem lw_p42 : lw_okq (⟨"TreeDifferModel", "isOther", "(I)Z"⟩, 45) := ⟨⟨by decide +kernel, by decide +kernel⟩, List.mem_of_getElem? (i := 786) (by decide +kernel), List.mem_of_getElem? (i := 970) (by decide +kernel), List.mem_of_getElem? (i := 971) (by decide +kernel)⟩
theorem lw_p43 : lw_okq (⟨"TreeDifferModel", "copiesTree", "(II)V"⟩, 45) := ⟨⟨by decide +kernel, by decide +kernel⟩, List.mem_of_getElem? (i := 786) (by decide +kernel), List.mem_of_getElem? (i := 982) (by decide +kernel), List.mem_of_getElem? (i := 983) (by decide +kernel)⟩
theorem lw_p44 : lw_okq (⟨"TreeDifferModel", "isNode", "(II)Z"⟩, 45) := ⟨⟨by decide +kernel, by decide +kernel⟩, List.mem_of_getElem? (i := 786) (by decide +kernel), List.mem_of_getElem? (i := 998) (by decide +kernel), List.mem_of_getElem? (i := 999) (by decide +kernel)⟩
theorem lw_p45 : lw_okq (⟨"TreeDifferModel", "children", "(II)I"⟩, 45) := ⟨⟨by decide +kernel, by decide +kernel⟩, List.mem_of_getElem? (i := 786) (by decide +kernel), List.mem_of_getElem? (i := 1002) (by decide +kernel), List.mem_of_getElem? (i := 1003) (by decide +kernel)⟩
theorem lw_p46 : lw_okq (⟨"TreeDifferModel", "height", "(II)I"⟩, 45) := ⟨⟨by decide +kernel, by decide +kernel⟩, List.mem_of_getElem? (i := 786) (by decide +kernel), List.mem_of_getElem? (i := 1006) (by decide +kernel), List.mem_of_getElem? (i := 1007) (by decide +kernel)⟩
theorem lw_p47 : lw_okq (⟨"TreeDifferModel", "size", "(II)I"⟩, 45) := ⟨⟨by decide +kernel, by decide +kernel⟩, List.mem_of_getElem? (i := 786) (by decide +kernel), List.mem_of_getElem? (i := 1010) (by decide +kernel), List.mem_of_getElem? (i := 1011) (by decide +kernel)⟩
def lw_privs_3 : List (MethodName × Nat) := [(⟨"TreeDiffer$EditDistance", "compareSubtrees", "(LTreeDiffer$Setup;II)V"⟩, 2), (⟨"TreeDiffer$Output", "putContent", "(II)V"⟩, 2), (⟨"TreeDiffer$Output", "put", "(I)V"⟩, 2), (⟨"TreeDiffer$Output", "closeUpToNext", "(LTreeDiffer$WorkTree;I)I"⟩, 2), (⟨"TreeDifferModel", "changes", "()V"⟩, 45), (⟨"TreeDifferModel", "measures", "(I)V"⟩, 45), (⟨"TreeDifferModel", "isText", "()Z"⟩, 45), (⟨"TreeDifferModel", "here", "()I"⟩, 45), (⟨"TreeDifferModel", "isLabelRead", "(I)Z"⟩, 45), (⟨"TreeDifferModel", "isDigitRead", "(I)Z"⟩, 45), (⟨"TreeDifferModel", "isOther", "(I)Z"⟩, 45), (⟨"TreeDifferModel", "copiesTree", "(II)V"⟩, 45), (⟨"TreeDifferModel", "isNode", "(II)Z"⟩, 45), (⟨"TreeDifferModel", "children", "(II)I"⟩, 45), (⟨"TreeDifferModel", "height", "(II)I"⟩, 45), (⟨"TreeDifferModel", "size", "(II)I"⟩, 45)]
theorem lw_r3 : ∀ q ∈ lw_privs_3, lw_okq q := List.forall_mem_cons.mpr ⟨lw_p32, List.forall_mem_cons.mpr ⟨lw_p33, List.forall_mem_cons.mpr ⟨lw_p34, List.forall_mem_cons.mpr ⟨lw_p35, List.forall_mem_cons.mpr ⟨lw_p36, List.forall_mem_cons.mpr ⟨lw_p37, List.forall_mem_cons.mpr ⟨lw_p38, List.forall_mem_cons.mpr ⟨lw_p39, List.forall_mem_cons.mpr ⟨lw_p40, List.forall_mem_cons.mpr ⟨lw_p41, List.forall_mem_cons.mpr ⟨lw_p42, List.forall_mem_cons.mpr ⟨lw_p43, List.forall_mem_cons.mpr ⟨lw_p44, List.forall_mem_cons.mpr ⟨lw_p45, List.forall_mem_cons.mpr ⟨lw_p46, List.forall_mem_cons.mpr ⟨lw_p47, fun _ h => absurd h List.not_mem_nil⟩⟩⟩⟩⟩⟩⟩⟩⟩⟩⟩⟩⟩⟩⟩⟩
theorem lw_p48 : lw_okq (⟨"TreeDifferModel", "childAt", "(III)I"⟩, 45) := ⟨⟨by decide +kernel, by decide +kernel⟩, List.mem_of_getElem? (i := 786) (by decide +kernel), List.mem_of_getElem? (i := 1018) (by decide +kernel), List.mem_of_getElem? (i := 1019) (by decide +kernel)⟩
theorem lw_p49 : lw_okq (⟨"TreeDifferModel", "areEqual", "(II)Z"⟩, 45) := ⟨⟨by decide +kernel, by decide +kernel⟩, List.mem_of_getElem? (i := 786) (by decide +kernel), List.mem_of_getElem? (i := 1026) (by decide +kernel), List.mem_of_getElem? (i := 1027) (by decide +kernel)⟩
theorem lw_p50 : lw_okq (⟨"TreeDifferModel", "finds", "()V"⟩, 45) := ⟨⟨by decide +kernel, by decide +kernel⟩, List.mem_of_getElem? (i := 786) (by decide +kernel), List.mem_of_getElem? (i := 1038) (by decide +kernel), List.mem_of_getElem? (i := 1039) (by decide +kernel)⟩
theorem lw_p51 : lw_okq (⟨"TreeDifferModel", "matches", "()V"⟩, 45) := ⟨⟨by decide +kernel, by decide +kernel⟩, List.mem_of_getElem? (i := 786) (by decide +kernel), List.mem_of_getElem? (i := 1042) (by decide +kernel), List.mem_of_getElem? (i := 1043) (by decide +kernel)⟩
theorem lw_p52 : lw_okq (⟨"TreeDifferModel", "matchesDown", "()V"⟩, 45) := ⟨⟨by decide +kernel, by decide +kernel⟩, List.mem_of_getElem? (i := 786) (by decide +kernel), List.mem_of_getElem? (i := 1046) (by decide +kernel), List.mem_of_getElem? (i := 1047) (by decide +kernel)⟩
theorem lw_p53 : lw_okq (⟨"TreeDifferModel", "bestPair", "(I)I"⟩, 45) := ⟨⟨by decide +kernel, by decide +kernel⟩, List.mem_of_getElem? (i := 786) (by decide +kernel), List.mem_of_getElem? (i := 1050) (by decide +kernel), List.mem_of_getElem? (i := 1051) (by decide +kernel)⟩
theorem lw_p54 : lw_okq (⟨"TreeDifferModel", "kinship", "(II)I"⟩, 45) := ⟨⟨by decide +kernel, by decide +kernel⟩, List.mem_of_getElem? (i := 786) (by decide +kernel), List.mem_of_getElem? (i := 1054) (by decide +kernel), List.mem_of_getElem? (i := 1055) (by decide +kernel)⟩
theorem lw_p55 : lw_okq (⟨"TreeDifferModel", "placeOf", "(II)I"⟩, 45) := ⟨⟨by decide +kernel, by decide +kernel⟩, List.mem_of_getElem? (i := 786) (by decide +kernel), List.mem_of_getElem? (i := 1058) (by decide +kernel), List.mem_of_getElem? (i := 1059) (by decide +kernel)⟩
theorem lw_p56 : lw_okq (⟨"TreeDifferModel", "joins", "(III)V"⟩, 45) := ⟨⟨by decide +kernel, by decide +kernel⟩, List.mem_of_getElem? (i := 786) (by decide +kernel), List.mem_of_getElem? (i := 1062) (by decide +kernel), List.mem_of_getElem? (i := 1063) (by decide +kernel)⟩
theorem lw_p57 : lw_okq (⟨"TreeDifferModel", "findPost", "(I)V"⟩, 45) := ⟨⟨by decide +kernel, by decide +kernel⟩, List.mem_of_getElem? (i := 786) (by decide +kernel), List.mem_of_getElem? (i := 1066) (by decide +kernel), List.mem_of_getElem? (i := 1067) (by decide +kernel)⟩
theorem lw_p58 : lw_okq (⟨"TreeDifferModel", "matchesUp", "(I)V"⟩, 45) := ⟨⟨by decide +kernel, by decide +kernel⟩, List.mem_of_getElem? (i := 786) (by decide +kernel), List.mem_of_getElem? (i := 1070) (by decide +kernel), List.mem_of_getElem? (i := 1071) (by decide +kernel)⟩
theorem lw_p59 : lw_okq (⟨"TreeDifferModel", "common", "(II)I"⟩, 45) := ⟨⟨by decide +kernel, by decide +kernel⟩, List.mem_of_getElem? (i := 786) (by decide +kernel), List.mem_of_getElem? (i := 1074) (by decide +kernel), List.mem_of_getElem? (i := 1075) (by decide +kernel)⟩
theorem lw_p60 : lw_okq (⟨"TreeDifferModel", "isBelow", "(III)Z"⟩, 45) := ⟨⟨by decide +kernel, by decide +kernel⟩, List.mem_of_getElem? (i := 786) (by decide +kernel), List.mem_of_getElem? (i := 1078) (by decide +kernel), List.mem_of_getElem? (i := 1079) (by decide +kernel)⟩
theorem lw_p61 : lw_okq (⟨"TreeDifferModel", "both", "(II)I"⟩, 45) := ⟨⟨by decide +kernel, by decide +kernel⟩, List.mem_of_getElem? (i := 786) (by decide +kernel), List.mem_of_getElem? (i := 1082) (by decide +kernel), List.mem_of_getElem? (i := 1083) (by decide +kernel)⟩
theorem lw_p62 : lw_okq (⟨"TreeDifferModel", "writes", "()V"⟩, 45) := ⟨⟨by decide +kernel, by decide +kernel⟩, List.mem_of_getElem? (i := 786) (by decide +kernel), List.mem_of_getElem? (i := 1086) (by decide +kernel), List.mem_of_getElem? (i := 1087) (by decide +kernel)⟩
theorem lw_p63 : lw_okq (⟨"TreeDifferModel", "copyBegins", "(I)V"⟩, 45) := ⟨⟨by decide +kernel, by decide +kernel⟩, List.mem_of_getElem? (i := 786) (by decide +kernel), List.mem_of_getElem? (i := 1090) (by decide +kernel), List.mem_of_getElem? (i := 1091) (by decide +kernel)⟩
def lw_privs_4 : List (MethodName × Nat) := [(⟨"TreeDifferModel", "childAt", "(III)I"⟩, 45), (⟨"TreeDifferModel", "areEqual", "(II)Z"⟩, 45), (⟨"TreeDifferModel", "finds", "()V"⟩, 45), (⟨"TreeDifferModel", "matches", "()V"⟩, 45), (⟨"TreeDifferModel", "matchesDown", "()V"⟩, 45), (⟨"TreeDifferModel", "bestPair", "(I)I"⟩, 45), (⟨"TreeDifferModel", "kinship", "(II)I"⟩, 45), (⟨"TreeDifferModel", "placeOf", "(II)I"⟩, 45), (⟨"TreeDifferModel", "joins", "(III)V"⟩, 45), (⟨"TreeDifferModel", "findPost", "(I)V"⟩, 45), (⟨"TreeDifferModel", "matchesUp", "(I)V"⟩, 45), (⟨"TreeDifferModel", "common", "(II)I"⟩, 45), (⟨"TreeDifferModel", "isBelow", "(III)Z"⟩, 45), (⟨"TreeDifferModel", "both", "(II)I"⟩, 45), (⟨"TreeDifferModel", "writes", "()V"⟩, 45), (⟨"TreeDifferModel", "copyBegins", "(I)V"⟩, 45)]
theorem lw_r4 : ∀ q ∈ lw_privs_4, lw_okq q := List.forall_mem_cons.mpr ⟨lw_p48, List.forall_mem_cons.mpr ⟨lw_p49, List.forall_mem_cons.mpr ⟨lw_p50, List.forall_mem_cons.mpr ⟨lw_p51, List.forall_mem_cons.mpr ⟨lw_p52, List.forall_mem_cons.mpr ⟨lw_p53, List.forall_mem_cons.mpr ⟨lw_p54, List.forall_mem_cons.mpr ⟨lw_p55, List.forall_mem_cons.mpr ⟨lw_p56, List.forall_mem_cons.mpr ⟨lw_p57, List.forall_mem_cons.mpr ⟨lw_p58, List.forall_mem_cons.mpr ⟨lw_p59, List.forall_mem_cons.mpr ⟨lw_p60, List.forall_mem_cons.mpr ⟨lw_p61, List.forall_mem_cons.mpr ⟨lw_p62, List.forall_mem_cons.mpr ⟨lw_p63, fun _ h => absurd h List.not_mem_nil⟩⟩⟩⟩⟩⟩⟩⟩⟩⟩⟩⟩⟩⟩⟩⟩
theorem lw_p64 : lw_okq (⟨"TreeDifferModel", "putsIn", "(III)V"⟩, 45) := ⟨⟨by decide +kernel, by decide +kernel⟩, List.mem_of_getElem? (i := 786) (by decide +kernel), List.mem_of_getElem? (i := 1094) (by decide +kernel), List.mem_of_getElem? (i := 1095) (by decide +kernel)⟩
theorem lw_p65 : lw_okq (⟨"TreeDifferModel", "orders", "(I)V"⟩, 45) := ⟨⟨by decide +kernel, by decide +kernel⟩, List.mem_of_getElem? (i := 786) (by decide +kernel), List.mem_of_getElem? (i := 1098) (by decide +kernel), List.mem_of_getElem? (i := 1099) (by decide +kernel)⟩
theorem lw_p66 : lw_okq (⟨"TreeDifferModel", "findRow", "(I)V"⟩, 45) := ⟨⟨by decide +kernel, by decide +kernel⟩, List.mem_of_getElem? (i := 786) (by decide +kernel), List.mem_of_getElem? (i := 1102) (by decide +kernel), List.mem_of_getElem? (i := 1103) (by decide +kernel)⟩
theorem lw_p67 : lw_okq (⟨"TreeDifferModel", "parentOf", "(I)I"⟩, 45) := ⟨⟨by decide +kernel, by decide +kernel⟩, List.mem_of_getElem? (i := 786) (by decide +kernel), List.mem_of_getElem? (i := 1106) (by decide +kernel), List.mem_of_getElem? (i := 1107) (by decide +kernel)⟩
theorem lw_p68 : lw_okq (⟨"TreeDifferModel", "placeIn", "(I)I"⟩, 45) := ⟨⟨by decide +kernel, by decide +kernel⟩, List.mem_of_getElem? (i := 786) (by decide +kernel), List.mem_of_getElem? (i := 1110) (by decide +kernel), List.mem_of_getElem? (i := 1111) (by decide +kernel)⟩
theorem lw_p69 : lw_okq (⟨"TreeDifferModel", "moves", "(I)V"⟩, 45) := ⟨⟨by decide +kernel, by decide +kernel⟩, List.mem_of_getElem? (i := 786) (by decide +kernel), List.mem_of_getElem? (i := 1114) (by decide +kernel), List.mem_of_getElem? (i := 1115) (by decide +kernel)⟩
theorem lw_p70 : lw_okq (⟨"TreeDifferModel", "takesOut", "(I)V"⟩, 45) := ⟨⟨by decide +kernel, by decide +kernel⟩, List.mem_of_getElem? (i := 786) (by decide +kernel), List.mem_of_getElem? (i := 1118) (by decide +kernel), List.mem_of_getElem? (i := 1119) (by decide +kernel)⟩
theorem lw_p71 : lw_okq (⟨"TreeDifferModel", "placeFor", "(I)I"⟩, 45) := ⟨⟨by decide +kernel, by decide +kernel⟩, List.mem_of_getElem? (i := 786) (by decide +kernel), List.mem_of_getElem? (i := 1122) (by decide +kernel), List.mem_of_getElem? (i := 1123) (by decide +kernel)⟩
theorem lw_p72 : lw_okq (⟨"TreeDifferModel", "notes", "(IIIIII)V"⟩, 45) := ⟨⟨by decide +kernel, by decide +kernel⟩, List.mem_of_getElem? (i := 786) (by decide +kernel), List.mem_of_getElem? (i := 1129) (by decide +kernel), List.mem_of_getElem? (i := 1130) (by decide +kernel)⟩
theorem lw_p73 : lw_okq (⟨"TreeDifferModel", "level", "(I)I"⟩, 45) := ⟨⟨by decide +kernel, by decide +kernel⟩, List.mem_of_getElem? (i := 786) (by decide +kernel), List.mem_of_getElem? (i := 1133) (by decide +kernel), List.mem_of_getElem? (i := 1134) (by decide +kernel)⟩
theorem lw_p74 : lw_okq (⟨"TreeDifferModel", "goesThrough", "(I)V"⟩, 45) := ⟨⟨by decide +kernel, by decide +kernel⟩, List.mem_of_getElem? (i := 786) (by decide +kernel), List.mem_of_getElem? (i := 1137) (by decide +kernel), List.mem_of_getElem? (i := 1138) (by decide +kernel)⟩
theorem lw_p75 : lw_okq (⟨"TreeDifferModel", "goesTo", "(I)V"⟩, 45) := ⟨⟨by decide +kernel, by decide +kernel⟩, List.mem_of_getElem? (i := 786) (by decide +kernel), List.mem_of_getElem? (i := 1141) (by decide +kernel), List.mem_of_getElem? (i := 1142) (by decide +kernel)⟩
theorem lw_p76 : lw_okq (⟨"TreeDifferModel", "findLefts", "(I)V"⟩, 45) := ⟨⟨by decide +kernel, by decide +kernel⟩, List.mem_of_getElem? (i := 786) (by decide +kernel), List.mem_of_getElem? (i := 1176) (by decide +kernel), List.mem_of_getElem? (i := 1177) (by decide +kernel)⟩
theorem lw_p77 : lw_okq (⟨"TreeDifferModel", "isKey", "(II)Z"⟩, 45) := ⟨⟨by decide +kernel, by decide +kernel⟩, List.mem_of_getElem? (i := 786) (by decide +kernel), List.mem_of_getElem? (i := 1180) (by decide +kernel), List.mem_of_getElem? (i := 1181) (by decide +kernel)⟩
theorem lw_p78 : lw_okq (⟨"TreeDifferModel", "compares", "(II)V"⟩, 45) := ⟨⟨by decide +kernel, by decide +kernel⟩, List.mem_of_getElem? (i := 786) (by decide +kernel), List.mem_of_getElem? (i := 1184) (by decide +kernel), List.mem_of_getElem? (i := 1185) (by decide +kernel)⟩
theorem lw_p79 : lw_okq (⟨"TreeDifferModel", "renaming", "(II)I"⟩, 45) := ⟨⟨by decide +kernel, by decide +kernel⟩, List.mem_of_getElem? (i := 786) (by decide +kernel), List.mem_of_getElem? (i := 1191) (by decide +kernel), List.mem_of_getElem? (i := 1192) (by decide +kernel)⟩
def lw_privs_5 : List (MethodName × Nat) := [(⟨"TreeDifferModel", "putsIn", "(III)V"⟩, 45), (⟨"TreeDifferModel", "orders", "(I)V"⟩, 45), (⟨"TreeDifferModel", "findRow", "(I)V"⟩, 45), (⟨"TreeDifferModel", "parentOf", "(I)I"⟩, 45), (⟨"TreeDifferModel", "placeIn", "(I)I"⟩, 45), (⟨"TreeDifferModel", "moves", "(I)V"⟩, 45), (⟨"TreeDifferModel", "takesOut", "(I)V"⟩, 45), (⟨"TreeDifferModel", "placeFor", "(I)I"⟩, 45), (⟨"TreeDifferModel", "notes", "(IIIIII)V"⟩, 45), (⟨"TreeDifferModel", "level", "(I)I"⟩, 45), (⟨"TreeDifferModel", "goesThrough", "(I)V"⟩, 45), (⟨"TreeDifferModel", "goesTo", "(I)V"⟩, 45), (⟨"TreeDifferModel", "findLefts", "(I)V"⟩, 45), (⟨"TreeDifferModel", "isKey", "(II)Z"⟩, 45), (⟨"TreeDifferModel", "compares", "(II)V"⟩, 45), (⟨"TreeDifferModel", "renaming", "(II)I"⟩, 45)]
theorem lw_r5 : ∀ q ∈ lw_privs_5, lw_okq q := List.forall_mem_cons.mpr ⟨lw_p64, List.forall_mem_cons.mpr ⟨lw_p65, List.forall_mem_cons.mpr ⟨lw_p66, List.forall_mem_cons.mpr ⟨lw_p67, List.forall_mem_cons.mpr ⟨lw_p68, List.forall_mem_cons.mpr ⟨lw_p69, List.forall_mem_cons.mpr ⟨lw_p70, List.forall_mem_cons.mpr ⟨lw_p71, List.forall_mem_cons.mpr ⟨lw_p72, List.forall_mem_cons.mpr ⟨lw_p73, List.forall_mem_cons.mpr ⟨lw_p74, List.forall_mem_cons.mpr ⟨lw_p75, List.forall_mem_cons.mpr ⟨lw_p76, List.forall_mem_cons.mpr ⟨lw_p77, List.forall_mem_cons.mpr ⟨lw_p78, List.forall_mem_cons.mpr ⟨lw_p79, fun _ h => absurd h List.not_mem_nil⟩⟩⟩⟩⟩⟩⟩⟩⟩⟩⟩⟩⟩⟩⟩⟩
theorem lw_p80 : lw_okq (⟨"TreeDifferModel", "isThere", "(I)Z"⟩, 45) := ⟨⟨by decide +kernel, by decide +kernel⟩, List.mem_of_getElem? (i := 786) (by decide +kernel), List.mem_of_getElem? (i := 1211) (by decide +kernel), List.mem_of_getElem? (i := 1212) (by decide +kernel)⟩
theorem lw_p81 : lw_okq (⟨"TreeDifferModel", "drafts", "()V"⟩, 45) := ⟨⟨by decide +kernel, by decide +kernel⟩, List.mem_of_getElem? (i := 786) (by decide +kernel), List.mem_of_getElem? (i := 1223) (by decide +kernel), List.mem_of_getElem? (i := 1224) (by decide +kernel)⟩
theorem lw_p82 : lw_okq (⟨"TreeDifferModel", "sign", "(I)V"⟩, 45) := ⟨⟨by decide +kernel, by decide +kernel⟩, List.mem_of_getElem? (i := 786) (by decide +kernel), List.mem_of_getElem? (i := 1227) (by decide +kernel), List.mem_of_getElem? (i := 1228) (by decide +kernel)⟩
theorem lw_p83 : lw_okq (⟨"TreeDifferModel", "writesNode", "(I)V"⟩, 45) := ⟨⟨by decide +kernel, by decide +kernel⟩, List.mem_of_getElem? (i := 786) (by decide +kernel), List.mem_of_getElem? (i := 1231) (by decide +kernel), List.mem_of_getElem? (i := 1232) (by decide +kernel)⟩
def lw_privs_6 : List (MethodName × Nat) := [(⟨"TreeDifferModel", "isThere", "(I)Z"⟩, 45), (⟨"TreeDifferModel", "drafts", "()V"⟩, 45), (⟨"TreeDifferModel", "sign", "(I)V"⟩, 45), (⟨"TreeDifferModel", "writesNode", "(I)V"⟩, 45)]
theorem lw_r6 : ∀ q ∈ lw_privs_6, lw_okq q := List.forall_mem_cons.mpr ⟨lw_p80, List.forall_mem_cons.mpr ⟨lw_p81, List.forall_mem_cons.mpr ⟨lw_p82, List.forall_mem_cons.mpr ⟨lw_p83, fun _ h => absurd h List.not_mem_nil⟩⟩⟩⟩
def lw_privs : List (MethodName × Nat) := lw_privs_1 ++ (lw_privs_2 ++ (lw_privs_3 ++ (lw_privs_4 ++ (lw_privs_5 ++ (lw_privs_6)))))
def lw_tbl : List Cond := k2_sels lw_privs ++ tables_1
theorem lw_privs_ok : ∀ q ∈ lw_privs, lw_okq q := by
  show ∀ q ∈ lw_privs_1 ++ (lw_privs_2 ++ (lw_privs_3 ++ (lw_privs_4 ++ (lw_privs_5 ++ (lw_privs_6))))), lw_okq q
  exact List.forall_mem_append.mpr ⟨lw_r1, List.forall_mem_append.mpr ⟨lw_r2, List.forall_mem_append.mpr ⟨lw_r3, List.forall_mem_append.mpr ⟨lw_r4, List.forall_mem_append.mpr ⟨lw_r5, lw_r6⟩⟩⟩⟩⟩
-- ===== names: classes, fields, methods =====
def qR0 : String := "TreeDiffer$EditDistance"
def qT0 : u_T := fun k => match k with
  | 0 => ("TreeDiffer$EditDistance", "forest", "[[I", true)
  | _ => ("TreeDiffer$EditDistance", "subtree", "[[I", true)
def qt0 : Nat → FieldType := fun k => match k with
  | 0 => .array (.array (.int))
  | _ => .array (.array (.int))
theorem qn0 : ∀ a, a < 2 → ∀ b, b < 2 → a ≠ b → (qT0 a).2.1 ≠ (qT0 b).2.1 := by decide +kernel
theorem qto0 : ∀ k, k < 2 → parseFieldDescriptor (qT0 k).2.2.1 = some (qt0 k) := by decide +kernel
def qR1 : String := "TreeDiffer$Matching"
def qT1 : u_T := fun k => match k with
  | 0 => ("TreeDiffer$Matching", "pairs", "I", false)
  | 1 => ("TreeDiffer$Matching", "partner", "[I", true)
  | 2 => ("TreeDiffer$Matching", "otherPartner", "[I", true)
  | _ => ("TreeDiffer$Matching", "phase", "[I", true)
def qt1 : Nat → FieldType := fun k => match k with
  | 0 => .int
  | 1 => .array (.int)
  | 2 => .array (.int)
  | _ => .array (.int)
theorem qn1 : ∀ a, a < 4 → ∀ b, b < 4 → a ≠ b → (qT1 a).2.1 ≠ (qT1 b).2.1 := by decide +kernel
theorem qto1 : ∀ k, k < 4 → parseFieldDescriptor (qT1 k).2.2.1 = some (qt1 k) := by decide +kernel
def qR2 : String := "TreeDiffer$Output"
def qT2 : u_T := fun k => match k with
  | 0 => ("TreeDiffer$Output", "bytes", "[I", true)
  | _ => ("TreeDiffer$Output", "length", "I", false)
def qt2 : Nat → FieldType := fun k => match k with
  | 0 => .array (.int)
  | _ => .int
theorem qn2 : ∀ a, a < 2 → ∀ b, b < 2 → a ≠ b → (qT2 a).2.1 ≠ (qT2 b).2.1 := by decide +kernel
theorem qto2 : ∀ k, k < 2 → parseFieldDescriptor (qT2 k).2.2.1 = some (qt2 k) := by decide +kernel
def qR3 : String := "TreeDiffer$Script"
def qT3 : u_T := fun k => match k with
  | 0 => ("TreeDiffer$Script", "all", "[LTreeDiffer$Step;", true)
  | 1 => ("TreeDiffer$Script", "length", "I", false)
  | 2 => ("TreeDiffer$Script", "copy", "LTreeDiffer$WorkTree;", true)
  | 3 => ("TreeDiffer$Script", "partner", "[I", true)
  | 4 => ("TreeDiffer$Script", "isMarked", "[Z", true)
  | 5 => ("TreeDiffer$Script", "sorted", "[I", true)
  | _ => ("TreeDiffer$Script", "longest", "[I", true)
def qt3 : Nat → FieldType := fun k => match k with
  | 0 => .array (.object "TreeDiffer$Step")
  | 1 => .int
  | 2 => .object "TreeDiffer$WorkTree"
  | 3 => .array (.int)
  | 4 => .array (.boolean)
  | 5 => .array (.int)
  | _ => .array (.int)
theorem qn3 : ∀ a, a < 7 → ∀ b, b < 7 → a ≠ b → (qT3 a).2.1 ≠ (qT3 b).2.1 := by decide +kernel
theorem qto3 : ∀ k, k < 7 → parseFieldDescriptor (qT3 k).2.2.1 = some (qt3 k) := by decide +kernel
def qR4 : String := "TreeDiffer$Setup"
def qT4 : u_T := fun k => match k with
  | 0 => ("TreeDiffer$Setup", "first", "LTreeDiffer$Tree;", false)
  | 1 => ("TreeDiffer$Setup", "second", "LTreeDiffer$Tree;", false)
  | 2 => ("TreeDiffer$Setup", "height", "I", false)
  | _ => ("TreeDiffer$Setup", "percent", "I", false)
def qt4 : Nat → FieldType := fun k => match k with
  | 0 => .object "TreeDiffer$Tree"
  | 1 => .object "TreeDiffer$Tree"
  | 2 => .int
  | _ => .int
theorem qn4 : ∀ a, a < 4 → ∀ b, b < 4 → a ≠ b → (qT4 a).2.1 ≠ (qT4 b).2.1 := by decide +kernel
theorem qto4 : ∀ k, k < 4 → parseFieldDescriptor (qT4 k).2.2.1 = some (qt4 k) := by decide +kernel
def qR5 : String := "TreeDiffer$Step"
def qT5 : u_T := fun k => match k with
  | 0 => ("TreeDiffer$Step", "kind", "I", false)
  | 1 => ("TreeDiffer$Step", "room", "I", false)
  | 2 => ("TreeDiffer$Step", "under", "I", false)
  | 3 => ("TreeDiffer$Step", "place", "I", false)
  | 4 => ("TreeDiffer$Step", "label", "I", false)
  | 5 => ("TreeDiffer$Step", "value", "I", false)
  | 6 => ("TreeDiffer$Step", "oldUnder", "I", false)
  | 7 => ("TreeDiffer$Step", "oldPlace", "I", false)
  | _ => ("TreeDiffer$Step", "oldValue", "I", false)
def qt5 : Nat → FieldType := fun k => match k with
  | 0 => .int
  | 1 => .int
  | 2 => .int
  | 3 => .int
  | 4 => .int
  | 5 => .int
  | 6 => .int
  | 7 => .int
  | _ => .int
theorem qn5 : ∀ a, a < 9 → ∀ b, b < 9 → a ≠ b → (qT5 a).2.1 ≠ (qT5 b).2.1 := by decide +kernel
theorem qto5 : ∀ k, k < 9 → parseFieldDescriptor (qT5 k).2.2.1 = some (qt5 k) := by decide +kernel
def qR6 : String := "TreeDiffer$Text"
def qT6 : u_T := fun k => match k with
  | 0 => ("TreeDiffer$Text", "bytes", "[I", true)
  | 1 => ("TreeDiffer$Text", "length", "I", false)
  | 2 => ("TreeDiffer$Text", "tree", "LTreeDiffer$Tree;", true)
  | 3 => ("TreeDiffer$Text", "open", "I", false)
  | 4 => ("TreeDiffer$Text", "state", "I", false)
  | _ => ("TreeDiffer$Text", "parent", "I", false)
def qt6 : Nat → FieldType := fun k => match k with
  | 0 => .array (.int)
  | 1 => .int
  | 2 => .object "TreeDiffer$Tree"
  | 3 => .int
  | 4 => .int
  | _ => .int
theorem qn6 : ∀ a, a < 6 → ∀ b, b < 6 → a ≠ b → (qT6 a).2.1 ≠ (qT6 b).2.1 := by decide +kernel
theorem qto6 : ∀ k, k < 6 → parseFieldDescriptor (qT6 k).2.2.1 = some (qt6 k) := by decide +kernel
def qR7 : String := "TreeDiffer$Tree"
def qT7 : u_T := fun k => match k with
  | 0 => ("TreeDiffer$Tree", "nodes", "I", false)
  | 1 => ("TreeDiffer$Tree", "label", "[I", true)
  | 2 => ("TreeDiffer$Tree", "value", "[I", true)
  | 3 => ("TreeDiffer$Tree", "parent", "[I", true)
  | 4 => ("TreeDiffer$Tree", "place", "[I", true)
  | 5 => ("TreeDiffer$Tree", "depth", "[I", true)
  | 6 => ("TreeDiffer$Tree", "children", "[I", true)
  | 7 => ("TreeDiffer$Tree", "below", "[I", true)
  | 8 => ("TreeDiffer$Tree", "height", "[I", true)
  | _ => ("TreeDiffer$Tree", "postorder", "[I", true)
def qt7 : Nat → FieldType := fun k => match k with
  | 0 => .int
  | 1 => .array (.int)
  | 2 => .array (.int)
  | 3 => .array (.int)
  | 4 => .array (.int)
  | 5 => .array (.int)
  | 6 => .array (.int)
  | 7 => .array (.int)
  | 8 => .array (.int)
  | _ => .array (.int)
theorem qn7 : ∀ a, a < 10 → ∀ b, b < 10 → a ≠ b → (qT7 a).2.1 ≠ (qT7 b).2.1 := by decide +kernel
theorem qto7 : ∀ k, k < 10 → parseFieldDescriptor (qT7 k).2.2.1 = some (qt7 k) := by decide +kernel
def qR8 : String := "TreeDiffer$WorkTree"
def qT8 : u_T := fun k => match k with
  | 0 => ("TreeDiffer$WorkTree", "label", "[I", true)
  | 1 => ("TreeDiffer$WorkTree", "value", "[I", true)
  | 2 => ("TreeDiffer$WorkTree", "parent", "[I", true)
  | _ => ("TreeDiffer$WorkTree", "place", "[I", true)
def qt8 : Nat → FieldType := fun k => match k with
  | 0 => .array (.int)
  | 1 => .array (.int)
  | 2 => .array (.int)
  | _ => .array (.int)
theorem qn8 : ∀ a, a < 4 → ∀ b, b < 4 → a ≠ b → (qT8 a).2.1 ≠ (qT8 b).2.1 := by decide +kernel
theorem qto8 : ∀ k, k < 4 → parseFieldDescriptor (qT8 k).2.2.1 = some (qt8 k) := by decide +kernel
def qR9 : String := "TreeDiffer"
def qT9 : u_T := fun k => match k with
  | 0 => ("TreeDiffer", "text", "LTreeDiffer$Text;", true)
  | 1 => ("TreeDiffer", "setup", "LTreeDiffer$Setup;", true)
  | 2 => ("TreeDiffer", "saved", "[LTreeDiffer$Setup;", true)
  | 3 => ("TreeDiffer", "isSaved", "[Z", true)
  | 4 => ("TreeDiffer", "matching", "LTreeDiffer$Matching;", true)
  | 5 => ("TreeDiffer", "script", "LTreeDiffer$Script;", true)
  | 6 => ("TreeDiffer", "editDistance", "LTreeDiffer$EditDistance;", true)
  | 7 => ("TreeDiffer", "work", "LTreeDiffer$WorkTree;", true)
  | 8 => ("TreeDiffer", "spare", "LTreeDiffer$WorkTree;", true)
  | 9 => ("TreeDiffer", "output", "LTreeDiffer$Output;", true)
  | 10 => ("TreeDiffer", "spareOutput", "LTreeDiffer$Output;", true)
  | 11 => ("TreeDiffer", "isCompared", "Z", false)
  | 12 => ("TreeDiffer", "knownDistance", "I", false)
  | _ => ("TreeDiffer", "carriedOut", "I", false)
def qt9 : Nat → FieldType := fun k => match k with
  | 0 => .object "TreeDiffer$Text"
  | 1 => .object "TreeDiffer$Setup"
  | 2 => .array (.object "TreeDiffer$Setup")
  | 3 => .array (.boolean)
  | 4 => .object "TreeDiffer$Matching"
  | 5 => .object "TreeDiffer$Script"
  | 6 => .object "TreeDiffer$EditDistance"
  | 7 => .object "TreeDiffer$WorkTree"
  | 8 => .object "TreeDiffer$WorkTree"
  | 9 => .object "TreeDiffer$Output"
  | 10 => .object "TreeDiffer$Output"
  | 11 => .boolean
  | 12 => .int
  | _ => .int
theorem qn9 : ∀ a, a < 14 → ∀ b, b < 14 → a ≠ b → (qT9 a).2.1 ≠ (qT9 b).2.1 := by decide +kernel
theorem qto9 : ∀ k, k < 14 → parseFieldDescriptor (qT9 k).2.2.1 = some (qt9 k) := by decide +kernel
def qR10 : String := "TreeDifferModel"
def qT10 : u_T := fun k => match k with
  | 0 => ("TreeDifferModel", "many", "[I", true)
  | 1 => ("TreeDifferModel", "labels", "[I", true)
  | 2 => ("TreeDifferModel", "values", "[I", true)
  | 3 => ("TreeDifferModel", "parents", "[I", true)
  | 4 => ("TreeDifferModel", "least", "I", false)
  | 5 => ("TreeDifferModel", "percent", "I", false)
  | 6 => ("TreeDifferModel", "done", "I", false)
  | 7 => ("TreeDifferModel", "kept", "[I", true)
  | 8 => ("TreeDifferModel", "isKept", "[Z", true)
  | 9 => ("TreeDifferModel", "text", "[I", true)
  | 10 => ("TreeDifferModel", "length", "I", false)
  | 11 => ("TreeDifferModel", "paper", "[I", true)
  | 12 => ("TreeDifferModel", "printed", "I", false)
  | 13 => ("TreeDifferModel", "place", "I", false)
  | 14 => ("TreeDifferModel", "open", "[I", true)
  | 15 => ("TreeDifferModel", "depth", "I", false)
  | 16 => ("TreeDifferModel", "may", "I", false)
  | 17 => ("TreeDifferModel", "isShut", "Z", false)
  | 18 => ("TreeDifferModel", "sizes", "[I", true)
  | 19 => ("TreeDifferModel", "heights", "[I", true)
  | 20 => ("TreeDifferModel", "isFound", "Z", false)
  | 21 => ("TreeDifferModel", "partner0", "[I", true)
  | 22 => ("TreeDifferModel", "partner1", "[I", true)
  | 23 => ("TreeDifferModel", "phases", "[I", true)
  | 24 => ("TreeDifferModel", "post", "[I", true)
  | 25 => ("TreeDifferModel", "above", "[I", true)
  | 26 => ("TreeDifferModel", "label", "[I", true)
  | 27 => ("TreeDifferModel", "value", "[I", true)
  | 28 => ("TreeDifferModel", "kids", "[I", true)
  | 29 => ("TreeDifferModel", "kidMany", "[I", true)
  | 30 => ("TreeDifferModel", "script", "[I", true)
  | 31 => ("TreeDifferModel", "steps", "I", false)
  | 32 => ("TreeDifferModel", "inCopy", "[I", true)
  | 33 => ("TreeDifferModel", "isMarked", "[Z", true)
  | 34 => ("TreeDifferModel", "row", "[I", true)
  | 35 => ("TreeDifferModel", "longest", "[I", true)
  | 36 => ("TreeDifferModel", "rows", "I", false)
  | 37 => ("TreeDifferModel", "posts", "[I", true)
  | 38 => ("TreeDifferModel", "lefts", "[I", true)
  | 39 => ("TreeDifferModel", "between", "[I", true)
  | 40 => ("TreeDifferModel", "forest", "[I", true)
  | 41 => ("TreeDifferModel", "draft", "[I", true)
  | 42 => ("TreeDifferModel", "drafted", "I", false)
  | 43 => ("TreeDifferModel", "line", "[I", true)
  | _ => ("TreeDifferModel", "next", "[I", true)
def qt10 : Nat → FieldType := fun k => match k with
  | 0 => .array (.int)
  | 1 => .array (.int)
  | 2 => .array (.int)
  | 3 => .array (.int)
  | 4 => .int
  | 5 => .int
  | 6 => .int
  | 7 => .array (.int)
  | 8 => .array (.boolean)
  | 9 => .array (.int)
  | 10 => .int
  | 11 => .array (.int)
  | 12 => .int
  | 13 => .int
  | 14 => .array (.int)
  | 15 => .int
  | 16 => .int
  | 17 => .boolean
  | 18 => .array (.int)
  | 19 => .array (.int)
  | 20 => .boolean
  | 21 => .array (.int)
  | 22 => .array (.int)
  | 23 => .array (.int)
  | 24 => .array (.int)
  | 25 => .array (.int)
  | 26 => .array (.int)
  | 27 => .array (.int)
  | 28 => .array (.int)
  | 29 => .array (.int)
  | 30 => .array (.int)
  | 31 => .int
  | 32 => .array (.int)
  | 33 => .array (.boolean)
  | 34 => .array (.int)
  | 35 => .array (.int)
  | 36 => .int
  | 37 => .array (.int)
  | 38 => .array (.int)
  | 39 => .array (.int)
  | 40 => .array (.int)
  | 41 => .array (.int)
  | 42 => .int
  | 43 => .array (.int)
  | _ => .array (.int)
theorem qn10 : ∀ a, a < 45 → ∀ b, b < 45 → a ≠ b → (qT10 a).2.1 ≠ (qT10 b).2.1 := by decide +kernel
theorem qto10 : ∀ k, k < 45 → parseFieldDescriptor (qT10 k).2.2.1 = some (qt10 k) := by decide +kernel
abbrev classes : List vw_C := [(qR0, qT0, 2), (qR1, qT1, 4), (qR2, qT2, 2), (qR3, qT3, 7), (qR4, qT4, 4), (qR5, qT5, 9), (qR6, qT6, 6), (qR7, qT7, 10), (qR8, qT8, 4), (qR9, qT9, 14), (qR10, qT10, 45)]
abbrev c_ED_init : ByteArray := prog_2_method_1_code
def y_ED_init : MethodName := ⟨"TreeDiffer$EditDistance", "<init>", "()V"⟩
abbrev c_ED_compute : ByteArray := prog_2_method_2_code
def y_ED_compute : MethodName := ⟨"TreeDiffer$EditDistance", "compute", "(LTreeDiffer$Setup;)I"⟩
abbrev c_ED_isKey : ByteArray := prog_2_method_3_code
def y_ED_isKey : MethodName := ⟨"TreeDiffer$EditDistance", "isKey", "(LTreeDiffer$Tree;I)Z"⟩
abbrev c_ED_compareSubtrees : ByteArray := prog_2_method_4_code
def y_ED_compareSubtrees : MethodName := ⟨"TreeDiffer$EditDistance", "compareSubtrees", "(LTreeDiffer$Setup;II)V"⟩
abbrev c_Ma_init : ByteArray := prog_3_method_1_code
def y_Ma_init : MethodName := ⟨"TreeDiffer$Matching", "<init>", "()V"⟩
abbrev c_Ma_find : ByteArray := prog_3_method_2_code
def y_Ma_find : MethodName := ⟨"TreeDiffer$Matching", "find", "(LTreeDiffer$Setup;)V"⟩
abbrev c_Ma_pair : ByteArray := prog_3_method_3_code
def y_Ma_pair : MethodName := ⟨"TreeDiffer$Matching", "pair", "(III)V"⟩
abbrev c_Ma_pairEqualSubtrees : ByteArray := prog_3_method_4_code
def y_Ma_pairEqualSubtrees : MethodName := ⟨"TreeDiffer$Matching", "pairEqualSubtrees", "(LTreeDiffer$Setup;)V"⟩
abbrev c_Ma_pairNearest : ByteArray := prog_3_method_5_code
def y_Ma_pairNearest : MethodName := ⟨"TreeDiffer$Matching", "pairNearest", "(LTreeDiffer$Setup;I)Z"⟩
abbrev c_Ma_nearness : ByteArray := prog_3_method_6_code
def y_Ma_nearness : MethodName := ⟨"TreeDiffer$Matching", "nearness", "(LTreeDiffer$Setup;II)I"⟩
abbrev c_Ma_pairByDescendants : ByteArray := prog_3_method_7_code
def y_Ma_pairByDescendants : MethodName := ⟨"TreeDiffer$Matching", "pairByDescendants", "(LTreeDiffer$Setup;)V"⟩
abbrev c_Ma_mostAlike : ByteArray := prog_3_method_8_code
def y_Ma_mostAlike : MethodName := ⟨"TreeDiffer$Matching", "mostAlike", "(LTreeDiffer$Setup;I)I"⟩
abbrev c_Ma_commonBelow : ByteArray := prog_3_method_9_code
def y_Ma_commonBelow : MethodName := ⟨"TreeDiffer$Matching", "commonBelow", "(LTreeDiffer$Setup;II)I"⟩
abbrev c_Ma_pairRoots : ByteArray := prog_3_method_10_code
def y_Ma_pairRoots : MethodName := ⟨"TreeDiffer$Matching", "pairRoots", "(LTreeDiffer$Setup;)V"⟩
abbrev c_Ou_init : ByteArray := prog_4_method_1_code
def y_Ou_init : MethodName := ⟨"TreeDiffer$Output", "<init>", "()V"⟩
abbrev c_Ou_write : ByteArray := prog_4_method_2_code
def y_Ou_write : MethodName := ⟨"TreeDiffer$Output", "write", "(LTreeDiffer$WorkTree;)V"⟩
abbrev c_Ou_closeUpToNext : ByteArray := prog_4_method_3_code
def y_Ou_closeUpToNext : MethodName := ⟨"TreeDiffer$Output", "closeUpToNext", "(LTreeDiffer$WorkTree;I)I"⟩
abbrev c_Ou_putContent : ByteArray := prog_4_method_4_code
def y_Ou_putContent : MethodName := ⟨"TreeDiffer$Output", "putContent", "(II)V"⟩
abbrev c_Ou_put : ByteArray := prog_4_method_5_code
def y_Ou_put : MethodName := ⟨"TreeDiffer$Output", "put", "(I)V"⟩
abbrev c_Sc_init : ByteArray := prog_5_method_1_code
def y_Sc_init : MethodName := ⟨"TreeDiffer$Script", "<init>", "()V"⟩
abbrev c_Sc_make : ByteArray := prog_5_method_2_code
def y_Sc_make : MethodName := ⟨"TreeDiffer$Script", "make", "(LTreeDiffer$Setup;LTreeDiffer$Matching;)V"⟩
abbrev c_Sc_addStep : ByteArray := prog_5_method_3_code
def y_Sc_addStep : MethodName := ⟨"TreeDiffer$Script", "addStep", "(II)LTreeDiffer$Step;"⟩
abbrev c_Sc_bringIntoLine : ByteArray := prog_5_method_4_code
def y_Sc_bringIntoLine : MethodName := ⟨"TreeDiffer$Script", "bringIntoLine", "(LTreeDiffer$Tree;I)V"⟩
abbrev c_Sc_partnerOf : ByteArray := prog_5_method_5_code
def y_Sc_partnerOf : MethodName := ⟨"TreeDiffer$Script", "partnerOf", "(I)I"⟩
abbrev c_Sc_insert : ByteArray := prog_5_method_6_code
def y_Sc_insert : MethodName := ⟨"TreeDiffer$Script", "insert", "(LTreeDiffer$Tree;I)V"⟩
abbrev c_Sc_update : ByteArray := prog_5_method_7_code
def y_Sc_update : MethodName := ⟨"TreeDiffer$Script", "update", "(II)V"⟩
abbrev c_Sc_move : ByteArray := prog_5_method_8_code
def y_Sc_move : MethodName := ⟨"TreeDiffer$Script", "move", "(LTreeDiffer$Tree;I)V"⟩
abbrev c_Sc_placeFor : ByteArray := prog_5_method_9_code
def y_Sc_placeFor : MethodName := ⟨"TreeDiffer$Script", "placeFor", "(LTreeDiffer$Tree;I)I"⟩
abbrev c_Sc_putChildrenInOrder : ByteArray := prog_5_method_10_code
def y_Sc_putChildrenInOrder : MethodName := ⟨"TreeDiffer$Script", "putChildrenInOrder", "(LTreeDiffer$Tree;I)V"⟩
abbrev c_Sc_gatherChildren : ByteArray := prog_5_method_11_code
def y_Sc_gatherChildren : MethodName := ⟨"TreeDiffer$Script", "gatherChildren", "(LTreeDiffer$Tree;I)I"⟩
abbrev c_Sc_isBelow : ByteArray := prog_5_method_12_code
def y_Sc_isBelow : MethodName := ⟨"TreeDiffer$Script", "isBelow", "(II)Z"⟩
abbrev c_Sc_placeOf : ByteArray := prog_5_method_13_code
def y_Sc_placeOf : MethodName := ⟨"TreeDiffer$Script", "placeOf", "(I)I"⟩
abbrev c_Sc_measureSequences : ByteArray := prog_5_method_14_code
def y_Sc_measureSequences : MethodName := ⟨"TreeDiffer$Script", "measureSequences", "(I)I"⟩
abbrev c_Sc_markLongest : ByteArray := prog_5_method_15_code
def y_Sc_markLongest : MethodName := ⟨"TreeDiffer$Script", "markLongest", "(II)V"⟩
abbrev c_Sc_deleteRest : ByteArray := prog_5_method_16_code
def y_Sc_deleteRest : MethodName := ⟨"TreeDiffer$Script", "deleteRest", "(LTreeDiffer$Tree;LTreeDiffer$Matching;)V"⟩
abbrev c_Se_init : ByteArray := prog_6_method_1_code
def y_Se_init : MethodName := ⟨"TreeDiffer$Setup", "<init>", "()V"⟩
abbrev c_Se_treeOf : ByteArray := prog_6_method_2_code
def y_Se_treeOf : MethodName := ⟨"TreeDiffer$Setup", "treeOf", "(I)LTreeDiffer$Tree;"⟩
abbrev c_Se_copy : ByteArray := prog_6_method_3_code
def y_Se_copy : MethodName := ⟨"TreeDiffer$Setup", "copy", "(LTreeDiffer$Setup;)V"⟩
abbrev c_Se_swapTrees : ByteArray := prog_6_method_4_code
def y_Se_swapTrees : MethodName := ⟨"TreeDiffer$Setup", "swapTrees", "()V"⟩
abbrev c_Se_haveSameLabel : ByteArray := prog_6_method_5_code
def y_Se_haveSameLabel : MethodName := ⟨"TreeDiffer$Setup", "haveSameLabel", "(II)Z"⟩
abbrev c_Se_haveSameContent : ByteArray := prog_6_method_6_code
def y_Se_haveSameContent : MethodName := ⟨"TreeDiffer$Setup", "haveSameContent", "(II)Z"⟩
abbrev c_Se_areEqual : ByteArray := prog_6_method_7_code
def y_Se_areEqual : MethodName := ⟨"TreeDiffer$Setup", "areEqual", "(II)Z"⟩
abbrev c_Se_kinship : ByteArray := prog_6_method_8_code
def y_Se_kinship : MethodName := ⟨"TreeDiffer$Setup", "kinship", "(II)I"⟩
abbrev c_Sp_init : ByteArray := prog_7_method_1_code
def y_Sp_init : MethodName := ⟨"TreeDiffer$Step", "<init>", "()V"⟩
abbrev c_Sp_tell : ByteArray := prog_7_method_2_code
def y_Sp_tell : MethodName := ⟨"TreeDiffer$Step", "tell", "(I)I"⟩
abbrev c_Tx_init : ByteArray := prog_8_method_1_code
def y_Tx_init : MethodName := ⟨"TreeDiffer$Text", "<init>", "()V"⟩
abbrev c_Tx_add : ByteArray := prog_8_method_2_code
def y_Tx_add : MethodName := ⟨"TreeDiffer$Text", "add", "(I)Z"⟩
abbrev c_Tx_findFault : ByteArray := prog_8_method_3_code
def y_Tx_findFault : MethodName := ⟨"TreeDiffer$Text", "findFault", "()I"⟩
abbrev c_Tx_takes : ByteArray := prog_8_method_4_code
def y_Tx_takes : MethodName := ⟨"TreeDiffer$Text", "takes", "(I)Z"⟩
abbrev c_Tx_takesLabel : ByteArray := prog_8_method_5_code
def y_Tx_takesLabel : MethodName := ⟨"TreeDiffer$Text", "takesLabel", "(I)Z"⟩
abbrev c_Tx_takesDigit : ByteArray := prog_8_method_6_code
def y_Tx_takesDigit : MethodName := ⟨"TreeDiffer$Text", "takesDigit", "(I)Z"⟩
abbrev c_Tx_takesOpening : ByteArray := prog_8_method_7_code
def y_Tx_takesOpening : MethodName := ⟨"TreeDiffer$Text", "takesOpening", "()Z"⟩
abbrev c_Tx_takesSpace : ByteArray := prog_8_method_8_code
def y_Tx_takesSpace : MethodName := ⟨"TreeDiffer$Text", "takesSpace", "()Z"⟩
abbrev c_Tx_takesClosing : ByteArray := prog_8_method_9_code
def y_Tx_takesClosing : MethodName := ⟨"TreeDiffer$Text", "takesClosing", "()Z"⟩
abbrev c_Tr_init : ByteArray := prog_9_method_1_code
def y_Tr_init : MethodName := ⟨"TreeDiffer$Tree", "<init>", "()V"⟩
abbrev c_Tr_copy : ByteArray := prog_9_method_2_code
def y_Tr_copy : MethodName := ⟨"TreeDiffer$Tree", "copy", "(LTreeDiffer$Tree;)V"⟩
abbrev c_Tr_add : ByteArray := prog_9_method_3_code
def y_Tr_add : MethodName := ⟨"TreeDiffer$Tree", "add", "(II)Z"⟩
abbrev c_Tr_complete : ByteArray := prog_9_method_4_code
def y_Tr_complete : MethodName := ⟨"TreeDiffer$Tree", "complete", "()V"⟩
abbrev c_Tr_sortInPostorder : ByteArray := prog_9_method_5_code
def y_Tr_sortInPostorder : MethodName := ⟨"TreeDiffer$Tree", "sortInPostorder", "()V"⟩
abbrev c_Tr_endOf : ByteArray := prog_9_method_6_code
def y_Tr_endOf : MethodName := ⟨"TreeDiffer$Tree", "endOf", "(I)I"⟩
abbrev c_Tr_childAt : ByteArray := prog_9_method_7_code
def y_Tr_childAt : MethodName := ⟨"TreeDiffer$Tree", "childAt", "(II)I"⟩
abbrev c_Wt_init : ByteArray := prog_10_method_1_code
def y_Wt_init : MethodName := ⟨"TreeDiffer$WorkTree", "<init>", "()V"⟩
abbrev c_Wt_load : ByteArray := prog_10_method_2_code
def y_Wt_load : MethodName := ⟨"TreeDiffer$WorkTree", "load", "(LTreeDiffer$Tree;)V"⟩
abbrev c_Wt_has : ByteArray := prog_10_method_3_code
def y_Wt_has : MethodName := ⟨"TreeDiffer$WorkTree", "has", "(I)Z"⟩
abbrev c_Wt_childAt : ByteArray := prog_10_method_4_code
def y_Wt_childAt : MethodName := ⟨"TreeDiffer$WorkTree", "childAt", "(II)I"⟩
abbrev c_Wt_takeOut : ByteArray := prog_10_method_5_code
def y_Wt_takeOut : MethodName := ⟨"TreeDiffer$WorkTree", "takeOut", "(I)V"⟩
abbrev c_Wt_putIn : ByteArray := prog_10_method_6_code
def y_Wt_putIn : MethodName := ⟨"TreeDiffer$WorkTree", "putIn", "(III)V"⟩
abbrev c_Wt_carryOut : ByteArray := prog_10_method_7_code
def y_Wt_carryOut : MethodName := ⟨"TreeDiffer$WorkTree", "carryOut", "(LTreeDiffer$Step;)V"⟩
abbrev c_Wt_takeBack : ByteArray := prog_10_method_8_code
def y_Wt_takeBack : MethodName := ⟨"TreeDiffer$WorkTree", "takeBack", "(LTreeDiffer$Step;)V"⟩
abbrev c_TD_init : ByteArray := prog_1_method_1_code
def y_TD_init : MethodName := ⟨"TreeDiffer", "<init>", "()V"⟩
abbrev c_TD_append : ByteArray := prog_1_method_2_code
def y_TD_append : MethodName := ⟨"TreeDiffer", "append", "(I)I"⟩
abbrev c_TD_clearText : ByteArray := prog_1_method_3_code
def y_TD_clearText : MethodName := ⟨"TreeDiffer", "clearText", "()I"⟩
abbrev c_TD_faultPosition : ByteArray := prog_1_method_4_code
def y_TD_faultPosition : MethodName := ⟨"TreeDiffer", "faultPosition", "()I"⟩
abbrev c_TD_faultDepth : ByteArray := prog_1_method_5_code
def y_TD_faultDepth : MethodName := ⟨"TreeDiffer", "faultDepth", "()I"⟩
abbrev c_TD_read : ByteArray := prog_1_method_6_code
def y_TD_read : MethodName := ⟨"TreeDiffer", "read", "(I)I"⟩
abbrev c_TD_exchange : ByteArray := prog_1_method_7_code
def y_TD_exchange : MethodName := ⟨"TreeDiffer", "exchange", "()I"⟩
abbrev c_TD_nodes : ByteArray := prog_1_method_8_code
def y_TD_nodes : MethodName := ⟨"TreeDiffer", "nodes", "(I)I"⟩
abbrev c_TD_node : ByteArray := prog_1_method_9_code
def y_TD_node : MethodName := ⟨"TreeDiffer", "node", "(III)I"⟩
abbrev c_TD_child : ByteArray := prog_1_method_10_code
def y_TD_child : MethodName := ⟨"TreeDiffer", "child", "(III)I"⟩
abbrev c_TD_equal : ByteArray := prog_1_method_11_code
def y_TD_equal : MethodName := ⟨"TreeDiffer", "equal", "(II)I"⟩
abbrev c_TD_setMatching : ByteArray := prog_1_method_12_code
def y_TD_setMatching : MethodName := ⟨"TreeDiffer", "setMatching", "(II)I"⟩
abbrev c_TD_pairs : ByteArray := prog_1_method_13_code
def y_TD_pairs : MethodName := ⟨"TreeDiffer", "pairs", "()I"⟩
abbrev c_TD_partner : ByteArray := prog_1_method_14_code
def y_TD_partner : MethodName := ⟨"TreeDiffer", "partner", "(II)I"⟩
abbrev c_TD_phase : ByteArray := prog_1_method_15_code
def y_TD_phase : MethodName := ⟨"TreeDiffer", "phase", "(I)I"⟩
abbrev c_TD_likeness : ByteArray := prog_1_method_16_code
def y_TD_likeness : MethodName := ⟨"TreeDiffer", "likeness", "(II)I"⟩
abbrev c_TD_steps : ByteArray := prog_1_method_17_code
def y_TD_steps : MethodName := ⟨"TreeDiffer", "steps", "()I"⟩
abbrev c_TD_step : ByteArray := prog_1_method_18_code
def y_TD_step : MethodName := ⟨"TreeDiffer", "step", "(II)I"⟩
abbrev c_TD_count : ByteArray := prog_1_method_19_code
def y_TD_count : MethodName := ⟨"TreeDiffer", "count", "(I)I"⟩
abbrev c_TD_distance : ByteArray := prog_1_method_20_code
def y_TD_distance : MethodName := ⟨"TreeDiffer", "distance", "()I"⟩
abbrev c_TD_start : ByteArray := prog_1_method_21_code
def y_TD_start : MethodName := ⟨"TreeDiffer", "start", "()I"⟩
abbrev c_TD_stepOn : ByteArray := prog_1_method_22_code
def y_TD_stepOn : MethodName := ⟨"TreeDiffer", "stepOn", "()I"⟩
abbrev c_TD_stepBack : ByteArray := prog_1_method_23_code
def y_TD_stepBack : MethodName := ⟨"TreeDiffer", "stepBack", "()I"⟩
abbrev c_TD_workingChild : ByteArray := prog_1_method_24_code
def y_TD_workingChild : MethodName := ⟨"TreeDiffer", "workingChild", "(II)I"⟩
abbrev c_TD_workingNode : ByteArray := prog_1_method_25_code
def y_TD_workingNode : MethodName := ⟨"TreeDiffer", "workingNode", "(II)I"⟩
abbrev c_TD_print : ByteArray := prog_1_method_26_code
def y_TD_print : MethodName := ⟨"TreeDiffer", "print", "(I)I"⟩
abbrev c_TD_printed : ByteArray := prog_1_method_27_code
def y_TD_printed : MethodName := ⟨"TreeDiffer", "printed", "(I)I"⟩
abbrev c_TD_save : ByteArray := prog_1_method_28_code
def y_TD_save : MethodName := ⟨"TreeDiffer", "save", "(I)I"⟩
abbrev c_TD_restore : ByteArray := prog_1_method_29_code
def y_TD_restore : MethodName := ⟨"TreeDiffer", "restore", "(I)I"⟩
abbrev c_TD_checksum : ByteArray := prog_1_method_30_code
def y_TD_checksum : MethodName := ⟨"TreeDiffer", "checksum", "()J"⟩
abbrev c_TD_isTree : ByteArray := prog_1_method_31_code
def y_TD_isTree : MethodName := ⟨"TreeDiffer", "isTree", "(I)Z"⟩
abbrev c_TD_isSlot : ByteArray := prog_1_method_32_code
def y_TD_isSlot : MethodName := ⟨"TreeDiffer", "isSlot", "(I)Z"⟩
abbrev c_TD_isNode : ByteArray := prog_1_method_33_code
def y_TD_isNode : MethodName := ⟨"TreeDiffer", "isNode", "(II)Z"⟩
abbrev c_TD_orNone : ByteArray := prog_1_method_34_code
def y_TD_orNone : MethodName := ⟨"TreeDiffer", "orNone", "(I)I"⟩
abbrev c_TD_compare : ByteArray := prog_1_method_35_code
def y_TD_compare : MethodName := ⟨"TreeDiffer", "compare", "()V"⟩
abbrev c_TD_forgetAnswers : ByteArray := prog_1_method_36_code
def y_TD_forgetAnswers : MethodName := ⟨"TreeDiffer", "forgetAnswers", "()V"⟩
abbrev c_TD_rewind : ByteArray := prog_1_method_37_code
def y_TD_rewind : MethodName := ⟨"TreeDiffer", "rewind", "()V"⟩
abbrev c_TD_roomOf : ByteArray := prog_1_method_38_code
def y_TD_roomOf : MethodName := ⟨"TreeDiffer", "roomOf", "(I)I"⟩
abbrev c_TD_roomOfInserted : ByteArray := prog_1_method_39_code
def y_TD_roomOfInserted : MethodName := ⟨"TreeDiffer", "roomOfInserted", "(I)I"⟩
abbrev c_TD_numberOf : ByteArray := prog_1_method_40_code
def y_TD_numberOf : MethodName := ⟨"TreeDiffer", "numberOf", "(I)I"⟩
abbrev c_Mo_init : ByteArray := prog_12_method_1_code
def y_Mo_init : MethodName := ⟨"TreeDifferModel", "<init>", "()V"⟩
abbrev c_Mo_in : ByteArray := prog_12_method_3_code
def y_Mo_in : MethodName := ⟨"TreeDifferModel", "in", "(III)Z"⟩
abbrev c_Mo_at : ByteArray := prog_12_method_4_code
def y_Mo_at : MethodName := ⟨"TreeDifferModel", "at", "(II)I"⟩
abbrev c_Mo_isNode : ByteArray := prog_12_method_5_code
def y_Mo_isNode : MethodName := ⟨"TreeDifferModel", "isNode", "(II)Z"⟩
abbrev c_Mo_append : ByteArray := prog_12_method_6_code
def y_Mo_append : MethodName := ⟨"TreeDifferModel", "append", "(I)I"⟩
abbrev c_Mo_clearText : ByteArray := prog_12_method_7_code
def y_Mo_clearText : MethodName := ⟨"TreeDifferModel", "clearText", "()I"⟩
abbrev c_Mo_here : ByteArray := prog_12_method_8_code
def y_Mo_here : MethodName := ⟨"TreeDifferModel", "here", "()I"⟩
abbrev c_Mo_isLabelRead : ByteArray := prog_12_method_9_code
def y_Mo_isLabelRead : MethodName := ⟨"TreeDifferModel", "isLabelRead", "(I)Z"⟩
abbrev c_Mo_isDigitRead : ByteArray := prog_12_method_10_code
def y_Mo_isDigitRead : MethodName := ⟨"TreeDifferModel", "isDigitRead", "(I)Z"⟩
abbrev c_Mo_isOther : ByteArray := prog_12_method_11_code
def y_Mo_isOther : MethodName := ⟨"TreeDifferModel", "isOther", "(I)Z"⟩
abbrev c_Mo_isText : ByteArray := prog_12_method_12_code
def y_Mo_isText : MethodName := ⟨"TreeDifferModel", "isText", "()Z"⟩
abbrev c_Mo_faultPosition : ByteArray := prog_12_method_13_code
def y_Mo_faultPosition : MethodName := ⟨"TreeDifferModel", "faultPosition", "()I"⟩
abbrev c_Mo_faultDepth : ByteArray := prog_12_method_14_code
def y_Mo_faultDepth : MethodName := ⟨"TreeDifferModel", "faultDepth", "()I"⟩
abbrev c_Mo_copiesTree : ByteArray := prog_12_method_15_code
def y_Mo_copiesTree : MethodName := ⟨"TreeDifferModel", "copiesTree", "(II)V"⟩
abbrev c_Mo_read : ByteArray := prog_12_method_16_code
def y_Mo_read : MethodName := ⟨"TreeDifferModel", "read", "(I)I"⟩
abbrev c_Mo_exchange : ByteArray := prog_12_method_17_code
def y_Mo_exchange : MethodName := ⟨"TreeDifferModel", "exchange", "()I"⟩
abbrev c_Mo_measures : ByteArray := prog_12_method_18_code
def y_Mo_measures : MethodName := ⟨"TreeDifferModel", "measures", "(I)V"⟩
abbrev c_Mo_size : ByteArray := prog_12_method_19_code
def y_Mo_size : MethodName := ⟨"TreeDifferModel", "size", "(II)I"⟩
abbrev c_Mo_isBelow : ByteArray := prog_12_method_20_code
def y_Mo_isBelow : MethodName := ⟨"TreeDifferModel", "isBelow", "(III)Z"⟩
abbrev c_Mo_height : ByteArray := prog_12_method_21_code
def y_Mo_height : MethodName := ⟨"TreeDifferModel", "height", "(II)I"⟩
abbrev c_Mo_childAt : ByteArray := prog_12_method_22_code
def y_Mo_childAt : MethodName := ⟨"TreeDifferModel", "childAt", "(III)I"⟩
abbrev c_Mo_children : ByteArray := prog_12_method_23_code
def y_Mo_children : MethodName := ⟨"TreeDifferModel", "children", "(II)I"⟩
abbrev c_Mo_placeOf : ByteArray := prog_12_method_24_code
def y_Mo_placeOf : MethodName := ⟨"TreeDifferModel", "placeOf", "(II)I"⟩
abbrev c_Mo_nodes : ByteArray := prog_12_method_25_code
def y_Mo_nodes : MethodName := ⟨"TreeDifferModel", "nodes", "(I)I"⟩
abbrev c_Mo_node : ByteArray := prog_12_method_26_code
def y_Mo_node : MethodName := ⟨"TreeDifferModel", "node", "(III)I"⟩
abbrev c_Mo_child : ByteArray := prog_12_method_27_code
def y_Mo_child : MethodName := ⟨"TreeDifferModel", "child", "(III)I"⟩
abbrev c_Mo_areEqual : ByteArray := prog_12_method_28_code
def y_Mo_areEqual : MethodName := ⟨"TreeDifferModel", "areEqual", "(II)Z"⟩
abbrev c_Mo_equal : ByteArray := prog_12_method_29_code
def y_Mo_equal : MethodName := ⟨"TreeDifferModel", "equal", "(II)I"⟩
abbrev c_Mo_joins : ByteArray := prog_12_method_30_code
def y_Mo_joins : MethodName := ⟨"TreeDifferModel", "joins", "(III)V"⟩
abbrev c_Mo_kinship : ByteArray := prog_12_method_31_code
def y_Mo_kinship : MethodName := ⟨"TreeDifferModel", "kinship", "(II)I"⟩
abbrev c_Mo_bestPair : ByteArray := prog_12_method_32_code
def y_Mo_bestPair : MethodName := ⟨"TreeDifferModel", "bestPair", "(I)I"⟩
abbrev c_Mo_matchesDown : ByteArray := prog_12_method_33_code
def y_Mo_matchesDown : MethodName := ⟨"TreeDifferModel", "matchesDown", "()V"⟩
abbrev c_Mo_common : ByteArray := prog_12_method_34_code
def y_Mo_common : MethodName := ⟨"TreeDifferModel", "common", "(II)I"⟩
abbrev c_Mo_both : ByteArray := prog_12_method_35_code
def y_Mo_both : MethodName := ⟨"TreeDifferModel", "both", "(II)I"⟩
abbrev c_Mo_matchesUp : ByteArray := prog_12_method_36_code
def y_Mo_matchesUp : MethodName := ⟨"TreeDifferModel", "matchesUp", "(I)V"⟩
abbrev c_Mo_findPost : ByteArray := prog_12_method_37_code
def y_Mo_findPost : MethodName := ⟨"TreeDifferModel", "findPost", "(I)V"⟩
abbrev c_Mo_matches : ByteArray := prog_12_method_38_code
def y_Mo_matches : MethodName := ⟨"TreeDifferModel", "matches", "()V"⟩
abbrev c_Mo_setMatching : ByteArray := prog_12_method_39_code
def y_Mo_setMatching : MethodName := ⟨"TreeDifferModel", "setMatching", "(II)I"⟩
abbrev c_Mo_pairs : ByteArray := prog_12_method_40_code
def y_Mo_pairs : MethodName := ⟨"TreeDifferModel", "pairs", "()I"⟩
abbrev c_Mo_partner : ByteArray := prog_12_method_41_code
def y_Mo_partner : MethodName := ⟨"TreeDifferModel", "partner", "(II)I"⟩
abbrev c_Mo_phase : ByteArray := prog_12_method_42_code
def y_Mo_phase : MethodName := ⟨"TreeDifferModel", "phase", "(I)I"⟩
abbrev c_Mo_likeness : ByteArray := prog_12_method_43_code
def y_Mo_likeness : MethodName := ⟨"TreeDifferModel", "likeness", "(II)I"⟩
abbrev c_Mo_number : ByteArray := prog_12_method_44_code
def y_Mo_number : MethodName := ⟨"TreeDifferModel", "number", "(I)I"⟩
abbrev c_Mo_slot : ByteArray := prog_12_method_45_code
def y_Mo_slot : MethodName := ⟨"TreeDifferModel", "slot", "(I)I"⟩
abbrev c_Mo_copyBegins : ByteArray := prog_12_method_46_code
def y_Mo_copyBegins : MethodName := ⟨"TreeDifferModel", "copyBegins", "(I)V"⟩
abbrev c_Mo_putsIn : ByteArray := prog_12_method_47_code
def y_Mo_putsIn : MethodName := ⟨"TreeDifferModel", "putsIn", "(III)V"⟩
abbrev c_Mo_placeIn : ByteArray := prog_12_method_48_code
def y_Mo_placeIn : MethodName := ⟨"TreeDifferModel", "placeIn", "(I)I"⟩
abbrev c_Mo_takesOut : ByteArray := prog_12_method_49_code
def y_Mo_takesOut : MethodName := ⟨"TreeDifferModel", "takesOut", "(I)V"⟩
abbrev c_Mo_notes : ByteArray := prog_12_method_50_code
def y_Mo_notes : MethodName := ⟨"TreeDifferModel", "notes", "(IIIIII)V"⟩
abbrev c_Mo_parentOf : ByteArray := prog_12_method_51_code
def y_Mo_parentOf : MethodName := ⟨"TreeDifferModel", "parentOf", "(I)I"⟩
abbrev c_Mo_placeFor : ByteArray := prog_12_method_52_code
def y_Mo_placeFor : MethodName := ⟨"TreeDifferModel", "placeFor", "(I)I"⟩
abbrev c_Mo_moves : ByteArray := prog_12_method_53_code
def y_Mo_moves : MethodName := ⟨"TreeDifferModel", "moves", "(I)V"⟩
abbrev c_Mo_findRow : ByteArray := prog_12_method_54_code
def y_Mo_findRow : MethodName := ⟨"TreeDifferModel", "findRow", "(I)V"⟩
abbrev c_Mo_orders : ByteArray := prog_12_method_55_code
def y_Mo_orders : MethodName := ⟨"TreeDifferModel", "orders", "(I)V"⟩
abbrev c_Mo_goesThrough : ByteArray := prog_12_method_56_code
def y_Mo_goesThrough : MethodName := ⟨"TreeDifferModel", "goesThrough", "(I)V"⟩
abbrev c_Mo_level : ByteArray := prog_12_method_57_code
def y_Mo_level : MethodName := ⟨"TreeDifferModel", "level", "(I)I"⟩
abbrev c_Mo_writes : ByteArray := prog_12_method_58_code
def y_Mo_writes : MethodName := ⟨"TreeDifferModel", "writes", "()V"⟩
abbrev c_Mo_finds : ByteArray := prog_12_method_59_code
def y_Mo_finds : MethodName := ⟨"TreeDifferModel", "finds", "()V"⟩
abbrev c_Mo_changes : ByteArray := prog_12_method_60_code
def y_Mo_changes : MethodName := ⟨"TreeDifferModel", "changes", "()V"⟩
abbrev c_Mo_goesTo : ByteArray := prog_12_method_61_code
def y_Mo_goesTo : MethodName := ⟨"TreeDifferModel", "goesTo", "(I)V"⟩
abbrev c_Mo_steps : ByteArray := prog_12_method_62_code
def y_Mo_steps : MethodName := ⟨"TreeDifferModel", "steps", "()I"⟩
abbrev c_Mo_step : ByteArray := prog_12_method_63_code
def y_Mo_step : MethodName := ⟨"TreeDifferModel", "step", "(II)I"⟩
abbrev c_Mo_count : ByteArray := prog_12_method_64_code
def y_Mo_count : MethodName := ⟨"TreeDifferModel", "count", "(I)I"⟩
abbrev c_Mo_findLefts : ByteArray := prog_12_method_65_code
def y_Mo_findLefts : MethodName := ⟨"TreeDifferModel", "findLefts", "(I)V"⟩
abbrev c_Mo_least : ByteArray := prog_12_method_66_code
def y_Mo_least : MethodName := ⟨"TreeDifferModel", "least", "(II)I"⟩
abbrev c_Mo_isKey : ByteArray := prog_12_method_67_code
def y_Mo_isKey : MethodName := ⟨"TreeDifferModel", "isKey", "(II)Z"⟩
abbrev c_Mo_renaming : ByteArray := prog_12_method_68_code
def y_Mo_renaming : MethodName := ⟨"TreeDifferModel", "renaming", "(II)I"⟩
abbrev c_Mo_compares : ByteArray := prog_12_method_69_code
def y_Mo_compares : MethodName := ⟨"TreeDifferModel", "compares", "(II)V"⟩
abbrev c_Mo_distance : ByteArray := prog_12_method_70_code
def y_Mo_distance : MethodName := ⟨"TreeDifferModel", "distance", "()I"⟩
abbrev c_Mo_start : ByteArray := prog_12_method_71_code
def y_Mo_start : MethodName := ⟨"TreeDifferModel", "start", "()I"⟩
abbrev c_Mo_stepOn : ByteArray := prog_12_method_72_code
def y_Mo_stepOn : MethodName := ⟨"TreeDifferModel", "stepOn", "()I"⟩
abbrev c_Mo_stepBack : ByteArray := prog_12_method_73_code
def y_Mo_stepBack : MethodName := ⟨"TreeDifferModel", "stepBack", "()I"⟩
abbrev c_Mo_isThere : ByteArray := prog_12_method_74_code
def y_Mo_isThere : MethodName := ⟨"TreeDifferModel", "isThere", "(I)Z"⟩
abbrev c_Mo_workingChild : ByteArray := prog_12_method_75_code
def y_Mo_workingChild : MethodName := ⟨"TreeDifferModel", "workingChild", "(II)I"⟩
abbrev c_Mo_workingNode : ByteArray := prog_12_method_76_code
def y_Mo_workingNode : MethodName := ⟨"TreeDifferModel", "workingNode", "(II)I"⟩
abbrev c_Mo_sign : ByteArray := prog_12_method_77_code
def y_Mo_sign : MethodName := ⟨"TreeDifferModel", "sign", "(I)V"⟩
abbrev c_Mo_writesNode : ByteArray := prog_12_method_78_code
def y_Mo_writesNode : MethodName := ⟨"TreeDifferModel", "writesNode", "(I)V"⟩
abbrev c_Mo_drafts : ByteArray := prog_12_method_79_code
def y_Mo_drafts : MethodName := ⟨"TreeDifferModel", "drafts", "()V"⟩
abbrev c_Mo_print : ByteArray := prog_12_method_80_code
def y_Mo_print : MethodName := ⟨"TreeDifferModel", "print", "(I)I"⟩
abbrev c_Mo_printed : ByteArray := prog_12_method_81_code
def y_Mo_printed : MethodName := ⟨"TreeDifferModel", "printed", "(I)I"⟩
abbrev c_Mo_save : ByteArray := prog_12_method_82_code
def y_Mo_save : MethodName := ⟨"TreeDifferModel", "save", "(I)I"⟩
abbrev c_Mo_restore : ByteArray := prog_12_method_83_code
def y_Mo_restore : MethodName := ⟨"TreeDifferModel", "restore", "(I)I"⟩
abbrev c_Mo_more : ByteArray := prog_12_method_84_code
def y_Mo_more : MethodName := ⟨"TreeDifferModel", "more", "(JI)J"⟩
abbrev c_Mo_checksum : ByteArray := prog_12_method_85_code
def y_Mo_checksum : MethodName := ⟨"TreeDifferModel", "checksum", "()J"⟩
-- ===== words by their places =====
def lw_g : List Cond := lw_tbl.filter goodWord
theorem qm_t {w : Cond} (h : w ∈ tables_1) (hg : goodWord w = true) : w ∈ lw_g := List.mem_filter.mpr ⟨List.mem_append_right _ h, hg⟩
theorem qm_p {w : Cond} (h : w ∈ k2_sels lw_privs) (hg : goodWord w = true) : w ∈ lw_g := List.mem_filter.mpr ⟨List.mem_append_left _ h, hg⟩
theorem qm_1 {w : Cond} {i : Nat} (h : tables_1_1[i]? = some w) (hg : goodWord w = true) : w ∈ lw_g := qm_t (List.mem_append_left _ (List.mem_of_getElem? h)) hg
theorem qm_2 {w : Cond} {i : Nat} (h : tables_1_2[i]? = some w) (hg : goodWord w = true) : w ∈ lw_g := qm_t (List.mem_append_right _ (List.mem_append_left _ (List.mem_of_getElem? h))) hg
theorem qm_3 {w : Cond} {i : Nat} (h : tables_1_3[i]? = some w) (hg : goodWord w = true) : w ∈ lw_g := qm_t (List.mem_append_right _ (List.mem_append_right _ (List.mem_append_left _ (List.mem_of_getElem? h)))) hg
theorem qm_4 {w : Cond} {i : Nat} (h : tables_1_4[i]? = some w) (hg : goodWord w = true) : w ∈ lw_g := qm_t (List.mem_append_right _ (List.mem_append_right _ (List.mem_append_right _ (List.mem_append_left _ (List.mem_of_getElem? h))))) hg
theorem qm_5 {w : Cond} {i : Nat} (h : tables_1_5[i]? = some w) (hg : goodWord w = true) : w ∈ lw_g := qm_t (List.mem_append_right _ (List.mem_append_right _ (List.mem_append_right _ (List.mem_append_right _ (List.mem_append_left _ (List.mem_of_getElem? h)))))) hg
theorem qm_6 {w : Cond} {i : Nat} (h : tables_1_6[i]? = some w) (hg : goodWord w = true) : w ∈ lw_g := qm_t (List.mem_append_right _ (List.mem_append_right _ (List.mem_append_right _ (List.mem_append_right _ (List.mem_append_right _ (List.mem_of_getElem? h)))))) hg
theorem qm_idx {big ws : List Cond} (ps : List Nat) (hp : ws = ps.filterMap (fun i => big[i]?)) : ∀ w ∈ ws, w ∈ big := by
  intro w hw
  rw [hp] at hw
  obtain ⟨i, -, hi⟩ := List.mem_filterMap.mp hw
  exact List.mem_of_getElem? hi
theorem qi0 : ∀ w ∈ u_ws qR0 qT0 2, w ∈ lw_g := fun w h => qm_t (qm_idx (big := tables_1) [300, 302] (by decide +kernel) w h) (List.all_eq_true.mp (by decide +kernel : (u_ws qR0 qT0 2).all goodWord = true) w h)
theorem qi1 : ∀ w ∈ u_ws qR1 qT1 4, w ∈ lw_g := fun w h => qm_t (qm_idx (big := tables_1) [170, 172, 174, 176] (by decide +kernel) w h) (List.all_eq_true.mp (by decide +kernel : (u_ws qR1 qT1 4).all goodWord = true) w h)
theorem qi2 : ∀ w ∈ u_ws qR2 qT2 2, w ∈ lw_g := fun w h => qm_t (qm_idx (big := tables_1) [317, 319] (by decide +kernel) w h) (List.all_eq_true.mp (by decide +kernel : (u_ws qR2 qT2 2).all goodWord = true) w h)
theorem qi3 : ∀ w ∈ u_ws qR3 qT3 7, w ∈ lw_g := fun w h => qm_t (qm_idx (big := tables_1) [275, 277, 279, 281, 283, 285, 287] (by decide +kernel) w h) (List.all_eq_true.mp (by decide +kernel : (u_ws qR3 qT3 7).all goodWord = true) w h)
theorem qi4 : ∀ w ∈ u_ws qR4 qT4 4, w ∈ lw_g := fun w h => qm_t (qm_idx (big := tables_1) [144, 146, 148, 150] (by decide +kernel) w h) (List.all_eq_true.mp (by decide +kernel : (u_ws qR4 qT4 4).all goodWord = true) w h)
theorem qi5 : ∀ w ∈ u_ws qR5 qT5 9, w ∈ lw_g := fun w h => qm_t (qm_idx (big := tables_1) [247, 249, 251, 253, 255, 257, 259, 261, 263] (by decide +kernel) w h) (List.all_eq_true.mp (by decide +kernel : (u_ws qR5 qT5 9).all goodWord = true) w h)
theorem qi6 : ∀ w ∈ u_ws qR6 qT6 6, w ∈ lw_g := fun w h => qm_t (qm_idx (big := tables_1) [107, 109, 111, 113, 115, 117] (by decide +kernel) w h) (List.all_eq_true.mp (by decide +kernel : (u_ws qR6 qT6 6).all goodWord = true) w h)
theorem qi7 : ∀ w ∈ u_ws qR7 qT7 10, w ∈ lw_g := fun w h => qm_t (qm_idx (big := tables_1) [76, 78, 80, 82, 84, 86, 88, 90, 92, 94] (by decide +kernel) w h) (List.all_eq_true.mp (by decide +kernel : (u_ws qR7 qT7 10).all goodWord = true) w h)
theorem qi8 : ∀ w ∈ u_ws qR8 qT8 4, w ∈ lw_g := fun w h => qm_t (qm_idx (big := tables_1) [208, 210, 212, 214] (by decide +kernel) w h) (List.all_eq_true.mp (by decide +kernel : (u_ws qR8 qT8 4).all goodWord = true) w h)
theorem qi9 : ∀ w ∈ u_ws qR9 qT9 14, w ∈ lw_g := fun w h => qm_t (qm_idx (big := tables_1) [340, 342, 344, 346, 348, 350, 352, 354, 356, 358, 360, 362, 364, 366] (by decide +kernel) w h) (List.all_eq_true.mp (by decide +kernel : (u_ws qR9 qT9 14).all goodWord = true) w h)
theorem qi10 : ∀ w ∈ u_ws qR10 qT10 45, w ∈ lw_g := fun w h => qm_t (qm_idx (big := tables_1) [847, 849, 851, 853, 855, 857, 859, 861, 863, 865, 867, 869, 871, 873, 875, 877, 879, 881, 883, 885, 887, 889, 891, 893, 895, 897, 899, 901, 903, 905, 907, 909, 911, 913, 915, 917, 919, 921, 923, 925, 927, 929, 931, 933, 935] (by decide +kernel) w h) (List.all_eq_true.mp (by decide +kernel : (u_ws qR10 qT10 45).all goodWord = true) w h)
theorem m_0 : Cond.initialized "TreeDifferLaw" ∈ lw_g := qm_1 (i := 0) rfl rfl
theorem m_1 : Cond.initialized "TreeDiffer" ∈ lw_g := qm_1 (i := 1) rfl rfl
theorem m_2 : Cond.initialized "TreeDiffer$Text" ∈ lw_g := qm_1 (i := 2) rfl rfl
theorem m_3 : Cond.initialized "TreeDiffer$Tree" ∈ lw_g := qm_1 (i := 3) rfl rfl
theorem m_4 : Cond.initialized "TreeDiffer$Setup" ∈ lw_g := qm_1 (i := 4) rfl rfl
theorem m_5 : Cond.initialized "TreeDiffer$Matching" ∈ lw_g := qm_1 (i := 5) rfl rfl
theorem m_6 : Cond.initialized "TreeDiffer$Script" ∈ lw_g := qm_1 (i := 6) rfl rfl
theorem m_7 : Cond.initialized "TreeDiffer$WorkTree" ∈ lw_g := qm_1 (i := 7) rfl rfl
theorem m_8 : Cond.initialized "TreeDiffer$Step" ∈ lw_g := qm_1 (i := 8) rfl rfl
theorem m_9 : Cond.initialized "TreeDiffer$EditDistance" ∈ lw_g := qm_1 (i := 9) rfl rfl
theorem m_10 : Cond.initialized "TreeDiffer$Output" ∈ lw_g := qm_1 (i := 10) rfl rfl
theorem m_11 : Cond.initialized "TreeDifferModel" ∈ lw_g := qm_1 (i := 11) rfl rfl
theorem m_12 : Cond.initialized "java/lang/Math" ∈ lw_g := qm_1 (i := 12) rfl rfl
theorem m_13 : Cond.classLink "TreeDifferLaw" (7 : Nat) "TreeDiffer" ∈ lw_g := qm_1 (i := 13) rfl rfl
theorem m_14 : Cond.instantiable "TreeDiffer" (14 : Nat) ∈ lw_g := qm_1 (i := 14) rfl rfl
theorem m_15 : Cond.methodLink "TreeDifferLaw" 9 y_TD_init ∈ lw_g := qm_1 (i := 15) rfl rfl
theorem m_16 : Cond.instanceMethod y_TD_init ∈ lw_g := qm_1 (i := 16) rfl rfl
theorem m_17 : Cond.code y_TD_init c_TD_init 2 none ∈ lw_g := qm_1 (i := 17) rfl rfl
theorem m_18 : Cond.methodLink "TreeDiffer" 3 objectInit ∈ lw_g := qm_1 (i := 18) rfl rfl
theorem m_19 : Cond.instanceMethod objectInit ∈ lw_g := qm_1 (i := 19) rfl rfl
theorem m_20 : Cond.code objectInit ⟨#[0xb1]⟩ 1 none ∈ lw_g := qm_1 (i := 20) rfl rfl
theorem m_21 : Cond.classLink "TreeDiffer" (9 : Nat) "TreeDiffer$Text" ∈ lw_g := qm_1 (i := 21) rfl rfl
theorem m_22 : Cond.instantiable "TreeDiffer$Text" (6 : Nat) ∈ lw_g := qm_1 (i := 22) rfl rfl
theorem m_23 : Cond.methodLinkNest "TreeDiffer" 11 y_Tx_init "TreeDiffer" ∈ lw_tbl := List.mem_append_right _ (List.mem_of_getElem? (i := 23) (by decide +kernel))
theorem m_24 : Cond.instanceMethod y_Tx_init ∈ lw_g := qm_1 (i := 24) rfl rfl
theorem m_25 : Cond.code y_Tx_init c_Tx_init 1 none ∈ lw_g := qm_1 (i := 25) rfl rfl
theorem m_26 : Cond.methodLink "TreeDiffer$Text" 3 objectInit ∈ lw_g := qm_1 (i := 26) rfl rfl
theorem m_27 : Cond.classLink "TreeDiffer$Text" (19 : Nat) "TreeDiffer$Tree" ∈ lw_g := qm_1 (i := 27) rfl rfl
theorem m_28 : Cond.instantiable "TreeDiffer$Tree" (10 : Nat) ∈ lw_g := qm_1 (i := 28) rfl rfl
theorem m_29 : Cond.methodLink "TreeDiffer$Text" 21 y_Tr_init ∈ lw_g := qm_1 (i := 29) rfl rfl
theorem m_30 : Cond.instanceMethod y_Tr_init ∈ lw_g := qm_1 (i := 30) rfl rfl
theorem m_31 : Cond.code y_Tr_init c_Tr_init 1 none ∈ lw_g := qm_1 (i := 31) rfl rfl
theorem m_32 : Cond.methodLink "TreeDiffer$Tree" 3 objectInit ∈ lw_g := qm_1 (i := 32) rfl rfl
theorem m_33 : Cond.fieldLink "TreeDiffer$Tree" (39 : Nat) "TreeDiffer$Tree" "nodes" "I" ∈ lw_g := qm_1 (i := 33) rfl rfl
theorem m_34 : Cond.fieldLink "TreeDiffer$EditDistance" (25 : Nat) "TreeDiffer$Tree" "nodes" "I" ∈ lw_g := qm_1 (i := 34) rfl rfl
theorem m_35 : Cond.fieldLink "TreeDiffer$WorkTree" (24 : Nat) "TreeDiffer$Tree" "nodes" "I" ∈ lw_g := qm_1 (i := 35) rfl rfl
theorem m_36 : Cond.fieldLink "TreeDiffer$Script" (70 : Nat) "TreeDiffer$Tree" "nodes" "I" ∈ lw_g := qm_1 (i := 36) rfl rfl
theorem m_37 : Cond.fieldLink "TreeDiffer$Text" (35 : Nat) "TreeDiffer$Tree" "nodes" "I" ∈ lw_g := qm_1 (i := 37) rfl rfl
theorem m_38 : Cond.fieldLink "TreeDiffer$Matching" (61 : Nat) "TreeDiffer$Tree" "nodes" "I" ∈ lw_g := qm_1 (i := 38) rfl rfl
theorem m_39 : Cond.fieldLink "TreeDiffer" (126 : Nat) "TreeDiffer$Tree" "nodes" "I" ∈ lw_g := qm_1 (i := 39) rfl rfl
theorem m_40 : Cond.fieldLink "TreeDiffer$Tree" (9 : Nat) "TreeDiffer$Tree" "label" "[I" ∈ lw_g := qm_1 (i := 40) rfl rfl
theorem m_41 : Cond.fieldLink "TreeDiffer$WorkTree" (30 : Nat) "TreeDiffer$Tree" "label" "[I" ∈ lw_g := qm_1 (i := 41) rfl rfl
theorem m_42 : Cond.fieldLink "TreeDiffer$Setup" (32 : Nat) "TreeDiffer$Tree" "label" "[I" ∈ lw_g := qm_1 (i := 42) rfl rfl
theorem m_43 : Cond.fieldLink "TreeDiffer$Script" (134 : Nat) "TreeDiffer$Tree" "label" "[I" ∈ lw_g := qm_1 (i := 43) rfl rfl
theorem m_44 : Cond.fieldLink "TreeDiffer" (136 : Nat) "TreeDiffer$Tree" "label" "[I" ∈ lw_g := qm_1 (i := 44) rfl rfl
theorem m_45 : Cond.fieldLink "TreeDiffer$Tree" (15 : Nat) "TreeDiffer$Tree" "value" "[I" ∈ lw_g := qm_1 (i := 45) rfl rfl
theorem m_46 : Cond.fieldLink "TreeDiffer$WorkTree" (31 : Nat) "TreeDiffer$Tree" "value" "[I" ∈ lw_g := qm_1 (i := 46) rfl rfl
theorem m_47 : Cond.fieldLink "TreeDiffer$Script" (101 : Nat) "TreeDiffer$Tree" "value" "[I" ∈ lw_g := qm_1 (i := 47) rfl rfl
theorem m_48 : Cond.fieldLink "TreeDiffer$Setup" (36 : Nat) "TreeDiffer$Tree" "value" "[I" ∈ lw_g := qm_1 (i := 48) rfl rfl
theorem m_49 : Cond.fieldLink "TreeDiffer$Text" (62 : Nat) "TreeDiffer$Tree" "value" "[I" ∈ lw_g := qm_1 (i := 49) rfl rfl
theorem m_50 : Cond.fieldLink "TreeDiffer" (140 : Nat) "TreeDiffer$Tree" "value" "[I" ∈ lw_g := qm_1 (i := 50) rfl rfl
theorem m_51 : Cond.fieldLink "TreeDiffer$Tree" (18 : Nat) "TreeDiffer$Tree" "parent" "[I" ∈ lw_g := qm_1 (i := 51) rfl rfl
theorem m_52 : Cond.fieldLink "TreeDiffer$WorkTree" (32 : Nat) "TreeDiffer$Tree" "parent" "[I" ∈ lw_g := qm_1 (i := 52) rfl rfl
theorem m_53 : Cond.fieldLink "TreeDiffer$EditDistance" (42 : Nat) "TreeDiffer$Tree" "parent" "[I" ∈ lw_g := qm_1 (i := 53) rfl rfl
theorem m_54 : Cond.fieldLink "TreeDiffer$Script" (109 : Nat) "TreeDiffer$Tree" "parent" "[I" ∈ lw_g := qm_1 (i := 54) rfl rfl
theorem m_55 : Cond.fieldLink "TreeDiffer$Setup" (46 : Nat) "TreeDiffer$Tree" "parent" "[I" ∈ lw_g := qm_1 (i := 55) rfl rfl
theorem m_56 : Cond.fieldLink "TreeDiffer$Text" (65 : Nat) "TreeDiffer$Tree" "parent" "[I" ∈ lw_g := qm_1 (i := 56) rfl rfl
theorem m_57 : Cond.fieldLink "TreeDiffer" (143 : Nat) "TreeDiffer$Tree" "parent" "[I" ∈ lw_g := qm_1 (i := 57) rfl rfl
theorem m_58 : Cond.fieldLink "TreeDiffer$Tree" (21 : Nat) "TreeDiffer$Tree" "place" "[I" ∈ lw_g := qm_1 (i := 58) rfl rfl
theorem m_59 : Cond.fieldLink "TreeDiffer$WorkTree" (33 : Nat) "TreeDiffer$Tree" "place" "[I" ∈ lw_g := qm_1 (i := 59) rfl rfl
theorem m_60 : Cond.fieldLink "TreeDiffer$Matching" (79 : Nat) "TreeDiffer$Tree" "place" "[I" ∈ lw_g := qm_1 (i := 60) rfl rfl
theorem m_61 : Cond.fieldLink "TreeDiffer$Tree" (24 : Nat) "TreeDiffer$Tree" "depth" "[I" ∈ lw_g := qm_1 (i := 61) rfl rfl
theorem m_62 : Cond.fieldLink "TreeDiffer$Script" (73 : Nat) "TreeDiffer$Tree" "depth" "[I" ∈ lw_g := qm_1 (i := 62) rfl rfl
theorem m_63 : Cond.fieldLink "TreeDiffer$Tree" (27 : Nat) "TreeDiffer$Tree" "children" "[I" ∈ lw_g := qm_1 (i := 63) rfl rfl
theorem m_64 : Cond.fieldLink "TreeDiffer" (146 : Nat) "TreeDiffer$Tree" "children" "[I" ∈ lw_g := qm_1 (i := 64) rfl rfl
theorem m_65 : Cond.fieldLink "TreeDiffer$Tree" (30 : Nat) "TreeDiffer$Tree" "below" "[I" ∈ lw_g := qm_1 (i := 65) rfl rfl
theorem m_66 : Cond.fieldLink "TreeDiffer$Matching" (72 : Nat) "TreeDiffer$Tree" "below" "[I" ∈ lw_g := qm_1 (i := 66) rfl rfl
theorem m_67 : Cond.fieldLink "TreeDiffer$Setup" (39 : Nat) "TreeDiffer$Tree" "below" "[I" ∈ lw_g := qm_1 (i := 67) rfl rfl
theorem m_68 : Cond.fieldLink "TreeDiffer" (152 : Nat) "TreeDiffer$Tree" "below" "[I" ∈ lw_g := qm_1 (i := 68) rfl rfl
theorem m_69 : Cond.fieldLink "TreeDiffer$Tree" (33 : Nat) "TreeDiffer$Tree" "height" "[I" ∈ lw_g := qm_1 (i := 69) rfl rfl
theorem m_70 : Cond.fieldLink "TreeDiffer$Script" (65 : Nat) "TreeDiffer$Tree" "height" "[I" ∈ lw_g := qm_1 (i := 70) rfl rfl
theorem m_71 : Cond.fieldLink "TreeDiffer$Matching" (41 : Nat) "TreeDiffer$Tree" "height" "[I" ∈ lw_g := qm_1 (i := 71) rfl rfl
theorem m_72 : Cond.fieldLink "TreeDiffer" (149 : Nat) "TreeDiffer$Tree" "height" "[I" ∈ lw_g := qm_1 (i := 72) rfl rfl
theorem m_73 : Cond.fieldLink "TreeDiffer$Tree" (36 : Nat) "TreeDiffer$Tree" "postorder" "[I" ∈ lw_g := qm_1 (i := 73) rfl rfl
theorem m_74 : Cond.fieldLink "TreeDiffer$Matching" (89 : Nat) "TreeDiffer$Tree" "postorder" "[I" ∈ lw_g := qm_1 (i := 74) rfl rfl
theorem m_75 : Cond.fieldLink "TreeDiffer$Script" (186 : Nat) "TreeDiffer$Tree" "postorder" "[I" ∈ lw_g := qm_1 (i := 75) rfl rfl
theorem m_76 : Cond.lays "TreeDiffer$Tree" "TreeDiffer$Tree" "nodes" "I" ∈ lw_g := qm_1 (i := 76) rfl rfl
theorem m_78 : Cond.laysFinal "TreeDiffer$Tree" "TreeDiffer$Tree" "label" "[I" ∈ lw_g := qm_1 (i := 78) rfl rfl
theorem m_80 : Cond.laysFinal "TreeDiffer$Tree" "TreeDiffer$Tree" "value" "[I" ∈ lw_g := qm_1 (i := 80) rfl rfl
theorem m_82 : Cond.laysFinal "TreeDiffer$Tree" "TreeDiffer$Tree" "parent" "[I" ∈ lw_g := qm_1 (i := 82) rfl rfl
theorem m_84 : Cond.laysFinal "TreeDiffer$Tree" "TreeDiffer$Tree" "place" "[I" ∈ lw_g := qm_1 (i := 84) rfl rfl
theorem m_86 : Cond.laysFinal "TreeDiffer$Tree" "TreeDiffer$Tree" "depth" "[I" ∈ lw_g := qm_1 (i := 86) rfl rfl
theorem m_88 : Cond.laysFinal "TreeDiffer$Tree" "TreeDiffer$Tree" "children" "[I" ∈ lw_g := qm_1 (i := 88) rfl rfl
theorem m_90 : Cond.laysFinal "TreeDiffer$Tree" "TreeDiffer$Tree" "below" "[I" ∈ lw_g := qm_1 (i := 90) rfl rfl
theorem m_92 : Cond.laysFinal "TreeDiffer$Tree" "TreeDiffer$Tree" "height" "[I" ∈ lw_g := qm_1 (i := 92) rfl rfl
theorem m_94 : Cond.laysFinal "TreeDiffer$Tree" "TreeDiffer$Tree" "postorder" "[I" ∈ lw_g := qm_1 (i := 94) rfl rfl
theorem m_97 : Cond.arrayClass FieldType.int ∈ lw_g := qm_1 (i := 97) rfl rfl
theorem m_98 : Cond.fieldLink "TreeDiffer$Text" (9 : Nat) "TreeDiffer$Text" "bytes" "[I" ∈ lw_g := qm_1 (i := 98) rfl rfl
theorem m_99 : Cond.fieldLink "TreeDiffer$Text" (15 : Nat) "TreeDiffer$Text" "length" "I" ∈ lw_g := qm_1 (i := 99) rfl rfl
theorem m_100 : Cond.fieldLink "TreeDiffer" (95 : Nat) "TreeDiffer$Text" "length" "I" ∈ lw_g := qm_1 (i := 100) rfl rfl
theorem m_101 : Cond.fieldLink "TreeDiffer$Text" (22 : Nat) "TreeDiffer$Text" "tree" "LTreeDiffer$Tree;" ∈ lw_g := qm_1 (i := 101) rfl rfl
theorem m_102 : Cond.fieldLink "TreeDiffer" (112 : Nat) "TreeDiffer$Text" "tree" "LTreeDiffer$Tree;" ∈ lw_g := qm_1 (i := 102) rfl rfl
theorem m_103 : Cond.fieldLink "TreeDiffer$Text" (26 : Nat) "TreeDiffer$Text" "open" "I" ∈ lw_g := qm_1 (i := 103) rfl rfl
theorem m_104 : Cond.fieldLink "TreeDiffer" (102 : Nat) "TreeDiffer$Text" "open" "I" ∈ lw_g := qm_1 (i := 104) rfl rfl
theorem m_105 : Cond.fieldLink "TreeDiffer$Text" (29 : Nat) "TreeDiffer$Text" "state" "I" ∈ lw_g := qm_1 (i := 105) rfl rfl
theorem m_106 : Cond.fieldLink "TreeDiffer$Text" (32 : Nat) "TreeDiffer$Text" "parent" "I" ∈ lw_g := qm_1 (i := 106) rfl rfl
theorem m_107 : Cond.laysFinal "TreeDiffer$Text" "TreeDiffer$Text" "bytes" "[I" ∈ lw_g := qm_1 (i := 107) rfl rfl
theorem m_109 : Cond.lays "TreeDiffer$Text" "TreeDiffer$Text" "length" "I" ∈ lw_g := qm_1 (i := 109) rfl rfl
theorem m_111 : Cond.laysFinal "TreeDiffer$Text" "TreeDiffer$Text" "tree" "LTreeDiffer$Tree;" ∈ lw_g := qm_1 (i := 111) rfl rfl
theorem m_113 : Cond.lays "TreeDiffer$Text" "TreeDiffer$Text" "open" "I" ∈ lw_g := qm_1 (i := 113) rfl rfl
theorem m_115 : Cond.lays "TreeDiffer$Text" "TreeDiffer$Text" "state" "I" ∈ lw_g := qm_1 (i := 115) rfl rfl
theorem m_117 : Cond.lays "TreeDiffer$Text" "TreeDiffer$Text" "parent" "I" ∈ lw_g := qm_1 (i := 117) rfl rfl
theorem m_120 : Cond.classLink "TreeDiffer" (16 : Nat) "TreeDiffer$Setup" ∈ lw_g := qm_1 (i := 120) rfl rfl
theorem m_121 : Cond.instantiable "TreeDiffer$Setup" (4 : Nat) ∈ lw_g := qm_1 (i := 121) rfl rfl
theorem m_122 : Cond.methodLinkNest "TreeDiffer" 18 y_Se_init "TreeDiffer" ∈ lw_tbl := List.mem_append_right _ (List.mem_of_getElem? (i := 122) (by decide +kernel))
theorem m_123 : Cond.instanceMethod y_Se_init ∈ lw_g := qm_1 (i := 123) rfl rfl
theorem m_124 : Cond.code y_Se_init c_Se_init 1 none ∈ lw_g := qm_1 (i := 124) rfl rfl
theorem m_125 : Cond.methodLink "TreeDiffer$Setup" 3 objectInit ∈ lw_g := qm_1 (i := 125) rfl rfl
theorem m_126 : Cond.classLink "TreeDiffer$Setup" (9 : Nat) "TreeDiffer$Tree" ∈ lw_g := qm_1 (i := 126) rfl rfl
theorem m_127 : Cond.methodLink "TreeDiffer$Setup" 11 y_Tr_init ∈ lw_g := qm_1 (i := 127) rfl rfl
theorem m_128 : Cond.fieldLink "TreeDiffer$Setup" (12 : Nat) "TreeDiffer$Setup" "first" "LTreeDiffer$Tree;" ∈ lw_g := qm_1 (i := 128) rfl rfl
theorem m_129 : Cond.fieldLink "TreeDiffer" (83 : Nat) "TreeDiffer$Setup" "first" "LTreeDiffer$Tree;" ∈ lw_g := qm_1 (i := 129) rfl rfl
theorem m_130 : Cond.fieldLink "TreeDiffer$EditDistance" (19 : Nat) "TreeDiffer$Setup" "first" "LTreeDiffer$Tree;" ∈ lw_g := qm_1 (i := 130) rfl rfl
theorem m_131 : Cond.fieldLink "TreeDiffer$Script" (43 : Nat) "TreeDiffer$Setup" "first" "LTreeDiffer$Tree;" ∈ lw_g := qm_1 (i := 131) rfl rfl
theorem m_132 : Cond.fieldLink "TreeDiffer$Matching" (35 : Nat) "TreeDiffer$Setup" "first" "LTreeDiffer$Tree;" ∈ lw_g := qm_1 (i := 132) rfl rfl
theorem m_133 : Cond.fieldLink "TreeDiffer$Setup" (18 : Nat) "TreeDiffer$Setup" "second" "LTreeDiffer$Tree;" ∈ lw_g := qm_1 (i := 133) rfl rfl
theorem m_134 : Cond.fieldLink "TreeDiffer$EditDistance" (31 : Nat) "TreeDiffer$Setup" "second" "LTreeDiffer$Tree;" ∈ lw_g := qm_1 (i := 134) rfl rfl
theorem m_135 : Cond.fieldLink "TreeDiffer$Script" (58 : Nat) "TreeDiffer$Setup" "second" "LTreeDiffer$Tree;" ∈ lw_g := qm_1 (i := 135) rfl rfl
theorem m_136 : Cond.fieldLink "TreeDiffer$Matching" (46 : Nat) "TreeDiffer$Setup" "second" "LTreeDiffer$Tree;" ∈ lw_g := qm_1 (i := 136) rfl rfl
theorem m_137 : Cond.fieldLink "TreeDiffer" (186 : Nat) "TreeDiffer$Setup" "second" "LTreeDiffer$Tree;" ∈ lw_g := qm_1 (i := 137) rfl rfl
theorem m_138 : Cond.fieldLink "TreeDiffer$Setup" (21 : Nat) "TreeDiffer$Setup" "height" "I" ∈ lw_g := qm_1 (i := 138) rfl rfl
theorem m_139 : Cond.fieldLink "TreeDiffer$Matching" (55 : Nat) "TreeDiffer$Setup" "height" "I" ∈ lw_g := qm_1 (i := 139) rfl rfl
theorem m_140 : Cond.fieldLink "TreeDiffer" (162 : Nat) "TreeDiffer$Setup" "height" "I" ∈ lw_g := qm_1 (i := 140) rfl rfl
theorem m_141 : Cond.fieldLink "TreeDiffer$Setup" (25 : Nat) "TreeDiffer$Setup" "percent" "I" ∈ lw_g := qm_1 (i := 141) rfl rfl
theorem m_142 : Cond.fieldLink "TreeDiffer$Matching" (99 : Nat) "TreeDiffer$Setup" "percent" "I" ∈ lw_g := qm_1 (i := 142) rfl rfl
theorem m_143 : Cond.fieldLink "TreeDiffer" (164 : Nat) "TreeDiffer$Setup" "percent" "I" ∈ lw_g := qm_1 (i := 143) rfl rfl
theorem m_144 : Cond.lays "TreeDiffer$Setup" "TreeDiffer$Setup" "first" "LTreeDiffer$Tree;" ∈ lw_g := qm_1 (i := 144) rfl rfl
theorem m_146 : Cond.lays "TreeDiffer$Setup" "TreeDiffer$Setup" "second" "LTreeDiffer$Tree;" ∈ lw_g := qm_1 (i := 146) rfl rfl
theorem m_148 : Cond.lays "TreeDiffer$Setup" "TreeDiffer$Setup" "height" "I" ∈ lw_g := qm_1 (i := 148) rfl rfl
theorem m_150 : Cond.lays "TreeDiffer$Setup" "TreeDiffer$Setup" "percent" "I" ∈ lw_g := qm_1 (i := 150) rfl rfl
theorem m_153 : Cond.arrayOver (FieldType.object "TreeDiffer$Setup") ∈ lw_tbl := List.mem_append_right _ (List.mem_of_getElem? (i := 153) (by decide +kernel))
theorem m_154 : Cond.classLink "TreeDiffer" (31 : Nat) "TreeDiffer$Matching" ∈ lw_g := qm_1 (i := 154) rfl rfl
theorem m_155 : Cond.instantiable "TreeDiffer$Matching" (4 : Nat) ∈ lw_g := qm_1 (i := 155) rfl rfl
theorem m_156 : Cond.methodLinkNest "TreeDiffer" 33 y_Ma_init "TreeDiffer" ∈ lw_tbl := List.mem_append_right _ (List.mem_of_getElem? (i := 156) (by decide +kernel))
theorem m_157 : Cond.instanceMethod y_Ma_init ∈ lw_g := qm_1 (i := 157) rfl rfl
theorem m_158 : Cond.code y_Ma_init c_Ma_init 1 none ∈ lw_g := qm_1 (i := 158) rfl rfl
theorem m_159 : Cond.methodLink "TreeDiffer$Matching" 3 objectInit ∈ lw_g := qm_1 (i := 159) rfl rfl
theorem m_160 : Cond.fieldLink "TreeDiffer$Matching" (9 : Nat) "TreeDiffer$Matching" "pairs" "I" ∈ lw_g := qm_1 (i := 160) rfl rfl
theorem m_161 : Cond.fieldLink "TreeDiffer" (170 : Nat) "TreeDiffer$Matching" "pairs" "I" ∈ lw_g := qm_1 (i := 161) rfl rfl
theorem m_162 : Cond.fieldLink "TreeDiffer$Matching" (15 : Nat) "TreeDiffer$Matching" "partner" "[I" ∈ lw_g := qm_1 (i := 162) rfl rfl
theorem m_163 : Cond.fieldLink "TreeDiffer" (173 : Nat) "TreeDiffer$Matching" "partner" "[I" ∈ lw_g := qm_1 (i := 163) rfl rfl
theorem m_164 : Cond.fieldLink "TreeDiffer$Script" (189 : Nat) "TreeDiffer$Matching" "partner" "[I" ∈ lw_g := qm_1 (i := 164) rfl rfl
theorem m_165 : Cond.fieldLink "TreeDiffer$Matching" (19 : Nat) "TreeDiffer$Matching" "otherPartner" "[I" ∈ lw_g := qm_1 (i := 165) rfl rfl
theorem m_166 : Cond.fieldLink "TreeDiffer$Script" (53 : Nat) "TreeDiffer$Matching" "otherPartner" "[I" ∈ lw_g := qm_1 (i := 166) rfl rfl
theorem m_167 : Cond.fieldLink "TreeDiffer" (176 : Nat) "TreeDiffer$Matching" "otherPartner" "[I" ∈ lw_g := qm_1 (i := 167) rfl rfl
theorem m_168 : Cond.fieldLink "TreeDiffer$Matching" (22 : Nat) "TreeDiffer$Matching" "phase" "[I" ∈ lw_g := qm_1 (i := 168) rfl rfl
theorem m_169 : Cond.fieldLink "TreeDiffer" (183 : Nat) "TreeDiffer$Matching" "phase" "[I" ∈ lw_g := qm_1 (i := 169) rfl rfl
theorem m_170 : Cond.lays "TreeDiffer$Matching" "TreeDiffer$Matching" "pairs" "I" ∈ lw_g := qm_1 (i := 170) rfl rfl
theorem m_172 : Cond.laysFinal "TreeDiffer$Matching" "TreeDiffer$Matching" "partner" "[I" ∈ lw_g := qm_1 (i := 172) rfl rfl
theorem m_174 : Cond.laysFinal "TreeDiffer$Matching" "TreeDiffer$Matching" "otherPartner" "[I" ∈ lw_g := qm_1 (i := 174) rfl rfl
theorem m_176 : Cond.laysFinal "TreeDiffer$Matching" "TreeDiffer$Matching" "phase" "[I" ∈ lw_g := qm_1 (i := 176) rfl rfl
theorem m_179 : Cond.arrayClass FieldType.boolean ∈ lw_g := qm_1 (i := 179) rfl rfl
theorem m_180 : Cond.classLink "TreeDiffer" (38 : Nat) "TreeDiffer$Script" ∈ lw_g := qm_1 (i := 180) rfl rfl
theorem m_181 : Cond.instantiable "TreeDiffer$Script" (7 : Nat) ∈ lw_g := qm_1 (i := 181) rfl rfl
theorem m_182 : Cond.methodLink "TreeDiffer" 40 y_Sc_init ∈ lw_g := qm_1 (i := 182) rfl rfl
theorem m_183 : Cond.instanceMethod y_Sc_init ∈ lw_g := qm_1 (i := 183) rfl rfl
theorem m_184 : Cond.code y_Sc_init c_Sc_init 2 none ∈ lw_g := qm_1 (i := 184) rfl rfl
theorem m_185 : Cond.methodLink "TreeDiffer$Script" 3 objectInit ∈ lw_g := qm_1 (i := 185) rfl rfl
theorem m_186 : Cond.classLink "TreeDiffer$Script" (9 : Nat) "TreeDiffer$Step" ∈ lw_g := qm_1 (i := 186) rfl rfl
theorem m_187 : Cond.arrayOver (FieldType.object "TreeDiffer$Step") ∈ lw_tbl := List.mem_append_right _ (List.mem_of_getElem? (i := 187) (by decide +kernel))
theorem m_188 : Cond.classLink "TreeDiffer$Script" (21 : Nat) "TreeDiffer$WorkTree" ∈ lw_g := qm_1 (i := 188) rfl rfl
theorem m_189 : Cond.instantiable "TreeDiffer$WorkTree" (4 : Nat) ∈ lw_g := qm_1 (i := 189) rfl rfl
theorem m_190 : Cond.methodLinkNest "TreeDiffer$Script" 23 y_Wt_init "TreeDiffer" ∈ lw_tbl := List.mem_append_right _ (List.mem_of_getElem? (i := 190) (by decide +kernel))
theorem m_191 : Cond.instanceMethod y_Wt_init ∈ lw_g := qm_1 (i := 191) rfl rfl
theorem m_192 : Cond.code y_Wt_init c_Wt_init 1 none ∈ lw_g := qm_1 (i := 192) rfl rfl
theorem m_193 : Cond.methodLink "TreeDiffer$WorkTree" 3 objectInit ∈ lw_g := qm_1 (i := 193) rfl rfl
theorem m_194 : Cond.fieldLink "TreeDiffer$WorkTree" (9 : Nat) "TreeDiffer$WorkTree" "label" "[I" ∈ lw_g := qm_1 (i := 194) rfl rfl
theorem m_195 : Cond.fieldLink "TreeDiffer$Output" (25 : Nat) "TreeDiffer$WorkTree" "label" "[I" ∈ lw_g := qm_1 (i := 195) rfl rfl
theorem m_196 : Cond.fieldLink "TreeDiffer" (230 : Nat) "TreeDiffer$WorkTree" "label" "[I" ∈ lw_g := qm_1 (i := 196) rfl rfl
theorem m_197 : Cond.fieldLink "TreeDiffer$WorkTree" (15 : Nat) "TreeDiffer$WorkTree" "value" "[I" ∈ lw_g := qm_1 (i := 197) rfl rfl
theorem m_198 : Cond.fieldLink "TreeDiffer$Output" (28 : Nat) "TreeDiffer$WorkTree" "value" "[I" ∈ lw_g := qm_1 (i := 198) rfl rfl
theorem m_199 : Cond.fieldLink "TreeDiffer$Script" (98 : Nat) "TreeDiffer$WorkTree" "value" "[I" ∈ lw_g := qm_1 (i := 199) rfl rfl
theorem m_200 : Cond.fieldLink "TreeDiffer" (231 : Nat) "TreeDiffer$WorkTree" "value" "[I" ∈ lw_g := qm_1 (i := 200) rfl rfl
theorem m_201 : Cond.fieldLink "TreeDiffer$WorkTree" (18 : Nat) "TreeDiffer$WorkTree" "parent" "[I" ∈ lw_g := qm_1 (i := 201) rfl rfl
theorem m_202 : Cond.fieldLink "TreeDiffer$Output" (47 : Nat) "TreeDiffer$WorkTree" "parent" "[I" ∈ lw_g := qm_1 (i := 202) rfl rfl
theorem m_203 : Cond.fieldLink "TreeDiffer$Script" (106 : Nat) "TreeDiffer$WorkTree" "parent" "[I" ∈ lw_g := qm_1 (i := 203) rfl rfl
theorem m_204 : Cond.fieldLink "TreeDiffer" (232 : Nat) "TreeDiffer$WorkTree" "parent" "[I" ∈ lw_g := qm_1 (i := 204) rfl rfl
theorem m_205 : Cond.fieldLink "TreeDiffer$WorkTree" (21 : Nat) "TreeDiffer$WorkTree" "place" "[I" ∈ lw_g := qm_1 (i := 205) rfl rfl
theorem m_206 : Cond.fieldLink "TreeDiffer$Output" (50 : Nat) "TreeDiffer$WorkTree" "place" "[I" ∈ lw_g := qm_1 (i := 206) rfl rfl
theorem m_207 : Cond.fieldLink "TreeDiffer$Script" (151 : Nat) "TreeDiffer$WorkTree" "place" "[I" ∈ lw_g := qm_1 (i := 207) rfl rfl
theorem m_208 : Cond.laysFinal "TreeDiffer$WorkTree" "TreeDiffer$WorkTree" "label" "[I" ∈ lw_g := qm_1 (i := 208) rfl rfl
theorem m_210 : Cond.laysFinal "TreeDiffer$WorkTree" "TreeDiffer$WorkTree" "value" "[I" ∈ lw_g := qm_1 (i := 210) rfl rfl
theorem m_212 : Cond.laysFinal "TreeDiffer$WorkTree" "TreeDiffer$WorkTree" "parent" "[I" ∈ lw_g := qm_1 (i := 212) rfl rfl
theorem m_214 : Cond.laysFinal "TreeDiffer$WorkTree" "TreeDiffer$WorkTree" "place" "[I" ∈ lw_g := qm_1 (i := 214) rfl rfl
theorem m_217 : Cond.instantiable "TreeDiffer$Step" (9 : Nat) ∈ lw_g := qm_1 (i := 217) rfl rfl
theorem m_218 : Cond.methodLinkNest "TreeDiffer$Script" 42 y_Sp_init "TreeDiffer" ∈ lw_tbl := List.mem_append_right _ (List.mem_of_getElem? (i := 218) (by decide +kernel))
theorem m_219 : Cond.instanceMethod y_Sp_init ∈ lw_g := qm_1 (i := 219) rfl rfl
theorem m_220 : Cond.code y_Sp_init c_Sp_init 1 none ∈ lw_g := qm_1 (i := 220) rfl rfl
theorem m_221 : Cond.methodLink "TreeDiffer$Step" 3 objectInit ∈ lw_g := qm_1 (i := 221) rfl rfl
theorem m_222 : Cond.fieldLink "TreeDiffer$Step" (9 : Nat) "TreeDiffer$Step" "kind" "I" ∈ lw_g := qm_1 (i := 222) rfl rfl
theorem m_223 : Cond.fieldLink "TreeDiffer$Script" (89 : Nat) "TreeDiffer$Step" "kind" "I" ∈ lw_g := qm_1 (i := 223) rfl rfl
theorem m_224 : Cond.fieldLink "TreeDiffer$WorkTree" (38 : Nat) "TreeDiffer$Step" "kind" "I" ∈ lw_g := qm_1 (i := 224) rfl rfl
theorem m_225 : Cond.fieldLink "TreeDiffer" (203 : Nat) "TreeDiffer$Step" "kind" "I" ∈ lw_g := qm_1 (i := 225) rfl rfl
theorem m_226 : Cond.fieldLink "TreeDiffer$Step" (15 : Nat) "TreeDiffer$Step" "room" "I" ∈ lw_g := qm_1 (i := 226) rfl rfl
theorem m_227 : Cond.fieldLink "TreeDiffer$Script" (92 : Nat) "TreeDiffer$Step" "room" "I" ∈ lw_g := qm_1 (i := 227) rfl rfl
theorem m_228 : Cond.fieldLink "TreeDiffer$WorkTree" (43 : Nat) "TreeDiffer$Step" "room" "I" ∈ lw_g := qm_1 (i := 228) rfl rfl
theorem m_229 : Cond.fieldLink "TreeDiffer$Step" (22 : Nat) "TreeDiffer$Step" "under" "I" ∈ lw_g := qm_1 (i := 229) rfl rfl
theorem m_230 : Cond.fieldLink "TreeDiffer$Script" (124 : Nat) "TreeDiffer$Step" "under" "I" ∈ lw_g := qm_1 (i := 230) rfl rfl
theorem m_231 : Cond.fieldLink "TreeDiffer$WorkTree" (50 : Nat) "TreeDiffer$Step" "under" "I" ∈ lw_g := qm_1 (i := 231) rfl rfl
theorem m_232 : Cond.fieldLink "TreeDiffer$Step" (25 : Nat) "TreeDiffer$Step" "place" "I" ∈ lw_g := qm_1 (i := 232) rfl rfl
theorem m_233 : Cond.fieldLink "TreeDiffer$Script" (131 : Nat) "TreeDiffer$Step" "place" "I" ∈ lw_g := qm_1 (i := 233) rfl rfl
theorem m_234 : Cond.fieldLink "TreeDiffer$WorkTree" (53 : Nat) "TreeDiffer$Step" "place" "I" ∈ lw_g := qm_1 (i := 234) rfl rfl
theorem m_235 : Cond.fieldLink "TreeDiffer$Step" (28 : Nat) "TreeDiffer$Step" "label" "I" ∈ lw_g := qm_1 (i := 235) rfl rfl
theorem m_236 : Cond.fieldLink "TreeDiffer$Script" (137 : Nat) "TreeDiffer$Step" "label" "I" ∈ lw_g := qm_1 (i := 236) rfl rfl
theorem m_237 : Cond.fieldLink "TreeDiffer$WorkTree" (48 : Nat) "TreeDiffer$Step" "label" "I" ∈ lw_g := qm_1 (i := 237) rfl rfl
theorem m_238 : Cond.fieldLink "TreeDiffer$Step" (31 : Nat) "TreeDiffer$Step" "value" "I" ∈ lw_g := qm_1 (i := 238) rfl rfl
theorem m_239 : Cond.fieldLink "TreeDiffer$Script" (139 : Nat) "TreeDiffer$Step" "value" "I" ∈ lw_g := qm_1 (i := 239) rfl rfl
theorem m_240 : Cond.fieldLink "TreeDiffer$WorkTree" (46 : Nat) "TreeDiffer$Step" "value" "I" ∈ lw_g := qm_2 (i := 0) rfl rfl
theorem m_241 : Cond.fieldLink "TreeDiffer$Script" (148 : Nat) "TreeDiffer$Step" "oldUnder" "I" ∈ lw_g := qm_2 (i := 1) rfl rfl
theorem m_242 : Cond.fieldLink "TreeDiffer$WorkTree" (66 : Nat) "TreeDiffer$Step" "oldUnder" "I" ∈ lw_g := qm_2 (i := 2) rfl rfl
theorem m_243 : Cond.fieldLink "TreeDiffer$Script" (153 : Nat) "TreeDiffer$Step" "oldPlace" "I" ∈ lw_g := qm_2 (i := 3) rfl rfl
theorem m_244 : Cond.fieldLink "TreeDiffer$WorkTree" (69 : Nat) "TreeDiffer$Step" "oldPlace" "I" ∈ lw_g := qm_2 (i := 4) rfl rfl
theorem m_245 : Cond.fieldLink "TreeDiffer$Script" (145 : Nat) "TreeDiffer$Step" "oldValue" "I" ∈ lw_g := qm_2 (i := 5) rfl rfl
theorem m_246 : Cond.fieldLink "TreeDiffer$WorkTree" (63 : Nat) "TreeDiffer$Step" "oldValue" "I" ∈ lw_g := qm_2 (i := 6) rfl rfl
theorem m_247 : Cond.lays "TreeDiffer$Step" "TreeDiffer$Step" "kind" "I" ∈ lw_g := qm_2 (i := 7) rfl rfl
theorem m_249 : Cond.lays "TreeDiffer$Step" "TreeDiffer$Step" "room" "I" ∈ lw_g := qm_2 (i := 9) rfl rfl
theorem m_251 : Cond.lays "TreeDiffer$Step" "TreeDiffer$Step" "under" "I" ∈ lw_g := qm_2 (i := 11) rfl rfl
theorem m_253 : Cond.lays "TreeDiffer$Step" "TreeDiffer$Step" "place" "I" ∈ lw_g := qm_2 (i := 13) rfl rfl
theorem m_255 : Cond.lays "TreeDiffer$Step" "TreeDiffer$Step" "label" "I" ∈ lw_g := qm_2 (i := 15) rfl rfl
theorem m_257 : Cond.lays "TreeDiffer$Step" "TreeDiffer$Step" "value" "I" ∈ lw_g := qm_2 (i := 17) rfl rfl
theorem m_259 : Cond.lays "TreeDiffer$Step" "TreeDiffer$Step" "oldUnder" "I" ∈ lw_g := qm_2 (i := 19) rfl rfl
theorem m_261 : Cond.lays "TreeDiffer$Step" "TreeDiffer$Step" "oldPlace" "I" ∈ lw_g := qm_2 (i := 21) rfl rfl
theorem m_263 : Cond.lays "TreeDiffer$Step" "TreeDiffer$Step" "oldValue" "I" ∈ lw_g := qm_2 (i := 23) rfl rfl
theorem m_266 : Cond.fieldLink "TreeDiffer$Script" (11 : Nat) "TreeDiffer$Script" "all" "[LTreeDiffer$Step;" ∈ lw_g := qm_2 (i := 26) rfl rfl
theorem m_267 : Cond.fieldLink "TreeDiffer" (194 : Nat) "TreeDiffer$Script" "all" "[LTreeDiffer$Step;" ∈ lw_g := qm_2 (i := 27) rfl rfl
theorem m_268 : Cond.fieldLink "TreeDiffer$Script" (17 : Nat) "TreeDiffer$Script" "length" "I" ∈ lw_g := qm_2 (i := 28) rfl rfl
theorem m_269 : Cond.fieldLink "TreeDiffer" (193 : Nat) "TreeDiffer$Script" "length" "I" ∈ lw_g := qm_2 (i := 29) rfl rfl
theorem m_270 : Cond.fieldLink "TreeDiffer$Script" (24 : Nat) "TreeDiffer$Script" "copy" "LTreeDiffer$WorkTree;" ∈ lw_g := qm_2 (i := 30) rfl rfl
theorem m_271 : Cond.fieldLink "TreeDiffer$Script" (28 : Nat) "TreeDiffer$Script" "partner" "[I" ∈ lw_g := qm_2 (i := 31) rfl rfl
theorem m_272 : Cond.fieldLink "TreeDiffer$Script" (32 : Nat) "TreeDiffer$Script" "isMarked" "[Z" ∈ lw_g := qm_2 (i := 32) rfl rfl
theorem m_273 : Cond.fieldLink "TreeDiffer$Script" (36 : Nat) "TreeDiffer$Script" "sorted" "[I" ∈ lw_g := qm_2 (i := 33) rfl rfl
theorem m_274 : Cond.fieldLink "TreeDiffer$Script" (39 : Nat) "TreeDiffer$Script" "longest" "[I" ∈ lw_g := qm_2 (i := 34) rfl rfl
theorem m_275 : Cond.laysFinal "TreeDiffer$Script" "TreeDiffer$Script" "all" "[LTreeDiffer$Step;" ∈ lw_g := qm_2 (i := 35) rfl rfl
theorem m_277 : Cond.lays "TreeDiffer$Script" "TreeDiffer$Script" "length" "I" ∈ lw_g := qm_2 (i := 37) rfl rfl
theorem m_279 : Cond.laysFinal "TreeDiffer$Script" "TreeDiffer$Script" "copy" "LTreeDiffer$WorkTree;" ∈ lw_g := qm_2 (i := 39) rfl rfl
theorem m_281 : Cond.laysFinal "TreeDiffer$Script" "TreeDiffer$Script" "partner" "[I" ∈ lw_g := qm_2 (i := 41) rfl rfl
theorem m_283 : Cond.laysFinal "TreeDiffer$Script" "TreeDiffer$Script" "isMarked" "[Z" ∈ lw_g := qm_2 (i := 43) rfl rfl
theorem m_285 : Cond.laysFinal "TreeDiffer$Script" "TreeDiffer$Script" "sorted" "[I" ∈ lw_g := qm_2 (i := 45) rfl rfl
theorem m_287 : Cond.laysFinal "TreeDiffer$Script" "TreeDiffer$Script" "longest" "[I" ∈ lw_g := qm_2 (i := 47) rfl rfl
theorem m_290 : Cond.classLink "TreeDiffer" (45 : Nat) "TreeDiffer$EditDistance" ∈ lw_g := qm_2 (i := 50) rfl rfl
theorem m_291 : Cond.instantiable "TreeDiffer$EditDistance" (2 : Nat) ∈ lw_g := qm_2 (i := 51) rfl rfl
theorem m_292 : Cond.methodLinkNest "TreeDiffer" 47 y_ED_init "TreeDiffer" ∈ lw_tbl := List.mem_append_right _ (List.mem_of_getElem? (i := 292) (by decide +kernel))
theorem m_293 : Cond.instanceMethod y_ED_init ∈ lw_g := qm_2 (i := 53) rfl rfl
theorem m_294 : Cond.code y_ED_init c_ED_init 1 none ∈ lw_g := qm_2 (i := 54) rfl rfl
theorem m_295 : Cond.methodLink "TreeDiffer$EditDistance" 3 objectInit ∈ lw_g := qm_2 (i := 55) rfl rfl
theorem m_296 : Cond.classLink "TreeDiffer$EditDistance" (9 : Nat) "[[I" ∈ lw_g := qm_2 (i := 56) rfl rfl
theorem m_297 : Cond.arrayOver (FieldType.array FieldType.int) ∈ lw_tbl := List.mem_append_right _ (List.mem_of_getElem? (i := 297) (by decide +kernel))
theorem m_298 : Cond.fieldLink "TreeDiffer$EditDistance" (11 : Nat) "TreeDiffer$EditDistance" "forest" "[[I" ∈ lw_g := qm_2 (i := 58) rfl rfl
theorem m_299 : Cond.fieldLink "TreeDiffer$EditDistance" (16 : Nat) "TreeDiffer$EditDistance" "subtree" "[[I" ∈ lw_g := qm_2 (i := 59) rfl rfl
theorem m_300 : Cond.laysFinal "TreeDiffer$EditDistance" "TreeDiffer$EditDistance" "forest" "[[I" ∈ lw_g := qm_2 (i := 60) rfl rfl
theorem m_302 : Cond.laysFinal "TreeDiffer$EditDistance" "TreeDiffer$EditDistance" "subtree" "[[I" ∈ lw_g := qm_2 (i := 62) rfl rfl
theorem m_305 : Cond.classLink "TreeDiffer" (52 : Nat) "TreeDiffer$WorkTree" ∈ lw_g := qm_2 (i := 65) rfl rfl
theorem m_306 : Cond.methodLinkNest "TreeDiffer" 54 y_Wt_init "TreeDiffer" ∈ lw_tbl := List.mem_append_right _ (List.mem_of_getElem? (i := 306) (by decide +kernel))
theorem m_307 : Cond.classLink "TreeDiffer" (62 : Nat) "TreeDiffer$Output" ∈ lw_g := qm_2 (i := 67) rfl rfl
theorem m_308 : Cond.instantiable "TreeDiffer$Output" (2 : Nat) ∈ lw_g := qm_2 (i := 68) rfl rfl
theorem m_309 : Cond.methodLinkNest "TreeDiffer" 64 y_Ou_init "TreeDiffer" ∈ lw_tbl := List.mem_append_right _ (List.mem_of_getElem? (i := 309) (by decide +kernel))
theorem m_310 : Cond.instanceMethod y_Ou_init ∈ lw_g := qm_2 (i := 70) rfl rfl
theorem m_311 : Cond.code y_Ou_init c_Ou_init 1 none ∈ lw_g := qm_2 (i := 71) rfl rfl
theorem m_312 : Cond.methodLink "TreeDiffer$Output" 3 objectInit ∈ lw_g := qm_2 (i := 72) rfl rfl
theorem m_313 : Cond.fieldLink "TreeDiffer$Output" (9 : Nat) "TreeDiffer$Output" "bytes" "[I" ∈ lw_g := qm_2 (i := 73) rfl rfl
theorem m_314 : Cond.fieldLink "TreeDiffer" (238 : Nat) "TreeDiffer$Output" "bytes" "[I" ∈ lw_g := qm_2 (i := 74) rfl rfl
theorem m_315 : Cond.fieldLink "TreeDiffer$Output" (15 : Nat) "TreeDiffer$Output" "length" "I" ∈ lw_g := qm_2 (i := 75) rfl rfl
theorem m_316 : Cond.fieldLink "TreeDiffer" (237 : Nat) "TreeDiffer$Output" "length" "I" ∈ lw_g := qm_2 (i := 76) rfl rfl
theorem m_317 : Cond.laysFinal "TreeDiffer$Output" "TreeDiffer$Output" "bytes" "[I" ∈ lw_g := qm_2 (i := 77) rfl rfl
theorem m_319 : Cond.lays "TreeDiffer$Output" "TreeDiffer$Output" "length" "I" ∈ lw_g := qm_2 (i := 79) rfl rfl
theorem m_322 : Cond.methodLink "TreeDiffer" 87 y_Wt_load ∈ lw_g := qm_2 (i := 82) rfl rfl
theorem m_323 : Cond.instanceMethod y_Wt_load ∈ lw_g := qm_2 (i := 83) rfl rfl
theorem m_324 : Cond.selects "TreeDiffer$WorkTree" y_Wt_load y_Wt_load ∈ lw_g := qm_2 (i := 84) rfl rfl
theorem m_325 : Cond.code y_Wt_load c_Wt_load 3 none ∈ lw_g := qm_2 (i := 85) rfl rfl
theorem m_326 : Cond.fieldLink "TreeDiffer" (12 : Nat) "TreeDiffer" "text" "LTreeDiffer$Text;" ∈ lw_g := qm_2 (i := 86) rfl rfl
theorem m_327 : Cond.fieldLink "TreeDiffer" (19 : Nat) "TreeDiffer" "setup" "LTreeDiffer$Setup;" ∈ lw_g := qm_2 (i := 87) rfl rfl
theorem m_328 : Cond.fieldLink "TreeDiffer" (23 : Nat) "TreeDiffer" "saved" "[LTreeDiffer$Setup;" ∈ lw_g := qm_2 (i := 88) rfl rfl
theorem m_329 : Cond.fieldLink "TreeDiffer" (27 : Nat) "TreeDiffer" "isSaved" "[Z" ∈ lw_g := qm_2 (i := 89) rfl rfl
theorem m_330 : Cond.fieldLink "TreeDiffer" (34 : Nat) "TreeDiffer" "matching" "LTreeDiffer$Matching;" ∈ lw_g := qm_2 (i := 90) rfl rfl
theorem m_331 : Cond.fieldLink "TreeDiffer" (41 : Nat) "TreeDiffer" "script" "LTreeDiffer$Script;" ∈ lw_g := qm_2 (i := 91) rfl rfl
theorem m_332 : Cond.fieldLink "TreeDiffer" (48 : Nat) "TreeDiffer" "editDistance" "LTreeDiffer$EditDistance;" ∈ lw_g := qm_2 (i := 92) rfl rfl
theorem m_333 : Cond.fieldLink "TreeDiffer" (55 : Nat) "TreeDiffer" "work" "LTreeDiffer$WorkTree;" ∈ lw_g := qm_2 (i := 93) rfl rfl
theorem m_334 : Cond.fieldLink "TreeDiffer" (59 : Nat) "TreeDiffer" "spare" "LTreeDiffer$WorkTree;" ∈ lw_g := qm_2 (i := 94) rfl rfl
theorem m_335 : Cond.fieldLink "TreeDiffer" (65 : Nat) "TreeDiffer" "output" "LTreeDiffer$Output;" ∈ lw_g := qm_2 (i := 95) rfl rfl
theorem m_336 : Cond.fieldLink "TreeDiffer" (69 : Nat) "TreeDiffer" "spareOutput" "LTreeDiffer$Output;" ∈ lw_g := qm_2 (i := 96) rfl rfl
theorem m_337 : Cond.fieldLink "TreeDiffer" (72 : Nat) "TreeDiffer" "isCompared" "Z" ∈ lw_g := qm_2 (i := 97) rfl rfl
theorem m_338 : Cond.fieldLink "TreeDiffer" (76 : Nat) "TreeDiffer" "knownDistance" "I" ∈ lw_g := qm_2 (i := 98) rfl rfl
theorem m_339 : Cond.fieldLink "TreeDiffer" (80 : Nat) "TreeDiffer" "carriedOut" "I" ∈ lw_g := qm_2 (i := 99) rfl rfl
theorem m_340 : Cond.laysFinal "TreeDiffer" "TreeDiffer" "text" "LTreeDiffer$Text;" ∈ lw_g := qm_2 (i := 100) rfl rfl
theorem m_342 : Cond.laysFinal "TreeDiffer" "TreeDiffer" "setup" "LTreeDiffer$Setup;" ∈ lw_g := qm_2 (i := 102) rfl rfl
theorem m_344 : Cond.laysFinal "TreeDiffer" "TreeDiffer" "saved" "[LTreeDiffer$Setup;" ∈ lw_g := qm_2 (i := 104) rfl rfl
theorem m_346 : Cond.laysFinal "TreeDiffer" "TreeDiffer" "isSaved" "[Z" ∈ lw_g := qm_2 (i := 106) rfl rfl
theorem m_348 : Cond.laysFinal "TreeDiffer" "TreeDiffer" "matching" "LTreeDiffer$Matching;" ∈ lw_g := qm_2 (i := 108) rfl rfl
theorem m_350 : Cond.laysFinal "TreeDiffer" "TreeDiffer" "script" "LTreeDiffer$Script;" ∈ lw_g := qm_2 (i := 110) rfl rfl
theorem m_352 : Cond.laysFinal "TreeDiffer" "TreeDiffer" "editDistance" "LTreeDiffer$EditDistance;" ∈ lw_g := qm_2 (i := 112) rfl rfl
theorem m_354 : Cond.laysFinal "TreeDiffer" "TreeDiffer" "work" "LTreeDiffer$WorkTree;" ∈ lw_g := qm_2 (i := 114) rfl rfl
theorem m_356 : Cond.laysFinal "TreeDiffer" "TreeDiffer" "spare" "LTreeDiffer$WorkTree;" ∈ lw_g := qm_2 (i := 116) rfl rfl
theorem m_358 : Cond.laysFinal "TreeDiffer" "TreeDiffer" "output" "LTreeDiffer$Output;" ∈ lw_g := qm_2 (i := 118) rfl rfl
theorem m_360 : Cond.laysFinal "TreeDiffer" "TreeDiffer" "spareOutput" "LTreeDiffer$Output;" ∈ lw_g := qm_2 (i := 120) rfl rfl
theorem m_362 : Cond.lays "TreeDiffer" "TreeDiffer" "isCompared" "Z" ∈ lw_g := qm_2 (i := 122) rfl rfl
theorem m_364 : Cond.lays "TreeDiffer" "TreeDiffer" "knownDistance" "I" ∈ lw_g := qm_2 (i := 124) rfl rfl
theorem m_366 : Cond.lays "TreeDiffer" "TreeDiffer" "carriedOut" "I" ∈ lw_g := qm_2 (i := 126) rfl rfl
theorem m_369 : Cond.methodLink "TreeDifferLaw" 13 y_TD_append ∈ lw_g := qm_2 (i := 129) rfl rfl
theorem m_370 : Cond.instanceMethod y_TD_append ∈ lw_g := qm_2 (i := 130) rfl rfl
theorem m_371 : Cond.selects "TreeDiffer" y_TD_append y_TD_append ∈ lw_g := qm_2 (i := 131) rfl rfl
theorem m_372 : Cond.code y_TD_append c_TD_append 2 (some .int) ∈ lw_g := qm_2 (i := 132) rfl rfl
theorem m_373 : Cond.methodLink "TreeDiffer" 91 y_Tx_add ∈ lw_g := qm_2 (i := 133) rfl rfl
theorem m_374 : Cond.instanceMethod y_Tx_add ∈ lw_g := qm_2 (i := 134) rfl rfl
theorem m_375 : Cond.selects "TreeDiffer$Text" y_Tx_add y_Tx_add ∈ lw_g := qm_2 (i := 135) rfl rfl
theorem m_376 : Cond.code y_Tx_add c_Tx_add 2 (some .boolean) ∈ lw_g := qm_2 (i := 136) rfl rfl
theorem m_377 : Cond.methodLink "TreeDifferLaw" 18 y_TD_clearText ∈ lw_g := qm_2 (i := 137) rfl rfl
theorem m_378 : Cond.instanceMethod y_TD_clearText ∈ lw_g := qm_2 (i := 138) rfl rfl
theorem m_379 : Cond.selects "TreeDiffer" y_TD_clearText y_TD_clearText ∈ lw_g := qm_2 (i := 139) rfl rfl
theorem m_380 : Cond.code y_TD_clearText c_TD_clearText 2 (some .int) ∈ lw_g := qm_2 (i := 140) rfl rfl
theorem m_381 : Cond.methodLink "TreeDifferLaw" 23 y_TD_faultPosition ∈ lw_g := qm_2 (i := 141) rfl rfl
theorem m_382 : Cond.instanceMethod y_TD_faultPosition ∈ lw_g := qm_2 (i := 142) rfl rfl
theorem m_383 : Cond.selects "TreeDiffer" y_TD_faultPosition y_TD_faultPosition ∈ lw_g := qm_2 (i := 143) rfl rfl
theorem m_384 : Cond.code y_TD_faultPosition c_TD_faultPosition 1 (some .int) ∈ lw_g := qm_2 (i := 144) rfl rfl
theorem m_385 : Cond.methodLink "TreeDiffer" 98 y_Tx_findFault ∈ lw_g := qm_2 (i := 145) rfl rfl
theorem m_386 : Cond.instanceMethod y_Tx_findFault ∈ lw_g := qm_2 (i := 146) rfl rfl
theorem m_387 : Cond.selects "TreeDiffer$Text" y_Tx_findFault y_Tx_findFault ∈ lw_g := qm_2 (i := 147) rfl rfl
theorem m_388 : Cond.code y_Tx_findFault c_Tx_findFault 2 (some .int) ∈ lw_g := qm_2 (i := 148) rfl rfl
theorem m_389 : Cond.methodLink "TreeDiffer$Text" 38 y_Tx_takes ∈ lw_g := qm_2 (i := 149) rfl rfl
theorem m_391 : Cond.instanceMethod y_Tx_takes ∈ lw_g := qm_2 (i := 151) rfl rfl
theorem m_392 : Cond.code y_Tx_takes c_Tx_takes 2 (some .boolean) ∈ lw_g := qm_2 (i := 152) rfl rfl
theorem m_393 : Cond.methodLink "TreeDiffer$Text" 42 y_Tx_takesLabel ∈ lw_g := qm_2 (i := 153) rfl rfl
theorem m_395 : Cond.instanceMethod y_Tx_takesLabel ∈ lw_g := qm_2 (i := 155) rfl rfl
theorem m_396 : Cond.code y_Tx_takesLabel c_Tx_takesLabel 2 (some .boolean) ∈ lw_g := qm_2 (i := 156) rfl rfl
theorem m_397 : Cond.methodLink "TreeDiffer$Text" 58 y_Tr_add ∈ lw_g := qm_2 (i := 157) rfl rfl
theorem m_398 : Cond.instanceMethod y_Tr_add ∈ lw_g := qm_2 (i := 158) rfl rfl
theorem m_399 : Cond.selects "TreeDiffer$Tree" y_Tr_add y_Tr_add ∈ lw_g := qm_2 (i := 159) rfl rfl
theorem m_400 : Cond.code y_Tr_add c_Tr_add 3 (some .boolean) ∈ lw_g := qm_2 (i := 160) rfl rfl
theorem m_401 : Cond.methodLink "TreeDiffer$Text" 45 y_Tx_takesOpening ∈ lw_g := qm_2 (i := 161) rfl rfl
theorem m_403 : Cond.instanceMethod y_Tx_takesOpening ∈ lw_g := qm_2 (i := 163) rfl rfl
theorem m_404 : Cond.code y_Tx_takesOpening c_Tx_takesOpening 1 (some .boolean) ∈ lw_g := qm_2 (i := 164) rfl rfl
theorem m_405 : Cond.methodLink "TreeDiffer$Text" 49 y_Tx_takesSpace ∈ lw_g := qm_2 (i := 165) rfl rfl
theorem m_407 : Cond.instanceMethod y_Tx_takesSpace ∈ lw_g := qm_2 (i := 167) rfl rfl
theorem m_408 : Cond.code y_Tx_takesSpace c_Tx_takesSpace 1 (some .boolean) ∈ lw_g := qm_2 (i := 168) rfl rfl
theorem m_409 : Cond.methodLink "TreeDiffer$Text" 52 y_Tx_takesClosing ∈ lw_g := qm_2 (i := 169) rfl rfl
theorem m_411 : Cond.instanceMethod y_Tx_takesClosing ∈ lw_g := qm_2 (i := 171) rfl rfl
theorem m_412 : Cond.code y_Tx_takesClosing c_Tx_takesClosing 1 (some .boolean) ∈ lw_g := qm_2 (i := 172) rfl rfl
theorem m_413 : Cond.methodLink "TreeDiffer$Text" 55 y_Tx_takesDigit ∈ lw_g := qm_2 (i := 173) rfl rfl
theorem m_415 : Cond.instanceMethod y_Tx_takesDigit ∈ lw_g := qm_2 (i := 175) rfl rfl
theorem m_416 : Cond.code y_Tx_takesDigit c_Tx_takesDigit 4 (some .boolean) ∈ lw_g := qm_2 (i := 176) rfl rfl
theorem m_417 : Cond.methodLink "TreeDifferLaw" 27 y_TD_faultDepth ∈ lw_g := qm_2 (i := 177) rfl rfl
theorem m_418 : Cond.instanceMethod y_TD_faultDepth ∈ lw_g := qm_2 (i := 178) rfl rfl
theorem m_419 : Cond.selects "TreeDiffer" y_TD_faultDepth y_TD_faultDepth ∈ lw_g := qm_2 (i := 179) rfl rfl
theorem m_420 : Cond.code y_TD_faultDepth c_TD_faultDepth 1 (some .int) ∈ lw_g := qm_2 (i := 180) rfl rfl
theorem m_421 : Cond.methodLink "TreeDifferLaw" 31 y_TD_read ∈ lw_g := qm_2 (i := 181) rfl rfl
theorem m_422 : Cond.instanceMethod y_TD_read ∈ lw_g := qm_2 (i := 182) rfl rfl
theorem m_423 : Cond.selects "TreeDiffer" y_TD_read y_TD_read ∈ lw_g := qm_2 (i := 183) rfl rfl
theorem m_424 : Cond.code y_TD_read c_TD_read 3 (some .int) ∈ lw_g := qm_2 (i := 184) rfl rfl
theorem m_425 : Cond.methodLink "TreeDiffer" 105 y_TD_isTree ∈ lw_g := qm_2 (i := 185) rfl rfl
theorem m_426 : Cond.static y_TD_isTree ∈ lw_g := qm_2 (i := 186) rfl rfl
theorem m_427 : Cond.code y_TD_isTree c_TD_isTree 1 (some .boolean) ∈ lw_g := qm_2 (i := 187) rfl rfl
theorem m_428 : Cond.methodLink "TreeDiffer" 108 y_Se_treeOf ∈ lw_g := qm_2 (i := 188) rfl rfl
theorem m_429 : Cond.instanceMethod y_Se_treeOf ∈ lw_g := qm_2 (i := 189) rfl rfl
theorem m_430 : Cond.selects "TreeDiffer$Setup" y_Se_treeOf y_Se_treeOf ∈ lw_g := qm_2 (i := 190) rfl rfl
theorem m_431 : Cond.code y_Se_treeOf c_Se_treeOf 2 (some (.object "TreeDiffer$Tree")) ∈ lw_g := qm_2 (i := 191) rfl rfl
theorem m_432 : Cond.methodLink "TreeDiffer" 115 y_Tr_copy ∈ lw_g := qm_2 (i := 192) rfl rfl
theorem m_433 : Cond.instanceMethod y_Tr_copy ∈ lw_g := qm_2 (i := 193) rfl rfl
theorem m_434 : Cond.selects "TreeDiffer$Tree" y_Tr_copy y_Tr_copy ∈ lw_g := qm_2 (i := 194) rfl rfl
theorem m_435 : Cond.code y_Tr_copy c_Tr_copy 3 none ∈ lw_g := qm_2 (i := 195) rfl rfl
theorem m_436 : Cond.methodLink "TreeDiffer" 120 y_Tr_complete ∈ lw_g := qm_2 (i := 196) rfl rfl
theorem m_437 : Cond.instanceMethod y_Tr_complete ∈ lw_g := qm_2 (i := 197) rfl rfl
theorem m_438 : Cond.selects "TreeDiffer$Tree" y_Tr_complete y_Tr_complete ∈ lw_g := qm_2 (i := 198) rfl rfl
theorem m_439 : Cond.code y_Tr_complete c_Tr_complete 3 none ∈ lw_g := qm_2 (i := 199) rfl rfl
theorem m_440 : Cond.methodLink "TreeDiffer$Tree" 43 Lib.Math.max.name ∈ lw_g := qm_2 (i := 200) rfl rfl
theorem m_441 : Cond.static Lib.Math.max.name ∈ lw_g := qm_2 (i := 201) rfl rfl
theorem m_442 : Cond.code Lib.Math.max.name Lib.Math.max.code 2 (some .int) ∈ lw_g := qm_2 (i := 202) rfl rfl
theorem m_443 : Cond.methodLink "TreeDiffer$Tree" 49 y_Tr_sortInPostorder ∈ lw_g := qm_2 (i := 203) rfl rfl
theorem m_445 : Cond.instanceMethod y_Tr_sortInPostorder ∈ lw_g := qm_2 (i := 205) rfl rfl
theorem m_446 : Cond.code y_Tr_sortInPostorder c_Tr_sortInPostorder 2 none ∈ lw_g := qm_2 (i := 206) rfl rfl
theorem m_447 : Cond.methodLink "TreeDiffer" 123 y_TD_forgetAnswers ∈ lw_g := qm_2 (i := 207) rfl rfl
theorem m_449 : Cond.instanceMethod y_TD_forgetAnswers ∈ lw_g := qm_2 (i := 209) rfl rfl
theorem m_450 : Cond.code y_TD_forgetAnswers c_TD_forgetAnswers 1 none ∈ lw_g := qm_2 (i := 210) rfl rfl
theorem m_451 : Cond.methodLink "TreeDiffer" 210 y_TD_rewind ∈ lw_g := qm_2 (i := 211) rfl rfl
theorem m_453 : Cond.instanceMethod y_TD_rewind ∈ lw_g := qm_2 (i := 213) rfl rfl
theorem m_454 : Cond.code y_TD_rewind c_TD_rewind 1 none ∈ lw_g := qm_2 (i := 214) rfl rfl
theorem m_455 : Cond.methodLink "TreeDifferLaw" 35 y_TD_exchange ∈ lw_g := qm_2 (i := 215) rfl rfl
theorem m_456 : Cond.instanceMethod y_TD_exchange ∈ lw_g := qm_2 (i := 216) rfl rfl
theorem m_457 : Cond.selects "TreeDiffer" y_TD_exchange y_TD_exchange ∈ lw_g := qm_2 (i := 217) rfl rfl
theorem m_458 : Cond.code y_TD_exchange c_TD_exchange 1 (some .int) ∈ lw_g := qm_2 (i := 218) rfl rfl
theorem m_459 : Cond.methodLink "TreeDiffer" 129 y_Se_swapTrees ∈ lw_g := qm_2 (i := 219) rfl rfl
theorem m_460 : Cond.instanceMethod y_Se_swapTrees ∈ lw_g := qm_2 (i := 220) rfl rfl
theorem m_461 : Cond.selects "TreeDiffer$Setup" y_Se_swapTrees y_Se_swapTrees ∈ lw_g := qm_2 (i := 221) rfl rfl
theorem m_462 : Cond.code y_Se_swapTrees c_Se_swapTrees 2 none ∈ lw_g := qm_2 (i := 222) rfl rfl
theorem m_463 : Cond.methodLink "TreeDifferLaw" 39 y_TD_nodes ∈ lw_g := qm_2 (i := 223) rfl rfl
theorem m_464 : Cond.instanceMethod y_TD_nodes ∈ lw_g := qm_2 (i := 224) rfl rfl
theorem m_465 : Cond.selects "TreeDiffer" y_TD_nodes y_TD_nodes ∈ lw_g := qm_2 (i := 225) rfl rfl
theorem m_466 : Cond.code y_TD_nodes c_TD_nodes 2 (some .int) ∈ lw_g := qm_2 (i := 226) rfl rfl
theorem m_467 : Cond.methodLink "TreeDifferLaw" 43 y_TD_node ∈ lw_g := qm_2 (i := 227) rfl rfl
theorem m_468 : Cond.instanceMethod y_TD_node ∈ lw_g := qm_2 (i := 228) rfl rfl
theorem m_469 : Cond.selects "TreeDiffer" y_TD_node y_TD_node ∈ lw_g := qm_2 (i := 229) rfl rfl
theorem m_470 : Cond.code y_TD_node c_TD_node 5 (some .int) ∈ lw_g := qm_2 (i := 230) rfl rfl
theorem m_471 : Cond.methodLink "TreeDiffer" 132 y_TD_isNode ∈ lw_g := qm_2 (i := 231) rfl rfl
theorem m_473 : Cond.instanceMethod y_TD_isNode ∈ lw_g := qm_2 (i := 233) rfl rfl
theorem m_474 : Cond.code y_TD_isNode c_TD_isNode 3 (some .boolean) ∈ lw_g := qm_2 (i := 234) rfl rfl
theorem m_475 : Cond.methodLink "TreeDifferLaw" 48 y_TD_child ∈ lw_g := qm_2 (i := 235) rfl rfl
theorem m_476 : Cond.instanceMethod y_TD_child ∈ lw_g := qm_2 (i := 236) rfl rfl
theorem m_477 : Cond.selects "TreeDiffer" y_TD_child y_TD_child ∈ lw_g := qm_2 (i := 237) rfl rfl
theorem m_478 : Cond.code y_TD_child c_TD_child 4 (some .int) ∈ lw_g := qm_2 (i := 238) rfl rfl
theorem m_479 : Cond.methodLink "TreeDiffer" 155 y_Tr_childAt ∈ lw_g := qm_2 (i := 239) rfl rfl
theorem m_480 : Cond.instanceMethod y_Tr_childAt ∈ lw_g := qm_3 (i := 0) rfl rfl
theorem m_481 : Cond.selects "TreeDiffer$Tree" y_Tr_childAt y_Tr_childAt ∈ lw_g := qm_3 (i := 1) rfl rfl
theorem m_482 : Cond.code y_Tr_childAt c_Tr_childAt 5 (some .int) ∈ lw_g := qm_3 (i := 2) rfl rfl
theorem m_483 : Cond.methodLink "TreeDiffer$Tree" 52 y_Tr_endOf ∈ lw_g := qm_3 (i := 3) rfl rfl
theorem m_484 : Cond.instanceMethod y_Tr_endOf ∈ lw_g := qm_3 (i := 4) rfl rfl
theorem m_485 : Cond.selects "TreeDiffer$Tree" y_Tr_endOf y_Tr_endOf ∈ lw_g := qm_3 (i := 5) rfl rfl
theorem m_486 : Cond.code y_Tr_endOf c_Tr_endOf 2 (some .int) ∈ lw_g := qm_3 (i := 6) rfl rfl
theorem m_487 : Cond.methodLink "TreeDifferLaw" 52 y_TD_equal ∈ lw_g := qm_3 (i := 7) rfl rfl
theorem m_488 : Cond.instanceMethod y_TD_equal ∈ lw_g := qm_3 (i := 8) rfl rfl
theorem m_489 : Cond.selects "TreeDiffer" y_TD_equal y_TD_equal ∈ lw_g := qm_3 (i := 9) rfl rfl
theorem m_490 : Cond.code y_TD_equal c_TD_equal 3 (some .int) ∈ lw_g := qm_3 (i := 10) rfl rfl
theorem m_491 : Cond.methodLink "TreeDiffer" 159 y_Se_areEqual ∈ lw_g := qm_3 (i := 11) rfl rfl
theorem m_492 : Cond.instanceMethod y_Se_areEqual ∈ lw_g := qm_3 (i := 12) rfl rfl
theorem m_493 : Cond.selects "TreeDiffer$Setup" y_Se_areEqual y_Se_areEqual ∈ lw_g := qm_3 (i := 13) rfl rfl
theorem m_494 : Cond.code y_Se_areEqual c_Se_areEqual 4 (some .boolean) ∈ lw_g := qm_3 (i := 14) rfl rfl
theorem m_495 : Cond.methodLink "TreeDiffer$Setup" 42 y_Se_haveSameContent ∈ lw_g := qm_3 (i := 15) rfl rfl
theorem m_496 : Cond.instanceMethod y_Se_haveSameContent ∈ lw_g := qm_3 (i := 16) rfl rfl
theorem m_497 : Cond.selects "TreeDiffer$Setup" y_Se_haveSameContent y_Se_haveSameContent ∈ lw_g := qm_3 (i := 17) rfl rfl
theorem m_498 : Cond.code y_Se_haveSameContent c_Se_haveSameContent 3 (some .boolean) ∈ lw_g := qm_3 (i := 18) rfl rfl
theorem m_499 : Cond.methodLink "TreeDifferLaw" 57 y_TD_setMatching ∈ lw_g := qm_3 (i := 19) rfl rfl
theorem m_500 : Cond.instanceMethod y_TD_setMatching ∈ lw_g := qm_3 (i := 20) rfl rfl
theorem m_501 : Cond.selects "TreeDiffer" y_TD_setMatching y_TD_setMatching ∈ lw_g := qm_3 (i := 21) rfl rfl
theorem m_502 : Cond.code y_TD_setMatching c_TD_setMatching 4 (some .int) ∈ lw_g := qm_3 (i := 22) rfl rfl
theorem m_503 : Cond.methodLink "TreeDifferLaw" 61 y_TD_pairs ∈ lw_g := qm_3 (i := 23) rfl rfl
theorem m_504 : Cond.instanceMethod y_TD_pairs ∈ lw_g := qm_3 (i := 24) rfl rfl
theorem m_505 : Cond.selects "TreeDiffer" y_TD_pairs y_TD_pairs ∈ lw_g := qm_3 (i := 25) rfl rfl
theorem m_506 : Cond.code y_TD_pairs c_TD_pairs 1 (some .int) ∈ lw_g := qm_3 (i := 26) rfl rfl
theorem m_507 : Cond.methodLink "TreeDiffer" 167 y_TD_compare ∈ lw_g := qm_3 (i := 27) rfl rfl
theorem m_509 : Cond.instanceMethod y_TD_compare ∈ lw_g := qm_3 (i := 29) rfl rfl
theorem m_510 : Cond.code y_TD_compare c_TD_compare 1 none ∈ lw_g := qm_3 (i := 30) rfl rfl
theorem m_511 : Cond.methodLink "TreeDiffer" 254 y_Ma_find ∈ lw_g := qm_3 (i := 31) rfl rfl
theorem m_512 : Cond.instanceMethod y_Ma_find ∈ lw_g := qm_3 (i := 32) rfl rfl
theorem m_513 : Cond.selects "TreeDiffer$Matching" y_Ma_find y_Ma_find ∈ lw_g := qm_3 (i := 33) rfl rfl
theorem m_514 : Cond.code y_Ma_find c_Ma_find 3 none ∈ lw_g := qm_3 (i := 34) rfl rfl
theorem m_515 : Cond.methodLink "TreeDiffer$Matching" 25 y_Ma_pairEqualSubtrees ∈ lw_g := qm_3 (i := 35) rfl rfl
theorem m_517 : Cond.instanceMethod y_Ma_pairEqualSubtrees ∈ lw_g := qm_3 (i := 37) rfl rfl
theorem m_518 : Cond.code y_Ma_pairEqualSubtrees c_Ma_pairEqualSubtrees 6 none ∈ lw_g := qm_3 (i := 38) rfl rfl
theorem m_519 : Cond.methodLink "TreeDiffer$Matching" 49 Lib.Math.min.name ∈ lw_g := qm_3 (i := 39) rfl rfl
theorem m_520 : Cond.static Lib.Math.min.name ∈ lw_g := qm_3 (i := 40) rfl rfl
theorem m_521 : Cond.code Lib.Math.min.name Lib.Math.min.code 2 (some .int) ∈ lw_g := qm_3 (i := 41) rfl rfl
theorem m_522 : Cond.methodLink "TreeDiffer$Matching" 57 y_Ma_pairNearest ∈ lw_g := qm_3 (i := 42) rfl rfl
theorem m_524 : Cond.instanceMethod y_Ma_pairNearest ∈ lw_g := qm_3 (i := 44) rfl rfl
theorem m_525 : Cond.code y_Ma_pairNearest c_Ma_pairNearest 9 (some .boolean) ∈ lw_g := qm_3 (i := 45) rfl rfl
theorem m_526 : Cond.methodLink "TreeDiffer$Matching" 64 y_Se_areEqual ∈ lw_g := qm_3 (i := 46) rfl rfl
theorem m_527 : Cond.methodLink "TreeDiffer$Matching" 68 y_Ma_nearness ∈ lw_g := qm_3 (i := 47) rfl rfl
theorem m_529 : Cond.instanceMethod y_Ma_nearness ∈ lw_g := qm_3 (i := 49) rfl rfl
theorem m_530 : Cond.code y_Ma_nearness c_Ma_nearness 5 (some .int) ∈ lw_g := qm_3 (i := 50) rfl rfl
theorem m_531 : Cond.methodLink "TreeDiffer$Matching" 82 Lib.Math.abs.name ∈ lw_g := qm_3 (i := 51) rfl rfl
theorem m_532 : Cond.static Lib.Math.abs.name ∈ lw_g := qm_3 (i := 52) rfl rfl
theorem m_533 : Cond.code Lib.Math.abs.name Lib.Math.abs.code 1 (some .int) ∈ lw_g := qm_3 (i := 53) rfl rfl
theorem m_534 : Cond.methodLink "TreeDiffer$Matching" 86 y_Se_kinship ∈ lw_g := qm_3 (i := 54) rfl rfl
theorem m_535 : Cond.instanceMethod y_Se_kinship ∈ lw_g := qm_3 (i := 55) rfl rfl
theorem m_536 : Cond.selects "TreeDiffer$Setup" y_Se_kinship y_Se_kinship ∈ lw_g := qm_3 (i := 56) rfl rfl
theorem m_537 : Cond.code y_Se_kinship c_Se_kinship 6 (some .int) ∈ lw_g := qm_3 (i := 57) rfl rfl
theorem m_538 : Cond.methodLink "TreeDiffer$Matching" 75 y_Ma_pair ∈ lw_g := qm_3 (i := 58) rfl rfl
theorem m_540 : Cond.instanceMethod y_Ma_pair ∈ lw_g := qm_3 (i := 60) rfl rfl
theorem m_541 : Cond.code y_Ma_pair c_Ma_pair 4 none ∈ lw_g := qm_3 (i := 61) rfl rfl
theorem m_542 : Cond.methodLink "TreeDiffer$Matching" 29 y_Ma_pairByDescendants ∈ lw_g := qm_3 (i := 62) rfl rfl
theorem m_544 : Cond.instanceMethod y_Ma_pairByDescendants ∈ lw_g := qm_3 (i := 64) rfl rfl
theorem m_545 : Cond.code y_Ma_pairByDescendants c_Ma_pairByDescendants 7 none ∈ lw_g := qm_3 (i := 65) rfl rfl
theorem m_546 : Cond.methodLink "TreeDiffer$Matching" 92 y_Ma_mostAlike ∈ lw_g := qm_3 (i := 66) rfl rfl
theorem m_548 : Cond.instanceMethod y_Ma_mostAlike ∈ lw_g := qm_3 (i := 68) rfl rfl
theorem m_549 : Cond.code y_Ma_mostAlike c_Ma_mostAlike 9 (some .int) ∈ lw_g := qm_3 (i := 69) rfl rfl
theorem m_550 : Cond.methodLink "TreeDiffer$Matching" 102 y_Se_haveSameLabel ∈ lw_g := qm_3 (i := 70) rfl rfl
theorem m_551 : Cond.instanceMethod y_Se_haveSameLabel ∈ lw_g := qm_3 (i := 71) rfl rfl
theorem m_552 : Cond.selects "TreeDiffer$Setup" y_Se_haveSameLabel y_Se_haveSameLabel ∈ lw_g := qm_3 (i := 72) rfl rfl
theorem m_553 : Cond.code y_Se_haveSameLabel c_Se_haveSameLabel 3 (some .boolean) ∈ lw_g := qm_3 (i := 73) rfl rfl
theorem m_554 : Cond.methodLink "TreeDiffer$Matching" 96 y_Ma_commonBelow ∈ lw_g := qm_3 (i := 74) rfl rfl
theorem m_555 : Cond.instanceMethod y_Ma_commonBelow ∈ lw_g := qm_3 (i := 75) rfl rfl
theorem m_556 : Cond.selects "TreeDiffer$Matching" y_Ma_commonBelow y_Ma_commonBelow ∈ lw_g := qm_3 (i := 76) rfl rfl
theorem m_557 : Cond.code y_Ma_commonBelow c_Ma_commonBelow 8 (some .int) ∈ lw_g := qm_3 (i := 77) rfl rfl
theorem m_558 : Cond.methodLink "TreeDiffer$Matching" 105 y_Tr_endOf ∈ lw_g := qm_3 (i := 78) rfl rfl
theorem m_559 : Cond.methodLink "TreeDiffer$Matching" 32 y_Ma_pairRoots ∈ lw_g := qm_3 (i := 79) rfl rfl
theorem m_561 : Cond.instanceMethod y_Ma_pairRoots ∈ lw_g := qm_3 (i := 81) rfl rfl
theorem m_562 : Cond.code y_Ma_pairRoots c_Ma_pairRoots 3 none ∈ lw_g := qm_3 (i := 82) rfl rfl
theorem m_563 : Cond.methodLink "TreeDiffer" 257 y_Sc_make ∈ lw_g := qm_3 (i := 83) rfl rfl
theorem m_564 : Cond.instanceMethod y_Sc_make ∈ lw_g := qm_3 (i := 84) rfl rfl
theorem m_565 : Cond.selects "TreeDiffer$Script" y_Sc_make y_Sc_make ∈ lw_g := qm_3 (i := 85) rfl rfl
theorem m_566 : Cond.code y_Sc_make c_Sc_make 6 none ∈ lw_g := qm_3 (i := 86) rfl rfl
theorem m_567 : Cond.methodLink "TreeDiffer$Script" 49 y_Wt_load ∈ lw_g := qm_3 (i := 87) rfl rfl
theorem m_568 : Cond.methodLink "TreeDiffer$Script" 61 y_Sc_putChildrenInOrder ∈ lw_g := qm_3 (i := 88) rfl rfl
theorem m_570 : Cond.instanceMethod y_Sc_putChildrenInOrder ∈ lw_g := qm_3 (i := 90) rfl rfl
theorem m_571 : Cond.code y_Sc_putChildrenInOrder c_Sc_putChildrenInOrder 5 none ∈ lw_g := qm_3 (i := 91) rfl rfl
theorem m_572 : Cond.methodLink "TreeDiffer$Script" 164 y_Sc_gatherChildren ∈ lw_g := qm_3 (i := 92) rfl rfl
theorem m_574 : Cond.instanceMethod y_Sc_gatherChildren ∈ lw_g := qm_3 (i := 94) rfl rfl
theorem m_575 : Cond.code y_Sc_gatherChildren c_Sc_gatherChildren 6 (some .int) ∈ lw_g := qm_3 (i := 95) rfl rfl
theorem m_576 : Cond.methodLink "TreeDiffer$Script" 173 y_Tr_endOf ∈ lw_g := qm_3 (i := 96) rfl rfl
theorem m_577 : Cond.methodLink "TreeDiffer$Script" 110 y_Sc_partnerOf ∈ lw_g := qm_3 (i := 97) rfl rfl
theorem m_579 : Cond.instanceMethod y_Sc_partnerOf ∈ lw_g := qm_3 (i := 99) rfl rfl
theorem m_580 : Cond.code y_Sc_partnerOf c_Sc_partnerOf 2 (some .int) ∈ lw_g := qm_3 (i := 100) rfl rfl
theorem m_581 : Cond.methodLink "TreeDiffer$Script" 176 y_Sc_isBelow ∈ lw_g := qm_3 (i := 101) rfl rfl
theorem m_583 : Cond.instanceMethod y_Sc_isBelow ∈ lw_g := qm_3 (i := 103) rfl rfl
theorem m_584 : Cond.code y_Sc_isBelow c_Sc_isBelow 3 (some .boolean) ∈ lw_g := qm_3 (i := 104) rfl rfl
theorem m_585 : Cond.methodLink "TreeDiffer$Script" 167 y_Sc_measureSequences ∈ lw_g := qm_3 (i := 105) rfl rfl
theorem m_587 : Cond.instanceMethod y_Sc_measureSequences ∈ lw_g := qm_3 (i := 107) rfl rfl
theorem m_588 : Cond.code y_Sc_measureSequences c_Sc_measureSequences 5 (some .int) ∈ lw_g := qm_3 (i := 108) rfl rfl
theorem m_589 : Cond.methodLink "TreeDiffer$Script" 180 y_Sc_placeOf ∈ lw_g := qm_3 (i := 109) rfl rfl
theorem m_591 : Cond.instanceMethod y_Sc_placeOf ∈ lw_g := qm_3 (i := 111) rfl rfl
theorem m_592 : Cond.code y_Sc_placeOf c_Sc_placeOf 2 (some .int) ∈ lw_g := qm_3 (i := 112) rfl rfl
theorem m_593 : Cond.methodLink "TreeDiffer$Script" 183 Lib.Math.max.name ∈ lw_g := qm_3 (i := 113) rfl rfl
theorem m_594 : Cond.methodLink "TreeDiffer$Script" 170 y_Sc_markLongest ∈ lw_g := qm_3 (i := 114) rfl rfl
theorem m_596 : Cond.instanceMethod y_Sc_markLongest ∈ lw_g := qm_3 (i := 116) rfl rfl
theorem m_597 : Cond.code y_Sc_markLongest c_Sc_markLongest 6 none ∈ lw_g := qm_3 (i := 117) rfl rfl
theorem m_598 : Cond.methodLink "TreeDiffer$Script" 114 y_Sc_move ∈ lw_g := qm_3 (i := 118) rfl rfl
theorem m_600 : Cond.instanceMethod y_Sc_move ∈ lw_g := qm_3 (i := 120) rfl rfl
theorem m_601 : Cond.code y_Sc_move c_Sc_move 5 none ∈ lw_g := qm_3 (i := 121) rfl rfl
theorem m_602 : Cond.methodLink "TreeDiffer$Script" 120 y_Sc_addStep ∈ lw_g := qm_3 (i := 122) rfl rfl
theorem m_604 : Cond.instanceMethod y_Sc_addStep ∈ lw_g := qm_3 (i := 124) rfl rfl
theorem m_605 : Cond.code y_Sc_addStep c_Sc_addStep 5 (some (.object "TreeDiffer$Step")) ∈ lw_g := qm_3 (i := 125) rfl rfl
theorem m_606 : Cond.methodLink "TreeDiffer$Script" 83 Lib.Math.min.name ∈ lw_g := qm_3 (i := 126) rfl rfl
theorem m_607 : Cond.methodLink "TreeDiffer$Script" 156 y_Wt_takeOut ∈ lw_g := qm_3 (i := 127) rfl rfl
theorem m_608 : Cond.instanceMethod y_Wt_takeOut ∈ lw_g := qm_3 (i := 128) rfl rfl
theorem m_609 : Cond.selects "TreeDiffer$WorkTree" y_Wt_takeOut y_Wt_takeOut ∈ lw_g := qm_3 (i := 129) rfl rfl
theorem m_610 : Cond.code y_Wt_takeOut c_Wt_takeOut 4 none ∈ lw_g := qm_3 (i := 130) rfl rfl
theorem m_611 : Cond.methodLink "TreeDiffer$WorkTree" 34 y_Wt_has ∈ lw_g := qm_3 (i := 131) rfl rfl
theorem m_612 : Cond.instanceMethod y_Wt_has ∈ lw_g := qm_3 (i := 132) rfl rfl
theorem m_613 : Cond.selects "TreeDiffer$WorkTree" y_Wt_has y_Wt_has ∈ lw_g := qm_3 (i := 133) rfl rfl
theorem m_614 : Cond.code y_Wt_has c_Wt_has 2 (some .boolean) ∈ lw_g := qm_3 (i := 134) rfl rfl
theorem m_615 : Cond.methodLink "TreeDiffer$Script" 127 y_Sc_placeFor ∈ lw_g := qm_3 (i := 135) rfl rfl
theorem m_617 : Cond.instanceMethod y_Sc_placeFor ∈ lw_g := qm_3 (i := 137) rfl rfl
theorem m_618 : Cond.code y_Sc_placeFor c_Sc_placeFor 6 (some .int) ∈ lw_g := qm_3 (i := 138) rfl rfl
theorem m_619 : Cond.methodLink "TreeDiffer$Script" 160 y_Wt_putIn ∈ lw_g := qm_3 (i := 139) rfl rfl
theorem m_620 : Cond.instanceMethod y_Wt_putIn ∈ lw_g := qm_3 (i := 140) rfl rfl
theorem m_621 : Cond.selects "TreeDiffer$WorkTree" y_Wt_putIn y_Wt_putIn ∈ lw_g := qm_3 (i := 141) rfl rfl
theorem m_622 : Cond.code y_Wt_putIn c_Wt_putIn 5 none ∈ lw_g := qm_3 (i := 142) rfl rfl
theorem m_623 : Cond.methodLink "TreeDiffer$Script" 76 y_Sc_bringIntoLine ∈ lw_g := qm_3 (i := 143) rfl rfl
theorem m_625 : Cond.instanceMethod y_Sc_bringIntoLine ∈ lw_g := qm_3 (i := 145) rfl rfl
theorem m_626 : Cond.code y_Sc_bringIntoLine c_Sc_bringIntoLine 4 none ∈ lw_g := qm_3 (i := 146) rfl rfl
theorem m_627 : Cond.methodLink "TreeDiffer$Script" 95 y_Sc_insert ∈ lw_g := qm_3 (i := 147) rfl rfl
theorem m_629 : Cond.instanceMethod y_Sc_insert ∈ lw_g := qm_3 (i := 149) rfl rfl
theorem m_630 : Cond.code y_Sc_insert c_Sc_insert 4 none ∈ lw_g := qm_3 (i := 150) rfl rfl
theorem m_631 : Cond.methodLinkNest "TreeDiffer$Script" 117 y_TD_roomOfInserted "TreeDiffer" ∈ lw_tbl := List.mem_append_right _ (List.mem_of_getElem? (i := 631) (by decide +kernel))
theorem m_632 : Cond.static y_TD_roomOfInserted ∈ lw_g := qm_3 (i := 152) rfl rfl
theorem m_633 : Cond.code y_TD_roomOfInserted c_TD_roomOfInserted 1 (some .int) ∈ lw_g := qm_3 (i := 153) rfl rfl
theorem m_634 : Cond.methodLink "TreeDiffer$Script" 141 y_Wt_carryOut ∈ lw_g := qm_3 (i := 154) rfl rfl
theorem m_635 : Cond.instanceMethod y_Wt_carryOut ∈ lw_g := qm_3 (i := 155) rfl rfl
theorem m_636 : Cond.selects "TreeDiffer$WorkTree" y_Wt_carryOut y_Wt_carryOut ∈ lw_g := qm_3 (i := 156) rfl rfl
theorem m_637 : Cond.code y_Wt_carryOut c_Wt_carryOut 2 none ∈ lw_g := qm_3 (i := 157) rfl rfl
theorem m_638 : Cond.methodLink "TreeDiffer$WorkTree" 55 y_Wt_putIn ∈ lw_g := qm_3 (i := 158) rfl rfl
theorem m_639 : Cond.methodLink "TreeDiffer$WorkTree" 59 y_Wt_takeOut ∈ lw_g := qm_3 (i := 159) rfl rfl
theorem m_640 : Cond.methodLink "TreeDiffer$Script" 102 y_Sc_update ∈ lw_g := qm_3 (i := 160) rfl rfl
theorem m_642 : Cond.instanceMethod y_Sc_update ∈ lw_g := qm_3 (i := 162) rfl rfl
theorem m_643 : Cond.code y_Sc_update c_Sc_update 4 none ∈ lw_g := qm_3 (i := 163) rfl rfl
theorem m_644 : Cond.methodLink "TreeDiffer$Script" 79 y_Sc_deleteRest ∈ lw_g := qm_3 (i := 164) rfl rfl
theorem m_646 : Cond.instanceMethod y_Sc_deleteRest ∈ lw_g := qm_3 (i := 166) rfl rfl
theorem m_647 : Cond.code y_Sc_deleteRest c_Sc_deleteRest 6 none ∈ lw_g := qm_3 (i := 167) rfl rfl
theorem m_648 : Cond.methodLink "TreeDifferLaw" 65 y_TD_partner ∈ lw_g := qm_3 (i := 168) rfl rfl
theorem m_649 : Cond.instanceMethod y_TD_partner ∈ lw_g := qm_3 (i := 169) rfl rfl
theorem m_650 : Cond.selects "TreeDiffer" y_TD_partner y_TD_partner ∈ lw_g := qm_3 (i := 170) rfl rfl
theorem m_651 : Cond.code y_TD_partner c_TD_partner 3 (some .int) ∈ lw_g := qm_3 (i := 171) rfl rfl
theorem m_652 : Cond.methodLink "TreeDiffer" 179 y_TD_orNone ∈ lw_g := qm_3 (i := 172) rfl rfl
theorem m_653 : Cond.static y_TD_orNone ∈ lw_g := qm_3 (i := 173) rfl rfl
theorem m_654 : Cond.code y_TD_orNone c_TD_orNone 1 (some .int) ∈ lw_g := qm_3 (i := 174) rfl rfl
theorem m_655 : Cond.methodLink "TreeDifferLaw" 69 y_TD_phase ∈ lw_g := qm_3 (i := 175) rfl rfl
theorem m_656 : Cond.instanceMethod y_TD_phase ∈ lw_g := qm_3 (i := 176) rfl rfl
theorem m_657 : Cond.selects "TreeDiffer" y_TD_phase y_TD_phase ∈ lw_g := qm_3 (i := 177) rfl rfl
theorem m_658 : Cond.code y_TD_phase c_TD_phase 2 (some .int) ∈ lw_g := qm_3 (i := 178) rfl rfl
theorem m_659 : Cond.methodLink "TreeDifferLaw" 73 y_TD_likeness ∈ lw_g := qm_3 (i := 179) rfl rfl
theorem m_660 : Cond.instanceMethod y_TD_likeness ∈ lw_g := qm_3 (i := 180) rfl rfl
theorem m_661 : Cond.selects "TreeDiffer" y_TD_likeness y_TD_likeness ∈ lw_g := qm_3 (i := 181) rfl rfl
theorem m_662 : Cond.code y_TD_likeness c_TD_likeness 4 (some .int) ∈ lw_g := qm_3 (i := 182) rfl rfl
theorem m_663 : Cond.methodLink "TreeDiffer" 189 y_Ma_commonBelow ∈ lw_g := qm_3 (i := 183) rfl rfl
theorem m_664 : Cond.methodLink "TreeDifferLaw" 77 y_TD_steps ∈ lw_g := qm_3 (i := 184) rfl rfl
theorem m_665 : Cond.instanceMethod y_TD_steps ∈ lw_g := qm_3 (i := 185) rfl rfl
theorem m_666 : Cond.selects "TreeDiffer" y_TD_steps y_TD_steps ∈ lw_g := qm_3 (i := 186) rfl rfl
theorem m_667 : Cond.code y_TD_steps c_TD_steps 1 (some .int) ∈ lw_g := qm_3 (i := 187) rfl rfl
theorem m_668 : Cond.methodLink "TreeDifferLaw" 81 y_TD_step ∈ lw_g := qm_3 (i := 188) rfl rfl
theorem m_669 : Cond.instanceMethod y_TD_step ∈ lw_g := qm_3 (i := 189) rfl rfl
theorem m_670 : Cond.selects "TreeDiffer" y_TD_step y_TD_step ∈ lw_g := qm_3 (i := 190) rfl rfl
theorem m_671 : Cond.code y_TD_step c_TD_step 3 (some .int) ∈ lw_g := qm_3 (i := 191) rfl rfl
theorem m_672 : Cond.methodLink "TreeDiffer" 198 y_Sp_tell ∈ lw_g := qm_3 (i := 192) rfl rfl
theorem m_673 : Cond.instanceMethod y_Sp_tell ∈ lw_g := qm_3 (i := 193) rfl rfl
theorem m_674 : Cond.selects "TreeDiffer$Step" y_Sp_tell y_Sp_tell ∈ lw_g := qm_3 (i := 194) rfl rfl
theorem m_675 : Cond.code y_Sp_tell c_Sp_tell 3 (some .int) ∈ lw_g := qm_3 (i := 195) rfl rfl
theorem m_676 : Cond.methodLinkNest "TreeDiffer$Step" 18 y_TD_numberOf "TreeDiffer" ∈ lw_tbl := List.mem_append_right _ (List.mem_of_getElem? (i := 676) (by decide +kernel))
theorem m_677 : Cond.static y_TD_numberOf ∈ lw_g := qm_3 (i := 197) rfl rfl
theorem m_678 : Cond.code y_TD_numberOf c_TD_numberOf 1 (some .int) ∈ lw_g := qm_3 (i := 198) rfl rfl
theorem m_679 : Cond.methodLink "TreeDifferLaw" 85 y_TD_count ∈ lw_g := qm_3 (i := 199) rfl rfl
theorem m_680 : Cond.instanceMethod y_TD_count ∈ lw_g := qm_3 (i := 200) rfl rfl
theorem m_681 : Cond.selects "TreeDiffer" y_TD_count y_TD_count ∈ lw_g := qm_3 (i := 201) rfl rfl
theorem m_682 : Cond.code y_TD_count c_TD_count 4 (some .int) ∈ lw_g := qm_3 (i := 202) rfl rfl
theorem m_683 : Cond.methodLink "TreeDifferLaw" 89 y_TD_distance ∈ lw_g := qm_3 (i := 203) rfl rfl
theorem m_684 : Cond.instanceMethod y_TD_distance ∈ lw_g := qm_3 (i := 204) rfl rfl
theorem m_685 : Cond.selects "TreeDiffer" y_TD_distance y_TD_distance ∈ lw_g := qm_3 (i := 205) rfl rfl
theorem m_686 : Cond.code y_TD_distance c_TD_distance 1 (some .int) ∈ lw_g := qm_3 (i := 206) rfl rfl
theorem m_687 : Cond.methodLink "TreeDiffer" 206 y_ED_compute ∈ lw_g := qm_3 (i := 207) rfl rfl
theorem m_688 : Cond.instanceMethod y_ED_compute ∈ lw_g := qm_3 (i := 208) rfl rfl
theorem m_689 : Cond.selects "TreeDiffer$EditDistance" y_ED_compute y_ED_compute ∈ lw_g := qm_3 (i := 209) rfl rfl
theorem m_690 : Cond.code y_ED_compute c_ED_compute 4 (some .int) ∈ lw_g := qm_3 (i := 210) rfl rfl
theorem m_691 : Cond.methodLink "TreeDiffer$EditDistance" 34 y_ED_isKey ∈ lw_g := qm_3 (i := 211) rfl rfl
theorem m_692 : Cond.static y_ED_isKey ∈ lw_g := qm_3 (i := 212) rfl rfl
theorem m_693 : Cond.code y_ED_isKey c_ED_isKey 3 (some .boolean) ∈ lw_g := qm_3 (i := 213) rfl rfl
theorem m_694 : Cond.methodLink "TreeDiffer$EditDistance" 46 y_Tr_endOf ∈ lw_g := qm_3 (i := 214) rfl rfl
theorem m_695 : Cond.methodLink "TreeDiffer$EditDistance" 38 y_ED_compareSubtrees ∈ lw_g := qm_3 (i := 215) rfl rfl
theorem m_697 : Cond.instanceMethod y_ED_compareSubtrees ∈ lw_g := qm_3 (i := 217) rfl rfl
theorem m_698 : Cond.code y_ED_compareSubtrees c_ED_compareSubtrees 12 none ∈ lw_g := qm_3 (i := 218) rfl rfl
theorem m_699 : Cond.methodLink "TreeDiffer$EditDistance" 50 Lib.Math.min.name ∈ lw_g := qm_3 (i := 219) rfl rfl
theorem m_700 : Cond.methodLink "TreeDiffer$EditDistance" 56 y_Se_haveSameContent ∈ lw_g := qm_3 (i := 220) rfl rfl
theorem m_701 : Cond.methodLink "TreeDifferLaw" 93 y_TD_start ∈ lw_g := qm_3 (i := 221) rfl rfl
theorem m_702 : Cond.instanceMethod y_TD_start ∈ lw_g := qm_3 (i := 222) rfl rfl
theorem m_703 : Cond.selects "TreeDiffer" y_TD_start y_TD_start ∈ lw_g := qm_3 (i := 223) rfl rfl
theorem m_704 : Cond.code y_TD_start c_TD_start 2 (some .int) ∈ lw_g := qm_3 (i := 224) rfl rfl
theorem m_705 : Cond.methodLink "TreeDifferLaw" 97 y_TD_stepOn ∈ lw_g := qm_3 (i := 225) rfl rfl
theorem m_706 : Cond.instanceMethod y_TD_stepOn ∈ lw_g := qm_3 (i := 226) rfl rfl
theorem m_707 : Cond.selects "TreeDiffer" y_TD_stepOn y_TD_stepOn ∈ lw_g := qm_3 (i := 227) rfl rfl
theorem m_708 : Cond.code y_TD_stepOn c_TD_stepOn 1 (some .int) ∈ lw_g := qm_3 (i := 228) rfl rfl
theorem m_709 : Cond.methodLink "TreeDiffer" 213 y_Wt_carryOut ∈ lw_g := qm_3 (i := 229) rfl rfl
theorem m_710 : Cond.methodLink "TreeDifferLaw" 101 y_TD_stepBack ∈ lw_g := qm_3 (i := 230) rfl rfl
theorem m_711 : Cond.instanceMethod y_TD_stepBack ∈ lw_g := qm_3 (i := 231) rfl rfl
theorem m_712 : Cond.selects "TreeDiffer" y_TD_stepBack y_TD_stepBack ∈ lw_g := qm_3 (i := 232) rfl rfl
theorem m_713 : Cond.code y_TD_stepBack c_TD_stepBack 1 (some .int) ∈ lw_g := qm_3 (i := 233) rfl rfl
theorem m_714 : Cond.methodLink "TreeDiffer" 217 y_Wt_takeBack ∈ lw_g := qm_3 (i := 234) rfl rfl
theorem m_715 : Cond.instanceMethod y_Wt_takeBack ∈ lw_g := qm_3 (i := 235) rfl rfl
theorem m_716 : Cond.selects "TreeDiffer$WorkTree" y_Wt_takeBack y_Wt_takeBack ∈ lw_g := qm_3 (i := 236) rfl rfl
theorem m_717 : Cond.code y_Wt_takeBack c_Wt_takeBack 2 none ∈ lw_g := qm_3 (i := 237) rfl rfl
theorem m_718 : Cond.methodLink "TreeDifferLaw" 105 y_TD_workingChild ∈ lw_g := qm_3 (i := 238) rfl rfl
theorem m_719 : Cond.instanceMethod y_TD_workingChild ∈ lw_g := qm_3 (i := 239) rfl rfl
theorem m_720 : Cond.selects "TreeDiffer" y_TD_workingChild y_TD_workingChild ∈ lw_g := qm_4 (i := 0) rfl rfl
theorem m_721 : Cond.code y_TD_workingChild c_TD_workingChild 5 (some .int) ∈ lw_g := qm_4 (i := 1) rfl rfl
theorem m_722 : Cond.methodLink "TreeDiffer" 220 y_TD_roomOf ∈ lw_g := qm_4 (i := 2) rfl rfl
theorem m_723 : Cond.static y_TD_roomOf ∈ lw_g := qm_4 (i := 3) rfl rfl
theorem m_724 : Cond.code y_TD_roomOf c_TD_roomOf 1 (some .int) ∈ lw_g := qm_4 (i := 4) rfl rfl
theorem m_725 : Cond.methodLink "TreeDiffer" 261 y_TD_roomOfInserted ∈ lw_g := qm_4 (i := 5) rfl rfl
theorem m_726 : Cond.methodLink "TreeDiffer" 223 y_Wt_has ∈ lw_g := qm_4 (i := 6) rfl rfl
theorem m_727 : Cond.methodLink "TreeDiffer" 226 y_Wt_childAt ∈ lw_g := qm_4 (i := 7) rfl rfl
theorem m_728 : Cond.instanceMethod y_Wt_childAt ∈ lw_g := qm_4 (i := 8) rfl rfl
theorem m_729 : Cond.selects "TreeDiffer$WorkTree" y_Wt_childAt y_Wt_childAt ∈ lw_g := qm_4 (i := 9) rfl rfl
theorem m_730 : Cond.code y_Wt_childAt c_Wt_childAt 4 (some .int) ∈ lw_g := qm_4 (i := 10) rfl rfl
theorem m_731 : Cond.methodLink "TreeDiffer" 227 y_TD_numberOf ∈ lw_g := qm_4 (i := 11) rfl rfl
theorem m_732 : Cond.methodLink "TreeDifferLaw" 109 y_TD_workingNode ∈ lw_g := qm_4 (i := 12) rfl rfl
theorem m_733 : Cond.instanceMethod y_TD_workingNode ∈ lw_g := qm_4 (i := 13) rfl rfl
theorem m_734 : Cond.selects "TreeDiffer" y_TD_workingNode y_TD_workingNode ∈ lw_g := qm_4 (i := 14) rfl rfl
theorem m_735 : Cond.code y_TD_workingNode c_TD_workingNode 4 (some .int) ∈ lw_g := qm_4 (i := 15) rfl rfl
theorem m_736 : Cond.methodLink "TreeDifferLaw" 113 y_TD_print ∈ lw_g := qm_4 (i := 16) rfl rfl
theorem m_737 : Cond.instanceMethod y_TD_print ∈ lw_g := qm_4 (i := 17) rfl rfl
theorem m_738 : Cond.selects "TreeDiffer" y_TD_print y_TD_print ∈ lw_g := qm_4 (i := 18) rfl rfl
theorem m_739 : Cond.code y_TD_print c_TD_print 2 (some .int) ∈ lw_g := qm_4 (i := 19) rfl rfl
theorem m_740 : Cond.methodLink "TreeDiffer" 233 y_Ou_write ∈ lw_g := qm_4 (i := 20) rfl rfl
theorem m_741 : Cond.instanceMethod y_Ou_write ∈ lw_g := qm_4 (i := 21) rfl rfl
theorem m_742 : Cond.selects "TreeDiffer$Output" y_Ou_write y_Ou_write ∈ lw_g := qm_4 (i := 22) rfl rfl
theorem m_743 : Cond.code y_Ou_write c_Ou_write 5 none ∈ lw_g := qm_4 (i := 23) rfl rfl
theorem m_744 : Cond.methodLink "TreeDiffer$Output" 19 y_Wt_childAt ∈ lw_g := qm_4 (i := 24) rfl rfl
theorem m_745 : Cond.methodLink "TreeDiffer$Output" 31 y_Ou_putContent ∈ lw_g := qm_4 (i := 25) rfl rfl
theorem m_747 : Cond.instanceMethod y_Ou_putContent ∈ lw_g := qm_4 (i := 27) rfl rfl
theorem m_748 : Cond.code y_Ou_putContent c_Ou_putContent 3 none ∈ lw_g := qm_4 (i := 28) rfl rfl
theorem m_749 : Cond.methodLink "TreeDiffer$Output" 39 y_Ou_put ∈ lw_g := qm_4 (i := 29) rfl rfl
theorem m_751 : Cond.instanceMethod y_Ou_put ∈ lw_g := qm_4 (i := 31) rfl rfl
theorem m_752 : Cond.code y_Ou_put c_Ou_put 2 none ∈ lw_g := qm_4 (i := 32) rfl rfl
theorem m_753 : Cond.methodLink "TreeDiffer$Output" 35 y_Ou_closeUpToNext ∈ lw_g := qm_4 (i := 33) rfl rfl
theorem m_755 : Cond.instanceMethod y_Ou_closeUpToNext ∈ lw_g := qm_4 (i := 35) rfl rfl
theorem m_756 : Cond.code y_Ou_closeUpToNext c_Ou_closeUpToNext 6 (some .int) ∈ lw_g := qm_4 (i := 36) rfl rfl
theorem m_757 : Cond.methodLink "TreeDiffer$Output" 43 y_Wt_has ∈ lw_g := qm_4 (i := 37) rfl rfl
theorem m_758 : Cond.methodLink "TreeDifferLaw" 117 y_TD_printed ∈ lw_g := qm_4 (i := 38) rfl rfl
theorem m_759 : Cond.instanceMethod y_TD_printed ∈ lw_g := qm_4 (i := 39) rfl rfl
theorem m_760 : Cond.selects "TreeDiffer" y_TD_printed y_TD_printed ∈ lw_g := qm_4 (i := 40) rfl rfl
theorem m_761 : Cond.code y_TD_printed c_TD_printed 2 (some .int) ∈ lw_g := qm_4 (i := 41) rfl rfl
theorem m_762 : Cond.methodLink "TreeDifferLaw" 121 y_TD_save ∈ lw_g := qm_4 (i := 42) rfl rfl
theorem m_763 : Cond.instanceMethod y_TD_save ∈ lw_g := qm_4 (i := 43) rfl rfl
theorem m_764 : Cond.selects "TreeDiffer" y_TD_save y_TD_save ∈ lw_g := qm_4 (i := 44) rfl rfl
theorem m_765 : Cond.code y_TD_save c_TD_save 2 (some .int) ∈ lw_g := qm_4 (i := 45) rfl rfl
theorem m_766 : Cond.methodLink "TreeDiffer" 241 y_TD_isSlot ∈ lw_g := qm_4 (i := 46) rfl rfl
theorem m_767 : Cond.static y_TD_isSlot ∈ lw_g := qm_4 (i := 47) rfl rfl
theorem m_768 : Cond.code y_TD_isSlot c_TD_isSlot 1 (some .boolean) ∈ lw_g := qm_4 (i := 48) rfl rfl
theorem m_769 : Cond.methodLink "TreeDiffer" 244 y_Se_copy ∈ lw_g := qm_4 (i := 49) rfl rfl
theorem m_770 : Cond.instanceMethod y_Se_copy ∈ lw_g := qm_4 (i := 50) rfl rfl
theorem m_771 : Cond.selects "TreeDiffer$Setup" y_Se_copy y_Se_copy ∈ lw_g := qm_4 (i := 51) rfl rfl
theorem m_772 : Cond.code y_Se_copy c_Se_copy 2 none ∈ lw_g := qm_4 (i := 52) rfl rfl
theorem m_773 : Cond.methodLink "TreeDiffer$Setup" 28 y_Tr_copy ∈ lw_g := qm_4 (i := 53) rfl rfl
theorem m_774 : Cond.methodLink "TreeDifferLaw" 125 y_TD_restore ∈ lw_g := qm_4 (i := 54) rfl rfl
theorem m_775 : Cond.instanceMethod y_TD_restore ∈ lw_g := qm_4 (i := 55) rfl rfl
theorem m_776 : Cond.selects "TreeDiffer" y_TD_restore y_TD_restore ∈ lw_g := qm_4 (i := 56) rfl rfl
theorem m_777 : Cond.code y_TD_restore c_TD_restore 2 (some .int) ∈ lw_g := qm_4 (i := 57) rfl rfl
theorem m_778 : Cond.methodLink "TreeDifferLaw" 129 y_TD_checksum ∈ lw_g := qm_4 (i := 58) rfl rfl
theorem m_779 : Cond.instanceMethod y_TD_checksum ∈ lw_g := qm_4 (i := 59) rfl rfl
theorem m_780 : Cond.selects "TreeDiffer" y_TD_checksum y_TD_checksum ∈ lw_g := qm_4 (i := 60) rfl rfl
theorem m_781 : Cond.code y_TD_checksum c_TD_checksum 5 (some .long) ∈ lw_g := qm_4 (i := 61) rfl rfl
theorem m_782 : Cond.constantLong "TreeDiffer" (247 : Nat) (71 : Int64) ∈ lw_g := qm_4 (i := 62) rfl rfl
theorem m_783 : Cond.constantLong "TreeDiffer" (249 : Nat) (31 : Int64) ∈ lw_g := qm_4 (i := 63) rfl rfl
theorem m_784 : Cond.methodLink "TreeDiffer" 251 y_TD_distance ∈ lw_g := qm_4 (i := 64) rfl rfl
theorem m_785 : Cond.classLink "TreeDifferLaw" (10 : Nat) "TreeDifferModel" ∈ lw_g := qm_4 (i := 65) rfl rfl
theorem m_786 : Cond.instantiable "TreeDifferModel" (45 : Nat) ∈ lw_g := qm_4 (i := 66) rfl rfl
theorem m_787 : Cond.methodLink "TreeDifferLaw" 12 y_Mo_init ∈ lw_g := qm_4 (i := 67) rfl rfl
theorem m_788 : Cond.instanceMethod y_Mo_init ∈ lw_g := qm_4 (i := 68) rfl rfl
theorem m_789 : Cond.code y_Mo_init c_Mo_init 2 none ∈ lw_g := qm_4 (i := 69) rfl rfl
theorem m_790 : Cond.methodLink "TreeDifferModel" 1 objectInit ∈ lw_g := qm_4 (i := 70) rfl rfl
theorem m_791 : Cond.methodLink "TreeDifferModel" 114 y_Mo_at ∈ lw_g := qm_4 (i := 71) rfl rfl
theorem m_792 : Cond.static y_Mo_at ∈ lw_g := qm_4 (i := 72) rfl rfl
theorem m_793 : Cond.code y_Mo_at c_Mo_at 2 (some .int) ∈ lw_g := qm_4 (i := 73) rfl rfl
theorem m_794 : Cond.methodLink "TreeDifferModel" 118 y_Mo_changes ∈ lw_g := qm_4 (i := 74) rfl rfl
theorem m_796 : Cond.instanceMethod y_Mo_changes ∈ lw_g := qm_4 (i := 76) rfl rfl
theorem m_797 : Cond.code y_Mo_changes c_Mo_changes 1 none ∈ lw_g := qm_4 (i := 77) rfl rfl
theorem m_798 : Cond.methodLink "TreeDifferModel" 280 y_Mo_measures ∈ lw_g := qm_4 (i := 78) rfl rfl
theorem m_800 : Cond.instanceMethod y_Mo_measures ∈ lw_g := qm_4 (i := 80) rfl rfl
theorem m_801 : Cond.code y_Mo_measures c_Mo_measures 5 none ∈ lw_g := qm_4 (i := 81) rfl rfl
theorem m_802 : Cond.fieldLink "TreeDifferModel" (7 : Nat) "TreeDifferModel" "many" "[I" ∈ lw_g := qm_4 (i := 82) rfl rfl
theorem m_803 : Cond.fieldLink "TreeDifferModel" (13 : Nat) "TreeDifferModel" "labels" "[I" ∈ lw_g := qm_4 (i := 83) rfl rfl
theorem m_804 : Cond.fieldLink "TreeDifferModel" (16 : Nat) "TreeDifferModel" "values" "[I" ∈ lw_g := qm_4 (i := 84) rfl rfl
theorem m_805 : Cond.fieldLink "TreeDifferModel" (19 : Nat) "TreeDifferModel" "parents" "[I" ∈ lw_g := qm_4 (i := 85) rfl rfl
theorem m_806 : Cond.fieldLink "TreeDifferModel" (22 : Nat) "TreeDifferModel" "least" "I" ∈ lw_g := qm_4 (i := 86) rfl rfl
theorem m_807 : Cond.fieldLink "TreeDifferModel" (26 : Nat) "TreeDifferModel" "percent" "I" ∈ lw_g := qm_4 (i := 87) rfl rfl
theorem m_808 : Cond.fieldLink "TreeDifferModel" (274 : Nat) "TreeDifferModel" "done" "I" ∈ lw_g := qm_4 (i := 88) rfl rfl
theorem m_809 : Cond.fieldLink "TreeDifferModel" (29 : Nat) "TreeDifferModel" "kept" "[I" ∈ lw_g := qm_4 (i := 89) rfl rfl
theorem m_810 : Cond.fieldLink "TreeDifferModel" (32 : Nat) "TreeDifferModel" "isKept" "[Z" ∈ lw_g := qm_4 (i := 90) rfl rfl
theorem m_811 : Cond.fieldLink "TreeDifferModel" (36 : Nat) "TreeDifferModel" "text" "[I" ∈ lw_g := qm_4 (i := 91) rfl rfl
theorem m_812 : Cond.fieldLink "TreeDifferModel" (125 : Nat) "TreeDifferModel" "length" "I" ∈ lw_g := qm_4 (i := 92) rfl rfl
theorem m_813 : Cond.fieldLink "TreeDifferModel" (39 : Nat) "TreeDifferModel" "paper" "[I" ∈ lw_g := qm_4 (i := 93) rfl rfl
theorem m_814 : Cond.fieldLink "TreeDifferModel" (315 : Nat) "TreeDifferModel" "printed" "I" ∈ lw_g := qm_4 (i := 94) rfl rfl
theorem m_815 : Cond.fieldLink "TreeDifferModel" (128 : Nat) "TreeDifferModel" "place" "I" ∈ lw_g := qm_4 (i := 95) rfl rfl
theorem m_816 : Cond.fieldLink "TreeDifferModel" (42 : Nat) "TreeDifferModel" "open" "[I" ∈ lw_g := qm_4 (i := 96) rfl rfl
theorem m_817 : Cond.fieldLink "TreeDifferModel" (131 : Nat) "TreeDifferModel" "depth" "I" ∈ lw_g := qm_4 (i := 97) rfl rfl
theorem m_818 : Cond.fieldLink "TreeDifferModel" (134 : Nat) "TreeDifferModel" "may" "I" ∈ lw_g := qm_4 (i := 98) rfl rfl
theorem m_819 : Cond.fieldLink "TreeDifferModel" (137 : Nat) "TreeDifferModel" "isShut" "Z" ∈ lw_g := qm_4 (i := 99) rfl rfl
theorem m_820 : Cond.fieldLink "TreeDifferModel" (45 : Nat) "TreeDifferModel" "sizes" "[I" ∈ lw_g := qm_4 (i := 100) rfl rfl
theorem m_821 : Cond.fieldLink "TreeDifferModel" (48 : Nat) "TreeDifferModel" "heights" "[I" ∈ lw_g := qm_4 (i := 101) rfl rfl
theorem m_822 : Cond.fieldLink "TreeDifferModel" (265 : Nat) "TreeDifferModel" "isFound" "Z" ∈ lw_g := qm_4 (i := 102) rfl rfl
theorem m_823 : Cond.fieldLink "TreeDifferModel" (51 : Nat) "TreeDifferModel" "partner0" "[I" ∈ lw_g := qm_4 (i := 103) rfl rfl
theorem m_824 : Cond.fieldLink "TreeDifferModel" (54 : Nat) "TreeDifferModel" "partner1" "[I" ∈ lw_g := qm_4 (i := 104) rfl rfl
theorem m_825 : Cond.fieldLink "TreeDifferModel" (57 : Nat) "TreeDifferModel" "phases" "[I" ∈ lw_g := qm_4 (i := 105) rfl rfl
theorem m_826 : Cond.fieldLink "TreeDifferModel" (60 : Nat) "TreeDifferModel" "post" "[I" ∈ lw_g := qm_4 (i := 106) rfl rfl
theorem m_827 : Cond.fieldLink "TreeDifferModel" (63 : Nat) "TreeDifferModel" "above" "[I" ∈ lw_g := qm_4 (i := 107) rfl rfl
theorem m_828 : Cond.fieldLink "TreeDifferModel" (66 : Nat) "TreeDifferModel" "label" "[I" ∈ lw_g := qm_4 (i := 108) rfl rfl
theorem m_829 : Cond.fieldLink "TreeDifferModel" (69 : Nat) "TreeDifferModel" "value" "[I" ∈ lw_g := qm_4 (i := 109) rfl rfl
theorem m_830 : Cond.fieldLink "TreeDifferModel" (72 : Nat) "TreeDifferModel" "kids" "[I" ∈ lw_g := qm_4 (i := 110) rfl rfl
theorem m_831 : Cond.fieldLink "TreeDifferModel" (75 : Nat) "TreeDifferModel" "kidMany" "[I" ∈ lw_g := qm_4 (i := 111) rfl rfl
theorem m_832 : Cond.fieldLink "TreeDifferModel" (78 : Nat) "TreeDifferModel" "script" "[I" ∈ lw_g := qm_4 (i := 112) rfl rfl
theorem m_833 : Cond.fieldLink "TreeDifferModel" (225 : Nat) "TreeDifferModel" "steps" "I" ∈ lw_g := qm_4 (i := 113) rfl rfl
theorem m_834 : Cond.fieldLink "TreeDifferModel" (81 : Nat) "TreeDifferModel" "inCopy" "[I" ∈ lw_g := qm_4 (i := 114) rfl rfl
theorem m_835 : Cond.fieldLink "TreeDifferModel" (84 : Nat) "TreeDifferModel" "isMarked" "[Z" ∈ lw_g := qm_4 (i := 115) rfl rfl
theorem m_836 : Cond.fieldLink "TreeDifferModel" (87 : Nat) "TreeDifferModel" "row" "[I" ∈ lw_g := qm_4 (i := 116) rfl rfl
theorem m_837 : Cond.fieldLink "TreeDifferModel" (90 : Nat) "TreeDifferModel" "longest" "[I" ∈ lw_g := qm_4 (i := 117) rfl rfl
theorem m_838 : Cond.fieldLink "TreeDifferModel" (244 : Nat) "TreeDifferModel" "rows" "I" ∈ lw_g := qm_4 (i := 118) rfl rfl
theorem m_839 : Cond.fieldLink "TreeDifferModel" (93 : Nat) "TreeDifferModel" "posts" "[I" ∈ lw_g := qm_4 (i := 119) rfl rfl
theorem m_840 : Cond.fieldLink "TreeDifferModel" (96 : Nat) "TreeDifferModel" "lefts" "[I" ∈ lw_g := qm_4 (i := 120) rfl rfl
theorem m_841 : Cond.fieldLink "TreeDifferModel" (99 : Nat) "TreeDifferModel" "between" "[I" ∈ lw_g := qm_4 (i := 121) rfl rfl
theorem m_842 : Cond.fieldLink "TreeDifferModel" (102 : Nat) "TreeDifferModel" "forest" "[I" ∈ lw_g := qm_4 (i := 122) rfl rfl
theorem m_843 : Cond.fieldLink "TreeDifferModel" (105 : Nat) "TreeDifferModel" "draft" "[I" ∈ lw_g := qm_4 (i := 123) rfl rfl
theorem m_844 : Cond.fieldLink "TreeDifferModel" (303 : Nat) "TreeDifferModel" "drafted" "I" ∈ lw_g := qm_4 (i := 124) rfl rfl
theorem m_845 : Cond.fieldLink "TreeDifferModel" (108 : Nat) "TreeDifferModel" "line" "[I" ∈ lw_g := qm_4 (i := 125) rfl rfl
theorem m_846 : Cond.fieldLink "TreeDifferModel" (111 : Nat) "TreeDifferModel" "next" "[I" ∈ lw_g := qm_4 (i := 126) rfl rfl
theorem m_847 : Cond.laysFinal "TreeDifferModel" "TreeDifferModel" "many" "[I" ∈ lw_g := qm_4 (i := 127) rfl rfl
theorem m_849 : Cond.laysFinal "TreeDifferModel" "TreeDifferModel" "labels" "[I" ∈ lw_g := qm_4 (i := 129) rfl rfl
theorem m_851 : Cond.laysFinal "TreeDifferModel" "TreeDifferModel" "values" "[I" ∈ lw_g := qm_4 (i := 131) rfl rfl
theorem m_853 : Cond.laysFinal "TreeDifferModel" "TreeDifferModel" "parents" "[I" ∈ lw_g := qm_4 (i := 133) rfl rfl
theorem m_855 : Cond.lays "TreeDifferModel" "TreeDifferModel" "least" "I" ∈ lw_g := qm_4 (i := 135) rfl rfl
theorem m_857 : Cond.lays "TreeDifferModel" "TreeDifferModel" "percent" "I" ∈ lw_g := qm_4 (i := 137) rfl rfl
theorem m_859 : Cond.lays "TreeDifferModel" "TreeDifferModel" "done" "I" ∈ lw_g := qm_4 (i := 139) rfl rfl
theorem m_861 : Cond.laysFinal "TreeDifferModel" "TreeDifferModel" "kept" "[I" ∈ lw_g := qm_4 (i := 141) rfl rfl
theorem m_863 : Cond.laysFinal "TreeDifferModel" "TreeDifferModel" "isKept" "[Z" ∈ lw_g := qm_4 (i := 143) rfl rfl
theorem m_865 : Cond.laysFinal "TreeDifferModel" "TreeDifferModel" "text" "[I" ∈ lw_g := qm_4 (i := 145) rfl rfl
theorem m_867 : Cond.lays "TreeDifferModel" "TreeDifferModel" "length" "I" ∈ lw_g := qm_4 (i := 147) rfl rfl
theorem m_869 : Cond.laysFinal "TreeDifferModel" "TreeDifferModel" "paper" "[I" ∈ lw_g := qm_4 (i := 149) rfl rfl
theorem m_871 : Cond.lays "TreeDifferModel" "TreeDifferModel" "printed" "I" ∈ lw_g := qm_4 (i := 151) rfl rfl
theorem m_873 : Cond.lays "TreeDifferModel" "TreeDifferModel" "place" "I" ∈ lw_g := qm_4 (i := 153) rfl rfl
theorem m_875 : Cond.laysFinal "TreeDifferModel" "TreeDifferModel" "open" "[I" ∈ lw_g := qm_4 (i := 155) rfl rfl
theorem m_877 : Cond.lays "TreeDifferModel" "TreeDifferModel" "depth" "I" ∈ lw_g := qm_4 (i := 157) rfl rfl
theorem m_879 : Cond.lays "TreeDifferModel" "TreeDifferModel" "may" "I" ∈ lw_g := qm_4 (i := 159) rfl rfl
theorem m_881 : Cond.lays "TreeDifferModel" "TreeDifferModel" "isShut" "Z" ∈ lw_g := qm_4 (i := 161) rfl rfl
theorem m_883 : Cond.laysFinal "TreeDifferModel" "TreeDifferModel" "sizes" "[I" ∈ lw_g := qm_4 (i := 163) rfl rfl
theorem m_885 : Cond.laysFinal "TreeDifferModel" "TreeDifferModel" "heights" "[I" ∈ lw_g := qm_4 (i := 165) rfl rfl
theorem m_887 : Cond.lays "TreeDifferModel" "TreeDifferModel" "isFound" "Z" ∈ lw_g := qm_4 (i := 167) rfl rfl
theorem m_889 : Cond.laysFinal "TreeDifferModel" "TreeDifferModel" "partner0" "[I" ∈ lw_g := qm_4 (i := 169) rfl rfl
theorem m_891 : Cond.laysFinal "TreeDifferModel" "TreeDifferModel" "partner1" "[I" ∈ lw_g := qm_4 (i := 171) rfl rfl
theorem m_893 : Cond.laysFinal "TreeDifferModel" "TreeDifferModel" "phases" "[I" ∈ lw_g := qm_4 (i := 173) rfl rfl
theorem m_895 : Cond.laysFinal "TreeDifferModel" "TreeDifferModel" "post" "[I" ∈ lw_g := qm_4 (i := 175) rfl rfl
theorem m_897 : Cond.laysFinal "TreeDifferModel" "TreeDifferModel" "above" "[I" ∈ lw_g := qm_4 (i := 177) rfl rfl
theorem m_899 : Cond.laysFinal "TreeDifferModel" "TreeDifferModel" "label" "[I" ∈ lw_g := qm_4 (i := 179) rfl rfl
theorem m_901 : Cond.laysFinal "TreeDifferModel" "TreeDifferModel" "value" "[I" ∈ lw_g := qm_4 (i := 181) rfl rfl
theorem m_903 : Cond.laysFinal "TreeDifferModel" "TreeDifferModel" "kids" "[I" ∈ lw_g := qm_4 (i := 183) rfl rfl
theorem m_905 : Cond.laysFinal "TreeDifferModel" "TreeDifferModel" "kidMany" "[I" ∈ lw_g := qm_4 (i := 185) rfl rfl
theorem m_907 : Cond.laysFinal "TreeDifferModel" "TreeDifferModel" "script" "[I" ∈ lw_g := qm_4 (i := 187) rfl rfl
theorem m_909 : Cond.lays "TreeDifferModel" "TreeDifferModel" "steps" "I" ∈ lw_g := qm_4 (i := 189) rfl rfl
theorem m_911 : Cond.laysFinal "TreeDifferModel" "TreeDifferModel" "inCopy" "[I" ∈ lw_g := qm_4 (i := 191) rfl rfl
theorem m_913 : Cond.laysFinal "TreeDifferModel" "TreeDifferModel" "isMarked" "[Z" ∈ lw_g := qm_4 (i := 193) rfl rfl
theorem m_915 : Cond.laysFinal "TreeDifferModel" "TreeDifferModel" "row" "[I" ∈ lw_g := qm_4 (i := 195) rfl rfl
theorem m_917 : Cond.laysFinal "TreeDifferModel" "TreeDifferModel" "longest" "[I" ∈ lw_g := qm_4 (i := 197) rfl rfl
theorem m_919 : Cond.lays "TreeDifferModel" "TreeDifferModel" "rows" "I" ∈ lw_g := qm_4 (i := 199) rfl rfl
theorem m_921 : Cond.laysFinal "TreeDifferModel" "TreeDifferModel" "posts" "[I" ∈ lw_g := qm_4 (i := 201) rfl rfl
theorem m_923 : Cond.laysFinal "TreeDifferModel" "TreeDifferModel" "lefts" "[I" ∈ lw_g := qm_4 (i := 203) rfl rfl
theorem m_925 : Cond.laysFinal "TreeDifferModel" "TreeDifferModel" "between" "[I" ∈ lw_g := qm_4 (i := 205) rfl rfl
theorem m_927 : Cond.laysFinal "TreeDifferModel" "TreeDifferModel" "forest" "[I" ∈ lw_g := qm_4 (i := 207) rfl rfl
theorem m_929 : Cond.laysFinal "TreeDifferModel" "TreeDifferModel" "draft" "[I" ∈ lw_g := qm_4 (i := 209) rfl rfl
theorem m_931 : Cond.lays "TreeDifferModel" "TreeDifferModel" "drafted" "I" ∈ lw_g := qm_4 (i := 211) rfl rfl
theorem m_933 : Cond.laysFinal "TreeDifferModel" "TreeDifferModel" "line" "[I" ∈ lw_g := qm_4 (i := 213) rfl rfl
theorem m_935 : Cond.laysFinal "TreeDifferModel" "TreeDifferModel" "next" "[I" ∈ lw_g := qm_4 (i := 215) rfl rfl
theorem m_938 : Cond.methodLink "TreeDifferLaw" 17 y_Mo_append ∈ lw_g := qm_4 (i := 218) rfl rfl
theorem m_939 : Cond.instanceMethod y_Mo_append ∈ lw_g := qm_4 (i := 219) rfl rfl
theorem m_940 : Cond.selects "TreeDifferModel" y_Mo_append y_Mo_append ∈ lw_g := qm_4 (i := 220) rfl rfl
theorem m_941 : Cond.code y_Mo_append c_Mo_append 2 (some .int) ∈ lw_g := qm_4 (i := 221) rfl rfl
theorem m_942 : Cond.methodLink "TreeDifferModel" 121 y_Mo_in ∈ lw_g := qm_4 (i := 222) rfl rfl
theorem m_943 : Cond.static y_Mo_in ∈ lw_g := qm_4 (i := 223) rfl rfl
theorem m_944 : Cond.code y_Mo_in c_Mo_in 3 (some .boolean) ∈ lw_g := qm_4 (i := 224) rfl rfl
theorem m_945 : Cond.methodLink "TreeDifferLaw" 22 y_Mo_clearText ∈ lw_g := qm_4 (i := 225) rfl rfl
theorem m_946 : Cond.instanceMethod y_Mo_clearText ∈ lw_g := qm_4 (i := 226) rfl rfl
theorem m_947 : Cond.selects "TreeDifferModel" y_Mo_clearText y_Mo_clearText ∈ lw_g := qm_4 (i := 227) rfl rfl
theorem m_948 : Cond.code y_Mo_clearText c_Mo_clearText 2 (some .int) ∈ lw_g := qm_4 (i := 228) rfl rfl
theorem m_949 : Cond.methodLink "TreeDifferLaw" 26 y_Mo_faultPosition ∈ lw_g := qm_4 (i := 229) rfl rfl
theorem m_950 : Cond.instanceMethod y_Mo_faultPosition ∈ lw_g := qm_4 (i := 230) rfl rfl
theorem m_951 : Cond.selects "TreeDifferModel" y_Mo_faultPosition y_Mo_faultPosition ∈ lw_g := qm_4 (i := 231) rfl rfl
theorem m_952 : Cond.code y_Mo_faultPosition c_Mo_faultPosition 1 (some .int) ∈ lw_g := qm_4 (i := 232) rfl rfl
theorem m_953 : Cond.methodLink "TreeDifferModel" 155 y_Mo_isText ∈ lw_g := qm_4 (i := 233) rfl rfl
theorem m_955 : Cond.instanceMethod y_Mo_isText ∈ lw_g := qm_4 (i := 235) rfl rfl
theorem m_956 : Cond.code y_Mo_isText c_Mo_isText 3 (some .boolean) ∈ lw_g := qm_4 (i := 236) rfl rfl
theorem m_957 : Cond.methodLink "TreeDifferModel" 141 y_Mo_here ∈ lw_g := qm_4 (i := 237) rfl rfl
theorem m_959 : Cond.instanceMethod y_Mo_here ∈ lw_g := qm_4 (i := 239) rfl rfl
theorem m_960 : Cond.code y_Mo_here c_Mo_here 1 (some .int) ∈ lw_g := qm_5 (i := 0) rfl rfl
theorem m_961 : Cond.methodLink "TreeDifferModel" 145 y_Mo_isLabelRead ∈ lw_g := qm_5 (i := 1) rfl rfl
theorem m_963 : Cond.instanceMethod y_Mo_isLabelRead ∈ lw_g := qm_5 (i := 3) rfl rfl
theorem m_964 : Cond.code y_Mo_isLabelRead c_Mo_isLabelRead 3 (some .boolean) ∈ lw_g := qm_5 (i := 4) rfl rfl
theorem m_965 : Cond.methodLink "TreeDifferModel" 149 y_Mo_isDigitRead ∈ lw_g := qm_5 (i := 5) rfl rfl
theorem m_967 : Cond.instanceMethod y_Mo_isDigitRead ∈ lw_g := qm_5 (i := 7) rfl rfl
theorem m_968 : Cond.code y_Mo_isDigitRead c_Mo_isDigitRead 3 (some .boolean) ∈ lw_g := qm_5 (i := 8) rfl rfl
theorem m_969 : Cond.methodLink "TreeDifferModel" 152 y_Mo_isOther ∈ lw_g := qm_5 (i := 9) rfl rfl
theorem m_971 : Cond.instanceMethod y_Mo_isOther ∈ lw_g := qm_5 (i := 11) rfl rfl
theorem m_972 : Cond.code y_Mo_isOther c_Mo_isOther 2 (some .boolean) ∈ lw_g := qm_5 (i := 12) rfl rfl
theorem m_973 : Cond.methodLink "TreeDifferLaw" 30 y_Mo_faultDepth ∈ lw_g := qm_5 (i := 13) rfl rfl
theorem m_974 : Cond.instanceMethod y_Mo_faultDepth ∈ lw_g := qm_5 (i := 14) rfl rfl
theorem m_975 : Cond.selects "TreeDifferModel" y_Mo_faultDepth y_Mo_faultDepth ∈ lw_g := qm_5 (i := 15) rfl rfl
theorem m_976 : Cond.code y_Mo_faultDepth c_Mo_faultDepth 1 (some .int) ∈ lw_g := qm_5 (i := 16) rfl rfl
theorem m_977 : Cond.methodLink "TreeDifferLaw" 34 y_Mo_read ∈ lw_g := qm_5 (i := 17) rfl rfl
theorem m_978 : Cond.instanceMethod y_Mo_read ∈ lw_g := qm_5 (i := 18) rfl rfl
theorem m_979 : Cond.selects "TreeDifferModel" y_Mo_read y_Mo_read ∈ lw_g := qm_5 (i := 19) rfl rfl
theorem m_980 : Cond.code y_Mo_read c_Mo_read 2 (some .int) ∈ lw_g := qm_5 (i := 20) rfl rfl
theorem m_981 : Cond.methodLink "TreeDifferModel" 159 y_Mo_copiesTree ∈ lw_g := qm_5 (i := 21) rfl rfl
theorem m_983 : Cond.instanceMethod y_Mo_copiesTree ∈ lw_g := qm_5 (i := 23) rfl rfl
theorem m_984 : Cond.code y_Mo_copiesTree c_Mo_copiesTree 4 none ∈ lw_g := qm_5 (i := 24) rfl rfl
theorem m_985 : Cond.methodLink "TreeDifferLaw" 38 y_Mo_exchange ∈ lw_g := qm_5 (i := 25) rfl rfl
theorem m_986 : Cond.instanceMethod y_Mo_exchange ∈ lw_g := qm_5 (i := 26) rfl rfl
theorem m_987 : Cond.selects "TreeDifferModel" y_Mo_exchange y_Mo_exchange ∈ lw_g := qm_5 (i := 27) rfl rfl
theorem m_988 : Cond.code y_Mo_exchange c_Mo_exchange 1 (some .int) ∈ lw_g := qm_5 (i := 28) rfl rfl
theorem m_989 : Cond.methodLink "TreeDifferLaw" 42 y_Mo_nodes ∈ lw_g := qm_5 (i := 29) rfl rfl
theorem m_990 : Cond.instanceMethod y_Mo_nodes ∈ lw_g := qm_5 (i := 30) rfl rfl
theorem m_991 : Cond.selects "TreeDifferModel" y_Mo_nodes y_Mo_nodes ∈ lw_g := qm_5 (i := 31) rfl rfl
theorem m_992 : Cond.code y_Mo_nodes c_Mo_nodes 2 (some .int) ∈ lw_g := qm_5 (i := 32) rfl rfl
theorem m_993 : Cond.methodLink "TreeDifferLaw" 47 y_Mo_node ∈ lw_g := qm_5 (i := 33) rfl rfl
theorem m_994 : Cond.instanceMethod y_Mo_node ∈ lw_g := qm_5 (i := 34) rfl rfl
theorem m_995 : Cond.selects "TreeDifferModel" y_Mo_node y_Mo_node ∈ lw_g := qm_5 (i := 35) rfl rfl
theorem m_996 : Cond.code y_Mo_node c_Mo_node 4 (some .int) ∈ lw_g := qm_5 (i := 36) rfl rfl
theorem m_997 : Cond.methodLink "TreeDifferModel" 166 y_Mo_isNode ∈ lw_g := qm_5 (i := 37) rfl rfl
theorem m_999 : Cond.instanceMethod y_Mo_isNode ∈ lw_g := qm_5 (i := 39) rfl rfl
theorem m_1000 : Cond.code y_Mo_isNode c_Mo_isNode 3 (some .boolean) ∈ lw_g := qm_5 (i := 40) rfl rfl
theorem m_1001 : Cond.methodLink "TreeDifferModel" 170 y_Mo_children ∈ lw_g := qm_5 (i := 41) rfl rfl
theorem m_1003 : Cond.instanceMethod y_Mo_children ∈ lw_g := qm_5 (i := 43) rfl rfl
theorem m_1004 : Cond.code y_Mo_children c_Mo_children 5 (some .int) ∈ lw_g := qm_5 (i := 44) rfl rfl
theorem m_1005 : Cond.methodLink "TreeDifferModel" 173 y_Mo_height ∈ lw_g := qm_5 (i := 45) rfl rfl
theorem m_1007 : Cond.instanceMethod y_Mo_height ∈ lw_g := qm_5 (i := 47) rfl rfl
theorem m_1008 : Cond.code y_Mo_height c_Mo_height 3 (some .int) ∈ lw_g := qm_5 (i := 48) rfl rfl
theorem m_1009 : Cond.methodLink "TreeDifferModel" 163 y_Mo_size ∈ lw_g := qm_5 (i := 49) rfl rfl
theorem m_1011 : Cond.instanceMethod y_Mo_size ∈ lw_g := qm_5 (i := 51) rfl rfl
theorem m_1012 : Cond.code y_Mo_size c_Mo_size 3 (some .int) ∈ lw_g := qm_5 (i := 52) rfl rfl
theorem m_1013 : Cond.methodLink "TreeDifferLaw" 51 y_Mo_child ∈ lw_g := qm_5 (i := 53) rfl rfl
theorem m_1014 : Cond.instanceMethod y_Mo_child ∈ lw_g := qm_5 (i := 54) rfl rfl
theorem m_1015 : Cond.selects "TreeDifferModel" y_Mo_child y_Mo_child ∈ lw_g := qm_5 (i := 55) rfl rfl
theorem m_1016 : Cond.code y_Mo_child c_Mo_child 4 (some .int) ∈ lw_g := qm_5 (i := 56) rfl rfl
theorem m_1017 : Cond.methodLink "TreeDifferModel" 176 y_Mo_childAt ∈ lw_g := qm_5 (i := 57) rfl rfl
theorem m_1019 : Cond.instanceMethod y_Mo_childAt ∈ lw_g := qm_5 (i := 59) rfl rfl
theorem m_1020 : Cond.code y_Mo_childAt c_Mo_childAt 6 (some .int) ∈ lw_g := qm_5 (i := 60) rfl rfl
theorem m_1021 : Cond.methodLink "TreeDifferLaw" 56 y_Mo_equal ∈ lw_g := qm_5 (i := 61) rfl rfl
theorem m_1022 : Cond.instanceMethod y_Mo_equal ∈ lw_g := qm_5 (i := 62) rfl rfl
theorem m_1023 : Cond.selects "TreeDifferModel" y_Mo_equal y_Mo_equal ∈ lw_g := qm_5 (i := 63) rfl rfl
theorem m_1024 : Cond.code y_Mo_equal c_Mo_equal 3 (some .int) ∈ lw_g := qm_5 (i := 64) rfl rfl
theorem m_1025 : Cond.methodLink "TreeDifferModel" 180 y_Mo_areEqual ∈ lw_g := qm_5 (i := 65) rfl rfl
theorem m_1027 : Cond.instanceMethod y_Mo_areEqual ∈ lw_g := qm_5 (i := 67) rfl rfl
theorem m_1028 : Cond.code y_Mo_areEqual c_Mo_areEqual 8 (some .boolean) ∈ lw_g := qm_5 (i := 68) rfl rfl
theorem m_1029 : Cond.methodLink "TreeDifferLaw" 60 y_Mo_setMatching ∈ lw_g := qm_5 (i := 69) rfl rfl
theorem m_1030 : Cond.instanceMethod y_Mo_setMatching ∈ lw_g := qm_5 (i := 70) rfl rfl
theorem m_1031 : Cond.selects "TreeDifferModel" y_Mo_setMatching y_Mo_setMatching ∈ lw_g := qm_5 (i := 71) rfl rfl
theorem m_1032 : Cond.code y_Mo_setMatching c_Mo_setMatching 4 (some .int) ∈ lw_g := qm_5 (i := 72) rfl rfl
theorem m_1033 : Cond.methodLink "TreeDifferLaw" 64 y_Mo_pairs ∈ lw_g := qm_5 (i := 73) rfl rfl
theorem m_1034 : Cond.instanceMethod y_Mo_pairs ∈ lw_g := qm_5 (i := 74) rfl rfl
theorem m_1035 : Cond.selects "TreeDifferModel" y_Mo_pairs y_Mo_pairs ∈ lw_g := qm_5 (i := 75) rfl rfl
theorem m_1036 : Cond.code y_Mo_pairs c_Mo_pairs 3 (some .int) ∈ lw_g := qm_5 (i := 76) rfl rfl
theorem m_1037 : Cond.methodLink "TreeDifferModel" 216 y_Mo_finds ∈ lw_g := qm_5 (i := 77) rfl rfl
theorem m_1039 : Cond.instanceMethod y_Mo_finds ∈ lw_g := qm_5 (i := 79) rfl rfl
theorem m_1040 : Cond.code y_Mo_finds c_Mo_finds 1 none ∈ lw_g := qm_5 (i := 80) rfl rfl
theorem m_1041 : Cond.methodLink "TreeDifferModel" 268 y_Mo_matches ∈ lw_g := qm_5 (i := 81) rfl rfl
theorem m_1043 : Cond.instanceMethod y_Mo_matches ∈ lw_g := qm_5 (i := 83) rfl rfl
theorem m_1044 : Cond.code y_Mo_matches c_Mo_matches 2 none ∈ lw_g := qm_5 (i := 84) rfl rfl
theorem m_1045 : Cond.methodLink "TreeDifferModel" 206 y_Mo_matchesDown ∈ lw_g := qm_5 (i := 85) rfl rfl
theorem m_1047 : Cond.instanceMethod y_Mo_matchesDown ∈ lw_g := qm_5 (i := 87) rfl rfl
theorem m_1048 : Cond.code y_Mo_matchesDown c_Mo_matchesDown 5 none ∈ lw_g := qm_5 (i := 88) rfl rfl
theorem m_1049 : Cond.methodLink "TreeDifferModel" 189 y_Mo_bestPair ∈ lw_g := qm_5 (i := 89) rfl rfl
theorem m_1051 : Cond.instanceMethod y_Mo_bestPair ∈ lw_g := qm_5 (i := 91) rfl rfl
theorem m_1052 : Cond.code y_Mo_bestPair c_Mo_bestPair 9 (some .int) ∈ lw_g := qm_5 (i := 92) rfl rfl
theorem m_1053 : Cond.methodLink "TreeDifferModel" 183 y_Mo_kinship ∈ lw_g := qm_5 (i := 93) rfl rfl
theorem m_1055 : Cond.instanceMethod y_Mo_kinship ∈ lw_g := qm_5 (i := 95) rfl rfl
theorem m_1056 : Cond.code y_Mo_kinship c_Mo_kinship 6 (some .int) ∈ lw_g := qm_5 (i := 96) rfl rfl
theorem m_1057 : Cond.methodLink "TreeDifferModel" 186 y_Mo_placeOf ∈ lw_g := qm_5 (i := 97) rfl rfl
theorem m_1059 : Cond.instanceMethod y_Mo_placeOf ∈ lw_g := qm_5 (i := 99) rfl rfl
theorem m_1060 : Cond.code y_Mo_placeOf c_Mo_placeOf 5 (some .int) ∈ lw_g := qm_5 (i := 100) rfl rfl
theorem m_1061 : Cond.methodLink "TreeDifferModel" 193 y_Mo_joins ∈ lw_g := qm_5 (i := 101) rfl rfl
theorem m_1063 : Cond.instanceMethod y_Mo_joins ∈ lw_g := qm_5 (i := 103) rfl rfl
theorem m_1064 : Cond.code y_Mo_joins c_Mo_joins 4 none ∈ lw_g := qm_5 (i := 104) rfl rfl
theorem m_1065 : Cond.methodLink "TreeDifferModel" 209 y_Mo_findPost ∈ lw_g := qm_5 (i := 105) rfl rfl
theorem m_1067 : Cond.instanceMethod y_Mo_findPost ∈ lw_g := qm_5 (i := 107) rfl rfl
theorem m_1068 : Cond.code y_Mo_findPost c_Mo_findPost 4 none ∈ lw_g := qm_5 (i := 108) rfl rfl
theorem m_1069 : Cond.methodLink "TreeDifferModel" 213 y_Mo_matchesUp ∈ lw_g := qm_5 (i := 109) rfl rfl
theorem m_1071 : Cond.instanceMethod y_Mo_matchesUp ∈ lw_g := qm_5 (i := 111) rfl rfl
theorem m_1072 : Cond.code y_Mo_matchesUp c_Mo_matchesUp 5 none ∈ lw_g := qm_5 (i := 112) rfl rfl
theorem m_1073 : Cond.methodLink "TreeDifferModel" 200 y_Mo_common ∈ lw_g := qm_5 (i := 113) rfl rfl
theorem m_1075 : Cond.instanceMethod y_Mo_common ∈ lw_g := qm_5 (i := 115) rfl rfl
theorem m_1076 : Cond.code y_Mo_common c_Mo_common 5 (some .int) ∈ lw_g := qm_5 (i := 116) rfl rfl
theorem m_1077 : Cond.methodLink "TreeDifferModel" 197 y_Mo_isBelow ∈ lw_g := qm_5 (i := 117) rfl rfl
theorem m_1079 : Cond.instanceMethod y_Mo_isBelow ∈ lw_g := qm_5 (i := 119) rfl rfl
theorem m_1080 : Cond.code y_Mo_isBelow c_Mo_isBelow 4 (some .boolean) ∈ lw_g := qm_5 (i := 120) rfl rfl
theorem m_1081 : Cond.methodLink "TreeDifferModel" 203 y_Mo_both ∈ lw_g := qm_5 (i := 121) rfl rfl
theorem m_1083 : Cond.instanceMethod y_Mo_both ∈ lw_g := qm_5 (i := 123) rfl rfl
theorem m_1084 : Cond.code y_Mo_both c_Mo_both 3 (some .int) ∈ lw_g := qm_5 (i := 124) rfl rfl
theorem m_1085 : Cond.methodLink "TreeDifferModel" 271 y_Mo_writes ∈ lw_g := qm_5 (i := 125) rfl rfl
theorem m_1087 : Cond.instanceMethod y_Mo_writes ∈ lw_g := qm_5 (i := 127) rfl rfl
theorem m_1088 : Cond.code y_Mo_writes c_Mo_writes 3 none ∈ lw_g := qm_5 (i := 128) rfl rfl
theorem m_1089 : Cond.methodLink "TreeDifferModel" 256 y_Mo_copyBegins ∈ lw_g := qm_5 (i := 129) rfl rfl
theorem m_1091 : Cond.instanceMethod y_Mo_copyBegins ∈ lw_g := qm_5 (i := 131) rfl rfl
theorem m_1092 : Cond.code y_Mo_copyBegins c_Mo_copyBegins 4 none ∈ lw_g := qm_5 (i := 132) rfl rfl
theorem m_1093 : Cond.methodLink "TreeDifferModel" 219 y_Mo_putsIn ∈ lw_g := qm_5 (i := 133) rfl rfl
theorem m_1095 : Cond.instanceMethod y_Mo_putsIn ∈ lw_g := qm_5 (i := 135) rfl rfl
theorem m_1096 : Cond.code y_Mo_putsIn c_Mo_putsIn 5 none ∈ lw_g := qm_5 (i := 136) rfl rfl
theorem m_1097 : Cond.methodLink "TreeDifferModel" 253 y_Mo_orders ∈ lw_g := qm_5 (i := 137) rfl rfl
theorem m_1099 : Cond.instanceMethod y_Mo_orders ∈ lw_g := qm_5 (i := 139) rfl rfl
theorem m_1100 : Cond.code y_Mo_orders c_Mo_orders 6 none ∈ lw_g := qm_5 (i := 140) rfl rfl
theorem m_1101 : Cond.methodLink "TreeDifferModel" 247 y_Mo_findRow ∈ lw_g := qm_5 (i := 141) rfl rfl
theorem m_1103 : Cond.instanceMethod y_Mo_findRow ∈ lw_g := qm_5 (i := 143) rfl rfl
theorem m_1104 : Cond.code y_Mo_findRow c_Mo_findRow 5 none ∈ lw_g := qm_5 (i := 144) rfl rfl
theorem m_1105 : Cond.methodLink "TreeDifferModel" 231 y_Mo_parentOf ∈ lw_g := qm_5 (i := 145) rfl rfl
theorem m_1107 : Cond.instanceMethod y_Mo_parentOf ∈ lw_g := qm_5 (i := 147) rfl rfl
theorem m_1108 : Cond.code y_Mo_parentOf c_Mo_parentOf 2 (some .int) ∈ lw_g := qm_5 (i := 148) rfl rfl
theorem m_1109 : Cond.methodLink "TreeDifferModel" 222 y_Mo_placeIn ∈ lw_g := qm_5 (i := 149) rfl rfl
theorem m_1111 : Cond.instanceMethod y_Mo_placeIn ∈ lw_g := qm_5 (i := 151) rfl rfl
theorem m_1112 : Cond.code y_Mo_placeIn c_Mo_placeIn 4 (some .int) ∈ lw_g := qm_5 (i := 152) rfl rfl
theorem m_1113 : Cond.methodLink "TreeDifferModel" 250 y_Mo_moves ∈ lw_g := qm_5 (i := 153) rfl rfl
theorem m_1115 : Cond.instanceMethod y_Mo_moves ∈ lw_g := qm_5 (i := 155) rfl rfl
theorem m_1116 : Cond.code y_Mo_moves c_Mo_moves 5 none ∈ lw_g := qm_5 (i := 156) rfl rfl
theorem m_1117 : Cond.methodLink "TreeDifferModel" 234 y_Mo_takesOut ∈ lw_g := qm_5 (i := 157) rfl rfl
theorem m_1119 : Cond.instanceMethod y_Mo_takesOut ∈ lw_g := qm_5 (i := 159) rfl rfl
theorem m_1120 : Cond.code y_Mo_takesOut c_Mo_takesOut 4 none ∈ lw_g := qm_5 (i := 160) rfl rfl
theorem m_1121 : Cond.methodLink "TreeDifferModel" 237 y_Mo_placeFor ∈ lw_g := qm_5 (i := 161) rfl rfl
theorem m_1123 : Cond.instanceMethod y_Mo_placeFor ∈ lw_g := qm_5 (i := 163) rfl rfl
theorem m_1124 : Cond.code y_Mo_placeFor c_Mo_placeFor 4 (some .int) ∈ lw_g := qm_5 (i := 164) rfl rfl
theorem m_1125 : Cond.methodLink "TreeDifferModel" 228 y_Mo_number ∈ lw_g := qm_5 (i := 165) rfl rfl
theorem m_1126 : Cond.static y_Mo_number ∈ lw_g := qm_5 (i := 166) rfl rfl
theorem m_1127 : Cond.code y_Mo_number c_Mo_number 1 (some .int) ∈ lw_g := qm_5 (i := 167) rfl rfl
theorem m_1128 : Cond.methodLink "TreeDifferModel" 240 y_Mo_notes ∈ lw_g := qm_5 (i := 168) rfl rfl
theorem m_1130 : Cond.instanceMethod y_Mo_notes ∈ lw_g := qm_5 (i := 170) rfl rfl
theorem m_1131 : Cond.code y_Mo_notes c_Mo_notes 8 none ∈ lw_g := qm_5 (i := 171) rfl rfl
theorem m_1132 : Cond.methodLink "TreeDifferModel" 259 y_Mo_level ∈ lw_g := qm_5 (i := 172) rfl rfl
theorem m_1134 : Cond.instanceMethod y_Mo_level ∈ lw_g := qm_5 (i := 174) rfl rfl
theorem m_1135 : Cond.code y_Mo_level c_Mo_level 4 (some .int) ∈ lw_g := qm_5 (i := 175) rfl rfl
theorem m_1136 : Cond.methodLink "TreeDifferModel" 262 y_Mo_goesThrough ∈ lw_g := qm_5 (i := 176) rfl rfl
theorem m_1138 : Cond.instanceMethod y_Mo_goesThrough ∈ lw_g := qm_5 (i := 178) rfl rfl
theorem m_1139 : Cond.code y_Mo_goesThrough c_Mo_goesThrough 5 none ∈ lw_g := qm_5 (i := 179) rfl rfl
theorem m_1140 : Cond.methodLink "TreeDifferModel" 277 y_Mo_goesTo ∈ lw_g := qm_5 (i := 180) rfl rfl
theorem m_1142 : Cond.instanceMethod y_Mo_goesTo ∈ lw_g := qm_5 (i := 182) rfl rfl
theorem m_1143 : Cond.code y_Mo_goesTo c_Mo_goesTo 5 none ∈ lw_g := qm_5 (i := 183) rfl rfl
theorem m_1144 : Cond.methodLink "TreeDifferModel" 283 y_Mo_slot ∈ lw_g := qm_5 (i := 184) rfl rfl
theorem m_1145 : Cond.static y_Mo_slot ∈ lw_g := qm_5 (i := 185) rfl rfl
theorem m_1146 : Cond.code y_Mo_slot c_Mo_slot 1 (some .int) ∈ lw_g := qm_5 (i := 186) rfl rfl
theorem m_1147 : Cond.methodLink "TreeDifferLaw" 68 y_Mo_partner ∈ lw_g := qm_5 (i := 187) rfl rfl
theorem m_1148 : Cond.instanceMethod y_Mo_partner ∈ lw_g := qm_5 (i := 188) rfl rfl
theorem m_1149 : Cond.selects "TreeDifferModel" y_Mo_partner y_Mo_partner ∈ lw_g := qm_5 (i := 189) rfl rfl
theorem m_1150 : Cond.code y_Mo_partner c_Mo_partner 4 (some .int) ∈ lw_g := qm_5 (i := 190) rfl rfl
theorem m_1151 : Cond.methodLink "TreeDifferLaw" 72 y_Mo_phase ∈ lw_g := qm_5 (i := 191) rfl rfl
theorem m_1152 : Cond.instanceMethod y_Mo_phase ∈ lw_g := qm_5 (i := 192) rfl rfl
theorem m_1153 : Cond.selects "TreeDifferModel" y_Mo_phase y_Mo_phase ∈ lw_g := qm_5 (i := 193) rfl rfl
theorem m_1154 : Cond.code y_Mo_phase c_Mo_phase 2 (some .int) ∈ lw_g := qm_5 (i := 194) rfl rfl
theorem m_1155 : Cond.methodLink "TreeDifferLaw" 76 y_Mo_likeness ∈ lw_g := qm_5 (i := 195) rfl rfl
theorem m_1156 : Cond.instanceMethod y_Mo_likeness ∈ lw_g := qm_5 (i := 196) rfl rfl
theorem m_1157 : Cond.selects "TreeDifferModel" y_Mo_likeness y_Mo_likeness ∈ lw_g := qm_5 (i := 197) rfl rfl
theorem m_1158 : Cond.code y_Mo_likeness c_Mo_likeness 4 (some .int) ∈ lw_g := qm_5 (i := 198) rfl rfl
theorem m_1159 : Cond.methodLink "TreeDifferLaw" 80 y_Mo_steps ∈ lw_g := qm_5 (i := 199) rfl rfl
theorem m_1160 : Cond.instanceMethod y_Mo_steps ∈ lw_g := qm_5 (i := 200) rfl rfl
theorem m_1161 : Cond.selects "TreeDifferModel" y_Mo_steps y_Mo_steps ∈ lw_g := qm_5 (i := 201) rfl rfl
theorem m_1162 : Cond.code y_Mo_steps c_Mo_steps 1 (some .int) ∈ lw_g := qm_5 (i := 202) rfl rfl
theorem m_1163 : Cond.methodLink "TreeDifferLaw" 84 y_Mo_step ∈ lw_g := qm_5 (i := 203) rfl rfl
theorem m_1164 : Cond.instanceMethod y_Mo_step ∈ lw_g := qm_5 (i := 204) rfl rfl
theorem m_1165 : Cond.selects "TreeDifferModel" y_Mo_step y_Mo_step ∈ lw_g := qm_5 (i := 205) rfl rfl
theorem m_1166 : Cond.code y_Mo_step c_Mo_step 3 (some .int) ∈ lw_g := qm_5 (i := 206) rfl rfl
theorem m_1167 : Cond.methodLink "TreeDifferLaw" 88 y_Mo_count ∈ lw_g := qm_5 (i := 207) rfl rfl
theorem m_1168 : Cond.instanceMethod y_Mo_count ∈ lw_g := qm_5 (i := 208) rfl rfl
theorem m_1169 : Cond.selects "TreeDifferModel" y_Mo_count y_Mo_count ∈ lw_g := qm_5 (i := 209) rfl rfl
theorem m_1170 : Cond.code y_Mo_count c_Mo_count 4 (some .int) ∈ lw_g := qm_5 (i := 210) rfl rfl
theorem m_1171 : Cond.methodLink "TreeDifferLaw" 92 y_Mo_distance ∈ lw_g := qm_5 (i := 211) rfl rfl
theorem m_1172 : Cond.instanceMethod y_Mo_distance ∈ lw_g := qm_5 (i := 212) rfl rfl
theorem m_1173 : Cond.selects "TreeDifferModel" y_Mo_distance y_Mo_distance ∈ lw_g := qm_5 (i := 213) rfl rfl
theorem m_1174 : Cond.code y_Mo_distance c_Mo_distance 3 (some .int) ∈ lw_g := qm_5 (i := 214) rfl rfl
theorem m_1175 : Cond.methodLink "TreeDifferModel" 291 y_Mo_findLefts ∈ lw_g := qm_5 (i := 215) rfl rfl
theorem m_1177 : Cond.instanceMethod y_Mo_findLefts ∈ lw_g := qm_5 (i := 217) rfl rfl
theorem m_1178 : Cond.code y_Mo_findLefts c_Mo_findLefts 3 none ∈ lw_g := qm_5 (i := 218) rfl rfl
theorem m_1179 : Cond.methodLink "TreeDifferModel" 294 y_Mo_isKey ∈ lw_g := qm_5 (i := 219) rfl rfl
theorem m_1181 : Cond.instanceMethod y_Mo_isKey ∈ lw_g := qm_5 (i := 221) rfl rfl
theorem m_1182 : Cond.code y_Mo_isKey c_Mo_isKey 5 (some .boolean) ∈ lw_g := qm_5 (i := 222) rfl rfl
theorem m_1183 : Cond.methodLink "TreeDifferModel" 297 y_Mo_compares ∈ lw_g := qm_5 (i := 223) rfl rfl
theorem m_1185 : Cond.instanceMethod y_Mo_compares ∈ lw_g := qm_5 (i := 225) rfl rfl
theorem m_1186 : Cond.code y_Mo_compares c_Mo_compares 11 none ∈ lw_g := qm_5 (i := 226) rfl rfl
theorem m_1187 : Cond.methodLink "TreeDifferModel" 286 y_Mo_least ∈ lw_g := qm_5 (i := 227) rfl rfl
theorem m_1188 : Cond.static y_Mo_least ∈ lw_g := qm_5 (i := 228) rfl rfl
theorem m_1189 : Cond.code y_Mo_least c_Mo_least 2 (some .int) ∈ lw_g := qm_5 (i := 229) rfl rfl
theorem m_1190 : Cond.methodLink "TreeDifferModel" 288 y_Mo_renaming ∈ lw_g := qm_5 (i := 230) rfl rfl
theorem m_1192 : Cond.instanceMethod y_Mo_renaming ∈ lw_g := qm_5 (i := 232) rfl rfl
theorem m_1193 : Cond.code y_Mo_renaming c_Mo_renaming 5 (some .int) ∈ lw_g := qm_5 (i := 233) rfl rfl
theorem m_1194 : Cond.methodLink "TreeDifferLaw" 96 y_Mo_start ∈ lw_g := qm_5 (i := 234) rfl rfl
theorem m_1195 : Cond.instanceMethod y_Mo_start ∈ lw_g := qm_5 (i := 235) rfl rfl
theorem m_1196 : Cond.selects "TreeDifferModel" y_Mo_start y_Mo_start ∈ lw_g := qm_5 (i := 236) rfl rfl
theorem m_1197 : Cond.code y_Mo_start c_Mo_start 2 (some .int) ∈ lw_g := qm_5 (i := 237) rfl rfl
theorem m_1198 : Cond.methodLink "TreeDifferLaw" 100 y_Mo_stepOn ∈ lw_g := qm_5 (i := 238) rfl rfl
theorem m_1199 : Cond.instanceMethod y_Mo_stepOn ∈ lw_g := qm_5 (i := 239) rfl rfl
theorem m_1200 : Cond.selects "TreeDifferModel" y_Mo_stepOn y_Mo_stepOn ∈ lw_g := qm_6 (i := 0) rfl rfl
theorem m_1201 : Cond.code y_Mo_stepOn c_Mo_stepOn 1 (some .int) ∈ lw_g := qm_6 (i := 1) rfl rfl
theorem m_1202 : Cond.methodLink "TreeDifferLaw" 104 y_Mo_stepBack ∈ lw_g := qm_6 (i := 2) rfl rfl
theorem m_1203 : Cond.instanceMethod y_Mo_stepBack ∈ lw_g := qm_6 (i := 3) rfl rfl
theorem m_1204 : Cond.selects "TreeDifferModel" y_Mo_stepBack y_Mo_stepBack ∈ lw_g := qm_6 (i := 4) rfl rfl
theorem m_1205 : Cond.code y_Mo_stepBack c_Mo_stepBack 1 (some .int) ∈ lw_g := qm_6 (i := 5) rfl rfl
theorem m_1206 : Cond.methodLink "TreeDifferLaw" 108 y_Mo_workingChild ∈ lw_g := qm_6 (i := 6) rfl rfl
theorem m_1207 : Cond.instanceMethod y_Mo_workingChild ∈ lw_g := qm_6 (i := 7) rfl rfl
theorem m_1208 : Cond.selects "TreeDifferModel" y_Mo_workingChild y_Mo_workingChild ∈ lw_g := qm_6 (i := 8) rfl rfl
theorem m_1209 : Cond.code y_Mo_workingChild c_Mo_workingChild 4 (some .int) ∈ lw_g := qm_6 (i := 9) rfl rfl
theorem m_1210 : Cond.methodLink "TreeDifferModel" 300 y_Mo_isThere ∈ lw_g := qm_6 (i := 10) rfl rfl
theorem m_1212 : Cond.instanceMethod y_Mo_isThere ∈ lw_g := qm_6 (i := 12) rfl rfl
theorem m_1213 : Cond.code y_Mo_isThere c_Mo_isThere 2 (some .boolean) ∈ lw_g := qm_6 (i := 13) rfl rfl
theorem m_1214 : Cond.methodLink "TreeDifferLaw" 112 y_Mo_workingNode ∈ lw_g := qm_6 (i := 14) rfl rfl
theorem m_1215 : Cond.instanceMethod y_Mo_workingNode ∈ lw_g := qm_6 (i := 15) rfl rfl
theorem m_1216 : Cond.selects "TreeDifferModel" y_Mo_workingNode y_Mo_workingNode ∈ lw_g := qm_6 (i := 16) rfl rfl
theorem m_1217 : Cond.code y_Mo_workingNode c_Mo_workingNode 4 (some .int) ∈ lw_g := qm_6 (i := 17) rfl rfl
theorem m_1218 : Cond.methodLink "TreeDifferLaw" 116 y_Mo_print ∈ lw_g := qm_6 (i := 18) rfl rfl
theorem m_1219 : Cond.instanceMethod y_Mo_print ∈ lw_g := qm_6 (i := 19) rfl rfl
theorem m_1220 : Cond.selects "TreeDifferModel" y_Mo_print y_Mo_print ∈ lw_g := qm_6 (i := 20) rfl rfl
theorem m_1221 : Cond.code y_Mo_print c_Mo_print 3 (some .int) ∈ lw_g := qm_6 (i := 21) rfl rfl
theorem m_1222 : Cond.methodLink "TreeDifferModel" 312 y_Mo_drafts ∈ lw_g := qm_6 (i := 22) rfl rfl
theorem m_1224 : Cond.instanceMethod y_Mo_drafts ∈ lw_g := qm_6 (i := 24) rfl rfl
theorem m_1225 : Cond.code y_Mo_drafts c_Mo_drafts 4 none ∈ lw_g := qm_6 (i := 25) rfl rfl
theorem m_1226 : Cond.methodLink "TreeDifferModel" 306 y_Mo_sign ∈ lw_g := qm_6 (i := 26) rfl rfl
theorem m_1228 : Cond.instanceMethod y_Mo_sign ∈ lw_g := qm_6 (i := 28) rfl rfl
theorem m_1229 : Cond.code y_Mo_sign c_Mo_sign 2 none ∈ lw_g := qm_6 (i := 29) rfl rfl
theorem m_1230 : Cond.methodLink "TreeDifferModel" 309 y_Mo_writesNode ∈ lw_g := qm_6 (i := 30) rfl rfl
theorem m_1232 : Cond.instanceMethod y_Mo_writesNode ∈ lw_g := qm_6 (i := 32) rfl rfl
theorem m_1233 : Cond.code y_Mo_writesNode c_Mo_writesNode 2 none ∈ lw_g := qm_6 (i := 33) rfl rfl
theorem m_1234 : Cond.methodLink "TreeDifferLaw" 120 y_Mo_printed ∈ lw_g := qm_6 (i := 34) rfl rfl
theorem m_1235 : Cond.instanceMethod y_Mo_printed ∈ lw_g := qm_6 (i := 35) rfl rfl
theorem m_1236 : Cond.selects "TreeDifferModel" y_Mo_printed y_Mo_printed ∈ lw_g := qm_6 (i := 36) rfl rfl
theorem m_1237 : Cond.code y_Mo_printed c_Mo_printed 2 (some .int) ∈ lw_g := qm_6 (i := 37) rfl rfl
theorem m_1238 : Cond.methodLink "TreeDifferLaw" 124 y_Mo_save ∈ lw_g := qm_6 (i := 38) rfl rfl
theorem m_1239 : Cond.instanceMethod y_Mo_save ∈ lw_g := qm_6 (i := 39) rfl rfl
theorem m_1240 : Cond.selects "TreeDifferModel" y_Mo_save y_Mo_save ∈ lw_g := qm_6 (i := 40) rfl rfl
theorem m_1241 : Cond.code y_Mo_save c_Mo_save 4 (some .int) ∈ lw_g := qm_6 (i := 41) rfl rfl
theorem m_1242 : Cond.methodLink "TreeDifferLaw" 128 y_Mo_restore ∈ lw_g := qm_6 (i := 42) rfl rfl
theorem m_1243 : Cond.instanceMethod y_Mo_restore ∈ lw_g := qm_6 (i := 43) rfl rfl
theorem m_1244 : Cond.selects "TreeDifferModel" y_Mo_restore y_Mo_restore ∈ lw_g := qm_6 (i := 44) rfl rfl
theorem m_1245 : Cond.code y_Mo_restore c_Mo_restore 4 (some .int) ∈ lw_g := qm_6 (i := 45) rfl rfl
theorem m_1246 : Cond.methodLink "TreeDifferLaw" 133 y_Mo_checksum ∈ lw_g := qm_6 (i := 46) rfl rfl
theorem m_1247 : Cond.instanceMethod y_Mo_checksum ∈ lw_g := qm_6 (i := 47) rfl rfl
theorem m_1248 : Cond.selects "TreeDifferModel" y_Mo_checksum y_Mo_checksum ∈ lw_g := qm_6 (i := 48) rfl rfl
theorem m_1249 : Cond.code y_Mo_checksum c_Mo_checksum 4 (some .long) ∈ lw_g := qm_6 (i := 49) rfl rfl
theorem m_1250 : Cond.constantLong "TreeDifferModel" (320 : Nat) (71 : Int64) ∈ lw_g := qm_6 (i := 50) rfl rfl
theorem m_1251 : Cond.methodLink "TreeDifferModel" 322 y_Mo_more ∈ lw_g := qm_6 (i := 51) rfl rfl
theorem m_1252 : Cond.static y_Mo_more ∈ lw_g := qm_6 (i := 52) rfl rfl
theorem m_1253 : Cond.code y_Mo_more c_Mo_more 3 (some .long) ∈ lw_g := qm_6 (i := 53) rfl rfl
theorem m_1254 : Cond.constantLong "TreeDifferModel" (318 : Nat) (31 : Int64) ∈ lw_g := qm_6 (i := 54) rfl rfl
theorem m_1255 : Cond.methodLink "TreeDifferModel" 326 y_Mo_distance ∈ lw_g := qm_6 (i := 55) rfl rfl
theorem m_p0 : Cond.selects "TreeDiffer$Text" y_Tx_takes y_Tx_takes ∈ lw_g := qm_p (List.mem_of_getElem? (i := 0) rfl) rfl
theorem m_p1 : Cond.selects "TreeDiffer$Text" y_Tx_takesLabel y_Tx_takesLabel ∈ lw_g := qm_p (List.mem_of_getElem? (i := 1) rfl) rfl
theorem m_p2 : Cond.selects "TreeDiffer$Text" y_Tx_takesOpening y_Tx_takesOpening ∈ lw_g := qm_p (List.mem_of_getElem? (i := 2) rfl) rfl
theorem m_p3 : Cond.selects "TreeDiffer$Text" y_Tx_takesSpace y_Tx_takesSpace ∈ lw_g := qm_p (List.mem_of_getElem? (i := 3) rfl) rfl
theorem m_p4 : Cond.selects "TreeDiffer$Text" y_Tx_takesClosing y_Tx_takesClosing ∈ lw_g := qm_p (List.mem_of_getElem? (i := 4) rfl) rfl
theorem m_p5 : Cond.selects "TreeDiffer$Text" y_Tx_takesDigit y_Tx_takesDigit ∈ lw_g := qm_p (List.mem_of_getElem? (i := 5) rfl) rfl
theorem m_p6 : Cond.selects "TreeDiffer$Tree" y_Tr_sortInPostorder y_Tr_sortInPostorder ∈ lw_g := qm_p (List.mem_of_getElem? (i := 6) rfl) rfl
theorem m_p7 : Cond.selects "TreeDiffer" y_TD_forgetAnswers y_TD_forgetAnswers ∈ lw_g := qm_p (List.mem_of_getElem? (i := 7) rfl) rfl
theorem m_p8 : Cond.selects "TreeDiffer" y_TD_rewind y_TD_rewind ∈ lw_g := qm_p (List.mem_of_getElem? (i := 8) rfl) rfl
theorem m_p9 : Cond.selects "TreeDiffer" y_TD_isNode y_TD_isNode ∈ lw_g := qm_p (List.mem_of_getElem? (i := 9) rfl) rfl
theorem m_p10 : Cond.selects "TreeDiffer" y_TD_compare y_TD_compare ∈ lw_g := qm_p (List.mem_of_getElem? (i := 10) rfl) rfl
theorem m_p11 : Cond.selects "TreeDiffer$Matching" y_Ma_pairEqualSubtrees y_Ma_pairEqualSubtrees ∈ lw_g := qm_p (List.mem_of_getElem? (i := 11) rfl) rfl
theorem m_p12 : Cond.selects "TreeDiffer$Matching" y_Ma_pairNearest y_Ma_pairNearest ∈ lw_g := qm_p (List.mem_of_getElem? (i := 12) rfl) rfl
theorem m_p13 : Cond.selects "TreeDiffer$Matching" y_Ma_nearness y_Ma_nearness ∈ lw_g := qm_p (List.mem_of_getElem? (i := 13) rfl) rfl
theorem m_p14 : Cond.selects "TreeDiffer$Matching" y_Ma_pair y_Ma_pair ∈ lw_g := qm_p (List.mem_of_getElem? (i := 14) rfl) rfl
theorem m_p15 : Cond.selects "TreeDiffer$Matching" y_Ma_pairByDescendants y_Ma_pairByDescendants ∈ lw_g := qm_p (List.mem_of_getElem? (i := 15) rfl) rfl
theorem m_p16 : Cond.selects "TreeDiffer$Matching" y_Ma_mostAlike y_Ma_mostAlike ∈ lw_g := qm_p (List.mem_of_getElem? (i := 16) rfl) rfl
theorem m_p17 : Cond.selects "TreeDiffer$Matching" y_Ma_pairRoots y_Ma_pairRoots ∈ lw_g := qm_p (List.mem_of_getElem? (i := 17) rfl) rfl
theorem m_p18 : Cond.selects "TreeDiffer$Script" y_Sc_putChildrenInOrder y_Sc_putChildrenInOrder ∈ lw_g := qm_p (List.mem_of_getElem? (i := 18) rfl) rfl
theorem m_p19 : Cond.selects "TreeDiffer$Script" y_Sc_gatherChildren y_Sc_gatherChildren ∈ lw_g := qm_p (List.mem_of_getElem? (i := 19) rfl) rfl
theorem m_p20 : Cond.selects "TreeDiffer$Script" y_Sc_partnerOf y_Sc_partnerOf ∈ lw_g := qm_p (List.mem_of_getElem? (i := 20) rfl) rfl
theorem m_p21 : Cond.selects "TreeDiffer$Script" y_Sc_isBelow y_Sc_isBelow ∈ lw_g := qm_p (List.mem_of_getElem? (i := 21) rfl) rfl
theorem m_p22 : Cond.selects "TreeDiffer$Script" y_Sc_measureSequences y_Sc_measureSequences ∈ lw_g := qm_p (List.mem_of_getElem? (i := 22) rfl) rfl
theorem m_p23 : Cond.selects "TreeDiffer$Script" y_Sc_placeOf y_Sc_placeOf ∈ lw_g := qm_p (List.mem_of_getElem? (i := 23) rfl) rfl
theorem m_p24 : Cond.selects "TreeDiffer$Script" y_Sc_markLongest y_Sc_markLongest ∈ lw_g := qm_p (List.mem_of_getElem? (i := 24) rfl) rfl
theorem m_p25 : Cond.selects "TreeDiffer$Script" y_Sc_move y_Sc_move ∈ lw_g := qm_p (List.mem_of_getElem? (i := 25) rfl) rfl
theorem m_p26 : Cond.selects "TreeDiffer$Script" y_Sc_addStep y_Sc_addStep ∈ lw_g := qm_p (List.mem_of_getElem? (i := 26) rfl) rfl
theorem m_p27 : Cond.selects "TreeDiffer$Script" y_Sc_placeFor y_Sc_placeFor ∈ lw_g := qm_p (List.mem_of_getElem? (i := 27) rfl) rfl
theorem m_p28 : Cond.selects "TreeDiffer$Script" y_Sc_bringIntoLine y_Sc_bringIntoLine ∈ lw_g := qm_p (List.mem_of_getElem? (i := 28) rfl) rfl
theorem m_p29 : Cond.selects "TreeDiffer$Script" y_Sc_insert y_Sc_insert ∈ lw_g := qm_p (List.mem_of_getElem? (i := 29) rfl) rfl
theorem m_p30 : Cond.selects "TreeDiffer$Script" y_Sc_update y_Sc_update ∈ lw_g := qm_p (List.mem_of_getElem? (i := 30) rfl) rfl
theorem m_p31 : Cond.selects "TreeDiffer$Script" y_Sc_deleteRest y_Sc_deleteRest ∈ lw_g := qm_p (List.mem_of_getElem? (i := 31) rfl) rfl
theorem m_p32 : Cond.selects "TreeDiffer$EditDistance" y_ED_compareSubtrees y_ED_compareSubtrees ∈ lw_g := qm_p (List.mem_of_getElem? (i := 32) rfl) rfl
theorem m_p33 : Cond.selects "TreeDiffer$Output" y_Ou_putContent y_Ou_putContent ∈ lw_g := qm_p (List.mem_of_getElem? (i := 33) rfl) rfl
theorem m_p34 : Cond.selects "TreeDiffer$Output" y_Ou_put y_Ou_put ∈ lw_g := qm_p (List.mem_of_getElem? (i := 34) rfl) rfl
theorem m_p35 : Cond.selects "TreeDiffer$Output" y_Ou_closeUpToNext y_Ou_closeUpToNext ∈ lw_g := qm_p (List.mem_of_getElem? (i := 35) rfl) rfl
theorem m_p36 : Cond.selects "TreeDifferModel" y_Mo_changes y_Mo_changes ∈ lw_g := qm_p (List.mem_of_getElem? (i := 36) rfl) rfl
theorem m_p37 : Cond.selects "TreeDifferModel" y_Mo_measures y_Mo_measures ∈ lw_g := qm_p (List.mem_of_getElem? (i := 37) rfl) rfl
theorem m_p38 : Cond.selects "TreeDifferModel" y_Mo_isText y_Mo_isText ∈ lw_g := qm_p (List.mem_of_getElem? (i := 38) rfl) rfl
theorem m_p39 : Cond.selects "TreeDifferModel" y_Mo_here y_Mo_here ∈ lw_g := qm_p (List.mem_of_getElem? (i := 39) rfl) rfl
theorem m_p40 : Cond.selects "TreeDifferModel" y_Mo_isLabelRead y_Mo_isLabelRead ∈ lw_g := qm_p (List.mem_of_getElem? (i := 40) rfl) rfl
theorem m_p41 : Cond.selects "TreeDifferModel" y_Mo_isDigitRead y_Mo_isDigitRead ∈ lw_g := qm_p (List.mem_of_getElem? (i := 41) rfl) rfl
theorem m_p42 : Cond.selects "TreeDifferModel" y_Mo_isOther y_Mo_isOther ∈ lw_g := qm_p (List.mem_of_getElem? (i := 42) rfl) rfl
theorem m_p43 : Cond.selects "TreeDifferModel" y_Mo_copiesTree y_Mo_copiesTree ∈ lw_g := qm_p (List.mem_of_getElem? (i := 43) rfl) rfl
theorem m_p44 : Cond.selects "TreeDifferModel" y_Mo_isNode y_Mo_isNode ∈ lw_g := qm_p (List.mem_of_getElem? (i := 44) rfl) rfl
theorem m_p45 : Cond.selects "TreeDifferModel" y_Mo_children y_Mo_children ∈ lw_g := qm_p (List.mem_of_getElem? (i := 45) rfl) rfl
theorem m_p46 : Cond.selects "TreeDifferModel" y_Mo_height y_Mo_height ∈ lw_g := qm_p (List.mem_of_getElem? (i := 46) rfl) rfl
theorem m_p47 : Cond.selects "TreeDifferModel" y_Mo_size y_Mo_size ∈ lw_g := qm_p (List.mem_of_getElem? (i := 47) rfl) rfl
theorem m_p48 : Cond.selects "TreeDifferModel" y_Mo_childAt y_Mo_childAt ∈ lw_g := qm_p (List.mem_of_getElem? (i := 48) rfl) rfl
theorem m_p49 : Cond.selects "TreeDifferModel" y_Mo_areEqual y_Mo_areEqual ∈ lw_g := qm_p (List.mem_of_getElem? (i := 49) rfl) rfl
theorem m_p50 : Cond.selects "TreeDifferModel" y_Mo_finds y_Mo_finds ∈ lw_g := qm_p (List.mem_of_getElem? (i := 50) rfl) rfl
theorem m_p51 : Cond.selects "TreeDifferModel" y_Mo_matches y_Mo_matches ∈ lw_g := qm_p (List.mem_of_getElem? (i := 51) rfl) rfl
theorem m_p52 : Cond.selects "TreeDifferModel" y_Mo_matchesDown y_Mo_matchesDown ∈ lw_g := qm_p (List.mem_of_getElem? (i := 52) rfl) rfl
theorem m_p53 : Cond.selects "TreeDifferModel" y_Mo_bestPair y_Mo_bestPair ∈ lw_g := qm_p (List.mem_of_getElem? (i := 53) rfl) rfl
theorem m_p54 : Cond.selects "TreeDifferModel" y_Mo_kinship y_Mo_kinship ∈ lw_g := qm_p (List.mem_of_getElem? (i := 54) rfl) rfl
theorem m_p55 : Cond.selects "TreeDifferModel" y_Mo_placeOf y_Mo_placeOf ∈ lw_g := qm_p (List.mem_of_getElem? (i := 55) rfl) rfl
theorem m_p56 : Cond.selects "TreeDifferModel" y_Mo_joins y_Mo_joins ∈ lw_g := qm_p (List.mem_of_getElem? (i := 56) rfl) rfl
theorem m_p57 : Cond.selects "TreeDifferModel" y_Mo_findPost y_Mo_findPost ∈ lw_g := qm_p (List.mem_of_getElem? (i := 57) rfl) rfl
theorem m_p58 : Cond.selects "TreeDifferModel" y_Mo_matchesUp y_Mo_matchesUp ∈ lw_g := qm_p (List.mem_of_getElem? (i := 58) rfl) rfl
theorem m_p59 : Cond.selects "TreeDifferModel" y_Mo_common y_Mo_common ∈ lw_g := qm_p (List.mem_of_getElem? (i := 59) rfl) rfl
theorem m_p60 : Cond.selects "TreeDifferModel" y_Mo_isBelow y_Mo_isBelow ∈ lw_g := qm_p (List.mem_of_getElem? (i := 60) rfl) rfl
theorem m_p61 : Cond.selects "TreeDifferModel" y_Mo_both y_Mo_both ∈ lw_g := qm_p (List.mem_of_getElem? (i := 61) rfl) rfl
theorem m_p62 : Cond.selects "TreeDifferModel" y_Mo_writes y_Mo_writes ∈ lw_g := qm_p (List.mem_of_getElem? (i := 62) rfl) rfl
theorem m_p63 : Cond.selects "TreeDifferModel" y_Mo_copyBegins y_Mo_copyBegins ∈ lw_g := qm_p (List.mem_of_getElem? (i := 63) rfl) rfl
theorem m_p64 : Cond.selects "TreeDifferModel" y_Mo_putsIn y_Mo_putsIn ∈ lw_g := qm_p (List.mem_of_getElem? (i := 64) rfl) rfl
theorem m_p65 : Cond.selects "TreeDifferModel" y_Mo_orders y_Mo_orders ∈ lw_g := qm_p (List.mem_of_getElem? (i := 65) rfl) rfl
theorem m_p66 : Cond.selects "TreeDifferModel" y_Mo_findRow y_Mo_findRow ∈ lw_g := qm_p (List.mem_of_getElem? (i := 66) rfl) rfl
theorem m_p67 : Cond.selects "TreeDifferModel" y_Mo_parentOf y_Mo_parentOf ∈ lw_g := qm_p (List.mem_of_getElem? (i := 67) rfl) rfl
theorem m_p68 : Cond.selects "TreeDifferModel" y_Mo_placeIn y_Mo_placeIn ∈ lw_g := qm_p (List.mem_of_getElem? (i := 68) rfl) rfl
theorem m_p69 : Cond.selects "TreeDifferModel" y_Mo_moves y_Mo_moves ∈ lw_g := qm_p (List.mem_of_getElem? (i := 69) rfl) rfl
theorem m_p70 : Cond.selects "TreeDifferModel" y_Mo_takesOut y_Mo_takesOut ∈ lw_g := qm_p (List.mem_of_getElem? (i := 70) rfl) rfl
theorem m_p71 : Cond.selects "TreeDifferModel" y_Mo_placeFor y_Mo_placeFor ∈ lw_g := qm_p (List.mem_of_getElem? (i := 71) rfl) rfl
theorem m_p72 : Cond.selects "TreeDifferModel" y_Mo_notes y_Mo_notes ∈ lw_g := qm_p (List.mem_of_getElem? (i := 72) rfl) rfl
theorem m_p73 : Cond.selects "TreeDifferModel" y_Mo_level y_Mo_level ∈ lw_g := qm_p (List.mem_of_getElem? (i := 73) rfl) rfl
theorem m_p74 : Cond.selects "TreeDifferModel" y_Mo_goesThrough y_Mo_goesThrough ∈ lw_g := qm_p (List.mem_of_getElem? (i := 74) rfl) rfl
theorem m_p75 : Cond.selects "TreeDifferModel" y_Mo_goesTo y_Mo_goesTo ∈ lw_g := qm_p (List.mem_of_getElem? (i := 75) rfl) rfl
theorem m_p76 : Cond.selects "TreeDifferModel" y_Mo_findLefts y_Mo_findLefts ∈ lw_g := qm_p (List.mem_of_getElem? (i := 76) rfl) rfl
theorem m_p77 : Cond.selects "TreeDifferModel" y_Mo_isKey y_Mo_isKey ∈ lw_g := qm_p (List.mem_of_getElem? (i := 77) rfl) rfl
theorem m_p78 : Cond.selects "TreeDifferModel" y_Mo_compares y_Mo_compares ∈ lw_g := qm_p (List.mem_of_getElem? (i := 78) rfl) rfl
theorem m_p79 : Cond.selects "TreeDifferModel" y_Mo_renaming y_Mo_renaming ∈ lw_g := qm_p (List.mem_of_getElem? (i := 79) rfl) rfl
theorem m_p80 : Cond.selects "TreeDifferModel" y_Mo_isThere y_Mo_isThere ∈ lw_g := qm_p (List.mem_of_getElem? (i := 80) rfl) rfl
theorem m_p81 : Cond.selects "TreeDifferModel" y_Mo_drafts y_Mo_drafts ∈ lw_g := qm_p (List.mem_of_getElem? (i := 81) rfl) rfl
theorem m_p82 : Cond.selects "TreeDifferModel" y_Mo_sign y_Mo_sign ∈ lw_g := qm_p (List.mem_of_getElem? (i := 82) rfl) rfl
theorem m_p83 : Cond.selects "TreeDifferModel" y_Mo_writesNode y_Mo_writesNode ∈ lw_g := qm_p (List.mem_of_getElem? (i := 83) rfl) rfl
theorem qm_gi {w : Cond} (h : w ∈ lw_g) : GoodIn lw_g (w :: lw_g) := fun v hv => by
  have hm : v ∈ lw_g := by
    rcases List.mem_cons.mp hv with rfl | h1
    · exact h
    · exact h1
  exact ⟨hm, good_of_word (List.mem_filter.mp hm).2⟩
