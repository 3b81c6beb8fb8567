/-! the tables' words (PART A of the skeleton); then names of classes, fields, methods: by program -/
/-- a own method of a component that the tables say can be made, by its rows of tables_1 -/
def lw_okq (q : MethodName × Nat) : Prop := (q.1.cls ≠ "java/lang/invoke/MethodHandle" ∧ q.1.cls ≠ "java/lang/invoke/VarHandle") ∧ Cond.instantiable q.1.cls q.2 ∈ tables_1 ∧ Cond.privateMethod q.1 ∈ tables_1 ∧ Cond.instanceMethod q.1 ∈ tables_1
theorem lw_p0 : lw_okq (⟨"FirstTrees$Study", "findNothing", "()V"⟩, 9) := ⟨⟨by decide +kernel, by decide +kernel⟩, List.mem_of_getElem? (i := 49) (by decide +kernel), List.mem_of_getElem? (i := 257) (by decide +kernel), List.mem_of_getElem? (i := 258) (by decide +kernel)⟩
theorem lw_p1 : lw_okq (⟨"FirstTrees$Study", "rowIsNothing", "(I)Z"⟩, 9) := ⟨⟨by decide +kernel, by decide +kernel⟩, List.mem_of_getElem? (i := 49) (by decide +kernel), List.mem_of_getElem? (i := 272) (by decide +kernel), List.mem_of_getElem? (i := 273) (by decide +kernel)⟩
theorem lw_p2 : lw_okq (⟨"FirstTrees$Study", "symbolIsNothing", "(I)Z"⟩, 9) := ⟨⟨by decide +kernel, by decide +kernel⟩, List.mem_of_getElem? (i := 49) (by decide +kernel), List.mem_of_getElem? (i := 284) (by decide +kernel), List.mem_of_getElem? (i := 285) (by decide +kernel)⟩
theorem lw_p3 : lw_okq (⟨"FirstTrees$Study", "findLeft", "()V"⟩, 9) := ⟨⟨by decide +kernel, by decide +kernel⟩, List.mem_of_getElem? (i := 49) (by decide +kernel), List.mem_of_getElem? (i := 297) (by decide +kernel), List.mem_of_getElem? (i := 298) (by decide +kernel)⟩
theorem lw_p4 : lw_okq (⟨"FirstTrees$Study", "rulesAtLeft", "(I)I"⟩, 9) := ⟨⟨by decide +kernel, by decide +kernel⟩, List.mem_of_getElem? (i := 49) (by decide +kernel), List.mem_of_getElem? (i := 301) (by decide +kernel), List.mem_of_getElem? (i := 302) (by decide +kernel)⟩
theorem lw_p5 : lw_okq (⟨"FirstTrees$Study", "findFault", "()V"⟩, 9) := ⟨⟨by decide +kernel, by decide +kernel⟩, List.mem_of_getElem? (i := 49) (by decide +kernel), List.mem_of_getElem? (i := 305) (by decide +kernel), List.mem_of_getElem? (i := 306) (by decide +kernel)⟩
theorem lw_p6 : lw_okq (⟨"FirstTrees$Study", "hasFault", "(II)Z"⟩, 9) := ⟨⟨by decide +kernel, by decide +kernel⟩, List.mem_of_getElem? (i := 49) (by decide +kernel), List.mem_of_getElem? (i := 309) (by decide +kernel), List.mem_of_getElem? (i := 310) (by decide +kernel)⟩
theorem lw_p7 : lw_okq (⟨"FirstTrees$Study", "hasSymbolNotThere", "(I)Z"⟩, 9) := ⟨⟨by decide +kernel, by decide +kernel⟩, List.mem_of_getElem? (i := 49) (by decide +kernel), List.mem_of_getElem? (i := 313) (by decide +kernel), List.mem_of_getElem? (i := 314) (by decide +kernel)⟩
theorem lw_p8 : lw_okq (⟨"FirstTrees$Study", "findOrder", "()V"⟩, 9) := ⟨⟨by decide +kernel, by decide +kernel⟩, List.mem_of_getElem? (i := 49) (by decide +kernel), List.mem_of_getElem? (i := 317) (by decide +kernel), List.mem_of_getElem? (i := 318) (by decide +kernel)⟩
theorem lw_p9 : lw_okq (⟨"FirstTrees$Study", "findFirsts", "()V"⟩, 9) := ⟨⟨by decide +kernel, by decide +kernel⟩, List.mem_of_getElem? (i := 49) (by decide +kernel), List.mem_of_getElem? (i := 327) (by decide +kernel), List.mem_of_getElem? (i := 328) (by decide +kernel)⟩
theorem lw_p10 : lw_okq (⟨"FirstTrees$Study", "rowFirst", "(I)J"⟩, 9) := ⟨⟨by decide +kernel, by decide +kernel⟩, List.mem_of_getElem? (i := 49) (by decide +kernel), List.mem_of_getElem? (i := 331) (by decide +kernel), List.mem_of_getElem? (i := 332) (by decide +kernel)⟩
theorem lw_p11 : lw_okq (⟨"FirstTrees$Study", "symbolFirst", "(I)J"⟩, 9) := ⟨⟨by decide +kernel, by decide +kernel⟩, List.mem_of_getElem? (i := 49) (by decide +kernel), List.mem_of_getElem? (i := 335) (by decide +kernel), List.mem_of_getElem? (i := 336) (by decide +kernel)⟩
theorem lw_p12 : lw_okq (⟨"FirstTrees$Study", "findFollowings", "()V"⟩, 9) := ⟨⟨by decide +kernel, by decide +kernel⟩, List.mem_of_getElem? (i := 49) (by decide +kernel), List.mem_of_getElem? (i := 339) (by decide +kernel), List.mem_of_getElem? (i := 340) (by decide +kernel)⟩
theorem lw_p13 : lw_okq (⟨"FirstTrees$Study", "widenFollowings", "(IJ)Z"⟩, 9) := ⟨⟨by decide +kernel, by decide +kernel⟩, List.mem_of_getElem? (i := 49) (by decide +kernel), List.mem_of_getElem? (i := 344) (by decide +kernel), List.mem_of_getElem? (i := 345) (by decide +kernel)⟩
theorem lw_p14 : lw_okq (⟨"java/lang/Throwable", "fillInStackTrace", "(I)Ljava/lang/Throwable;"⟩, 6) := ⟨⟨by decide +kernel, by decide +kernel⟩, List.mem_of_getElem? (i := 417) (by decide +kernel), List.mem_of_getElem? (i := 415) (by decide +kernel), List.mem_of_getElem? (i := 416) (by decide +kernel)⟩
theorem lw_p15 : lw_okq (⟨"FirstTrees", "mustBeRule", "(I)V"⟩, 8) := ⟨⟨by decide +kernel, by decide +kernel⟩, List.mem_of_getElem? (i := 21) (by decide +kernel), List.mem_of_getElem? (i := 459) (by decide +kernel), List.mem_of_getElem? (i := 460) (by decide +kernel)⟩
def lw_privs_1 : List (MethodName × Nat) := [(⟨"FirstTrees$Study", "findNothing", "()V"⟩, 9), (⟨"FirstTrees$Study", "rowIsNothing", "(I)Z"⟩, 9), (⟨"FirstTrees$Study", "symbolIsNothing", "(I)Z"⟩, 9), (⟨"FirstTrees$Study", "findLeft", "()V"⟩, 9), (⟨"FirstTrees$Study", "rulesAtLeft", "(I)I"⟩, 9), (⟨"FirstTrees$Study", "findFault", "()V"⟩, 9), (⟨"FirstTrees$Study", "hasFault", "(II)Z"⟩, 9), (⟨"FirstTrees$Study", "hasSymbolNotThere", "(I)Z"⟩, 9), (⟨"FirstTrees$Study", "findOrder", "()V"⟩, 9), (⟨"FirstTrees$Study", "findFirsts", "()V"⟩, 9), (⟨"FirstTrees$Study", "rowFirst", "(I)J"⟩, 9), (⟨"FirstTrees$Study", "symbolFirst", "(I)J"⟩, 9), (⟨"FirstTrees$Study", "findFollowings", "()V"⟩, 9), (⟨"FirstTrees$Study", "widenFollowings", "(IJ)Z"⟩, 9), (⟨"java/lang/Throwable", "fillInStackTrace", "(I)Ljava/lang/Throwable;"⟩, 6), (⟨"FirstTrees", "mustBeRule", "(I)V"⟩, 8)]
theorem lw_r1 : ∀ q ∈ lw_privs_1, lw_okq q := List.forall_mem_cons.mpr ⟨lw_p0, List.forall_mem_cons.mpr ⟨lw_p1, List.forall_mem_cons.mpr ⟨lw_p2, List.forall_mem_cons.mpr ⟨lw_p3, List.forall_mem_cons.mpr ⟨lw_p4, List.forall_mem_cons.mpr ⟨lw_p5, List.forall_mem_cons.mpr ⟨lw_p6, List.forall_mem_cons.mpr ⟨lw_p7, List.forall_mem_cons.mpr ⟨lw_p8, List.forall_mem_cons.mpr ⟨lw_p9, List.forall_mem_cons.mpr ⟨lw_p10, List.forall_mem_cons.mpr ⟨lw_p11, List.forall_mem_cons.mpr ⟨lw_p12, List.forall_mem_cons.mpr ⟨lw_p13, List.forall_mem_cons.mpr ⟨lw_p14, List.forall_mem_cons.mpr ⟨lw_p15, fun _ h => absurd h List.not_mem_nil⟩⟩⟩⟩⟩⟩⟩⟩⟩⟩⟩⟩⟩⟩⟩⟩
theorem lw_p16 : lw_okq (⟨"FirstTrees", "mustBeRight", "()V"⟩, 8) := ⟨⟨by decide +kernel, by decide +kernel⟩, List.mem_of_getElem? (i := 21) (by decide +kernel), List.mem_of_getElem? (i := 574) (by decide +kernel), List.mem_of_getElem? (i := 575) (by decide +kernel)⟩
theorem lw_p17 : lw_okq (⟨"FirstTrees$Chart", "findPlaces", "()V"⟩, 13) := ⟨⟨by decide +kernel, by decide +kernel⟩, List.mem_of_getElem? (i := 97) (by decide +kernel), List.mem_of_getElem? (i := 583) (by decide +kernel), List.mem_of_getElem? (i := 584) (by decide +kernel)⟩
theorem lw_p18 : lw_okq (⟨"FirstTrees$Chart", "fillRule", "(II)V"⟩, 13) := ⟨⟨by decide +kernel, by decide +kernel⟩, List.mem_of_getElem? (i := 97) (by decide +kernel), List.mem_of_getElem? (i := 596) (by decide +kernel), List.mem_of_getElem? (i := 597) (by decide +kernel)⟩
theorem lw_p19 : lw_okq (⟨"FirstTrees$Chart", "readRow", "(II)V"⟩, 13) := ⟨⟨by decide +kernel, by decide +kernel⟩, List.mem_of_getElem? (i := 97) (by decide +kernel), List.mem_of_getElem? (i := 602) (by decide +kernel), List.mem_of_getElem? (i := 603) (by decide +kernel)⟩
theorem lw_p20 : lw_okq (⟨"FirstTrees$Chart", "readToken", "(I)V"⟩, 13) := ⟨⟨by decide +kernel, by decide +kernel⟩, List.mem_of_getElem? (i := 97) (by decide +kernel), List.mem_of_getElem? (i := 609) (by decide +kernel), List.mem_of_getElem? (i := 610) (by decide +kernel)⟩
theorem lw_p21 : lw_okq (⟨"FirstTrees$Chart", "readRule", "(II)V"⟩, 13) := ⟨⟨by decide +kernel, by decide +kernel⟩, List.mem_of_getElem? (i := 97) (by decide +kernel), List.mem_of_getElem? (i := 615) (by decide +kernel), List.mem_of_getElem? (i := 616) (by decide +kernel)⟩
theorem lw_p22 : lw_okq (⟨"FirstTrees$Walk", "layBottom", "()V"⟩, 7) := ⟨⟨by decide +kernel, by decide +kernel⟩, List.mem_of_getElem? (i := 169) (by decide +kernel), List.mem_of_getElem? (i := 638) (by decide +kernel), List.mem_of_getElem? (i := 639) (by decide +kernel)⟩
theorem lw_p23 : lw_okq (⟨"FirstTrees$Walk", "makeRoom", "()V"⟩, 7) := ⟨⟨by decide +kernel, by decide +kernel⟩, List.mem_of_getElem? (i := 169) (by decide +kernel), List.mem_of_getElem? (i := 642) (by decide +kernel), List.mem_of_getElem? (i := 643) (by decide +kernel)⟩
theorem lw_p24 : lw_okq (⟨"FirstTrees$Walk", "lay", "(II)V"⟩, 7) := ⟨⟨by decide +kernel, by decide +kernel⟩, List.mem_of_getElem? (i := 169) (by decide +kernel), List.mem_of_getElem? (i := 666) (by decide +kernel), List.mem_of_getElem? (i := 667) (by decide +kernel)⟩
theorem lw_p25 : lw_okq (⟨"FirstTrees$Walk", "replace", "(IILFirstTrees$Tree;)Z"⟩, 7) := ⟨⟨by decide +kernel, by decide +kernel⟩, List.mem_of_getElem? (i := 169) (by decide +kernel), List.mem_of_getElem? (i := 672) (by decide +kernel), List.mem_of_getElem? (i := 673) (by decide +kernel)⟩
theorem lw_p26 : lw_okq (⟨"FirstTrees$Walk", "firstFitting", "(I)I"⟩, 7) := ⟨⟨by decide +kernel, by decide +kernel⟩, List.mem_of_getElem? (i := 169) (by decide +kernel), List.mem_of_getElem? (i := 676) (by decide +kernel), List.mem_of_getElem? (i := 677) (by decide +kernel)⟩
theorem lw_p27 : lw_okq (⟨"FirstTrees$Walk", "reachOfRow", "(I)I"⟩, 7) := ⟨⟨by decide +kernel, by decide +kernel⟩, List.mem_of_getElem? (i := 169) (by decide +kernel), List.mem_of_getElem? (i := 682) (by decide +kernel), List.mem_of_getElem? (i := 683) (by decide +kernel)⟩
theorem lw_p28 : lw_okq (⟨"FirstTrees$Walk", "farthest", "(IJI[I)I"⟩, 7) := ⟨⟨by decide +kernel, by decide +kernel⟩, List.mem_of_getElem? (i := 169) (by decide +kernel), List.mem_of_getElem? (i := 695) (by decide +kernel), List.mem_of_getElem? (i := 696) (by decide +kernel)⟩
theorem lw_p29 : lw_okq (⟨"FirstTrees$Walk", "look", "(II)I"⟩, 7) := ⟨⟨by decide +kernel, by decide +kernel⟩, List.mem_of_getElem? (i := 169) (by decide +kernel), List.mem_of_getElem? (i := 712) (by decide +kernel), List.mem_of_getElem? (i := 713) (by decide +kernel)⟩
theorem lw_p30 : lw_okq (⟨"FirstTrees$Walk", "layRow", "(II)V"⟩, 7) := ⟨⟨by decide +kernel, by decide +kernel⟩, List.mem_of_getElem? (i := 169) (by decide +kernel), List.mem_of_getElem? (i := 723) (by decide +kernel), List.mem_of_getElem? (i := 724) (by decide +kernel)⟩
theorem lw_p31 : lw_okq (⟨"FirstTrees$Walk", "findReaches", "()V"⟩, 7) := ⟨⟨by decide +kernel, by decide +kernel⟩, List.mem_of_getElem? (i := 169) (by decide +kernel), List.mem_of_getElem? (i := 728) (by decide +kernel), List.mem_of_getElem? (i := 729) (by decide +kernel)⟩
def lw_privs_2 : List (MethodName × Nat) := [(⟨"FirstTrees", "mustBeRight", "()V"⟩, 8), (⟨"FirstTrees$Chart", "findPlaces", "()V"⟩, 13), (⟨"FirstTrees$Chart", "fillRule", "(II)V"⟩, 13), (⟨"FirstTrees$Chart", "readRow", "(II)V"⟩, 13), (⟨"FirstTrees$Chart", "readToken", "(I)V"⟩, 13), (⟨"FirstTrees$Chart", "readRule", "(II)V"⟩, 13), (⟨"FirstTrees$Walk", "layBottom", "()V"⟩, 7), (⟨"FirstTrees$Walk", "makeRoom", "()V"⟩, 7), (⟨"FirstTrees$Walk", "lay", "(II)V"⟩, 7), (⟨"FirstTrees$Walk", "replace", "(IILFirstTrees$Tree;)Z"⟩, 7), (⟨"FirstTrees$Walk", "firstFitting", "(I)I"⟩, 7), (⟨"FirstTrees$Walk", "reachOfRow", "(I)I"⟩, 7), (⟨"FirstTrees$Walk", "farthest", "(IJI[I)I"⟩, 7), (⟨"FirstTrees$Walk", "look", "(II)I"⟩, 7), (⟨"FirstTrees$Walk", "layRow", "(II)V"⟩, 7), (⟨"FirstTrees$Walk", "findReaches", "()V"⟩, 7)]
theorem lw_r2 : ∀ q ∈ lw_privs_2, lw_okq q := List.forall_mem_cons.mpr ⟨lw_p16, List.forall_mem_cons.mpr ⟨lw_p17, List.forall_mem_cons.mpr ⟨lw_p18, List.forall_mem_cons.mpr ⟨lw_p19, List.forall_mem_cons.mpr ⟨lw_p20, List.forall_mem_cons.mpr ⟨lw_p21, List.forall_mem_cons.mpr ⟨lw_p22, List.forall_mem_cons.mpr ⟨lw_p23, List.forall_mem_cons.mpr ⟨lw_p24, List.forall_mem_cons.mpr ⟨lw_p25, List.forall_mem_cons.mpr ⟨lw_p26, List.forall_mem_cons.mpr ⟨lw_p27, List.forall_mem_cons.mpr ⟨lw_p28, List.forall_mem_cons.mpr ⟨lw_p29, List.forall_mem_cons.mpr ⟨lw_p30, List.forall_mem_cons.mpr ⟨lw_p31, fun _ h => absurd h List.not_mem_nil⟩⟩⟩⟩⟩⟩⟩⟩⟩⟩⟩⟩⟩⟩⟩⟩
theorem lw_p32 : lw_okq (⟨"FirstTrees$Walk", "reachOfToken", "(II[I)I"⟩, 7) := ⟨⟨by decide +kernel, by decide +kernel⟩, List.mem_of_getElem? (i := 169) (by decide +kernel), List.mem_of_getElem? (i := 732) (by decide +kernel), List.mem_of_getElem? (i := 733) (by decide +kernel)⟩
theorem lw_p33 : lw_okq (⟨"FirstTrees$Ways", "fillRule", "(II)V"⟩, 6) := ⟨⟨by decide +kernel, by decide +kernel⟩, List.mem_of_getElem? (i := 143) (by decide +kernel), List.mem_of_getElem? (i := 757) (by decide +kernel), List.mem_of_getElem? (i := 758) (by decide +kernel)⟩
theorem lw_p34 : lw_okq (⟨"FirstTrees$Ways", "readRow", "(II)V"⟩, 6) := ⟨⟨by decide +kernel, by decide +kernel⟩, List.mem_of_getElem? (i := 143) (by decide +kernel), List.mem_of_getElem? (i := 768) (by decide +kernel), List.mem_of_getElem? (i := 769) (by decide +kernel)⟩
theorem lw_p35 : lw_okq (⟨"FirstTrees$Ways", "readToken", "(II)V"⟩, 6) := ⟨⟨by decide +kernel, by decide +kernel⟩, List.mem_of_getElem? (i := 143) (by decide +kernel), List.mem_of_getElem? (i := 775) (by decide +kernel), List.mem_of_getElem? (i := 776) (by decide +kernel)⟩
theorem lw_p36 : lw_okq (⟨"FirstTrees$Ways", "readRule", "(II)V"⟩, 6) := ⟨⟨by decide +kernel, by decide +kernel⟩, List.mem_of_getElem? (i := 143) (by decide +kernel), List.mem_of_getElem? (i := 781) (by decide +kernel), List.mem_of_getElem? (i := 782) (by decide +kernel)⟩
theorem lw_p37 : lw_okq (⟨"FirstTrees$Ways", "spread", "(JII)V"⟩, 6) := ⟨⟨by decide +kernel, by decide +kernel⟩, List.mem_of_getElem? (i := 143) (by decide +kernel), List.mem_of_getElem? (i := 785) (by decide +kernel), List.mem_of_getElem? (i := 786) (by decide +kernel)⟩
theorem lw_p38 : lw_okq (⟨"FirstTrees$Ways", "addRow", "(II)V"⟩, 6) := ⟨⟨by decide +kernel, by decide +kernel⟩, List.mem_of_getElem? (i := 143) (by decide +kernel), List.mem_of_getElem? (i := 793) (by decide +kernel), List.mem_of_getElem? (i := 794) (by decide +kernel)⟩
theorem lw_p39 : lw_okq (⟨"FirstTreesModel", "faultOf", "()I"⟩, 28) := ⟨⟨by decide +kernel, by decide +kernel⟩, List.mem_of_getElem? (i := 886) (by decide +kernel), List.mem_of_getElem? (i := 987) (by decide +kernel), List.mem_of_getElem? (i := 988) (by decide +kernel)⟩
theorem lw_p40 : lw_okq (⟨"FirstTreesModel", "sizeOf", "(II)I"⟩, 28) := ⟨⟨by decide +kernel, by decide +kernel⟩, List.mem_of_getElem? (i := 886) (by decide +kernel), List.mem_of_getElem? (i := 991) (by decide +kernel), List.mem_of_getElem? (i := 992) (by decide +kernel)⟩
theorem lw_p41 : lw_okq (⟨"FirstTreesModel", "symbolAt", "(III)I"⟩, 28) := ⟨⟨by decide +kernel, by decide +kernel⟩, List.mem_of_getElem? (i := 886) (by decide +kernel), List.mem_of_getElem? (i := 995) (by decide +kernel), List.mem_of_getElem? (i := 996) (by decide +kernel)⟩
theorem lw_p42 : lw_okq (⟨"FirstTreesModel", "findNothing", "()V"⟩, 28) := ⟨⟨by decide +kernel, by decide +kernel⟩, List.mem_of_getElem? (i := 886) (by decide +kernel), List.mem_of_getElem? (i := 999) (by decide +kernel), List.mem_of_getElem? (i := 1000) (by decide +kernel)⟩
theorem lw_p43 : lw_okq (⟨"FirstTreesModel", "rowIsNothing", "(III)Z"⟩, 28) := ⟨⟨by decide +kernel, by decide +kernel⟩, List.mem_of_getElem? (i := 886) (by decide +kernel), List.mem_of_getElem? (i := 1003) (by decide +kernel), List.mem_of_getElem? (i := 1004) (by decide +kernel)⟩
theorem lw_p44 : lw_okq (⟨"FirstTreesModel", "findLeft", "()V"⟩, 28) := ⟨⟨by decide +kernel, by decide +kernel⟩, List.mem_of_getElem? (i := 886) (by decide +kernel), List.mem_of_getElem? (i := 1010) (by decide +kernel), List.mem_of_getElem? (i := 1011) (by decide +kernel)⟩
theorem lw_p45 : lw_okq (⟨"FirstTreesModel", "findPlaces", "()V"⟩, 28) := ⟨⟨by decide +kernel, by decide +kernel⟩, List.mem_of_getElem? (i := 886) (by decide +kernel), List.mem_of_getElem? (i := 1014) (by decide +kernel), List.mem_of_getElem? (i := 1015) (by decide +kernel)⟩
theorem lw_p46 : lw_okq (⟨"FirstTreesModel", "makeOrder", "()V"⟩, 28) := ⟨⟨by decide +kernel, by decide +kernel⟩, List.mem_of_getElem? (i := 886) (by decide +kernel), List.mem_of_getElem? (i := 1018) (by decide +kernel), List.mem_of_getElem? (i := 1019) (by decide +kernel)⟩
theorem lw_p47 : lw_okq (⟨"FirstTreesModel", "alongAlternative", "(JII)J"⟩, 28) := ⟨⟨by decide +kernel, by decide +kernel⟩, List.mem_of_getElem? (i := 886) (by decide +kernel), List.mem_of_getElem? (i := 1022) (by decide +kernel), List.mem_of_getElem? (i := 1023) (by decide +kernel)⟩
def lw_privs_3 : List (MethodName × Nat) := [(⟨"FirstTrees$Walk", "reachOfToken", "(II[I)I"⟩, 7), (⟨"FirstTrees$Ways", "fillRule", "(II)V"⟩, 6), (⟨"FirstTrees$Ways", "readRow", "(II)V"⟩, 6), (⟨"FirstTrees$Ways", "readToken", "(II)V"⟩, 6), (⟨"FirstTrees$Ways", "readRule", "(II)V"⟩, 6), (⟨"FirstTrees$Ways", "spread", "(JII)V"⟩, 6), (⟨"FirstTrees$Ways", "addRow", "(II)V"⟩, 6), (⟨"FirstTreesModel", "faultOf", "()I"⟩, 28), (⟨"FirstTreesModel", "sizeOf", "(II)I"⟩, 28), (⟨"FirstTreesModel", "symbolAt", "(III)I"⟩, 28), (⟨"FirstTreesModel", "findNothing", "()V"⟩, 28), (⟨"FirstTreesModel", "rowIsNothing", "(III)Z"⟩, 28), (⟨"FirstTreesModel", "findLeft", "()V"⟩, 28), (⟨"FirstTreesModel", "findPlaces", "()V"⟩, 28), (⟨"FirstTreesModel", "makeOrder", "()V"⟩, 28), (⟨"FirstTreesModel", "alongAlternative", "(JII)J"⟩, 28)]
theorem lw_r3 : ∀ q ∈ lw_privs_3, lw_okq q := List.forall_mem_cons.mpr ⟨lw_p32, List.forall_mem_cons.mpr ⟨lw_p33, List.forall_mem_cons.mpr ⟨lw_p34, List.forall_mem_cons.mpr ⟨lw_p35, List.forall_mem_cons.mpr ⟨lw_p36, List.forall_mem_cons.mpr ⟨lw_p37, List.forall_mem_cons.mpr ⟨lw_p38, List.forall_mem_cons.mpr ⟨lw_p39, List.forall_mem_cons.mpr ⟨lw_p40, List.forall_mem_cons.mpr ⟨lw_p41, List.forall_mem_cons.mpr ⟨lw_p42, List.forall_mem_cons.mpr ⟨lw_p43, List.forall_mem_cons.mpr ⟨lw_p44, List.forall_mem_cons.mpr ⟨lw_p45, List.forall_mem_cons.mpr ⟨lw_p46, List.forall_mem_cons.mpr ⟨lw_p47, fun _ h => absurd h List.not_mem_nil⟩⟩⟩⟩⟩⟩⟩⟩⟩⟩⟩⟩⟩⟩⟩⟩
theorem lw_p48 : lw_okq (⟨"FirstTreesModel", "step", "(JI)J"⟩, 28) := ⟨⟨by decide +kernel, by decide +kernel⟩, List.mem_of_getElem? (i := 886) (by decide +kernel), List.mem_of_getElem? (i := 1026) (by decide +kernel), List.mem_of_getElem? (i := 1027) (by decide +kernel)⟩
theorem lw_p49 : lw_okq (⟨"FirstTreesModel", "findWays", "()V"⟩, 28) := ⟨⟨by decide +kernel, by decide +kernel⟩, List.mem_of_getElem? (i := 886) (by decide +kernel), List.mem_of_getElem? (i := 1030) (by decide +kernel), List.mem_of_getElem? (i := 1031) (by decide +kernel)⟩
theorem lw_p50 : lw_okq (⟨"FirstTreesModel", "waysAlong", "(III)V"⟩, 28) := ⟨⟨by decide +kernel, by decide +kernel⟩, List.mem_of_getElem? (i := 886) (by decide +kernel), List.mem_of_getElem? (i := 1034) (by decide +kernel), List.mem_of_getElem? (i := 1035) (by decide +kernel)⟩
theorem lw_p51 : lw_okq (⟨"FirstTreesModel", "makeTree", "()Z"⟩, 28) := ⟨⟨by decide +kernel, by decide +kernel⟩, List.mem_of_getElem? (i := 886) (by decide +kernel), List.mem_of_getElem? (i := 1042) (by decide +kernel), List.mem_of_getElem? (i := 1043) (by decide +kernel)⟩
theorem lw_p52 : lw_okq (⟨"FirstTreesModel", "makeNode", "(III)V"⟩, 28) := ⟨⟨by decide +kernel, by decide +kernel⟩, List.mem_of_getElem? (i := 886) (by decide +kernel), List.mem_of_getElem? (i := 1046) (by decide +kernel), List.mem_of_getElem? (i := 1047) (by decide +kernel)⟩
theorem lw_p53 : lw_okq (⟨"FirstTreesModel", "reachOf", "(III)I"⟩, 28) := ⟨⟨by decide +kernel, by decide +kernel⟩, List.mem_of_getElem? (i := 886) (by decide +kernel), List.mem_of_getElem? (i := 1050) (by decide +kernel), List.mem_of_getElem? (i := 1051) (by decide +kernel)⟩
theorem lw_p54 : lw_okq (⟨"FirstTreesModel", "push", "(IIJ)V"⟩, 28) := ⟨⟨by decide +kernel, by decide +kernel⟩, List.mem_of_getElem? (i := 886) (by decide +kernel), List.mem_of_getElem? (i := 1054) (by decide +kernel), List.mem_of_getElem? (i := 1055) (by decide +kernel)⟩
theorem lw_p55 : lw_okq (⟨"FirstTreesModel", "before", "(JI)J"⟩, 28) := ⟨⟨by decide +kernel, by decide +kernel⟩, List.mem_of_getElem? (i := 886) (by decide +kernel), List.mem_of_getElem? (i := 1058) (by decide +kernel), List.mem_of_getElem? (i := 1059) (by decide +kernel)⟩
theorem lw_p56 : lw_okq (⟨"FirstTreesModel", "isThere", "(I)Z"⟩, 28) := ⟨⟨by decide +kernel, by decide +kernel⟩, List.mem_of_getElem? (i := 886) (by decide +kernel), List.mem_of_getElem? (i := 1070) (by decide +kernel), List.mem_of_getElem? (i := 1071) (by decide +kernel)⟩
theorem lw_p57 : lw_okq (⟨"FirstTreesModel", "findNexts", "(I)V"⟩, 28) := ⟨⟨by decide +kernel, by decide +kernel⟩, List.mem_of_getElem? (i := 886) (by decide +kernel), List.mem_of_getElem? (i := 1114) (by decide +kernel), List.mem_of_getElem? (i := 1115) (by decide +kernel)⟩
theorem lw_p58 : lw_okq (⟨"FirstTreesModel", "nextAlong", "(IIII)J"⟩, 28) := ⟨⟨by decide +kernel, by decide +kernel⟩, List.mem_of_getElem? (i := 886) (by decide +kernel), List.mem_of_getElem? (i := 1118) (by decide +kernel), List.mem_of_getElem? (i := 1119) (by decide +kernel)⟩
theorem lw_p59 : lw_okq (⟨"FirstTreesModel", "look", "(I)V"⟩, 28) := ⟨⟨by decide +kernel, by decide +kernel⟩, List.mem_of_getElem? (i := 886) (by decide +kernel), List.mem_of_getElem? (i := 1127) (by decide +kernel), List.mem_of_getElem? (i := 1128) (by decide +kernel)⟩
theorem lw_p60 : lw_okq (⟨"FirstTreesModel", "findSets", "()V"⟩, 28) := ⟨⟨by decide +kernel, by decide +kernel⟩, List.mem_of_getElem? (i := 886) (by decide +kernel), List.mem_of_getElem? (i := 1131) (by decide +kernel), List.mem_of_getElem? (i := 1132) (by decide +kernel)⟩
theorem lw_p61 : lw_okq (⟨"FirstTreesModel", "firstOf", "(III)J"⟩, 28) := ⟨⟨by decide +kernel, by decide +kernel⟩, List.mem_of_getElem? (i := 886) (by decide +kernel), List.mem_of_getElem? (i := 1135) (by decide +kernel), List.mem_of_getElem? (i := 1136) (by decide +kernel)⟩
theorem lw_p62 : lw_okq (⟨"FirstTreesModel", "followAlong", "(II)V"⟩, 28) := ⟨⟨by decide +kernel, by decide +kernel⟩, List.mem_of_getElem? (i := 886) (by decide +kernel), List.mem_of_getElem? (i := 1139) (by decide +kernel), List.mem_of_getElem? (i := 1140) (by decide +kernel)⟩
def lw_privs_4 : List (MethodName × Nat) := [(⟨"FirstTreesModel", "step", "(JI)J"⟩, 28), (⟨"FirstTreesModel", "findWays", "()V"⟩, 28), (⟨"FirstTreesModel", "waysAlong", "(III)V"⟩, 28), (⟨"FirstTreesModel", "makeTree", "()Z"⟩, 28), (⟨"FirstTreesModel", "makeNode", "(III)V"⟩, 28), (⟨"FirstTreesModel", "reachOf", "(III)I"⟩, 28), (⟨"FirstTreesModel", "push", "(IIJ)V"⟩, 28), (⟨"FirstTreesModel", "before", "(JI)J"⟩, 28), (⟨"FirstTreesModel", "isThere", "(I)Z"⟩, 28), (⟨"FirstTreesModel", "findNexts", "(I)V"⟩, 28), (⟨"FirstTreesModel", "nextAlong", "(IIII)J"⟩, 28), (⟨"FirstTreesModel", "look", "(I)V"⟩, 28), (⟨"FirstTreesModel", "findSets", "()V"⟩, 28), (⟨"FirstTreesModel", "firstOf", "(III)J"⟩, 28), (⟨"FirstTreesModel", "followAlong", "(II)V"⟩, 28)]
theorem lw_r4 : ∀ q ∈ lw_privs_4, lw_okq q := List.forall_mem_cons.mpr ⟨lw_p48, List.forall_mem_cons.mpr ⟨lw_p49, List.forall_mem_cons.mpr ⟨lw_p50, List.forall_mem_cons.mpr ⟨lw_p51, List.forall_mem_cons.mpr ⟨lw_p52, List.forall_mem_cons.mpr ⟨lw_p53, List.forall_mem_cons.mpr ⟨lw_p54, List.forall_mem_cons.mpr ⟨lw_p55, List.forall_mem_cons.mpr ⟨lw_p56, List.forall_mem_cons.mpr ⟨lw_p57, List.forall_mem_cons.mpr ⟨lw_p58, List.forall_mem_cons.mpr ⟨lw_p59, List.forall_mem_cons.mpr ⟨lw_p60, List.forall_mem_cons.mpr ⟨lw_p61, List.forall_mem_cons.mpr ⟨lw_p62, fun _ h => absurd h List.not_mem_nil⟩⟩⟩⟩⟩⟩⟩⟩⟩⟩⟩⟩⟩⟩⟩
def lw_privs : List (MethodName × Nat) := lw_privs_1 ++ (lw_privs_2 ++ (lw_privs_3 ++ (lw_privs_4)))
def lw_tbl : List Cond := k2_sels lw_privs ++ tables_1
theorem lw_privs_ok : ∀ q ∈ lw_privs, lw_okq q := by
  show ∀ q ∈ lw_privs_1 ++ (lw_privs_2 ++ (lw_privs_3 ++ (lw_privs_4))), lw_okq q
  exact List.forall_mem_append.mpr ⟨lw_r1, List.forall_mem_append.mpr ⟨lw_r2, List.forall_mem_append.mpr ⟨lw_r3, lw_r4⟩⟩⟩
def Tq_F : u_T := fun k => match k with
  | 0 => ("FirstTrees", "grammar", "LFirstTrees$Grammar;", true)
  | 1 => ("FirstTrees", "study", "LFirstTrees$Study;", true)
  | 2 => ("FirstTrees", "input", "LFirstTrees$Input;", true)
  | 3 => ("FirstTrees", "chart", "LFirstTrees$Chart;", true)
  | 4 => ("FirstTrees", "ways", "LFirstTrees$Ways;", true)
  | 5 => ("FirstTrees", "walk", "LFirstTrees$Walk;", true)
  | 6 => ("FirstTrees", "tree", "LFirstTrees$Tree;", false)
  | _ => ("FirstTrees", "spare", "LFirstTrees$Tree;", false)
def tq_F : Nat → FieldType := fun k => match k with
  | 0 => .object "FirstTrees$Grammar"
  | 1 => .object "FirstTrees$Study"
  | 2 => .object "FirstTrees$Input"
  | 3 => .object "FirstTrees$Chart"
  | 4 => .object "FirstTrees$Ways"
  | 5 => .object "FirstTrees$Walk"
  | 6 => .object "FirstTrees$Tree"
  | _ => .object "FirstTrees$Tree"
theorem nm_F : ∀ a, a < 8 → ∀ b, b < 8 → a ≠ b → (Tq_F a).2.1 ≠ (Tq_F b).2.1 := by decide +kernel
theorem ty_F : ∀ k, k < 8 → parseFieldDescriptor (Tq_F k).2.2.1 = some (tq_F k) := by decide +kernel
def Tq_G : u_T := fun k => match k with
  | 0 => ("FirstTrees$Grammar", "rules", "I", false)
  | 1 => ("FirstTrees$Grammar", "alternatives", "[I", true)
  | 2 => ("FirstTrees$Grammar", "lengths", "[I", true)
  | _ => ("FirstTrees$Grammar", "symbols", "[I", true)
def tq_G : Nat → FieldType := fun k => match k with
  | 0 => .int
  | 1 => .array .int
  | 2 => .array .int
  | _ => .array .int
theorem nm_G : ∀ a, a < 4 → ∀ b, b < 4 → a ≠ b → (Tq_G a).2.1 ≠ (Tq_G b).2.1 := by decide +kernel
theorem ty_G : ∀ k, k < 4 → parseFieldDescriptor (Tq_G k).2.2.1 = some (tq_G k) := by decide +kernel
def Tq_S : u_T := fun k => match k with
  | 0 => ("FirstTrees$Study", "grammar", "LFirstTrees$Grammar;", true)
  | 1 => ("FirstTrees$Study", "current", "Z", false)
  | 2 => ("FirstTrees$Study", "fault", "I", false)
  | 3 => ("FirstTrees$Study", "faulty", "I", false)
  | 4 => ("FirstTrees$Study", "nothing", "I", false)
  | 5 => ("FirstTrees$Study", "left", "[I", true)
  | 6 => ("FirstTrees$Study", "order", "[I", true)
  | 7 => ("FirstTrees$Study", "firsts", "[J", true)
  | _ => ("FirstTrees$Study", "followings", "[J", true)
def tq_S : Nat → FieldType := fun k => match k with
  | 0 => .object "FirstTrees$Grammar"
  | 1 => .boolean
  | 2 => .int
  | 3 => .int
  | 4 => .int
  | 5 => .array .int
  | 6 => .array .int
  | 7 => .array .long
  | _ => .array .long
theorem nm_S : ∀ a, a < 9 → ∀ b, b < 9 → a ≠ b → (Tq_S a).2.1 ≠ (Tq_S b).2.1 := by decide +kernel
theorem ty_S : ∀ k, k < 9 → parseFieldDescriptor (Tq_S k).2.2.1 = some (tq_S k) := by decide +kernel
def Tq_I : u_T := fun k => match k with
  | 0 => ("FirstTrees$Input", "size", "I", false)
  | _ => ("FirstTrees$Input", "tokens", "[I", true)
def tq_I : Nat → FieldType := fun k => match k with
  | 0 => .int
  | _ => .array .int
theorem nm_I : ∀ a, a < 2 → ∀ b, b < 2 → a ≠ b → (Tq_I a).2.1 ≠ (Tq_I b).2.1 := by decide +kernel
theorem ty_I : ∀ k, k < 2 → parseFieldDescriptor (Tq_I k).2.2.1 = some (tq_I k) := by decide +kernel
def Tq_C : u_T := fun k => match k with
  | 0 => ("FirstTrees$Chart", "grammar", "LFirstTrees$Grammar;", true)
  | 1 => ("FirstTrees$Chart", "study", "LFirstTrees$Study;", true)
  | 2 => ("FirstTrees$Chart", "input", "LFirstTrees$Input;", true)
  | 3 => ("FirstTrees$Chart", "end", "I", false)
  | 4 => ("FirstTrees$Chart", "placesOf", "[J", true)
  | 5 => ("FirstTrees$Chart", "rowFits", "[J", true)
  | 6 => ("FirstTrees$Chart", "rowFar", "[I", true)
  | 7 => ("FirstTrees$Chart", "ruleFits", "[J", true)
  | 8 => ("FirstTrees$Chart", "ruleFar", "[I", true)
  | 9 => ("FirstTrees$Chart", "ruleSoon", "[J", true)
  | 10 => ("FirstTrees$Chart", "here", "J", false)
  | 11 => ("FirstTrees$Chart", "far", "I", false)
  | _ => ("FirstTrees$Chart", "soon", "J", false)
def tq_C : Nat → FieldType := fun k => match k with
  | 0 => .object "FirstTrees$Grammar"
  | 1 => .object "FirstTrees$Study"
  | 2 => .object "FirstTrees$Input"
  | 3 => .int
  | 4 => .array .long
  | 5 => .array .long
  | 6 => .array .int
  | 7 => .array .long
  | 8 => .array .int
  | 9 => .array .long
  | 10 => .long
  | 11 => .int
  | _ => .long
theorem nm_C : ∀ a, a < 13 → ∀ b, b < 13 → a ≠ b → (Tq_C a).2.1 ≠ (Tq_C b).2.1 := by decide +kernel
theorem ty_C : ∀ k, k < 13 → parseFieldDescriptor (Tq_C k).2.2.1 = some (tq_C k) := by decide +kernel
def Tq_Y : u_T := fun k => match k with
  | 0 => ("FirstTrees$Ways", "grammar", "LFirstTrees$Grammar;", true)
  | 1 => ("FirstTrees$Ways", "study", "LFirstTrees$Study;", true)
  | 2 => ("FirstTrees$Ways", "input", "LFirstTrees$Input;", true)
  | 3 => ("FirstTrees$Ways", "chart", "LFirstTrees$Chart;", true)
  | 4 => ("FirstTrees$Ways", "ofRule", "[I", true)
  | _ => ("FirstTrees$Ways", "here", "[J", true)
def tq_Y : Nat → FieldType := fun k => match k with
  | 0 => .object "FirstTrees$Grammar"
  | 1 => .object "FirstTrees$Study"
  | 2 => .object "FirstTrees$Input"
  | 3 => .object "FirstTrees$Chart"
  | 4 => .array .int
  | _ => .array .long
theorem nm_Y : ∀ a, a < 6 → ∀ b, b < 6 → a ≠ b → (Tq_Y a).2.1 ≠ (Tq_Y b).2.1 := by decide +kernel
theorem ty_Y : ∀ k, k < 6 → parseFieldDescriptor (Tq_Y k).2.2.1 = some (tq_Y k) := by decide +kernel
def Tq_K : u_T := fun k => match k with
  | 0 => ("FirstTrees$Walk", "grammar", "LFirstTrees$Grammar;", true)
  | 1 => ("FirstTrees$Walk", "input", "LFirstTrees$Input;", true)
  | 2 => ("FirstTrees$Walk", "chart", "LFirstTrees$Chart;", true)
  | 3 => ("FirstTrees$Walk", "stack", "[LFirstTrees$Pending;", true)
  | 4 => ("FirstTrees$Walk", "pending", "I", false)
  | 5 => ("FirstTrees$Walk", "place", "I", false)
  | _ => ("FirstTrees$Walk", "nodesDue", "I", false)
def tq_K : Nat → FieldType := fun k => match k with
  | 0 => .object "FirstTrees$Grammar"
  | 1 => .object "FirstTrees$Input"
  | 2 => .object "FirstTrees$Chart"
  | 3 => .array (.object "FirstTrees$Pending")
  | 4 => .int
  | 5 => .int
  | _ => .int
theorem nm_K : ∀ a, a < 7 → ∀ b, b < 7 → a ≠ b → (Tq_K a).2.1 ≠ (Tq_K b).2.1 := by decide +kernel
theorem ty_K : ∀ k, k < 7 → parseFieldDescriptor (Tq_K k).2.2.1 = some (tq_K k) := by decide +kernel
def Tq_T : u_T := fun k => match k with
  | 0 => ("FirstTrees$Tree", "size", "I", false)
  | _ => ("FirstTrees$Tree", "facts", "[I", true)
def tq_T : Nat → FieldType := fun k => match k with
  | 0 => .int
  | _ => .array .int
theorem nm_T : ∀ a, a < 2 → ∀ b, b < 2 → a ≠ b → (Tq_T a).2.1 ≠ (Tq_T b).2.1 := by decide +kernel
theorem ty_T : ∀ k, k < 2 → parseFieldDescriptor (Tq_T k).2.2.1 = some (tq_T k) := by decide +kernel
def Tq_P : u_T := fun k => match k with
  | 0 => ("FirstTrees$Pending", "symbol", "I", false)
  | 1 => ("FirstTrees$Pending", "above", "I", false)
  | _ => ("FirstTrees$Pending", "reaches", "[I", true)
def tq_P : Nat → FieldType := fun k => match k with
  | 0 => .int
  | 1 => .int
  | _ => .array .int
theorem nm_P : ∀ a, a < 3 → ∀ b, b < 3 → a ≠ b → (Tq_P a).2.1 ≠ (Tq_P b).2.1 := by decide +kernel
theorem ty_P : ∀ k, k < 3 → parseFieldDescriptor (Tq_P k).2.2.1 = some (tq_P k) := by decide +kernel
def Tq_M : u_T := fun k => match k with
  | 0 => ("FirstTreesModel", "thrown", "I", false)
  | 1 => ("FirstTreesModel", "rules", "I", false)
  | 2 => ("FirstTreesModel", "alternatives", "[I", true)
  | 3 => ("FirstTreesModel", "sizes", "[I", true)
  | 4 => ("FirstTreesModel", "symbols", "[I", true)
  | 5 => ("FirstTreesModel", "nothing", "[Z", true)
  | 6 => ("FirstTreesModel", "left", "[Z", true)
  | 7 => ("FirstTreesModel", "order", "[I", true)
  | 8 => ("FirstTreesModel", "faultyRule", "I", false)
  | 9 => ("FirstTreesModel", "input", "[I", true)
  | 10 => ("FirstTreesModel", "length", "I", false)
  | 11 => ("FirstTreesModel", "ends", "[J", true)
  | 12 => ("FirstTreesModel", "far", "[I", true)
  | 13 => ("FirstTreesModel", "nexts", "[J", true)
  | 14 => ("FirstTreesModel", "ways", "[J", true)
  | 15 => ("FirstTreesModel", "some", "[J", true)
  | 16 => ("FirstTreesModel", "more", "[J", true)
  | 17 => ("FirstTreesModel", "firsts", "[J", true)
  | 18 => ("FirstTreesModel", "followings", "[J", true)
  | 19 => ("FirstTreesModel", "nodes", "I", false)
  | 20 => ("FirstTreesModel", "nodeData", "[I", true)
  | 21 => ("FirstTreesModel", "made", "[I", true)
  | 22 => ("FirstTreesModel", "madeNodes", "I", false)
  | 23 => ("FirstTreesModel", "high", "I", false)
  | 24 => ("FirstTreesModel", "pileSymbol", "[I", true)
  | 25 => ("FirstTreesModel", "pileNode", "[I", true)
  | 26 => ("FirstTreesModel", "pileGood", "[J", true)
  | _ => ("FirstTreesModel", "farthest", "I", false)
def tq_M : Nat → FieldType := fun k => match k with
  | 0 => .int
  | 1 => .int
  | 2 => .array .int
  | 3 => .array .int
  | 4 => .array .int
  | 5 => .array .boolean
  | 6 => .array .boolean
  | 7 => .array .int
  | 8 => .int
  | 9 => .array .int
  | 10 => .int
  | 11 => .array .long
  | 12 => .array .int
  | 13 => .array .long
  | 14 => .array .long
  | 15 => .array .long
  | 16 => .array .long
  | 17 => .array .long
  | 18 => .array .long
  | 19 => .int
  | 20 => .array .int
  | 21 => .array .int
  | 22 => .int
  | 23 => .int
  | 24 => .array .int
  | 25 => .array .int
  | 26 => .array .long
  | _ => .int
theorem nm_M : ∀ a, a < 28 → ∀ b, b < 28 → a ≠ b → (Tq_M a).2.1 ≠ (Tq_M b).2.1 := by decide +kernel
theorem ty_M : ∀ k, k < 28 → parseFieldDescriptor (Tq_M k).2.2.1 = some (tq_M k) := by decide +kernel
abbrev classes : List vw_C := [("FirstTrees", Tq_F, 8), ("FirstTrees$Grammar", Tq_G, 4), ("FirstTrees$Study", Tq_S, 9), ("FirstTrees$Input", Tq_I, 2), ("FirstTrees$Chart", Tq_C, 13), ("FirstTrees$Ways", Tq_Y, 6), ("FirstTrees$Walk", Tq_K, 7), ("FirstTrees$Tree", Tq_T, 2), ("FirstTrees$Pending", Tq_P, 3), ("FirstTreesModel", Tq_M, 28)]
def WS : List Cond := lw_tbl.filter goodWord
theorem WS_good : ∀ w ∈ WS, ((w.onTables && w.keeps) = true ∨ ∃ ty, w = .arrayClass ty) := fun w h => good_of_word (List.mem_filter.mp h).2
theorem ws_t {w : Cond} (i : Nat) (h : tables_1[i]? = some w) (g : goodWord w = true) : w ∈ WS := List.mem_filter.mpr ⟨List.mem_append_right _ (List.mem_of_getElem? h), g⟩
theorem ws_p {y : MethodName} (i : Nat) {n : Nat} (h : lw_privs[i]? = some (y, n)) : Cond.selects y.cls y y ∈ WS := List.mem_filter.mpr ⟨List.mem_append_left _ (List.mem_map.mpr ⟨(y, n), List.mem_of_getElem? h, rfl⟩), rfl⟩
def NW : List Cond := [(Jvm.Cond.methodLinkNest "FirstTrees" (11 : Nat) ({ cls := "FirstTrees$Grammar", name := "<init>", desc := "()V" } : Jvm.MethodName) "FirstTrees"), (Jvm.Cond.methodLinkNest "FirstTrees" (27 : Nat) ({ cls := "FirstTrees$Input", name := "<init>", desc := "()V" } : Jvm.MethodName) "FirstTrees"), (Jvm.Cond.methodLinkNest "FirstTrees" (61 : Nat) ({ cls := "FirstTrees$Tree", name := "<init>", desc := "()V" } : Jvm.MethodName) "FirstTrees"), (Jvm.Cond.methodLinkNest "FirstTrees$Study" (61 : Nat) ({ cls := "FirstTrees", name := "has", desc := "(JI)Z" } : Jvm.MethodName) "FirstTrees"), (Jvm.Cond.castable "java/lang/UnsupportedOperationException" "java/lang/UnsupportedOperationException"), (Jvm.Cond.declares ({ cls := "java/lang/RuntimeException", name := "<init>", desc := "()V" } : Jvm.MethodName)), (Jvm.Cond.declares ({ cls := "java/lang/RuntimeException", name := "<init>", desc := "(Ljava/lang/String;)V" } : Jvm.MethodName)), (Jvm.Cond.declares ({ cls := "java/lang/Exception", name := "<init>", desc := "()V" } : Jvm.MethodName)), (Jvm.Cond.declares ({ cls := "java/lang/Exception", name := "<init>", desc := "(Ljava/lang/String;)V" } : Jvm.MethodName)), (Jvm.Cond.declares ({ cls := "java/lang/Throwable", name := "<init>", desc := "()V" } : Jvm.MethodName)), (Jvm.Cond.declares ({ cls := "java/lang/Throwable", name := "<init>", desc := "(Ljava/lang/String;)V" } : Jvm.MethodName)), (Jvm.Cond.castable "java/lang/IndexOutOfBoundsException" "java/lang/IndexOutOfBoundsException"), (Jvm.Cond.castable "java/lang/IllegalArgumentException" "java/lang/IllegalArgumentException"), (Jvm.Cond.castable "java/lang/IllegalStateException" "java/lang/IllegalStateException"), (Jvm.Cond.methodLinkNest "FirstTrees$Chart" (70 : Nat) ({ cls := "FirstTrees", name := "has", desc := "(JI)Z" } : Jvm.MethodName) "FirstTrees"), (Jvm.Cond.methodLinkNest "FirstTrees$Walk" (152 : Nat) ({ cls := "FirstTrees$Pending", name := "<init>", desc := "()V" } : Jvm.MethodName) "FirstTrees"), (Jvm.Cond.fieldLinkNest "FirstTrees$Walk" (51 : Nat) "FirstTrees$Pending" "symbol" "I" "FirstTrees"), (Jvm.Cond.fieldLinkNest "FirstTrees$Walk" (64 : Nat) "FirstTrees$Pending" "above" "I" "FirstTrees"), (Jvm.Cond.fieldLinkNest "FirstTrees$Walk" (121 : Nat) "FirstTrees$Pending" "reaches" "[I" "FirstTrees"), (Jvm.Cond.methodLinkNest "FirstTrees$Walk" (139 : Nat) ({ cls := "FirstTrees", name := "has", desc := "(JI)Z" } : Jvm.MethodName) "FirstTrees")]
theorem in_F : ∀ w ∈ u_ws "FirstTrees" Tq_F 8, w ∈ WS := fun w h => by
  have e : u_ws "FirstTrees" Tq_F 8 = [219, 221, 223, 225, 227, 229, 231, 233].filterMap (fun i => tables_1[i]?) := by decide +kernel
  rw [e] at h
  have hg := List.all_eq_true.mp (by decide +kernel : (([219, 221, 223, 225, 227, 229, 231, 233] : List Nat).filterMap (fun i => tables_1[i]?)).all goodWord = true) w h
  obtain ⟨i, hi, hw⟩ := List.mem_filterMap.mp h
  exact ws_t i hw hg
theorem in_G : ∀ w ∈ u_ws "FirstTrees$Grammar" Tq_G 4, w ∈ WS := fun w h => by
  have e : u_ws "FirstTrees$Grammar" Tq_G 4 = [38, 40, 42, 44].filterMap (fun i => tables_1[i]?) := by decide +kernel
  rw [e] at h
  have hg := List.all_eq_true.mp (by decide +kernel : (([38, 40, 42, 44] : List Nat).filterMap (fun i => tables_1[i]?)).all goodWord = true) w h
  obtain ⟨i, hi, hw⟩ := List.mem_filterMap.mp h
  exact ws_t i hw hg
theorem in_S : ∀ w ∈ u_ws "FirstTrees$Study" Tq_S 9, w ∈ WS := fun w h => by
  have e : u_ws "FirstTrees$Study" Tq_S 9 = [63, 65, 67, 69, 71, 73, 75, 77, 79].filterMap (fun i => tables_1[i]?) := by decide +kernel
  rw [e] at h
  have hg := List.all_eq_true.mp (by decide +kernel : (([63, 65, 67, 69, 71, 73, 75, 77, 79] : List Nat).filterMap (fun i => tables_1[i]?)).all goodWord = true) w h
  obtain ⟨i, hi, hw⟩ := List.mem_filterMap.mp h
  exact ws_t i hw hg
theorem in_I : ∀ w ∈ u_ws "FirstTrees$Input" Tq_I 2, w ∈ WS := fun w h => by
  have e : u_ws "FirstTrees$Input" Tq_I 2 = [91, 93].filterMap (fun i => tables_1[i]?) := by decide +kernel
  rw [e] at h
  have hg := List.all_eq_true.mp (by decide +kernel : (([91, 93] : List Nat).filterMap (fun i => tables_1[i]?)).all goodWord = true) w h
  obtain ⟨i, hi, hw⟩ := List.mem_filterMap.mp h
  exact ws_t i hw hg
theorem in_C : ∀ w ∈ u_ws "FirstTrees$Chart" Tq_C 13, w ∈ WS := fun w h => by
  have e : u_ws "FirstTrees$Chart" Tq_C 13 = [115, 117, 119, 121, 123, 125, 127, 129, 131, 133, 135, 137, 139].filterMap (fun i => tables_1[i]?) := by decide +kernel
  rw [e] at h
  have hg := List.all_eq_true.mp (by decide +kernel : (([115, 117, 119, 121, 123, 125, 127, 129, 131, 133, 135, 137, 139] : List Nat).filterMap (fun i => tables_1[i]?)).all goodWord = true) w h
  obtain ⟨i, hi, hw⟩ := List.mem_filterMap.mp h
  exact ws_t i hw hg
theorem in_Y : ∀ w ∈ u_ws "FirstTrees$Ways" Tq_Y 6, w ∈ WS := fun w h => by
  have e : u_ws "FirstTrees$Ways" Tq_Y 6 = [155, 157, 159, 161, 163, 165].filterMap (fun i => tables_1[i]?) := by decide +kernel
  rw [e] at h
  have hg := List.all_eq_true.mp (by decide +kernel : (([155, 157, 159, 161, 163, 165] : List Nat).filterMap (fun i => tables_1[i]?)).all goodWord = true) w h
  obtain ⟨i, hi, hw⟩ := List.mem_filterMap.mp h
  exact ws_t i hw hg
theorem in_K : ∀ w ∈ u_ws "FirstTrees$Walk" Tq_K 7, w ∈ WS := fun w h => by
  have e : u_ws "FirstTrees$Walk" Tq_K 7 = [183, 185, 187, 189, 191, 193, 195].filterMap (fun i => tables_1[i]?) := by decide +kernel
  rw [e] at h
  have hg := List.all_eq_true.mp (by decide +kernel : (([183, 185, 187, 189, 191, 193, 195] : List Nat).filterMap (fun i => tables_1[i]?)).all goodWord = true) w h
  obtain ⟨i, hi, hw⟩ := List.mem_filterMap.mp h
  exact ws_t i hw hg
theorem in_T : ∀ w ∈ u_ws "FirstTrees$Tree" Tq_T 2, w ∈ WS := fun w h => by
  have e : u_ws "FirstTrees$Tree" Tq_T 2 = [206, 208].filterMap (fun i => tables_1[i]?) := by decide +kernel
  rw [e] at h
  have hg := List.all_eq_true.mp (by decide +kernel : (([206, 208] : List Nat).filterMap (fun i => tables_1[i]?)).all goodWord = true) w h
  obtain ⟨i, hi, hw⟩ := List.mem_filterMap.mp h
  exact ws_t i hw hg
theorem in_P : ∀ w ∈ u_ws "FirstTrees$Pending" Tq_P 3, w ∈ WS := fun w h => by
  have e : u_ws "FirstTrees$Pending" Tq_P 3 = [654, 656, 658].filterMap (fun i => tables_1[i]?) := by decide +kernel
  rw [e] at h
  have hg := List.all_eq_true.mp (by decide +kernel : (([654, 656, 658] : List Nat).filterMap (fun i => tables_1[i]?)).all goodWord = true) w h
  obtain ⟨i, hi, hw⟩ := List.mem_filterMap.mp h
  exact ws_t i hw hg
theorem in_M : ∀ w ∈ u_ws "FirstTreesModel" Tq_M 28, w ∈ WS := fun w h => by
  have e : u_ws "FirstTreesModel" Tq_M 28 = [920, 922, 924, 926, 928, 930, 932, 934, 936, 938, 940, 942, 944, 946, 948, 950, 952, 954, 956, 958, 960, 962, 964, 966, 968, 970, 972, 974].filterMap (fun i => tables_1[i]?) := by decide +kernel
  rw [e] at h
  have hg := List.all_eq_true.mp (by decide +kernel : (([920, 922, 924, 926, 928, 930, 932, 934, 936, 938, 940, 942, 944, 946, 948, 950, 952, 954, 956, 958, 960, 962, 964, 966, 968, 970, 972, 974] : List Nat).filterMap (fun i => tables_1[i]?)).all goodWord = true) w h
  obtain ⟨i, hi, hw⟩ := List.mem_filterMap.mp h
  exact ws_t i hw hg
abbrev y_F_init : MethodName := ⟨"FirstTrees", "<init>", "()V"⟩
abbrev c_F_init : ByteArray := prog_1_method_1_code
abbrev y_F_rule : MethodName := ⟨"FirstTrees", "rule", "()I"⟩
abbrev c_F_rule : ByteArray := prog_1_method_2_code
abbrev y_F_alternative : MethodName := ⟨"FirstTrees", "alternative", "(I)I"⟩
abbrev c_F_alternative : ByteArray := prog_1_method_3_code
abbrev y_F_symbol : MethodName := ⟨"FirstTrees", "symbol", "(II)I"⟩
abbrev c_F_symbol : ByteArray := prog_1_method_4_code
abbrev y_F_clear : MethodName := ⟨"FirstTrees", "clear", "()I"⟩
abbrev c_F_clear : ByteArray := prog_1_method_5_code
abbrev y_F_fault : MethodName := ⟨"FirstTrees", "fault", "()I"⟩
abbrev c_F_fault : ByteArray := prog_1_method_6_code
abbrev y_F_faulty : MethodName := ⟨"FirstTrees", "faulty", "()I"⟩
abbrev c_F_faulty : ByteArray := prog_1_method_7_code
abbrev y_F_token : MethodName := ⟨"FirstTrees", "token", "(I)I"⟩
abbrev c_F_token : ByteArray := prog_1_method_8_code
abbrev y_F_keep : MethodName := ⟨"FirstTrees", "keep", "(I)V"⟩
abbrev c_F_keep : ByteArray := prog_1_method_9_code
abbrev y_F_parse : MethodName := ⟨"FirstTrees", "parse", "()I"⟩
abbrev c_F_parse : ByteArray := prog_1_method_10_code
abbrev y_F_nodes : MethodName := ⟨"FirstTrees", "nodes", "()I"⟩
abbrev c_F_nodes : ByteArray := prog_1_method_11_code
abbrev y_F_node : MethodName := ⟨"FirstTrees", "node", "(II)I"⟩
abbrev c_F_node : ByteArray := prog_1_method_12_code
abbrev y_F_reach : MethodName := ⟨"FirstTrees", "reach", "()I"⟩
abbrev c_F_reach : ByteArray := prog_1_method_13_code
abbrev y_F_expected : MethodName := ⟨"FirstTrees", "expected", "(I)J"⟩
abbrev c_F_expected : ByteArray := prog_1_method_14_code
abbrev y_F_isNothing : MethodName := ⟨"FirstTrees", "isNothing", "(I)Z"⟩
abbrev c_F_isNothing : ByteArray := prog_1_method_15_code
abbrev y_F_first : MethodName := ⟨"FirstTrees", "first", "(I)J"⟩
abbrev c_F_first : ByteArray := prog_1_method_16_code
abbrev y_F_following : MethodName := ⟨"FirstTrees", "following", "(I)J"⟩
abbrev c_F_following : ByteArray := prog_1_method_17_code
abbrev y_F_lets : MethodName := ⟨"FirstTrees", "lets", "(II)I"⟩
abbrev c_F_lets : ByteArray := prog_1_method_18_code
abbrev y_F_count : MethodName := ⟨"FirstTrees", "count", "(I)I"⟩
abbrev c_F_count : ByteArray := prog_1_method_19_code
abbrev y_F_mustBeRule : MethodName := ⟨"FirstTrees", "mustBeRule", "(I)V"⟩
abbrev c_F_mustBeRule : ByteArray := prog_1_method_20_code
abbrev y_F_mustBeRight : MethodName := ⟨"FirstTrees", "mustBeRight", "()V"⟩
abbrev c_F_mustBeRight : ByteArray := prog_1_method_21_code
abbrev y_F_has : MethodName := ⟨"FirstTrees", "has", "(JI)Z"⟩
abbrev c_F_has : ByteArray := prog_1_method_22_code
abbrev y_M_init : MethodName := ⟨"FirstTreesModel", "<init>", "()V"⟩
abbrev c_M_init : ByteArray := prog_11_method_1_code
abbrev y_M_thrown : MethodName := ⟨"FirstTreesModel", "thrown", "()I"⟩
abbrev c_M_thrown : ByteArray := prog_11_method_2_code
abbrev y_M_symbolAt : MethodName := ⟨"FirstTreesModel", "symbolAt", "(III)I"⟩
abbrev c_M_symbolAt : ByteArray := prog_11_method_3_code
abbrev y_M_sizeOf : MethodName := ⟨"FirstTreesModel", "sizeOf", "(II)I"⟩
abbrev c_M_sizeOf : ByteArray := prog_11_method_4_code
abbrev y_M_isRule : MethodName := ⟨"FirstTreesModel", "isRule", "(I)Z"⟩
abbrev c_M_isRule : ByteArray := prog_11_method_5_code
abbrev y_M_rowIsNothing : MethodName := ⟨"FirstTreesModel", "rowIsNothing", "(III)Z"⟩
abbrev c_M_rowIsNothing : ByteArray := prog_11_method_6_code
abbrev y_M_findNothing : MethodName := ⟨"FirstTreesModel", "findNothing", "()V"⟩
abbrev c_M_findNothing : ByteArray := prog_11_method_7_code
abbrev y_M_findLeft : MethodName := ⟨"FirstTreesModel", "findLeft", "()V"⟩
abbrev c_M_findLeft : ByteArray := prog_11_method_8_code
abbrev y_M_faultOf : MethodName := ⟨"FirstTreesModel", "faultOf", "()I"⟩
abbrev c_M_faultOf : ByteArray := prog_11_method_9_code
abbrev y_M_makeOrder : MethodName := ⟨"FirstTreesModel", "makeOrder", "()V"⟩
abbrev c_M_makeOrder : ByteArray := prog_11_method_10_code
abbrev y_M_step : MethodName := ⟨"FirstTreesModel", "step", "(JI)J"⟩
abbrev c_M_step : ByteArray := prog_11_method_11_code
abbrev y_M_alongAlternative : MethodName := ⟨"FirstTreesModel", "alongAlternative", "(JII)J"⟩
abbrev c_M_alongAlternative : ByteArray := prog_11_method_12_code
abbrev y_M_findPlaces : MethodName := ⟨"FirstTreesModel", "findPlaces", "()V"⟩
abbrev c_M_findPlaces : ByteArray := prog_11_method_13_code
abbrev y_M_capped : MethodName := ⟨"FirstTreesModel", "capped", "(J)J"⟩
abbrev c_M_capped : ByteArray := prog_11_method_14_code
abbrev y_M_findWays : MethodName := ⟨"FirstTreesModel", "findWays", "()V"⟩
abbrev c_M_findWays : ByteArray := prog_11_method_15_code
abbrev y_M_waysAlong : MethodName := ⟨"FirstTreesModel", "waysAlong", "(III)V"⟩
abbrev c_M_waysAlong : ByteArray := prog_11_method_16_code
abbrev y_M_before : MethodName := ⟨"FirstTreesModel", "before", "(JI)J"⟩
abbrev c_M_before : ByteArray := prog_11_method_17_code
abbrev y_M_reachOf : MethodName := ⟨"FirstTreesModel", "reachOf", "(III)I"⟩
abbrev c_M_reachOf : ByteArray := prog_11_method_18_code
abbrev y_M_push : MethodName := ⟨"FirstTreesModel", "push", "(IIJ)V"⟩
abbrev c_M_push : ByteArray := prog_11_method_19_code
abbrev y_M_makeNode : MethodName := ⟨"FirstTreesModel", "makeNode", "(III)V"⟩
abbrev c_M_makeNode : ByteArray := prog_11_method_20_code
abbrev y_M_makeTree : MethodName := ⟨"FirstTreesModel", "makeTree", "()Z"⟩
abbrev c_M_makeTree : ByteArray := prog_11_method_21_code
abbrev y_M_parse : MethodName := ⟨"FirstTreesModel", "parse", "()I"⟩
abbrev c_M_parse : ByteArray := prog_11_method_22_code
abbrev y_M_rule : MethodName := ⟨"FirstTreesModel", "rule", "()I"⟩
abbrev c_M_rule : ByteArray := prog_11_method_23_code
abbrev y_M_isThere : MethodName := ⟨"FirstTreesModel", "isThere", "(I)Z"⟩
abbrev c_M_isThere : ByteArray := prog_11_method_24_code
abbrev y_M_alternative : MethodName := ⟨"FirstTreesModel", "alternative", "(I)I"⟩
abbrev c_M_alternative : ByteArray := prog_11_method_25_code
abbrev y_M_symbol : MethodName := ⟨"FirstTreesModel", "symbol", "(II)I"⟩
abbrev c_M_symbol : ByteArray := prog_11_method_26_code
abbrev y_M_clear : MethodName := ⟨"FirstTreesModel", "clear", "()I"⟩
abbrev c_M_clear : ByteArray := prog_11_method_27_code
abbrev y_M_fault : MethodName := ⟨"FirstTreesModel", "fault", "()I"⟩
abbrev c_M_fault : ByteArray := prog_11_method_28_code
abbrev y_M_faulty : MethodName := ⟨"FirstTreesModel", "faulty", "()I"⟩
abbrev c_M_faulty : ByteArray := prog_11_method_29_code
abbrev y_M_token : MethodName := ⟨"FirstTreesModel", "token", "(I)I"⟩
abbrev c_M_token : ByteArray := prog_11_method_30_code
abbrev y_M_keep : MethodName := ⟨"FirstTreesModel", "keep", "(I)V"⟩
abbrev c_M_keep : ByteArray := prog_11_method_31_code
abbrev y_M_nodes : MethodName := ⟨"FirstTreesModel", "nodes", "()I"⟩
abbrev c_M_nodes : ByteArray := prog_11_method_32_code
abbrev y_M_node : MethodName := ⟨"FirstTreesModel", "node", "(II)I"⟩
abbrev c_M_node : ByteArray := prog_11_method_33_code
abbrev y_M_reach : MethodName := ⟨"FirstTreesModel", "reach", "()I"⟩
abbrev c_M_reach : ByteArray := prog_11_method_34_code
abbrev y_M_findNexts : MethodName := ⟨"FirstTreesModel", "findNexts", "(I)V"⟩
abbrev c_M_findNexts : ByteArray := prog_11_method_35_code
abbrev y_M_nextAlong : MethodName := ⟨"FirstTreesModel", "nextAlong", "(IIII)J"⟩
abbrev c_M_nextAlong : ByteArray := prog_11_method_36_code
abbrev y_M_expected : MethodName := ⟨"FirstTreesModel", "expected", "(I)J"⟩
abbrev c_M_expected : ByteArray := prog_11_method_37_code
abbrev y_M_firstOf : MethodName := ⟨"FirstTreesModel", "firstOf", "(III)J"⟩
abbrev c_M_firstOf : ByteArray := prog_11_method_38_code
abbrev y_M_findSets : MethodName := ⟨"FirstTreesModel", "findSets", "()V"⟩
abbrev c_M_findSets : ByteArray := prog_11_method_39_code
abbrev y_M_followAlong : MethodName := ⟨"FirstTreesModel", "followAlong", "(II)V"⟩
abbrev c_M_followAlong : ByteArray := prog_11_method_40_code
abbrev y_M_look : MethodName := ⟨"FirstTreesModel", "look", "(I)V"⟩
abbrev c_M_look : ByteArray := prog_11_method_41_code
abbrev y_M_isNothing : MethodName := ⟨"FirstTreesModel", "isNothing", "(I)Z"⟩
abbrev c_M_isNothing : ByteArray := prog_11_method_42_code
abbrev y_M_first : MethodName := ⟨"FirstTreesModel", "first", "(I)J"⟩
abbrev c_M_first : ByteArray := prog_11_method_43_code
abbrev y_M_following : MethodName := ⟨"FirstTreesModel", "following", "(I)J"⟩
abbrev c_M_following : ByteArray := prog_11_method_44_code
abbrev y_M_lets : MethodName := ⟨"FirstTreesModel", "lets", "(II)I"⟩
abbrev c_M_lets : ByteArray := prog_11_method_45_code
abbrev y_M_count : MethodName := ⟨"FirstTreesModel", "count", "(I)I"⟩
abbrev c_M_count : ByteArray := prog_11_method_46_code
abbrev y_C_init : MethodName := ⟨"FirstTrees$Chart", "<init>", "(LFirstTrees$Grammar;LFirstTrees$Study;LFirstTrees$Input;)V"⟩
abbrev c_C_init : ByteArray := prog_2_method_1_code
abbrev y_C_fill : MethodName := ⟨"FirstTrees$Chart", "fill", "(I)V"⟩
abbrev c_C_fill : ByteArray := prog_2_method_2_code
abbrev y_C_hasTree : MethodName := ⟨"FirstTrees$Chart", "hasTree", "()Z"⟩
abbrev c_C_hasTree : ByteArray := prog_2_method_3_code
abbrev y_C_farOfAll : MethodName := ⟨"FirstTrees$Chart", "farOfAll", "()I"⟩
abbrev c_C_farOfAll : ByteArray := prog_2_method_4_code
abbrev y_C_soonOfAll : MethodName := ⟨"FirstTrees$Chart", "soonOfAll", "()J"⟩
abbrev c_C_soonOfAll : ByteArray := prog_2_method_5_code
abbrev y_C_end : MethodName := ⟨"FirstTrees$Chart", "end", "()I"⟩
abbrev c_C_end : ByteArray := prog_2_method_6_code
abbrev y_C_at : MethodName := ⟨"FirstTrees$Chart", "at", "(II)I"⟩
abbrev c_C_at : ByteArray := prog_2_method_7_code
abbrev y_C_rowFits : MethodName := ⟨"FirstTrees$Chart", "rowFits", "(I)J"⟩
abbrev c_C_rowFits : ByteArray := prog_2_method_8_code
abbrev y_C_rowFar : MethodName := ⟨"FirstTrees$Chart", "rowFar", "(I)I"⟩
abbrev c_C_rowFar : ByteArray := prog_2_method_9_code
abbrev y_C_ruleFits : MethodName := ⟨"FirstTrees$Chart", "ruleFits", "(I)J"⟩
abbrev c_C_ruleFits : ByteArray := prog_2_method_10_code
abbrev y_C_ruleFar : MethodName := ⟨"FirstTrees$Chart", "ruleFar", "(I)I"⟩
abbrev c_C_ruleFar : ByteArray := prog_2_method_11_code
abbrev y_C_findPlaces : MethodName := ⟨"FirstTrees$Chart", "findPlaces", "()V"⟩
abbrev c_C_findPlaces : ByteArray := prog_2_method_12_code
abbrev y_C_fillRule : MethodName := ⟨"FirstTrees$Chart", "fillRule", "(II)V"⟩
abbrev c_C_fillRule : ByteArray := prog_2_method_13_code
abbrev y_C_readRow : MethodName := ⟨"FirstTrees$Chart", "readRow", "(II)V"⟩
abbrev c_C_readRow : ByteArray := prog_2_method_14_code
abbrev y_C_readToken : MethodName := ⟨"FirstTrees$Chart", "readToken", "(I)V"⟩
abbrev c_C_readToken : ByteArray := prog_2_method_15_code
abbrev y_C_readRule : MethodName := ⟨"FirstTrees$Chart", "readRule", "(II)V"⟩
abbrev c_C_readRule : ByteArray := prog_2_method_16_code
abbrev y_G_init : MethodName := ⟨"FirstTrees$Grammar", "<init>", "()V"⟩
abbrev c_G_init : ByteArray := prog_3_method_1_code
abbrev y_G_isToken : MethodName := ⟨"FirstTrees$Grammar", "isToken", "(I)Z"⟩
abbrev c_G_isToken : ByteArray := prog_3_method_2_code
abbrev y_G_ruleOf : MethodName := ⟨"FirstTrees$Grammar", "ruleOf", "(I)I"⟩
abbrev c_G_ruleOf : ByteArray := prog_3_method_3_code
abbrev y_G_row : MethodName := ⟨"FirstTrees$Grammar", "row", "(II)I"⟩
abbrev c_G_row : ByteArray := prog_3_method_4_code
abbrev y_G_addRule : MethodName := ⟨"FirstTrees$Grammar", "addRule", "()I"⟩
abbrev c_G_addRule : ByteArray := prog_3_method_5_code
abbrev y_G_addAlternative : MethodName := ⟨"FirstTrees$Grammar", "addAlternative", "(I)I"⟩
abbrev c_G_addAlternative : ByteArray := prog_3_method_6_code
abbrev y_G_addSymbol : MethodName := ⟨"FirstTrees$Grammar", "addSymbol", "(II)I"⟩
abbrev c_G_addSymbol : ByteArray := prog_3_method_7_code
abbrev y_G_loseRules : MethodName := ⟨"FirstTrees$Grammar", "loseRules", "()I"⟩
abbrev c_G_loseRules : ByteArray := prog_3_method_8_code
abbrev y_G_rules : MethodName := ⟨"FirstTrees$Grammar", "rules", "()I"⟩
abbrev c_G_rules : ByteArray := prog_3_method_9_code
abbrev y_G_alternatives : MethodName := ⟨"FirstTrees$Grammar", "alternatives", "(I)I"⟩
abbrev c_G_alternatives : ByteArray := prog_3_method_10_code
abbrev y_G_latestRow : MethodName := ⟨"FirstTrees$Grammar", "latestRow", "(I)I"⟩
abbrev c_G_latestRow : ByteArray := prog_3_method_11_code
abbrev y_G_length : MethodName := ⟨"FirstTrees$Grammar", "length", "(I)I"⟩
abbrev c_G_length : ByteArray := prog_3_method_12_code
abbrev y_G_symbolAt : MethodName := ⟨"FirstTrees$Grammar", "symbolAt", "(II)I"⟩
abbrev c_G_symbolAt : ByteArray := prog_3_method_13_code
abbrev y_G_rulesIn : MethodName := ⟨"FirstTrees$Grammar", "rulesIn", "(I)I"⟩
abbrev c_G_rulesIn : ByteArray := prog_3_method_14_code
abbrev y_I_init : MethodName := ⟨"FirstTrees$Input", "<init>", "()V"⟩
abbrev c_I_init : ByteArray := prog_4_method_1_code
abbrev y_I_add : MethodName := ⟨"FirstTrees$Input", "add", "(I)I"⟩
abbrev c_I_add : ByteArray := prog_4_method_2_code
abbrev y_I_cut : MethodName := ⟨"FirstTrees$Input", "cut", "(I)V"⟩
abbrev c_I_cut : ByteArray := prog_4_method_3_code
abbrev y_I_size : MethodName := ⟨"FirstTrees$Input", "size", "()I"⟩
abbrev c_I_size : ByteArray := prog_4_method_4_code
abbrev y_I_tokenAt : MethodName := ⟨"FirstTrees$Input", "tokenAt", "(I)I"⟩
abbrev c_I_tokenAt : ByteArray := prog_4_method_5_code
abbrev y_P_init : MethodName := ⟨"FirstTrees$Pending", "<init>", "()V"⟩
abbrev c_P_init : ByteArray := prog_5_method_1_code
abbrev y_S_init : MethodName := ⟨"FirstTrees$Study", "<init>", "(LFirstTrees$Grammar;)V"⟩
abbrev c_S_init : ByteArray := prog_6_method_1_code
abbrev y_S_outdate : MethodName := ⟨"FirstTrees$Study", "outdate", "()V"⟩
abbrev c_S_outdate : ByteArray := prog_6_method_2_code
abbrev y_S_bringUpToDate : MethodName := ⟨"FirstTrees$Study", "bringUpToDate", "()V"⟩
abbrev c_S_bringUpToDate : ByteArray := prog_6_method_3_code
abbrev y_S_faultKind : MethodName := ⟨"FirstTrees$Study", "faultKind", "()I"⟩
abbrev c_S_faultKind : ByteArray := prog_6_method_4_code
abbrev y_S_faultyRule : MethodName := ⟨"FirstTrees$Study", "faultyRule", "()I"⟩
abbrev c_S_faultyRule : ByteArray := prog_6_method_5_code
abbrev y_S_inOrder : MethodName := ⟨"FirstTrees$Study", "inOrder", "(I)I"⟩
abbrev c_S_inOrder : ByteArray := prog_6_method_6_code
abbrev y_S_ruleIsNothing : MethodName := ⟨"FirstTrees$Study", "ruleIsNothing", "(I)Z"⟩
abbrev c_S_ruleIsNothing : ByteArray := prog_6_method_7_code
abbrev y_S_ruleFirst : MethodName := ⟨"FirstTrees$Study", "ruleFirst", "(I)J"⟩
abbrev c_S_ruleFirst : ByteArray := prog_6_method_8_code
abbrev y_S_ruleFollowing : MethodName := ⟨"FirstTrees$Study", "ruleFollowing", "(I)J"⟩
abbrev c_S_ruleFollowing : ByteArray := prog_6_method_9_code
abbrev y_S_letIn : MethodName := ⟨"FirstTrees$Study", "letIn", "(II)I"⟩
abbrev c_S_letIn : ByteArray := prog_6_method_10_code
abbrev y_S_findNothing : MethodName := ⟨"FirstTrees$Study", "findNothing", "()V"⟩
abbrev c_S_findNothing : ByteArray := prog_6_method_11_code
abbrev y_S_rowIsNothing : MethodName := ⟨"FirstTrees$Study", "rowIsNothing", "(I)Z"⟩
abbrev c_S_rowIsNothing : ByteArray := prog_6_method_12_code
abbrev y_S_symbolIsNothing : MethodName := ⟨"FirstTrees$Study", "symbolIsNothing", "(I)Z"⟩
abbrev c_S_symbolIsNothing : ByteArray := prog_6_method_13_code
abbrev y_S_findLeft : MethodName := ⟨"FirstTrees$Study", "findLeft", "()V"⟩
abbrev c_S_findLeft : ByteArray := prog_6_method_14_code
abbrev y_S_rulesAtLeft : MethodName := ⟨"FirstTrees$Study", "rulesAtLeft", "(I)I"⟩
abbrev c_S_rulesAtLeft : ByteArray := prog_6_method_15_code
abbrev y_S_findFault : MethodName := ⟨"FirstTrees$Study", "findFault", "()V"⟩
abbrev c_S_findFault : ByteArray := prog_6_method_16_code
abbrev y_S_hasFault : MethodName := ⟨"FirstTrees$Study", "hasFault", "(II)Z"⟩
abbrev c_S_hasFault : ByteArray := prog_6_method_17_code
abbrev y_S_hasSymbolNotThere : MethodName := ⟨"FirstTrees$Study", "hasSymbolNotThere", "(I)Z"⟩
abbrev c_S_hasSymbolNotThere : ByteArray := prog_6_method_18_code
abbrev y_S_findOrder : MethodName := ⟨"FirstTrees$Study", "findOrder", "()V"⟩
abbrev c_S_findOrder : ByteArray := prog_6_method_19_code
abbrev y_S_findFirsts : MethodName := ⟨"FirstTrees$Study", "findFirsts", "()V"⟩
abbrev c_S_findFirsts : ByteArray := prog_6_method_20_code
abbrev y_S_rowFirst : MethodName := ⟨"FirstTrees$Study", "rowFirst", "(I)J"⟩
abbrev c_S_rowFirst : ByteArray := prog_6_method_21_code
abbrev y_S_symbolFirst : MethodName := ⟨"FirstTrees$Study", "symbolFirst", "(I)J"⟩
abbrev c_S_symbolFirst : ByteArray := prog_6_method_22_code
abbrev y_S_findFollowings : MethodName := ⟨"FirstTrees$Study", "findFollowings", "()V"⟩
abbrev c_S_findFollowings : ByteArray := prog_6_method_23_code
abbrev y_S_widenFollowings : MethodName := ⟨"FirstTrees$Study", "widenFollowings", "(IJ)Z"⟩
abbrev c_S_widenFollowings : ByteArray := prog_6_method_24_code
abbrev y_T_init : MethodName := ⟨"FirstTrees$Tree", "<init>", "()V"⟩
abbrev c_T_init : ByteArray := prog_7_method_1_code
abbrev y_T_empty : MethodName := ⟨"FirstTrees$Tree", "empty", "()V"⟩
abbrev c_T_empty : ByteArray := prog_7_method_2_code
abbrev y_T_size : MethodName := ⟨"FirstTrees$Tree", "size", "()I"⟩
abbrev c_T_size : ByteArray := prog_7_method_3_code
abbrev y_T_fact : MethodName := ⟨"FirstTrees$Tree", "fact", "(II)I"⟩
abbrev c_T_fact : ByteArray := prog_7_method_4_code
abbrev y_T_add : MethodName := ⟨"FirstTrees$Tree", "add", "(III)I"⟩
abbrev c_T_add : ByteArray := prog_7_method_5_code
abbrev y_T_choose : MethodName := ⟨"FirstTrees$Tree", "choose", "(IIIII)V"⟩
abbrev c_T_choose : ByteArray := prog_7_method_6_code
abbrev y_T_findEnds : MethodName := ⟨"FirstTrees$Tree", "findEnds", "()V"⟩
abbrev c_T_findEnds : ByteArray := prog_7_method_7_code
abbrev y_K_init : MethodName := ⟨"FirstTrees$Walk", "<init>", "(LFirstTrees$Grammar;LFirstTrees$Input;LFirstTrees$Chart;)V"⟩
abbrev c_K_init : ByteArray := prog_8_method_1_code
abbrev y_K_derive : MethodName := ⟨"FirstTrees$Walk", "derive", "(LFirstTrees$Tree;)Z"⟩
abbrev c_K_derive : ByteArray := prog_8_method_2_code
abbrev y_K_replace : MethodName := ⟨"FirstTrees$Walk", "replace", "(IILFirstTrees$Tree;)Z"⟩
abbrev c_K_replace : ByteArray := prog_8_method_3_code
abbrev y_K_firstFitting : MethodName := ⟨"FirstTrees$Walk", "firstFitting", "(I)I"⟩
abbrev c_K_firstFitting : ByteArray := prog_8_method_4_code
abbrev y_K_look : MethodName := ⟨"FirstTrees$Walk", "look", "(II)I"⟩
abbrev c_K_look : ByteArray := prog_8_method_5_code
abbrev y_K_reachOfRow : MethodName := ⟨"FirstTrees$Walk", "reachOfRow", "(I)I"⟩
abbrev c_K_reachOfRow : ByteArray := prog_8_method_6_code
abbrev y_K_farthest : MethodName := ⟨"FirstTrees$Walk", "farthest", "(IJI[I)I"⟩
abbrev c_K_farthest : ByteArray := prog_8_method_7_code
abbrev y_K_layBottom : MethodName := ⟨"FirstTrees$Walk", "layBottom", "()V"⟩
abbrev c_K_layBottom : ByteArray := prog_8_method_8_code
abbrev y_K_layRow : MethodName := ⟨"FirstTrees$Walk", "layRow", "(II)V"⟩
abbrev c_K_layRow : ByteArray := prog_8_method_9_code
abbrev y_K_lay : MethodName := ⟨"FirstTrees$Walk", "lay", "(II)V"⟩
abbrev c_K_lay : ByteArray := prog_8_method_10_code
abbrev y_K_makeRoom : MethodName := ⟨"FirstTrees$Walk", "makeRoom", "()V"⟩
abbrev c_K_makeRoom : ByteArray := prog_8_method_11_code
abbrev y_K_findReaches : MethodName := ⟨"FirstTrees$Walk", "findReaches", "()V"⟩
abbrev c_K_findReaches : ByteArray := prog_8_method_12_code
abbrev y_K_reachOfToken : MethodName := ⟨"FirstTrees$Walk", "reachOfToken", "(II[I)I"⟩
abbrev c_K_reachOfToken : ByteArray := prog_8_method_13_code
abbrev y_Y_init : MethodName := ⟨"FirstTrees$Ways", "<init>", "(LFirstTrees$Grammar;LFirstTrees$Study;LFirstTrees$Input;LFirstTrees$Chart;)V"⟩
abbrev c_Y_init : ByteArray := prog_9_method_1_code
abbrev y_Y_ofWholeInput : MethodName := ⟨"FirstTrees$Ways", "ofWholeInput", "()I"⟩
abbrev c_Y_ofWholeInput : ByteArray := prog_9_method_2_code
abbrev y_Y_at : MethodName := ⟨"FirstTrees$Ways", "at", "(III)I"⟩
abbrev c_Y_at : ByteArray := prog_9_method_3_code
abbrev y_Y_fillRule : MethodName := ⟨"FirstTrees$Ways", "fillRule", "(II)V"⟩
abbrev c_Y_fillRule : ByteArray := prog_9_method_4_code
abbrev y_Y_addRow : MethodName := ⟨"FirstTrees$Ways", "addRow", "(II)V"⟩
abbrev c_Y_addRow : ByteArray := prog_9_method_5_code
abbrev y_Y_readRow : MethodName := ⟨"FirstTrees$Ways", "readRow", "(II)V"⟩
abbrev c_Y_readRow : ByteArray := prog_9_method_6_code
abbrev y_Y_readToken : MethodName := ⟨"FirstTrees$Ways", "readToken", "(II)V"⟩
abbrev c_Y_readToken : ByteArray := prog_9_method_7_code
abbrev y_Y_readRule : MethodName := ⟨"FirstTrees$Ways", "readRule", "(II)V"⟩
abbrev c_Y_readRule : ByteArray := prog_9_method_8_code
abbrev y_Y_spread : MethodName := ⟨"FirstTrees$Ways", "spread", "(JII)V"⟩
abbrev c_Y_spread : ByteArray := prog_9_method_9_code
abbrev y_L_rule : MethodName := ⟨"FirstTreesLaw", "rule", "(LFirstTrees;[J)I"⟩
abbrev c_L_rule : ByteArray := method_3_code
abbrev y_L_alternative : MethodName := ⟨"FirstTreesLaw", "alternative", "(LFirstTrees;I[J)I"⟩
abbrev c_L_alternative : ByteArray := method_4_code
abbrev y_L_symbol : MethodName := ⟨"FirstTreesLaw", "symbol", "(LFirstTrees;II[J)I"⟩
abbrev c_L_symbol : ByteArray := method_5_code
abbrev y_L_token : MethodName := ⟨"FirstTreesLaw", "token", "(LFirstTrees;I[J)I"⟩
abbrev c_L_token : ByteArray := method_6_code
abbrev y_L_keep : MethodName := ⟨"FirstTreesLaw", "keep", "(LFirstTrees;I)I"⟩
abbrev c_L_keep : ByteArray := method_7_code
abbrev y_L_parse : MethodName := ⟨"FirstTreesLaw", "parse", "(LFirstTrees;[J)I"⟩
abbrev c_L_parse : ByteArray := method_8_code
abbrev y_L_node : MethodName := ⟨"FirstTreesLaw", "node", "(LFirstTrees;II[J)I"⟩
abbrev c_L_node : ByteArray := method_9_code
abbrev y_L_reach : MethodName := ⟨"FirstTreesLaw", "reach", "(LFirstTrees;[J)I"⟩
abbrev c_L_reach : ByteArray := method_10_code
abbrev y_L_expected : MethodName := ⟨"FirstTreesLaw", "expected", "(LFirstTrees;I[J)I"⟩
abbrev c_L_expected : ByteArray := method_11_code
abbrev y_L_isNothing : MethodName := ⟨"FirstTreesLaw", "isNothing", "(LFirstTrees;I[J)I"⟩
abbrev c_L_isNothing : ByteArray := method_12_code
abbrev y_L_first : MethodName := ⟨"FirstTreesLaw", "first", "(LFirstTrees;I[J)I"⟩
abbrev c_L_first : ByteArray := method_13_code
abbrev y_L_following : MethodName := ⟨"FirstTreesLaw", "following", "(LFirstTrees;I[J)I"⟩
abbrev c_L_following : ByteArray := method_14_code
abbrev y_L_lets : MethodName := ⟨"FirstTreesLaw", "lets", "(LFirstTrees;II[J)I"⟩
abbrev c_L_lets : ByteArray := method_15_code
abbrev y_L_count : MethodName := ⟨"FirstTreesLaw", "count", "(LFirstTrees;I[J)I"⟩
abbrev c_L_count : ByteArray := method_16_code
abbrev y_L_law : MethodName := ⟨"FirstTreesLaw", "law", "([I)Z"⟩
abbrev c_L_law : ByteArray := code
