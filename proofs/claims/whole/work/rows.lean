section
-- ===== PART A: goes FIRST, ahead of the names: the tables' words, and 'selects' of the private methods out of them =====
/-- a private method of a class that the tables say can be made, by its rows of tables_1 -/
def lw_okq (q : MethodName × Nat) : Prop := (q.1.cls ≠ "java/lang/invoke/MethodHandle" ∧ q.1.cls ≠ "java/lang/invoke/VarHandle") ∧ Cond.instantiable q.1.cls q.2 ∈ tables_1 ∧ Cond.privateMethod q.1 ∈ tables_1 ∧ Cond.instanceMethod q.1 ∈ tables_1
theorem lw_p0 : lw_okq (⟨"java/lang/Throwable", "fillInStackTrace", "(I)Ljava/lang/Throwable;"⟩, 6) := ⟨⟨by decide +kernel, by decide +kernel⟩, List.mem_of_getElem? (i := 184) (by decide +kernel), List.mem_of_getElem? (i := 182) (by decide +kernel), List.mem_of_getElem? (i := 183) (by decide +kernel)⟩
theorem lw_p1 : lw_okq (⟨"SendBest", "checkIncident", "(I)V"⟩, 17) := ⟨⟨by decide +kernel, by decide +kernel⟩, List.mem_of_getElem? (i := 15) (by decide +kernel), List.mem_of_getElem? (i := 251) (by decide +kernel), List.mem_of_getElem? (i := 252) (by decide +kernel)⟩
theorem lw_p2 : lw_okq (⟨"SendBest", "checkOpen", "(I)V"⟩, 17) := ⟨⟨by decide +kernel, by decide +kernel⟩, List.mem_of_getElem? (i := 15) (by decide +kernel), List.mem_of_getElem? (i := 271) (by decide +kernel), List.mem_of_getElem? (i := 272) (by decide +kernel)⟩
theorem lw_p3 : lw_okq (⟨"SendBest", "checkUnit", "(I)V"⟩, 17) := ⟨⟨by decide +kernel, by decide +kernel⟩, List.mem_of_getElem? (i := 15) (by decide +kernel), List.mem_of_getElem? (i := 311) (by decide +kernel), List.mem_of_getElem? (i := 312) (by decide +kernel)⟩
theorem lw_p4 : lw_okq (⟨"SendBest", "free", "(I)V"⟩, 17) := ⟨⟨by decide +kernel, by decide +kernel⟩, List.mem_of_getElem? (i := 15) (by decide +kernel), List.mem_of_getElem? (i := 345) (by decide +kernel), List.mem_of_getElem? (i := 346) (by decide +kernel)⟩
theorem lw_p5 : lw_okq (⟨"SendBest", "layOutNeeds", "()V"⟩, 17) := ⟨⟨by decide +kernel, by decide +kernel⟩, List.mem_of_getElem? (i := 15) (by decide +kernel), List.mem_of_getElem? (i := 358) (by decide +kernel), List.mem_of_getElem? (i := 359) (by decide +kernel)⟩
theorem lw_p6 : lw_okq (⟨"SendBest", "addNeeds", "(Z)V"⟩, 17) := ⟨⟨by decide +kernel, by decide +kernel⟩, List.mem_of_getElem? (i := 15) (by decide +kernel), List.mem_of_getElem? (i := 369) (by decide +kernel), List.mem_of_getElem? (i := 370) (by decide +kernel)⟩
theorem lw_p7 : lw_okq (⟨"SendBest", "isOpenNeed", "(I)Z"⟩, 17) := ⟨⟨by decide +kernel, by decide +kernel⟩, List.mem_of_getElem? (i := 15) (by decide +kernel), List.mem_of_getElem? (i := 373) (by decide +kernel), List.mem_of_getElem? (i := 374) (by decide +kernel)⟩
theorem lw_p8 : lw_okq (⟨"SendBest", "hasFixedUnit", "(I)Z"⟩, 17) := ⟨⟨by decide +kernel, by decide +kernel⟩, List.mem_of_getElem? (i := 15) (by decide +kernel), List.mem_of_getElem? (i := 377) (by decide +kernel), List.mem_of_getElem? (i := 378) (by decide +kernel)⟩
theorem lw_p9 : lw_okq (⟨"SendBest", "isFixed", "(I)Z"⟩, 17) := ⟨⟨by decide +kernel, by decide +kernel⟩, List.mem_of_getElem? (i := 15) (by decide +kernel), List.mem_of_getElem? (i := 381) (by decide +kernel), List.mem_of_getElem? (i := 382) (by decide +kernel)⟩
theorem lw_p10 : lw_okq (⟨"SendBest", "canFill", "(II)Z"⟩, 17) := ⟨⟨by decide +kernel, by decide +kernel⟩, List.mem_of_getElem? (i := 15) (by decide +kernel), List.mem_of_getElem? (i := 385) (by decide +kernel), List.mem_of_getElem? (i := 386) (by decide +kernel)⟩
theorem lw_p11 : lw_okq (⟨"SendBest", "secondsTo", "(II)I"⟩, 17) := ⟨⟨by decide +kernel, by decide +kernel⟩, List.mem_of_getElem? (i := 15) (by decide +kernel), List.mem_of_getElem? (i := 389) (by decide +kernel), List.mem_of_getElem? (i := 390) (by decide +kernel)⟩
theorem lw_p12 : lw_okq (⟨"SendBest", "rankOfNeed", "(I)I"⟩, 17) := ⟨⟨by decide +kernel, by decide +kernel⟩, List.mem_of_getElem? (i := 15) (by decide +kernel), List.mem_of_getElem? (i := 393) (by decide +kernel), List.mem_of_getElem? (i := 394) (by decide +kernel)⟩
theorem lw_p13 : lw_okq (⟨"SendBest", "addNeed", "(I)V"⟩, 17) := ⟨⟨by decide +kernel, by decide +kernel⟩, List.mem_of_getElem? (i := 15) (by decide +kernel), List.mem_of_getElem? (i := 397) (by decide +kernel), List.mem_of_getElem? (i := 398) (by decide +kernel)⟩
theorem lw_p14 : lw_okq (⟨"SendBest", "spareUnits", "()I"⟩, 17) := ⟨⟨by decide +kernel, by decide +kernel⟩, List.mem_of_getElem? (i := 15) (by decide +kernel), List.mem_of_getElem? (i := 414) (by decide +kernel), List.mem_of_getElem? (i := 415) (by decide +kernel)⟩
theorem lw_p15 : lw_okq (⟨"SendBest$Pairing", "pair", "(II)V"⟩, 14) := ⟨⟨by decide +kernel, by decide +kernel⟩, List.mem_of_getElem? (i := 25) (by decide +kernel), List.mem_of_getElem? (i := 422) (by decide +kernel), List.mem_of_getElem? (i := 423) (by decide +kernel)⟩
def lw_privs_1 : List (MethodName × Nat) := [(⟨"java/lang/Throwable", "fillInStackTrace", "(I)Ljava/lang/Throwable;"⟩, 6), (⟨"SendBest", "checkIncident", "(I)V"⟩, 17), (⟨"SendBest", "checkOpen", "(I)V"⟩, 17), (⟨"SendBest", "checkUnit", "(I)V"⟩, 17), (⟨"SendBest", "free", "(I)V"⟩, 17), (⟨"SendBest", "layOutNeeds", "()V"⟩, 17), (⟨"SendBest", "addNeeds", "(Z)V"⟩, 17), (⟨"SendBest", "isOpenNeed", "(I)Z"⟩, 17), (⟨"SendBest", "hasFixedUnit", "(I)Z"⟩, 17), (⟨"SendBest", "isFixed", "(I)Z"⟩, 17), (⟨"SendBest", "canFill", "(II)Z"⟩, 17), (⟨"SendBest", "secondsTo", "(II)I"⟩, 17), (⟨"SendBest", "rankOfNeed", "(I)I"⟩, 17), (⟨"SendBest", "addNeed", "(I)V"⟩, 17), (⟨"SendBest", "spareUnits", "()I"⟩, 17), (⟨"SendBest$Pairing", "pair", "(II)V"⟩, 14)]
theorem lw_r1 : ∀ q ∈ lw_privs_1, lw_okq q := List.forall_mem_cons.mpr ⟨lw_p0, List.forall_mem_cons.mpr ⟨lw_p1, List.forall_mem_cons.mpr ⟨lw_p2, List.forall_mem_cons.mpr ⟨lw_p3, List.forall_mem_cons.mpr ⟨lw_p4, List.forall_mem_cons.mpr ⟨lw_p5, List.forall_mem_cons.mpr ⟨lw_p6, List.forall_mem_cons.mpr ⟨lw_p7, List.forall_mem_cons.mpr ⟨lw_p8, List.forall_mem_cons.mpr ⟨lw_p9, List.forall_mem_cons.mpr ⟨lw_p10, List.forall_mem_cons.mpr ⟨lw_p11, List.forall_mem_cons.mpr ⟨lw_p12, List.forall_mem_cons.mpr ⟨lw_p13, List.forall_mem_cons.mpr ⟨lw_p14, List.forall_mem_cons.mpr ⟨lw_p15, fun _ h => absurd h List.not_mem_nil⟩⟩⟩⟩⟩⟩⟩⟩⟩⟩⟩⟩⟩⟩⟩⟩
theorem lw_p16 : lw_okq (⟨"SendBest$Pairing", "findPaths", "(I)V"⟩, 14) := ⟨⟨by decide +kernel, by decide +kernel⟩, List.mem_of_getElem? (i := 25) (by decide +kernel), List.mem_of_getElem? (i := 427) (by decide +kernel), List.mem_of_getElem? (i := 428) (by decide +kernel)⟩
theorem lw_p17 : lw_okq (⟨"SendBest$Pairing", "spread", "(I)V"⟩, 14) := ⟨⟨by decide +kernel, by decide +kernel⟩, List.mem_of_getElem? (i := 25) (by decide +kernel), List.mem_of_getElem? (i := 431) (by decide +kernel), List.mem_of_getElem? (i := 432) (by decide +kernel)⟩
theorem lw_p18 : lw_okq (⟨"SendBest$Pairing", "reach", "(II)V"⟩, 14) := ⟨⟨by decide +kernel, by decide +kernel⟩, List.mem_of_getElem? (i := 25) (by decide +kernel), List.mem_of_getElem? (i := 435) (by decide +kernel), List.mem_of_getElem? (i := 436) (by decide +kernel)⟩
theorem lw_p19 : lw_okq (⟨"SendBest$Pairing", "cheapestEnd", "()I"⟩, 14) := ⟨⟨by decide +kernel, by decide +kernel⟩, List.mem_of_getElem? (i := 25) (by decide +kernel), List.mem_of_getElem? (i := 442) (by decide +kernel), List.mem_of_getElem? (i := 443) (by decide +kernel)⟩
theorem lw_p20 : lw_okq (⟨"SendBest$Pairing", "turnPath", "(I)V"⟩, 14) := ⟨⟨by decide +kernel, by decide +kernel⟩, List.mem_of_getElem? (i := 25) (by decide +kernel), List.mem_of_getElem? (i := 446) (by decide +kernel), List.mem_of_getElem? (i := 447) (by decide +kernel)⟩
theorem lw_p21 : lw_okq (⟨"SendBest$Pairing", "total", "([[J[I)J"⟩, 14) := ⟨⟨by decide +kernel, by decide +kernel⟩, List.mem_of_getElem? (i := 25) (by decide +kernel), List.mem_of_getElem? (i := 453) (by decide +kernel), List.mem_of_getElem? (i := 454) (by decide +kernel)⟩
theorem lw_p22 : lw_okq (⟨"SendBest", "presentStays", "(II)Z"⟩, 17) := ⟨⟨by decide +kernel, by decide +kernel⟩, List.mem_of_getElem? (i := 15) (by decide +kernel), List.mem_of_getElem? (i := 460) (by decide +kernel), List.mem_of_getElem? (i := 461) (by decide +kernel)⟩
theorem lw_p23 : lw_okq (⟨"SendBest", "takeBest", "()V"⟩, 17) := ⟨⟨by decide +kernel, by decide +kernel⟩, List.mem_of_getElem? (i := 15) (by decide +kernel), List.mem_of_getElem? (i := 484) (by decide +kernel), List.mem_of_getElem? (i := 485) (by decide +kernel)⟩
theorem lw_p24 : lw_okq (⟨"SendBest", "countFilled", "()I"⟩, 17) := ⟨⟨by decide +kernel, by decide +kernel⟩, List.mem_of_getElem? (i := 15) (by decide +kernel), List.mem_of_getElem? (i := 492) (by decide +kernel), List.mem_of_getElem? (i := 493) (by decide +kernel)⟩
theorem lw_p25 : lw_okq (⟨"SendBest", "checkSent", "(I)V"⟩, 17) := ⟨⟨by decide +kernel, by decide +kernel⟩, List.mem_of_getElem? (i := 15) (by decide +kernel), List.mem_of_getElem? (i := 503) (by decide +kernel), List.mem_of_getElem? (i := 504) (by decide +kernel)⟩
theorem lw_p26 : lw_okq (⟨"SendBest", "checkNeed", "(I)V"⟩, 17) := ⟨⟨by decide +kernel, by decide +kernel⟩, List.mem_of_getElem? (i := 15) (by decide +kernel), List.mem_of_getElem? (i := 529) (by decide +kernel), List.mem_of_getElem? (i := 530) (by decide +kernel)⟩
theorem lw_p27 : lw_okq (⟨"SendBest", "ranksLacking", "(I)I"⟩, 17) := ⟨⟨by decide +kernel, by decide +kernel⟩, List.mem_of_getElem? (i := 15) (by decide +kernel), List.mem_of_getElem? (i := 550) (by decide +kernel), List.mem_of_getElem? (i := 551) (by decide +kernel)⟩
theorem lw_p28 : lw_okq (⟨"SendBest", "weightedSeconds", "(I)I"⟩, 17) := ⟨⟨by decide +kernel, by decide +kernel⟩, List.mem_of_getElem? (i := 15) (by decide +kernel), List.mem_of_getElem? (i := 554) (by decide +kernel), List.mem_of_getElem? (i := 555) (by decide +kernel)⟩
theorem lw_p29 : lw_okq (⟨"SendBest", "anyCanFill", "(I)Z"⟩, 17) := ⟨⟨by decide +kernel, by decide +kernel⟩, List.mem_of_getElem? (i := 15) (by decide +kernel), List.mem_of_getElem? (i := 573) (by decide +kernel), List.mem_of_getElem? (i := 574) (by decide +kernel)⟩
theorem lw_p30 : lw_okq (⟨"SendBestModel", "throwing", "(ZZZZ)Z"⟩, 19) := ⟨⟨by decide +kernel, by decide +kernel⟩, List.mem_of_getElem? (i := 577) (by decide +kernel), List.mem_of_getElem? (i := 654) (by decide +kernel), List.mem_of_getElem? (i := 655) (by decide +kernel)⟩
theorem lw_p31 : lw_okq (⟨"SendBestModel", "isIncident", "(I)Z"⟩, 19) := ⟨⟨by decide +kernel, by decide +kernel⟩, List.mem_of_getElem? (i := 577) (by decide +kernel), List.mem_of_getElem? (i := 666) (by decide +kernel), List.mem_of_getElem? (i := 667) (by decide +kernel)⟩
def lw_privs_2 : List (MethodName × Nat) := [(⟨"SendBest$Pairing", "findPaths", "(I)V"⟩, 14), (⟨"SendBest$Pairing", "spread", "(I)V"⟩, 14), (⟨"SendBest$Pairing", "reach", "(II)V"⟩, 14), (⟨"SendBest$Pairing", "cheapestEnd", "()I"⟩, 14), (⟨"SendBest$Pairing", "turnPath", "(I)V"⟩, 14), (⟨"SendBest$Pairing", "total", "([[J[I)J"⟩, 14), (⟨"SendBest", "presentStays", "(II)Z"⟩, 17), (⟨"SendBest", "takeBest", "()V"⟩, 17), (⟨"SendBest", "countFilled", "()I"⟩, 17), (⟨"SendBest", "checkSent", "(I)V"⟩, 17), (⟨"SendBest", "checkNeed", "(I)V"⟩, 17), (⟨"SendBest", "ranksLacking", "(I)I"⟩, 17), (⟨"SendBest", "weightedSeconds", "(I)I"⟩, 17), (⟨"SendBest", "anyCanFill", "(I)Z"⟩, 17), (⟨"SendBestModel", "throwing", "(ZZZZ)Z"⟩, 19), (⟨"SendBestModel", "isIncident", "(I)Z"⟩, 19)]
theorem lw_r2 : ∀ q ∈ lw_privs_2, lw_okq q := List.forall_mem_cons.mpr ⟨lw_p16, List.forall_mem_cons.mpr ⟨lw_p17, List.forall_mem_cons.mpr ⟨lw_p18, List.forall_mem_cons.mpr ⟨lw_p19, List.forall_mem_cons.mpr ⟨lw_p20, List.forall_mem_cons.mpr ⟨lw_p21, List.forall_mem_cons.mpr ⟨lw_p22, List.forall_mem_cons.mpr ⟨lw_p23, List.forall_mem_cons.mpr ⟨lw_p24, List.forall_mem_cons.mpr ⟨lw_p25, List.forall_mem_cons.mpr ⟨lw_p26, List.forall_mem_cons.mpr ⟨lw_p27, List.forall_mem_cons.mpr ⟨lw_p28, List.forall_mem_cons.mpr ⟨lw_p29, List.forall_mem_cons.mpr ⟨lw_p30, List.forall_mem_cons.mpr ⟨lw_p31, fun _ h => absurd h List.not_mem_nil⟩⟩⟩⟩⟩⟩⟩⟩⟩⟩⟩⟩⟩⟩⟩⟩
theorem lw_p32 : lw_okq (⟨"SendBestModel", "isUnit", "(I)Z"⟩, 19) := ⟨⟨by decide +kernel, by decide +kernel⟩, List.mem_of_getElem? (i := 577) (by decide +kernel), List.mem_of_getElem? (i := 678) (by decide +kernel), List.mem_of_getElem? (i := 679) (by decide +kernel)⟩
theorem lw_p33 : lw_okq (⟨"SendBestModel", "needOf", "(I)I"⟩, 19) := ⟨⟨by decide +kernel, by decide +kernel⟩, List.mem_of_getElem? (i := 577) (by decide +kernel), List.mem_of_getElem? (i := 695) (by decide +kernel), List.mem_of_getElem? (i := 696) (by decide +kernel)⟩
theorem lw_p34 : lw_okq (⟨"SendBestModel", "leave", "(I)V"⟩, 19) := ⟨⟨by decide +kernel, by decide +kernel⟩, List.mem_of_getElem? (i := 577) (by decide +kernel), List.mem_of_getElem? (i := 699) (by decide +kernel), List.mem_of_getElem? (i := 700) (by decide +kernel)⟩
theorem lw_p35 : lw_okq (⟨"SendBestModel", "reckon", "()V"⟩, 19) := ⟨⟨by decide +kernel, by decide +kernel⟩, List.mem_of_getElem? (i := 577) (by decide +kernel), List.mem_of_getElem? (i := 708) (by decide +kernel), List.mem_of_getElem? (i := 709) (by decide +kernel)⟩
theorem lw_p36 : lw_okq (⟨"SendBestModel", "gather", "()V"⟩, 19) := ⟨⟨by decide +kernel, by decide +kernel⟩, List.mem_of_getElem? (i := 577) (by decide +kernel), List.mem_of_getElem? (i := 712) (by decide +kernel), List.mem_of_getElem? (i := 713) (by decide +kernel)⟩
theorem lw_p37 : lw_okq (⟨"SendBestModel", "rankOf", "(I)I"⟩, 19) := ⟨⟨by decide +kernel, by decide +kernel⟩, List.mem_of_getElem? (i := 577) (by decide +kernel), List.mem_of_getElem? (i := 716) (by decide +kernel), List.mem_of_getElem? (i := 717) (by decide +kernel)⟩
theorem lw_p38 : lw_okq (⟨"SendBestModel", "isOpen", "(I)Z"⟩, 19) := ⟨⟨by decide +kernel, by decide +kernel⟩, List.mem_of_getElem? (i := 577) (by decide +kernel), List.mem_of_getElem? (i := 720) (by decide +kernel), List.mem_of_getElem? (i := 721) (by decide +kernel)⟩
theorem lw_p39 : lw_okq (⟨"SendBestModel", "isFixed", "(I)Z"⟩, 19) := ⟨⟨by decide +kernel, by decide +kernel⟩, List.mem_of_getElem? (i := 577) (by decide +kernel), List.mem_of_getElem? (i := 724) (by decide +kernel), List.mem_of_getElem? (i := 725) (by decide +kernel)⟩
theorem lw_p40 : lw_okq (⟨"SendBestModel", "canFill", "(II)Z"⟩, 19) := ⟨⟨by decide +kernel, by decide +kernel⟩, List.mem_of_getElem? (i := 577) (by decide +kernel), List.mem_of_getElem? (i := 728) (by decide +kernel), List.mem_of_getElem? (i := 729) (by decide +kernel)⟩
theorem lw_p41 : lw_okq (⟨"SendBestModel", "without", "(II)J"⟩, 19) := ⟨⟨by decide +kernel, by decide +kernel⟩, List.mem_of_getElem? (i := 577) (by decide +kernel), List.mem_of_getElem? (i := 732) (by decide +kernel), List.mem_of_getElem? (i := 733) (by decide +kernel)⟩
theorem lw_p42 : lw_okq (⟨"SendBestModel", "may", "(III)Z"⟩, 19) := ⟨⟨by decide +kernel, by decide +kernel⟩, List.mem_of_getElem? (i := 577) (by decide +kernel), List.mem_of_getElem? (i := 737) (by decide +kernel), List.mem_of_getElem? (i := 738) (by decide +kernel)⟩
theorem lw_p43 : lw_okq (⟨"SendBestModel", "most", "()I"⟩, 19) := ⟨⟨by decide +kernel, by decide +kernel⟩, List.mem_of_getElem? (i := 577) (by decide +kernel), List.mem_of_getElem? (i := 744) (by decide +kernel), List.mem_of_getElem? (i := 745) (by decide +kernel)⟩
theorem lw_p44 : lw_okq (⟨"SendBestModel", "with", "(III)J"⟩, 19) := ⟨⟨by decide +kernel, by decide +kernel⟩, List.mem_of_getElem? (i := 577) (by decide +kernel), List.mem_of_getElem? (i := 748) (by decide +kernel), List.mem_of_getElem? (i := 749) (by decide +kernel)⟩
theorem lw_p45 : lw_okq (⟨"SendBestModel", "fixedUnits", "()I"⟩, 19) := ⟨⟨by decide +kernel, by decide +kernel⟩, List.mem_of_getElem? (i := 577) (by decide +kernel), List.mem_of_getElem? (i := 752) (by decide +kernel), List.mem_of_getElem? (i := 753) (by decide +kernel)⟩
theorem lw_p46 : lw_okq (⟨"SendBestModel", "present", "()J"⟩, 19) := ⟨⟨by decide +kernel, by decide +kernel⟩, List.mem_of_getElem? (i := 577) (by decide +kernel), List.mem_of_getElem? (i := 756) (by decide +kernel), List.mem_of_getElem? (i := 757) (by decide +kernel)⟩
def lw_privs_3 : List (MethodName × Nat) := [(⟨"SendBestModel", "isUnit", "(I)Z"⟩, 19), (⟨"SendBestModel", "needOf", "(I)I"⟩, 19), (⟨"SendBestModel", "leave", "(I)V"⟩, 19), (⟨"SendBestModel", "reckon", "()V"⟩, 19), (⟨"SendBestModel", "gather", "()V"⟩, 19), (⟨"SendBestModel", "rankOf", "(I)I"⟩, 19), (⟨"SendBestModel", "isOpen", "(I)Z"⟩, 19), (⟨"SendBestModel", "isFixed", "(I)Z"⟩, 19), (⟨"SendBestModel", "canFill", "(II)Z"⟩, 19), (⟨"SendBestModel", "without", "(II)J"⟩, 19), (⟨"SendBestModel", "may", "(III)Z"⟩, 19), (⟨"SendBestModel", "most", "()I"⟩, 19), (⟨"SendBestModel", "with", "(III)J"⟩, 19), (⟨"SendBestModel", "fixedUnits", "()I"⟩, 19), (⟨"SendBestModel", "present", "()J"⟩, 19)]
theorem lw_r3 : ∀ q ∈ lw_privs_3, lw_okq q := List.forall_mem_cons.mpr ⟨lw_p32, List.forall_mem_cons.mpr ⟨lw_p33, List.forall_mem_cons.mpr ⟨lw_p34, List.forall_mem_cons.mpr ⟨lw_p35, List.forall_mem_cons.mpr ⟨lw_p36, List.forall_mem_cons.mpr ⟨lw_p37, List.forall_mem_cons.mpr ⟨lw_p38, List.forall_mem_cons.mpr ⟨lw_p39, List.forall_mem_cons.mpr ⟨lw_p40, List.forall_mem_cons.mpr ⟨lw_p41, List.forall_mem_cons.mpr ⟨lw_p42, List.forall_mem_cons.mpr ⟨lw_p43, List.forall_mem_cons.mpr ⟨lw_p44, List.forall_mem_cons.mpr ⟨lw_p45, List.forall_mem_cons.mpr ⟨lw_p46, fun _ h => absurd h List.not_mem_nil⟩⟩⟩⟩⟩⟩⟩⟩⟩⟩⟩⟩⟩⟩⟩
def lw_privs : List (MethodName × Nat) := lw_privs_1 ++ (lw_privs_2 ++ (lw_privs_3))
def lw_tbl : List Cond := k2_sels lw_privs ++ tables_1
theorem lw_privs_ok : ∀ q ∈ lw_privs, lw_okq q := by
  show ∀ q ∈ lw_privs_1 ++ (lw_privs_2 ++ (lw_privs_3)), lw_okq q
  exact List.forall_mem_append.mpr ⟨lw_r1, List.forall_mem_append.mpr ⟨lw_r2, lw_r3⟩⟩
/-- what the tables say of arrays of arrays of t (a name that the pasted rows use and that this kit lacks) -/
def va_AOA (t : FieldType) (U : State) : Prop := (Cond.arrayOver (.array t)).before #[] U = true
theorem va_AOA.use {t : FieldType} {A : Array Value} {U : State} (h : va_AOA t U) : (Cond.arrayOver (.array t)).before A U = true := h
theorem va_AOA.of {t : FieldType} {A : Array Value} {U : State} (h : (Cond.arrayOver (.array t)).before A U = true) : va_AOA t U := h
/-! ===== BEGIN words of one list among another's, by their places ===== -/
theorem goodIn_r {big : List Cond} (ws : List Cond) (ps : List Nat) (hp : ws = ps.filterMap (fun i => big[i]?)) (h : ws.all goodWord = true) : GoodIn big ws := by
  intro w hw
  have h1 := List.all_eq_true.mp h w hw
  rw [hp] at hw
  obtain ⟨i, -, hi⟩ := List.mem_filterMap.mp hw
  have hm : w ∈ big := by first | exact List.mem_of_getElem? hi | exact List.getElem?_mem hi
  exact ⟨hm, good_of_word h1⟩
theorem goodIn_app {big a b : List Cond} (ha : GoodIn big a) (hb : GoodIn big b) : GoodIn big (a ++ b) := fun w h => (List.mem_append.mp h).elim (ha w) (hb w)
theorem goodIn_ca {big a b : List Cond} {c : Cond} (ha : GoodIn big (c :: a)) (hb : GoodIn big b) : GoodIn big (c :: (a ++ b)) := fun w h => (List.mem_cons.mp h).elim (fun e => ha w (List.mem_cons.mpr (Or.inl e))) (fun h => (List.mem_append.mp h).elim (fun h => ha w (List.mem_cons.mpr (Or.inr h))) (hb w))
theorem goodIn_sub {big ws : List Cond} (hm : ∀ w ∈ ws, w ∈ big) (h : ws.all goodWord = true) : GoodIn big ws := fun w hw => ⟨hm w hw, good_of_word (List.all_eq_true.mp h w hw)⟩
/-! ===== END ===== -/

/-! ===== BEGIN new T[n][m]: the outer array a place, the inner ones among the pooled ===== -/
/-- f, but v at every address of l -/
def vr_up {α : Type} (f : Nat → α) (l : List Nat) (v : α) : Nat → α := fun a => if a ∈ l then v else f a
theorem vr_up_in {α : Type} {f : Nat → α} {l : List Nat} {v : α} {a : Nat} (h : a ∈ l) : vr_up f l v a = v := if_pos h
theorem vr_up_ne {α : Type} {f : Nat → α} {l : List Nat} {v : α} {a : Nat} (h : a ∉ l) : vr_up f l v a = f a := if_neg h
theorem vr_rows {L l : List Nat} {f : Nat → va_E} {e : va_E} (h : ∀ a, a ∈ l → a ∉ L) : va_pl L f ++ l.map (fun a => (a, e)) = va_pl (L ++ l) (vr_up f l e) := by
  unfold va_pl
  rw [List.map_append]
  congr 1
  · apply List.map_congr_left
    intro a ha
    rw [vr_up_ne (fun q => h a q ha)]
  · apply List.map_congr_left
    intro a ha
    rw [vr_up_in ha]
theorem vr_lay {X rows : va_W} {x : Nat × va_E} {pl : va_W} {D : va_G} {cl : List vw_C} {H : Heap} (hP : va_P D cl (((X ++ pl) ++ [x]) ++ rows) H) : va_P D cl ((X ++ [x]) ++ (pl ++ rows)) H := by
  rw [List.append_assoc (X ++ pl)] at hP
  have h := va_P.swap hP
  rw [← List.append_assoc X] at h
  have h2 := va_P.swap h
  rw [List.append_assoc (X ++ [x])] at h2
  exact h2
theorem vr_layD {X rows : va_W} {x : Nat × va_E} {pl : va_W} {A : Nat → Prop} (hD : va_D A (((X ++ pl) ++ [x]) ++ rows)) : va_D A ((X ++ [x]) ++ (pl ++ rows)) := by
  rw [List.append_assoc (X ++ pl)] at hD
  have h := va_D.swap hD
  rw [← List.append_assoc X] at h
  have h2 := va_D.swap h
  rw [List.append_assoc (X ++ [x])] at h2
  exact h2
theorem vr_outer (c : ClassId) (N h0 : Nat) : ∀ i : Nat, Jvm.Free.Multi.outerC c N h0 i = arrV c N (fun j => va_rf (if j < i then some (h0 + 1 + j) else none))
  | 0 => by
    show ({ cls := c, slots := Array.replicate N .null, vm := .none } : Cell) = _
    rw [arrV_new]
    refine congrArg (arrV c N) (funext fun j => ?_)
    simp [va_rf]
  | i + 1 => by
    show (Jvm.Free.Multi.outerC c N h0 i).setSlot i (.ref (h0 + 1 + i)) = _
    rw [vr_outer c N h0 i, arrV_store]
    refine congrArg (arrV c N) (funext fun j => ?_)
    by_cases e : j = i
    · subst e
      simp [updV, va_rf]
    · by_cases h : j < i
      · simp [updV, e, h, Nat.lt_succ_of_lt h]
      · simp [updV, e, h, show ¬ j < i + 1 by omega]
section VGM
variable {p : Program} {l : Launch} {e : Env} {R : Room} {s : State} {m : MethodId} {args : Array Value} {below : List Frame} {meth : Method} {c : Code} {H : Heap} {locs : List Loc} {cells slots : Nat} {Q : State → Prop}
variable {cc : ByteArray} {pc : Nat} {ls : Array Slot} {rest : List Value} {D : va_G} {cl : List vw_C} {A : Nat → Prop} {a : Nat} {tys : List (ClassId × FieldType)} {ws : va_W} {H0 : Heap}
theorem va_mna {X : va_W} {L : List Nat} {f : Nat → va_E} {cc : ByteArray} (hexec : p.tables.exec = Jvm.exec) (hb : c.code = cc) {own : String} {index : Nat} {ty : FieldType} {cy : ClassId} (hown : s.vm.findClass own = some m.cls) (hclink : (Cond.classLink own index ("[" ++ (FieldType.array ty).toString)).before args s = true) (hover : va_AOA ty s) (harr : (Cond.arrayClass ty).before args s = true) (hcy : s.vm.findClass (FieldType.array ty).toString = some cy)
    (hK : va_K D cl tys s) (hP : va_P D cl (X ++ va_pl L f) H) (hD : va_D A (X ++ va_pl L f)) (hS : va_S A H0 H locs) (hA : ∀ q, H0.size ≤ q → A q) {n k : Int32} {N' K' : Nat} {z : vp_A} (hn : ¬ n < 0) (hk : ¬ k < 0) (hN : n.toNatClampNeg = N') (hM : k.toNatClampNeg = K')
    (hb1 : N' * 4 ≤ 536870912) (hb2 : K' * componentBytes ty ≤ 536870912) (hb3 : K' ≤ 536870912) (hdf : fits ty (defaultValue ty) = true) (hdd : (defaultValue ty).isDefault = true) (hcells : cells + (1 + N') ≤ R.cells) (hslots : slots + (N' + N' * K') ≤ R.slots) (hz : ∀ c : ClassId, Jvm.Free.Multi.innerC c K' (defaultValue ty) = vp_cell c z) (hdg : decode cc pc = .ok (.multianewarray index 2, 4))
    (kk : ∀ (q : Nat) (r : Nat → Nat) (cA : ClassId) (H1 : Heap), (∀ i j : Nat, i < N' → j < N' → r i = r j → i = j) → (∀ i : Nat, i < N' → r i ∉ L) → va_K D cl (tys ++ [(cA, .array ty)]) s →
      va_P D cl ((X ++ [(q, .inl (cA, N', .inr (.inr (.inr (.inr (fun i => if i < N' then some (r i) else none))))))]) ++ va_pl (L ++ (List.range N').map r) (vr_up f ((List.range N').map r) (.inl (cy, z)))) H1 → va_D A ((X ++ [(q, .inl (cA, N', .inr (.inr (.inr (.inr (fun i => if i < N' then some (r i) else none))))))]) ++ va_pl (L ++ (List.range N').map r) (vr_up f ((List.range N').map r) (.inl (cy, z)))) → va_S A H0 H1 locs →
      W p l e R s m args below meth c H1 locs (cells + 1 + N') (slots + N' + N' * K') Q (F0 m (pc + 4) ls (.ref q :: rest))) : W p l e R s m args below meth c H locs cells slots Q (F0 m pc ls (.int k :: .int n :: rest)) := by
  subst hN
  subst hM
  intro T hT Xs
  obtain ⟨vm₁, cA, comp, -, fA, fC, hO, -, X', step⟩ := Xs.multianewarray2F hexec hown hclink (va_AOA.use hover) harr (g := F0 m pc ls (.int k :: .int n :: rest)) rfl (by rw [hb]; exact hdg) rfl hn hk hb1 hb2 hb3 hdf hdd hcells hslots
  have ec : some cy = some comp := hcy.symm.trans fC
  cases ec
  generalize hF : Jvm.Free.Multi.fill (T.setVm vm₁) cA cy n.toNatClampNeg k.toNatClampNeg (defaultValue ty) n.toNatClampNeg = F at X' step
  have hTh : (T.setVm vm₁).heap = H := hT
  obtain ⟨f1, f2, -, -⟩ := Jvm.Free.Multi.fill_facts (T.setVm vm₁) cA cy n.toNatClampNeg k.toNatClampNeg (defaultValue ty) n.toNatClampNeg
  rw [hF, hTh] at f1 f2
  have hold : ∀ x : Nat, x < H.size → F.heap[x]? = H[x]? := fun x hx => by
    have := Jvm.Free.Multi.fill_old (T.setVm vm₁) cA cy n.toNatClampNeg k.toNatClampNeg (defaultValue ty) (a := x) (by rw [hTh]; exact hx) n.toNatClampNeg
    rw [hF, hTh] at this
    exact this
  have hrow : ∀ j : Nat, j < n.toNatClampNeg → F.heap[H.size + 1 + j]? = some (vp_cell cy z) := fun j hj => by
    have := Jvm.Free.Multi.fill_inner (T.setVm vm₁) cA cy n.toNatClampNeg k.toNatClampNeg (defaultValue ty) n.toNatClampNeg j hj
    rw [hF, hTh, hz] at this
    exact this
  have hout : Jvm.Free.Multi.outerC cA n.toNatClampNeg H.size n.toNatClampNeg = vp_cell cA (n.toNatClampNeg, .inr (.inr (.inr (.inr (fun i => if i < n.toNatClampNeg then some (H.size + 1 + i) else none))))) := by
    rw [vp_cell_q]
    exact vr_outer cA n.toNatClampNeg H.size n.toNatClampNeg
  rw [hout] at f2
  have hlt : ∀ a, a ∈ L → a < H.size := fun a ha => by
    obtain ⟨k9, hk9⟩ := va_pl_get (X := X) (f := f) ha
    exact (hP k9 _ hk9).lt
  have hnl : ∀ i : Nat, i < n.toNatClampNeg → H.size + 1 + i ∉ L := fun i _ h => by
    have := hlt _ h
    omega
  have hnm : ∀ a, a ∈ (List.range n.toNatClampNeg).map (fun i => H.size + 1 + i) → a ∉ L := fun a ha h => by
    obtain ⟨i, -, rfl⟩ := List.mem_map.mp ha
    have := hlt _ h
    omega
  have hP0 : va_P D cl (X ++ va_pl L f) F.heap := hP.kept (fun k9 x hx => hold x.1 ((hP k9 x hx).lt))
  have hP1 : va_P D cl ((X ++ va_pl L f) ++ [(H.size, .inl (cA, n.toNatClampNeg, .inr (.inr (.inr (.inr (fun i => if i < n.toNatClampNeg then some (H.size + 1 + i) else none))))))]) F.heap := hP0.app (fun k9 x hx => by
    have h0 : k9 < 1 := (List.getElem?_eq_some_iff.mp hx).1
    rw [show k9 = 0 by omega] at hx
    cases hx
    exact f2)
  have hP2 : va_P D cl (((X ++ va_pl L f) ++ [(H.size, .inl (cA, n.toNatClampNeg, .inr (.inr (.inr (.inr (fun i => if i < n.toNatClampNeg then some (H.size + 1 + i) else none))))))]) ++ ((List.range n.toNatClampNeg).map (fun i => H.size + 1 + i)).map (fun a => (a, .inl (cy, z)))) F.heap := hP1.app (fun k9 x hx => by
    obtain ⟨a, ha, rfl⟩ := List.mem_map.mp (List.mem_of_getElem? hx)
    obtain ⟨i, hi, rfl⟩ := List.mem_map.mp ha
    exact hrow i (List.mem_range.mp hi))
  have hD2 : va_D A (((X ++ va_pl L f) ++ [(H.size, .inl (cA, n.toNatClampNeg, .inr (.inr (.inr (.inr (fun i => if i < n.toNatClampNeg then some (H.size + 1 + i) else none))))))]) ++ ((List.range n.toNatClampNeg).map (fun i => H.size + 1 + i)).map (fun a => (a, .inl (cy, z)))) := by
    have hD1 := hD.push (e := .inl (cA, n.toNatClampNeg, .inr (.inr (.inr (.inr (fun i => if i < n.toNatClampNeg then some (H.size + 1 + i) else none)))))) hP rfl (hA _ hS.1)
    generalize hW1 : (X ++ va_pl L f) ++ [(H.size, .inl (cA, n.toNatClampNeg, .inr (.inr (.inr (.inr (fun i => if i < n.toNatClampNeg then some (H.size + 1 + i) else none))))))] = W1 at hD1 hP1 ⊢
    have hle : ∀ (k9 : Nat) (x : Nat × va_E), W1[k9]? = some x → x.1 ≤ H.size := fun k9 x hx => by
      rw [← hW1] at hx
      by_cases hl : k9 < (X ++ va_pl L f).length
      · rw [List.getElem?_append_left hl] at hx
        exact Nat.le_of_lt ((hP k9 x hx).lt)
      · rw [List.getElem?_append_right (by omega)] at hx
        have h0 : k9 - (X ++ va_pl L f).length < 1 := (List.getElem?_eq_some_iff.mp hx).1
        rw [show k9 - (X ++ va_pl L f).length = 0 by omega] at hx
        cases hx
        exact Nat.le_refl _
    have hr : ∀ (k9 : Nat) (x : Nat × va_E), (((List.range n.toNatClampNeg).map (fun i => H.size + 1 + i)).map (fun a => ((a, .inl (cy, z)) : Nat × va_E)))[k9]? = some x → x.1 = H.size + 1 + k9 := fun k9 x hx => by
      rw [List.getElem?_map, List.getElem?_map] at hx
      by_cases h9 : k9 < n.toNatClampNeg
      · rw [List.getElem?_range h9] at hx
        cases hx
        rfl
      · have hn0 : (List.range n.toNatClampNeg)[k9]? = none := List.getElem?_eq_none (by rw [List.length_range]; omega)
        rw [hn0] at hx
        cases hx
    refine ⟨fun i j x y hi hj hxy => ?_, fun k9 x hx => ?_⟩
    · by_cases h1 : i < W1.length <;> by_cases h2 : j < W1.length
      · rw [List.getElem?_append_left h1] at hi
        rw [List.getElem?_append_left h2] at hj
        exact hD1.1 i j x y hi hj hxy
      · rw [List.getElem?_append_left h1] at hi
        rw [List.getElem?_append_right (by omega)] at hj
        have := hle _ _ hi
        have := hr _ _ hj
        omega
      · rw [List.getElem?_append_right (by omega)] at hi
        rw [List.getElem?_append_left h2] at hj
        have := hle _ _ hj
        have := hr _ _ hi
        omega
      · rw [List.getElem?_append_right (by omega)] at hi hj
        have := hr _ _ hi
        have := hr _ _ hj
        omega
    · by_cases h1 : k9 < W1.length
      · rw [List.getElem?_append_left h1] at hx
        exact hD1.2 k9 x hx
      · rw [List.getElem?_append_right (by omega)] at hx
        have := hr _ _ hx
        exact hA _ (by have := hS.1; omega)
  have hAr : ArrOfT s cA (.array ty) := fun N9 z9 => by
    obtain ⟨-, k9, hk9, cm9, hkk9⟩ := (hO 0 0 0).1
    exact ⟨(fun q hq => by cases hq), k9, hk9, cm9, hkk9⟩
  have hK2 : va_K D cl (tys ++ [(cA, .array ty)]) s := ⟨hK.1, fun k9 x hx => by
    by_cases hl : k9 < tys.length
    · rw [List.getElem?_append_left hl] at hx
      exact hK.2 k9 x hx
    · rw [List.getElem?_append_right (by omega)] at hx
      have h0 : k9 - tys.length < 1 := (List.getElem?_eq_some_iff.mp hx).1
      rw [show k9 - tys.length = 0 by omega] at hx
      cases hx
      exact ⟨hAr, fA⟩⟩
  obtain ⟨t, a1, b1⟩ := kk H.size (fun i => H.size + 1 + i) cA F.heap (fun i j _ _ h => by have h9 : H.size + 1 + i = H.size + 1 + j := h; omega) hnl hK2 (by rw [← vr_rows hnm]; exact vr_lay hP2) (by rw [← vr_rows hnm]; exact vr_layD hD2) ⟨by rw [f1]; have := hS.1; omega, fun x h1 h2 => (hold x (Nat.lt_of_lt_of_le h1 hS.1)).trans (hS.2.1 x h1 h2), hS.2.2⟩ F rfl X'
  refine ⟨t, step t ?_, b1⟩
  have e : T.heap.size = H.size := by rw [hT]
  rw [e]
  exact a1
end VGM
/-! ===== END ===== -/

/-! ===== BEGIN exceptions that leave a method, and their catching by the caller (launches without stack traces) ===== -/
section VXA
/-! The laws vx_back, vx_callV, vx_callS, vx_callSW, vx_throw0, vx_throwS follow proofs of the library, with one case more: JvmDerived/Free/Laws.lean (Back.of_free), Shelf42/LK1.lean (callV, callS), Shelf/KitTraced.lean (throwNew0V, throwNewS). -/
/-- where a method has thrown q: the class by its name, the cell, what was written, the world -/
def vx_T (XC : String → State → State → Prop) (st : State) (q : Addr) (t : State) (mc ms : Nat) (free : Addr → Prop) : Prop :=
  ∃ (E : String) (ce : Cell) (L : List Loc), XC E st t ∧ t.heap[q]? = some ce ∧ ce.vm = .none ∧ st.vm.findClass E = some ce.cls ∧ st.WarmedH t.vm ∧ st.sameButNew ({ t with vm := st.vm } : State) L mc ms ∧ ∀ z ∈ L, free z.base
def vx_Q (Qc : Array Value → State → Outcome → State → Prop) (XC : String → State → State → Prop) (mc ms : Nat) (free : Addr → Prop) : Array Value → State → Outcome → State → Prop := fun a st o t =>
  (Qc a st o t ∧ ∃ L, FrameEnd st o t L mc ms ∧ ∀ q ∈ L, free q.base) ∨ ∃ q, o = .threw q ∧ vx_T XC st q t mc ms free
/-- a callee that returns or throws -/
def vx_Met (l : Launch) (y : MethodName) (ws : List Cond) (rm : Room) (Pc : Array Value → State → Prop) (Qc : Array Value → State → Outcome → State → Prop) (XC : String → State → State → Prop) (mc ms : Nat) (free : Addr → Prop) : Prop :=
  MetFree l y (headSpec ws rm) Pc (fun _ _ _ _ _ => True) (vx_Q Qc XC mc ms free)
def vx_Post (XC : String → State → State → Prop) (mc ms : Nat) (free : Addr → Prop) : Pt → Array Value → Addr → Pt → Prop := fun A a q B =>
  ∃ (g : JFrame) (mk : MethodId) (t : State) (L : List Loc) (E : String) (ce : Cell), B.U.heap = t.heap ∧ B.U.vm = t.vm ∧ XC E (A.U.calling g mk a) t ∧ t.heap[q]? = some ce ∧ ce.vm = .none ∧ A.U.vm.findClass E = some ce.cls ∧ B.locs = A.locs ++ L ∧ (∀ z ∈ L, free z.base) ∧ B.cells = A.cells + mc ∧ B.slots = A.slots + ms
def vx_Back (l : Launch) (R : Room) (p : Program) (e : Env) (below : List Frame) (s : State) (sargs : Array Value) (y : MethodName) (len W9 : Nat)
    (Pre : Pt → Array Value → Prop) (Post : Pt → Array Value → Option Value → Pt → Prop) (PostX : Pt → Array Value → Addr → Pt → Prop) : Prop :=
  ∀ (m : MethodId) (meth : Method) (c : Code) (A : Pt) (g : JFrame) (ig : Instr) (mk : MethodId) (a : Array Value),
    Stand p l e R s m sargs below meth c A.U A.locs A.cells A.slots → g.method = m → g.locals.size = c.maxLocals → decode c.code g.pc = .ok (ig, len) →
    2 * g.monitorRoom + (g.stack.map fun v => v.category).sum ≤ W9 → A.U.methodNamed? y = some mk → Pre A a →
    (∃ (v : Option Value) (B : Pt), Stand p l e R s m sargs below meth c B.U B.locs B.cells B.slots ∧ Post A a v B ∧
      Steps p.tables e below (doInvoke e (A.U.setTop g) [] mk a).1 (B.U.setTop { g with pc := g.pc + len, stack := v.toList ++ g.stack })) ∨
    (∃ (q : Addr) (B : Pt), Stand p l e R s m sargs below meth c B.U B.locs B.cells B.slots ∧ PostX A a q B ∧
      Steps p.tables e below (doInvoke e (A.U.setTop g) [] mk a).1 ((B.U.setTop g).pushFrame (.throwing q)))
section Payer
variable {l : Launch} {R : Room} {p : Program} {e : Env} {below : List Frame} {s : State} {sargs : Array Value} {y : MethodName} {len W9 : Nat}
theorem vx_back {ws : List Cond} {rm : Room} {Pc : Array Value → State → Prop} {Qc : Array Value → State → Outcome → State → Prop} {XC : String → State → State → Prop} {mc ms : Nat} {free : Addr → Prop} {bytes : ByteArray} {maxL : Nat} {ret : Option FieldType}
    (hM : vx_Met l y ws rm Pc Qc XC mc ms free) (hblind : FrameBlind Pc) (hrc : rm.cells = mc) (hrs : rm.slots = ms)
    (hframes : rm.frames + 1 ≤ R.frames) (hlocals : W9 + (maxL + 11) + rm.locals ≤ R.locals)
    (hws : ∀ w ∈ ws, ∀ a' U, s.WarmedH U.vm → w.before a' U = true) (hcode : Cond.code y bytes maxL ret ∈ ws) (hinit : ∀ a' U, s.WarmedH U.vm → (Cond.initialized y.cls).before a' U = true) :
    vx_Back l R p e below s sargs y len W9 (PreOf R mc ms Pc) (PostOf Qc mc ms free) (vx_Post XC mc ms free) := by
  intro m meth c A g ig mk a X hg hsize hdg hW hn hp
  have h1 : (headSpec ws rm).pre.before a A.U = true := atoms_intro fun w hw => hws w hw _ _ X.warmed
  have h2 : (Cond.code y bytes maxL ret).before a A.U = true := hws _ hcode _ _ X.warmed
  have h3 : (Cond.initialized y.cls).before a A.U = true := hinit _ _ X.warmed
  have h4 : A.cells + (headSpec ws rm).room.cells ≤ R.cells := by rw [show (headSpec ws rm).room.cells = mc from hrc]; exact hp.1
  have h5 : A.slots + (headSpec ws rm).room.slots ≤ R.slots := by rw [show (headSpec ws rm).room.slots = ms from hrs]; exact hp.2.1
  have hPc : Pc a (A.U.calling g mk a) := hblind _ _ _ _ hp.2.2
  obtain ⟨U, Ls, c0, s0⟩ := A
  dsimp only [Pt.U, Pt.locs, Pt.cells, Pt.slots] at h1 h2 h3 h4 h5 X hn hPc ⊢
  obtain ⟨methY, cY, hmY, hcY, -, hlY, -, -, -, -⟩ := Cond.code_spec hn h2
  obtain ⟨kY, hkY, -⟩ := className_of_methodNamed hn
  have hinitY : kY.init = .initialized := Cond.initialized_spec (findClass_of_methodNamed hn) hkY h3
  have h : At U g.method c below := by rw [hg]; exact X.here
  have hlocals9 : W9 + (maxL + 11) + (headSpec ws rm).room.locals ≤ R.locals := hlocals
  have happ : (headSpec ws rm).appliesLoose y e.platform (U.calling g mk a) = true :=
    Spec.appliesLoose_calling (g := g) h hdg hn hkY hinitY
      (X.room_calling (g := g) (R' := (headSpec ws rm).room) hsize hmY hcY hframes (by rw [hlY]; omega) h4 h5) h1
  obtain ⟨mid, hmid⟩ := h.above
  have hfr : (U.setTop g).frames = (.java g :: mid) ++ below := by rw [State.frames_setTop' g h.top, hmid]; rfl
  obtain ⟨o, s₂, hsteps, -, hend, hq⟩ := Steps.callFree hM p X.admits X.cas X.clock (acts := []) hfr happ hPc trivial
  have hq' : vx_Q Qc XC mc ms free a (U.calling g mk a) o s₂ := hq
  rw [State.frames_setTop' g h.top] at hend
  obtain ⟨g₀, hg0⟩ := Option.isSome_iff_exists.mp h.top
  obtain ⟨r, hr⟩ := State.topJava?_eq_some.mp hg0
  have hr' : (({ U with heap := s₂.heap, slotsUsed := s₂.slotsUsed } : State).setVm s₂.vm).frames = .java g₀ :: r := hr
  rcases hq' with ⟨hqc, L, hfe, hL⟩ | ⟨q, rfl, E, ce, L, hx, hce, hcv, hcl, hW₂, hsm, hL⟩
  · obtain ⟨⟨v, rfl⟩, hW₂, e2, q2, q3, q4, q5, q6⟩ := id hfe
    have e3 : s₂ = ({ (U.calling g mk a).setFrames s₂.frames with heap := s₂.heap, slotsUsed := s₂.slotsUsed } : State).setVm s₂.vm := by
      have : s₂ = ({ s₂ with vm := (U.calling g mk a).vm } : State).setVm s₂.vm := rfl
      rw [e2] at this
      exact this
    obtain ⟨c₂, i₂, len₂, hc₂, hd₂, hf₂⟩ := hend
    have hW' : U.WarmedH s₂.vm := hW₂
    have hcc : c₂ = c := by
      have h1 : s₂.code? g.method = U.code? g.method := by
        rw [State.code?_eq, State.code?_eq, hW'.alike.method?]
      exact Option.some.inj (hc₂.symm.trans (h1.trans h.code))
    subst hcc
    have hlen : len₂ = len := by rw [hdg] at hd₂; cases hd₂; rfl
    subst hlen
    have hs₂ : s₂ = (({ U with heap := s₂.heap, slotsUsed := s₂.slotsUsed } : State).setVm s₂.vm).setTop { g with pc := g.pc + len₂, stack := v.toList ++ g.stack } := by
      refine e3.trans ?_
      rw [hf₂, State.calling_eq h.top, State.setFrames_setFrames, State.setTop_of_frames _ hr', hr]
      rfl
    have hsame : U.sameButNew ({ U with heap := s₂.heap, slotsUsed := s₂.slotsUsed } : State) L mc ms := by
      refine ⟨?_, q2, q3, q4, q5, q6⟩
      obtain ⟨t, ht, -⟩ := State.frames_cons hr
      show ({ U with heap := s₂.heap, slotsUsed := s₂.slotsUsed } : State) = { U.setFrames U.frames with heap := s₂.heap, slotsUsed := s₂.slotsUsed }
      rw [State.setFrames_self ht]
    subst hg
    refine Or.inl ⟨v, ⟨(({ U with heap := s₂.heap, slotsUsed := s₂.slotsUsed } : State).setVm s₂.vm), Ls ++ L, c0 + mc, s0 + ms⟩,
      ⟨X.admits, X.cas, X.clock, X.frames, X.room, X.hears, X.method, X.code, (X.here.setHeapUsed s₂.heap s₂.slotsUsed).setVm hW'.alike, X.tail, State.WarmedH.trans X.warmed hW', X.limits, X.bytes, X.same.trans (hsame.setVm s.vm)⟩,
      ⟨g, mk, s₂, L, rfl, rfl, hqc, rfl, hL, rfl, rfl⟩, ?_⟩
    show Steps p.tables e below _ ((({ U with heap := s₂.heap, slotsUsed := s₂.slotsUsed } : State).setVm s₂.vm).setTop { g with pc := g.pc + len₂, stack := v.toList ++ g.stack })
    rw [← hs₂]
    exact hsteps
  · obtain ⟨e2, q2, q3, q4, q5, q6⟩ := id hsm
    have e3 : s₂ = ({ (U.calling g mk a).setFrames s₂.frames with heap := s₂.heap, slotsUsed := s₂.slotsUsed } : State).setVm s₂.vm := by
      have : s₂ = ({ s₂ with vm := (U.calling g mk a).vm } : State).setVm s₂.vm := rfl
      rw [e2] at this
      exact this
    have hf₂ : s₂.frames = .throwing q :: .java g :: U.frames.tail := hend
    have hW' : U.WarmedH s₂.vm := hW₂
    have hs₂ : s₂ = ((({ U with heap := s₂.heap, slotsUsed := s₂.slotsUsed } : State).setVm s₂.vm).setTop g).pushFrame (.throwing q) := by
      refine e3.trans ?_
      rw [hf₂, State.calling_eq h.top, State.setFrames_setFrames, State.pushFrame, State.frames_setTop _ hr', State.setTop_of_frames _ hr', State.setFrames_setFrames, hr]
      rfl
    have hsame : U.sameButNew ({ U with heap := s₂.heap, slotsUsed := s₂.slotsUsed } : State) L mc ms := by
      refine ⟨?_, q2, q3, q4, q5, q6⟩
      obtain ⟨t, ht, -⟩ := State.frames_cons hr
      show ({ U with heap := s₂.heap, slotsUsed := s₂.slotsUsed } : State) = { U.setFrames U.frames with heap := s₂.heap, slotsUsed := s₂.slotsUsed }
      rw [State.setFrames_self ht]
    subst hg
    refine Or.inr ⟨q, ⟨(({ U with heap := s₂.heap, slotsUsed := s₂.slotsUsed } : State).setVm s₂.vm), Ls ++ L, c0 + mc, s0 + ms⟩,
      ⟨X.admits, X.cas, X.clock, X.frames, X.room, X.hears, X.method, X.code, (X.here.setHeapUsed s₂.heap s₂.slotsUsed).setVm hW'.alike, X.tail, State.WarmedH.trans X.warmed hW', X.limits, X.bytes, X.same.trans (hsame.setVm s.vm)⟩,
      ⟨g, mk, s₂, L, E, ce, rfl, rfl, hx, hce, hcv, hcl, rfl, hL, rfl, rfl⟩, ?_⟩
    show Steps p.tables e below _ (((({ U with heap := s₂.heap, slotsUsed := s₂.slotsUsed } : State).setVm s₂.vm).setTop g).pushFrame (.throwing q))
    rw [← hs₂]
    exact hsteps
end Payer
section Calls
variable {p : Program} {l : Launch} {e : Env} {R : Room} {s : State} {m : MethodId} {args : Array Value} {below : List Frame} {meth : Method} {c : Code} {T : State} {locs : List Loc} {cells slots : Nat}
theorem vx_callV (X : Stand p l e R s m args below meth c T locs cells slots) (hexec : p.tables.exec = Jvm.exec) {own C : String} {index : Nat} {y : MethodName} {bytes : ByteArray} {maxL : Nat} {ret : Option FieldType}
    (hown : s.vm.findClass own = some m.cls) (hlink : (Cond.methodLink own index y).before args s = true) (hinst : (Cond.instanceMethod y).before args s = true) (hsel : (Cond.selects C y y).before args s = true)
    (hcode : (Cond.code y bytes maxL ret).before args s = true) (hy : y.cls ≠ "java/lang/invoke/MethodHandle" ∧ y.cls ≠ "java/lang/invoke/VarHandle")
    {W9 : Nat} {Pre : Pt → Array Value → Prop} {Post : Pt → Array Value → Option Value → Pt → Prop} {PostX : Pt → Array Value → Addr → Pt → Prop} (hK : vx_Back l R p e below s args y 3 W9 Pre Post PostX)
    {b : Addr} {cellB : Cell} (hcell : T.heap[b]? = some cellB) (hobj : cellB.vm.isStatics = false) (hcls : s.vm.findClass C = some cellB.cls)
    {g : JFrame} (hg : g.method = m) (hsize : g.locals.size = c.maxLocals) {argsL rest : List Value} (hlen : ∀ sig, parseMethodDescriptor y.desc = some sig → argsL.length = sig.parameters.length)
    (hstack : g.stack = argsL.reverse ++ .ref b :: rest) (hW : 2 * g.monitorRoom + (rest.map fun v => v.category).sum ≤ W9) (hdg : decode c.code g.pc = .ok (.invokevirtual index, 3))
    (hpre : ∀ vm₁, s.WarmedH vm₁ → Pre ⟨T.setVm vm₁, locs, cells, slots⟩ (Value.ref b :: argsL).toArray) :
    (∃ (v : Option Value) (vm₁ : Vm) (B : Pt), s.WarmedH vm₁ ∧ Stand p l e R s m args below meth c B.U B.locs B.cells B.slots ∧ Post ⟨T.setVm vm₁, locs, cells, slots⟩ (Value.ref b :: argsL).toArray v B ∧
      ∀ target, Steps p.tables e below (B.U.setTop { g with pc := g.pc + 3, stack := v.toList ++ rest }) target → Steps p.tables e below (T.setTop g) target) ∨
    (∃ (q : Addr) (vm₁ : Vm) (B : Pt), s.WarmedH vm₁ ∧ Stand p l e R s m args below meth c B.U B.locs B.cells B.slots ∧ PostX ⟨T.setVm vm₁, locs, cells, slots⟩ (Value.ref b :: argsL).toArray q B ∧
      Steps p.tables e below (T.setTop g) ((B.U.setTop { g with stack := rest }).pushFrame (.throwing q))) := by
  obtain ⟨mk, methM, hnamed, hmethM, hstM, habM⟩ := Cond.instanceMethod_spec hinst
  obtain ⟨methM', cM, hmethM', -, -, -, -, -, -, hsigM⟩ := Cond.code_spec hnamed hcode
  cases hmethM.symm.trans hmethM'
  obtain ⟨c2, r2, m2, q1, q2, q3, q4, kP, hkP, hkPi⟩ := Cond.selects_spec hsel
  cases hcls.symm.trans q1
  cases (State.methodFound?_of_named hnamed hy).symm.trans q2
  cases hnamed.symm.trans q3
  have hselP : selectMethod e.platform s.vm cellB.cls mk = .method mk := by rw [Launch.admits_selectMethod X.admits]; exact q4
  obtain ⟨vm₁, X₁, hstep₁⟩ := X.invokevirtual hexec hown hlink hnamed hmethM hstM hkP hkPi hy (a := b) (cell := cellB) hcell
    (fun z h => by rw [h] at hobj; cases hobj) hselP hmethM habM hkP hkPi (g := g) hg (argsL := argsL) (rest := rest) (hlen _ hsigM) hstack hdg
  rcases hK m meth c ⟨T.setVm vm₁, locs, cells, slots⟩ { g with stack := rest } (.invokevirtual index) mk (Value.ref b :: argsL).toArray X₁ hg hsize hdg hW (X₁.named hnamed) (hpre vm₁ X₁.warmed) with ⟨v, B, X', hpost, hsteps⟩ | ⟨q, B, X', hpost, hsteps⟩
  · exact Or.inl ⟨v, vm₁, B, X₁.warmed, X', hpost, fun target h => hstep₁ _ fun acts => by rw [doInvoke_state]; exact hsteps.trans h⟩
  · exact Or.inr ⟨q, vm₁, B, X₁.warmed, X', hpost, hstep₁ _ fun acts => by rw [doInvoke_state]; exact hsteps⟩
theorem vx_callS (X : Stand p l e R s m args below meth c T locs cells slots) (hexec : p.tables.exec = Jvm.exec) {own : String} {index : Nat} {y : MethodName} {bytes : ByteArray} {maxL : Nat} {ret : Option FieldType}
    (hown : s.vm.findClass own = some m.cls) (hlink : (Cond.methodLink own index y).before args s = true) (hstat : (Cond.static y).before args s = true) (hinit : (Cond.initialized y.cls).before args s = true)
    (hcode : (Cond.code y bytes maxL ret).before args s = true) (hy : y.cls ≠ "java/lang/invoke/MethodHandle" ∧ y.cls ≠ "java/lang/invoke/VarHandle")
    {W9 : Nat} {Pre : Pt → Array Value → Prop} {Post : Pt → Array Value → Option Value → Pt → Prop} {PostX : Pt → Array Value → Addr → Pt → Prop} (hK : vx_Back l R p e below s args y 3 W9 Pre Post PostX)
    {g : JFrame} (hg : g.method = m) (hsize : g.locals.size = c.maxLocals) {argsL rest : List Value} (hlen : ∀ sig, parseMethodDescriptor y.desc = some sig → argsL.length = sig.parameters.length)
    (hstack : g.stack = argsL.reverse ++ rest) (hW : 2 * g.monitorRoom + (rest.map fun v => v.category).sum ≤ W9) (hdg : decode c.code g.pc = .ok (.invokestatic index, 3))
    (hpre : ∀ vm₁, s.WarmedH vm₁ → Pre ⟨T.setVm vm₁, locs, cells, slots⟩ argsL.toArray) :
    (∃ (v : Option Value) (vm₁ : Vm) (B : Pt), s.WarmedH vm₁ ∧ Stand p l e R s m args below meth c B.U B.locs B.cells B.slots ∧ Post ⟨T.setVm vm₁, locs, cells, slots⟩ argsL.toArray v B ∧
      ∀ target, Steps p.tables e below (B.U.setTop { g with pc := g.pc + 3, stack := v.toList ++ rest }) target → Steps p.tables e below (T.setTop g) target) ∨
    (∃ (q : Addr) (vm₁ : Vm) (B : Pt), s.WarmedH vm₁ ∧ Stand p l e R s m args below meth c B.U B.locs B.cells B.slots ∧ PostX ⟨T.setVm vm₁, locs, cells, slots⟩ argsL.toArray q B ∧
      Steps p.tables e below (T.setTop g) ((B.U.setTop { g with stack := rest }).pushFrame (.throwing q))) := by
  obtain ⟨mk, hnamed⟩ := Cond.code_named hcode
  obtain ⟨methM, cM, hmethM, -, -, -, -, -, -, hsigM⟩ := Cond.code_spec hnamed hcode
  have hstatic : methM.isStatic = true := Cond.static_spec hnamed hmethM hstat
  obtain ⟨kP, hkP, -⟩ := className_of_methodNamed hnamed
  have hinitP : kP.init = .initialized := Cond.initialized_spec (findClass_of_methodNamed hnamed) hkP hinit
  obtain ⟨vm₁, X₁, hstep₁⟩ := X.invokestatic hexec hown hlink hnamed hmethM hstatic hkP hinitP hy (g := g) hg (argsL := argsL) (rest := rest) (hlen _ hsigM) hstack hdg
  rcases hK m meth c ⟨T.setVm vm₁, locs, cells, slots⟩ { g with stack := rest } (.invokestatic index) mk argsL.toArray X₁ hg hsize hdg hW (X₁.named hnamed) (hpre vm₁ X₁.warmed) with ⟨v, B, X', hpost, hsteps⟩ | ⟨q, B, X', hpost, hsteps⟩
  · exact Or.inl ⟨v, vm₁, B, X₁.warmed, X', hpost, fun target h => hstep₁ _ fun acts => by rw [doInvoke_state]; exact hsteps.trans h⟩
  · exact Or.inr ⟨q, vm₁, B, X₁.warmed, X', hpost, hstep₁ _ fun acts => by rw [doInvoke_state]; exact hsteps⟩
end Calls
theorem vx_cls {s : State} {T : State} {vm₁ : Vm} {E : String} {k : ClassId} (hW : s.WarmedH vm₁) (h : (T.setVm vm₁).vm.findClass E = some k) : s.vm.findClass E = some k := by
  have h1 : vm₁.findClass E = some k := h
  rw [hW.alike.findClass] at h1
  exact h1
/-- the method's frame g, with q thrown over it -/
def vx_W (p : Program) (l : Launch) (e : Env) (R : Room) (s : State) (m : MethodId) (args : Array Value) (below : List Frame) (meth : Method) (c : Code) (H : Heap) (locs : List Loc) (cells slots : Nat) (Q : State → Prop) (g : JFrame) (q : Addr) : Prop :=
  ∀ T : State, T.heap = H → Stand p l e R s m args below meth c T locs cells slots → ∃ t, Steps p.tables e below ((T.setTop g).pushFrame (.throwing q)) t ∧ Q t
def vx_Run (p : Program) (l : Launch) (e : Env) (R : Room) (s : State) (m : MethodId) (args : Array Value) (below : List Frame) (meth : Method) (c : Code) (H : Heap) (locs : List Loc) (cells slots mc ms : Nat) (g : JFrame) (rest : List Value) (Qa : State → Outcome → State → Prop) (XC : String → State → State → Prop) (free : Addr → Prop) : Prop :=
  ∀ T : State, T.heap = H → Stand p l e R s m args below meth c T locs cells slots →
    (∃ (v : Option Value) (st₀ t T' : State) (L : List Loc), st₀.heap = H ∧ Stand p l e R s m args below meth c T' (locs ++ L) (cells + mc) (slots + ms) ∧ (∀ q ∈ L, free q.base) ∧ T'.heap = t.heap ∧ T'.vm = t.vm ∧ Qa st₀ (.returned v) t ∧
      Goes p e below T g T' { g with pc := g.pc + 3, stack := v.toList ++ rest }) ∨
    (∃ (q : Addr) (st₀ t T' : State) (L : List Loc) (E : String) (ce : Cell), st₀.heap = H ∧ Stand p l e R s m args below meth c T' (locs ++ L) (cells + mc) (slots + ms) ∧ (∀ z ∈ L, free z.base) ∧ T'.heap = t.heap ∧ T'.vm = t.vm ∧ XC E st₀ t ∧ t.heap[q]? = some ce ∧ ce.vm = .none ∧ s.vm.findClass E = some ce.cls ∧
      Steps p.tables e below (T.setTop g) ((T'.setTop { g with stack := rest }).pushFrame (.throwing q)))
def vx_X {S : Type} (px : S → Prop) (B : String → S → State → Prop) (A : Nat → Prop) : String → State → State → Prop := fun E st t => ∃ u : S, px u ∧ B E u t ∧ va_F A st t
section Runs
variable {p : Program} {l : Launch} {e : Env} {R : Room} {s : State} {m : MethodId} {args : Array Value} {below : List Frame} {meth : Method} {c : Code} {H : Heap} {locs : List Loc} {cells slots : Nat}
variable {y : MethodName} {bytes cc : ByteArray} {maxL nL mc ms n index : Nat} {ret : Option FieldType} {ws : List Cond} {rm : Room} {Pc : Array Value → State → Prop} {Qc : Array Value → State → Outcome → State → Prop} {XC : String → State → State → Prop} {free : Addr → Prop} {Ts : List Cond} {own C : String} {b : Addr} {As rest : List Value} {g : JFrame}
theorem vx_callBack (cb : CallB R s args own index y bytes maxL ret ws rm mc ms n) (hM : vx_Met l y ws rm Pc Qc XC mc ms free) (hbl : FrameBlind Pc) : vx_Back l R p e below s args y 3 8 (PreOf R mc ms Pc) (PostOf Qc mc ms free) (vx_Post XC mc ms free) := by
  obtain ⟨hrc, hrs, hfr, hlo, hws, hcw, -, hini, -⟩ := cb
  exact vx_back (bytes := bytes) (maxL := maxL) (ret := ret) hM hbl hrc hrs hfr hlo hws hcw (fun a' U hW => word_at hW (Or.inl (by first | rfl | simp [Cond.onTables, Cond.keeps, Cond.steady])) hini)
theorem vx_runV (S : CallFix p m c cc nL s args Ts own) (hM : vx_Met l y ws rm Pc Qc XC mc ms free) (cw : CallW R s args own C index y bytes maxL ret ws rm mc ms n) (hp : PreV s H C b Pc As)
    (hg : g.method = m) (hn : As.length = n) (hsize : g.locals.size = nL) (hstack : g.stack = As.reverse ++ .ref b :: rest) (hW : 2 * g.monitorRoom + (rest.map fun v => v.category).sum ≤ 8) (hdg : decode cc g.pc = .ok (.invokevirtual index, 3)) (hf : cells + mc ≤ R.cells ∧ slots + ms ≤ R.slots) :
    vx_Run p l e R s m args below meth c H locs cells slots mc ms g rest (Qc (Value.ref b :: As).toArray) XC free := by
  have hK : vx_Back l R p e below s args y 3 8 (PreOf R mc ms Pc) (PostOf Qc mc ms free) (vx_Post XC mc ms free) := vx_callBack cw.1 hM hp.1
  obtain ⟨⟨-, -, -, -, -, -, hcode, -, hy, hlen, hl⟩, hin, hse⟩ := cw
  obtain ⟨hx, hb, hml, ho, -⟩ := S
  obtain ⟨-, ⟨cellB, hcB, hoB, hclB⟩, hPc⟩ := hp
  intro T hT X
  rcases vx_callV X hx (C := C) (bytes := bytes) (maxL := maxL) (ret := ret) ho hl hin hse hcode hy hK (by rw [hT]; exact hcB) hoB hclB hg (hsize.trans hml.symm) (argsL := As) (rest := rest) (fun sig h => hn.trans (hlen sig h)) hstack hW (by rw [hb]; exact hdg)
    (fun vm₁ hW₁ => ⟨hf.1, hf.2, hPc (T.setVm vm₁) hT hW₁⟩) with ⟨v, vm₁, ⟨U', l2, c2, s2⟩, hW₁, X', ⟨g', mk, t, L, e1, e2, hq, h1, hL, h2, h3⟩, st⟩ | ⟨q, vm₁, ⟨U', l2, c2, s2⟩, hW₁, X', ⟨g', mk, t, L, E, ce, e1, e2, hq, hce, hcv, hcl, h1, hL, h2, h3⟩, st⟩
  · dsimp only [Pt.U, Pt.locs, Pt.cells, Pt.slots] at X' e1 e2 h1 h2 h3 st
    subst h1; subst h2; subst h3
    exact Or.inl ⟨v, (T.setVm vm₁).calling g' mk (Value.ref b :: As).toArray, t, U', L, hT, X', hL, e1, e2, hq, st⟩
  · dsimp only [Pt.U, Pt.locs, Pt.cells, Pt.slots] at X' e1 e2 h1 h2 h3 st hcl
    subst h1; subst h2; subst h3
    exact Or.inr ⟨q, (T.setVm vm₁).calling g' mk (Value.ref b :: As).toArray, t, U', L, E, ce, hT, X', hL, e1, e2, hq, hce, hcv, vx_cls hW₁ hcl, st⟩
theorem vx_runS (S : CallFix p m c cc nL s args Ts own) (hM : vx_Met l y ws rm Pc Qc XC mc ms free) (cw : CallB R s args own index y bytes maxL ret ws rm mc ms n ∧ (Cond.static y).before args s = true) (hp : PreS s H Pc As)
    (hg : g.method = m) (hn : As.length = n) (hsize : g.locals.size = nL) (hstack : g.stack = As.reverse ++ rest) (hW : 2 * g.monitorRoom + (rest.map fun v => v.category).sum ≤ 8) (hdg : decode cc g.pc = .ok (.invokestatic index, 3)) (hf : cells + mc ≤ R.cells ∧ slots + ms ≤ R.slots) :
    vx_Run p l e R s m args below meth c H locs cells slots mc ms g rest (Qc As.toArray) XC free := by
  have hK : vx_Back l R p e below s args y 3 8 (PreOf R mc ms Pc) (PostOf Qc mc ms free) (vx_Post XC mc ms free) := vx_callBack cw.1 hM hp.1
  obtain ⟨⟨-, -, -, -, -, -, hcode, hini, hy, hlen, hl⟩, hstt⟩ := cw
  obtain ⟨hx, hb, hml, ho, -⟩ := S
  intro T hT X
  rcases vx_callS X hx (bytes := bytes) (maxL := maxL) (ret := ret) ho hl hstt hini hcode hy hK hg (hsize.trans hml.symm) (argsL := As) (rest := rest) (fun sig h => hn.trans (hlen sig h)) hstack hW (by rw [hb]; exact hdg)
    (fun vm₁ hW₁ => ⟨hf.1, hf.2, hp.2 (T.setVm vm₁) hT hW₁⟩) with ⟨v, vm₁, ⟨U', l2, c2, s2⟩, hW₁, X', ⟨g', mk, t, L, e1, e2, hq, h1, hL, h2, h3⟩, st⟩ | ⟨q, vm₁, ⟨U', l2, c2, s2⟩, hW₁, X', ⟨g', mk, t, L, E, ce, e1, e2, hq, hce, hcv, hcl, h1, hL, h2, h3⟩, st⟩
  · dsimp only [Pt.U, Pt.locs, Pt.cells, Pt.slots] at X' e1 e2 h1 h2 h3 st
    subst h1; subst h2; subst h3
    exact Or.inl ⟨v, (T.setVm vm₁).calling g' mk As.toArray, t, U', L, hT, X', hL, e1, e2, hq, st⟩
  · dsimp only [Pt.U, Pt.locs, Pt.cells, Pt.slots] at X' e1 e2 h1 h2 h3 st hcl
    subst h1; subst h2; subst h3
    exact Or.inr ⟨q, (T.setVm vm₁).calling g' mk As.toArray, t, U', L, E, ce, hT, X', hL, e1, e2, hq, hce, hcv, vx_cls hW₁ hcl, st⟩
end Runs
section Rows
variable {p : Program} {l : Launch} {e : Env} {R : Room} {s : State} {m : MethodId} {args : Array Value} {below : List Frame} {meth : Method} {c : Code} {H : Heap} {locs : List Loc} {cells slots : Nat} {Q : State → Prop}
variable {mc ms : Nat} {free : Addr → Prop} {A0 A1 : Nat → Prop} {H0 : Heap} {a : Array Value} {pc : Nat} {ls : Array Slot} {st0 rest : List Value}
theorem vx_keep {st₀ t T' : State} {L : List Loc} (h0 : st₀.heap = H) (e1 : T'.heap = t.heap) (hS : va_S A0 H0 H locs) (hA : ∀ q, q < H.size → A1 q → A0 q) (hf : ∀ q, free q → A0 q) (hL : ∀ q ∈ L, free q.base) (hF : va_F A1 st₀ t) :
    H.size ≤ T'.heap.size ∧ (∀ q : Nat, q < H.size → ¬ A1 q → T'.heap[q]? = H[q]?) ∧ va_S A0 H0 T'.heap (locs ++ L) := by
  obtain ⟨hz, hk⟩ := hF
  rw [h0] at hz hk
  exact ⟨by rw [e1]; exact hz, fun q h1 h2 => by rw [e1]; exact hk q h1 h2,
    ⟨Nat.le_trans hS.1 (by rw [e1]; exact hz), fun q h1 h2 => by rw [e1, hk q (Nat.lt_of_lt_of_le h1 hS.1) (fun z => h2 (hA q (Nat.lt_of_lt_of_le h1 hS.1) z))]; exact hS.2.1 q h1 h2, fun q hq => by
      rcases List.mem_append.mp hq with h | h
      · exact hS.2.2 q h
      · exact hf _ (hL q h)⟩⟩
theorem vx_calli {S SX : Type} {post : Int32 → S → Prop} {px : SX → Prop} {B : S → State → Prop} {BX : String → SX → State → Prop} {AX : Nat → Prop} (hr : vx_Run p l e R s m args below meth c H locs cells slots mc ms (F0 m pc ls st0) rest (va_Qi post B A1 a) (vx_X px BX AX) free) (hS : va_S A0 H0 H locs) (hA : ∀ q, q < H.size → A1 q → A0 q) (hf : ∀ q, free q → A0 q) (hAX : ∀ q, q < H.size → AX q → A0 q)
    (kx : ∀ (E : String) (ce : Cell) (q9 : Addr) (u : SX) (t : State) (H1 : Heap) (locs1 : List Loc), t.heap = H1 → s.vm.Alike t.vm → px u → BX E u t → H.size ≤ H1.size → (∀ q : Nat, q < H.size → ¬ AX q → H1[q]? = H[q]?) → va_S A0 H0 H1 locs1 → H1[q9]? = some ce → ce.vm = .none → s.vm.findClass E = some ce.cls → vx_W p l e R s m args below meth c H1 locs1 (cells + mc) (slots + ms) Q (F0 m pc ls rest) q9)
    (kk : ∀ (r : Int32) (u : S) (t : State) (H1 : Heap) (locs1 : List Loc), t.heap = H1 → s.vm.Alike t.vm → post r u → B u t → H.size ≤ H1.size → (∀ q : Nat, q < H.size → ¬ A1 q → H1[q]? = H[q]?) → va_S A0 H0 H1 locs1 → W p l e R s m args below meth c H1 locs1 (cells + mc) (slots + ms) Q (F0 m (pc + 3) ls (.int r :: rest))) : W p l e R s m args below meth c H locs cells slots Q (F0 m pc ls st0) := by
  intro T hT X
  rcases hr T hT X with ⟨v, st₀, t, T', L, h0, X', hL, e1, e2, ⟨⟨r, u, hv, hp, hb⟩, hF⟩, st⟩ | ⟨q, st₀, t, T', L, E, ce, h0, X', hL, e1, e2, ⟨u, hp, hb, hF⟩, hce, hcv, hcl, st⟩
  · cases hv
    obtain ⟨k1, k2, k3⟩ := vx_keep h0 e1 hS hA hf hL hF
    obtain ⟨t2, a1, b1⟩ := kk r u t T'.heap (locs ++ L) e1.symm (by rw [← e2]; exact X'.warmed.alike) hp hb k1 k2 k3 T' rfl X'
    exact ⟨t2, st t2 a1, b1⟩
  · obtain ⟨k1, k2, k3⟩ := vx_keep h0 e1 hS hAX hf hL hF
    obtain ⟨t2, a1, b1⟩ := kx E ce q u t T'.heap (locs ++ L) e1.symm (by rw [← e2]; exact X'.warmed.alike) hp hb k1 k2 k3 (by rw [e1]; exact hce) hcv hcl T' rfl X'
    exact ⟨t2, st.trans a1, b1⟩
theorem vx_calll {S SX : Type} {post : Int64 → S → Prop} {px : SX → Prop} {B : S → State → Prop} {BX : String → SX → State → Prop} {AX : Nat → Prop} (hr : vx_Run p l e R s m args below meth c H locs cells slots mc ms (F0 m pc ls st0) rest (va_Ql post B A1 a) (vx_X px BX AX) free) (hS : va_S A0 H0 H locs) (hA : ∀ q, q < H.size → A1 q → A0 q) (hf : ∀ q, free q → A0 q) (hAX : ∀ q, q < H.size → AX q → A0 q)
    (kx : ∀ (E : String) (ce : Cell) (q9 : Addr) (u : SX) (t : State) (H1 : Heap) (locs1 : List Loc), t.heap = H1 → s.vm.Alike t.vm → px u → BX E u t → H.size ≤ H1.size → (∀ q : Nat, q < H.size → ¬ AX q → H1[q]? = H[q]?) → va_S A0 H0 H1 locs1 → H1[q9]? = some ce → ce.vm = .none → s.vm.findClass E = some ce.cls → vx_W p l e R s m args below meth c H1 locs1 (cells + mc) (slots + ms) Q (F0 m pc ls rest) q9)
    (kk : ∀ (r : Int64) (u : S) (t : State) (H1 : Heap) (locs1 : List Loc), t.heap = H1 → s.vm.Alike t.vm → post r u → B u t → H.size ≤ H1.size → (∀ q : Nat, q < H.size → ¬ A1 q → H1[q]? = H[q]?) → va_S A0 H0 H1 locs1 → W p l e R s m args below meth c H1 locs1 (cells + mc) (slots + ms) Q (F0 m (pc + 3) ls (.long r :: rest))) : W p l e R s m args below meth c H locs cells slots Q (F0 m pc ls st0) := by
  intro T hT X
  rcases hr T hT X with ⟨v, st₀, t, T', L, h0, X', hL, e1, e2, ⟨⟨r, u, hv, hp, hb⟩, hF⟩, st⟩ | ⟨q, st₀, t, T', L, E, ce, h0, X', hL, e1, e2, ⟨u, hp, hb, hF⟩, hce, hcv, hcl, st⟩
  · cases hv
    obtain ⟨k1, k2, k3⟩ := vx_keep h0 e1 hS hA hf hL hF
    obtain ⟨t2, a1, b1⟩ := kk r u t T'.heap (locs ++ L) e1.symm (by rw [← e2]; exact X'.warmed.alike) hp hb k1 k2 k3 T' rfl X'
    exact ⟨t2, st t2 a1, b1⟩
  · obtain ⟨k1, k2, k3⟩ := vx_keep h0 e1 hS hAX hf hL hF
    obtain ⟨t2, a1, b1⟩ := kx E ce q u t T'.heap (locs ++ L) e1.symm (by rw [← e2]; exact X'.warmed.alike) hp hb k1 k2 k3 (by rw [e1]; exact hce) hcv hcl T' rfl X'
    exact ⟨t2, st.trans a1, b1⟩
theorem vx_callf {S SX : Type} {post : UInt32 → S → Prop} {px : SX → Prop} {B : S → State → Prop} {BX : String → SX → State → Prop} {AX : Nat → Prop} (hr : vx_Run p l e R s m args below meth c H locs cells slots mc ms (F0 m pc ls st0) rest (va_Qf post B A1 a) (vx_X px BX AX) free) (hS : va_S A0 H0 H locs) (hA : ∀ q, q < H.size → A1 q → A0 q) (hf : ∀ q, free q → A0 q) (hAX : ∀ q, q < H.size → AX q → A0 q)
    (kx : ∀ (E : String) (ce : Cell) (q9 : Addr) (u : SX) (t : State) (H1 : Heap) (locs1 : List Loc), t.heap = H1 → s.vm.Alike t.vm → px u → BX E u t → H.size ≤ H1.size → (∀ q : Nat, q < H.size → ¬ AX q → H1[q]? = H[q]?) → va_S A0 H0 H1 locs1 → H1[q9]? = some ce → ce.vm = .none → s.vm.findClass E = some ce.cls → vx_W p l e R s m args below meth c H1 locs1 (cells + mc) (slots + ms) Q (F0 m pc ls rest) q9)
    (kk : ∀ (r : UInt32) (u : S) (t : State) (H1 : Heap) (locs1 : List Loc), t.heap = H1 → s.vm.Alike t.vm → post r u → B u t → H.size ≤ H1.size → (∀ q : Nat, q < H.size → ¬ A1 q → H1[q]? = H[q]?) → va_S A0 H0 H1 locs1 → W p l e R s m args below meth c H1 locs1 (cells + mc) (slots + ms) Q (F0 m (pc + 3) ls (.float r :: rest))) : W p l e R s m args below meth c H locs cells slots Q (F0 m pc ls st0) := by
  intro T hT X
  rcases hr T hT X with ⟨v, st₀, t, T', L, h0, X', hL, e1, e2, ⟨⟨r, u, hv, hp, hb⟩, hF⟩, st⟩ | ⟨q, st₀, t, T', L, E, ce, h0, X', hL, e1, e2, ⟨u, hp, hb, hF⟩, hce, hcv, hcl, st⟩
  · cases hv
    obtain ⟨k1, k2, k3⟩ := vx_keep h0 e1 hS hA hf hL hF
    obtain ⟨t2, a1, b1⟩ := kk r u t T'.heap (locs ++ L) e1.symm (by rw [← e2]; exact X'.warmed.alike) hp hb k1 k2 k3 T' rfl X'
    exact ⟨t2, st t2 a1, b1⟩
  · obtain ⟨k1, k2, k3⟩ := vx_keep h0 e1 hS hAX hf hL hF
    obtain ⟨t2, a1, b1⟩ := kx E ce q u t T'.heap (locs ++ L) e1.symm (by rw [← e2]; exact X'.warmed.alike) hp hb k1 k2 k3 (by rw [e1]; exact hce) hcv hcl T' rfl X'
    exact ⟨t2, st.trans a1, b1⟩
theorem vx_calld {S SX : Type} {post : UInt64 → S → Prop} {px : SX → Prop} {B : S → State → Prop} {BX : String → SX → State → Prop} {AX : Nat → Prop} (hr : vx_Run p l e R s m args below meth c H locs cells slots mc ms (F0 m pc ls st0) rest (va_Qd post B A1 a) (vx_X px BX AX) free) (hS : va_S A0 H0 H locs) (hA : ∀ q, q < H.size → A1 q → A0 q) (hf : ∀ q, free q → A0 q) (hAX : ∀ q, q < H.size → AX q → A0 q)
    (kx : ∀ (E : String) (ce : Cell) (q9 : Addr) (u : SX) (t : State) (H1 : Heap) (locs1 : List Loc), t.heap = H1 → s.vm.Alike t.vm → px u → BX E u t → H.size ≤ H1.size → (∀ q : Nat, q < H.size → ¬ AX q → H1[q]? = H[q]?) → va_S A0 H0 H1 locs1 → H1[q9]? = some ce → ce.vm = .none → s.vm.findClass E = some ce.cls → vx_W p l e R s m args below meth c H1 locs1 (cells + mc) (slots + ms) Q (F0 m pc ls rest) q9)
    (kk : ∀ (r : UInt64) (u : S) (t : State) (H1 : Heap) (locs1 : List Loc), t.heap = H1 → s.vm.Alike t.vm → post r u → B u t → H.size ≤ H1.size → (∀ q : Nat, q < H.size → ¬ A1 q → H1[q]? = H[q]?) → va_S A0 H0 H1 locs1 → W p l e R s m args below meth c H1 locs1 (cells + mc) (slots + ms) Q (F0 m (pc + 3) ls (.double r :: rest))) : W p l e R s m args below meth c H locs cells slots Q (F0 m pc ls st0) := by
  intro T hT X
  rcases hr T hT X with ⟨v, st₀, t, T', L, h0, X', hL, e1, e2, ⟨⟨r, u, hv, hp, hb⟩, hF⟩, st⟩ | ⟨q, st₀, t, T', L, E, ce, h0, X', hL, e1, e2, ⟨u, hp, hb, hF⟩, hce, hcv, hcl, st⟩
  · cases hv
    obtain ⟨k1, k2, k3⟩ := vx_keep h0 e1 hS hA hf hL hF
    obtain ⟨t2, a1, b1⟩ := kk r u t T'.heap (locs ++ L) e1.symm (by rw [← e2]; exact X'.warmed.alike) hp hb k1 k2 k3 T' rfl X'
    exact ⟨t2, st t2 a1, b1⟩
  · obtain ⟨k1, k2, k3⟩ := vx_keep h0 e1 hS hAX hf hL hF
    obtain ⟨t2, a1, b1⟩ := kx E ce q u t T'.heap (locs ++ L) e1.symm (by rw [← e2]; exact X'.warmed.alike) hp hb k1 k2 k3 (by rw [e1]; exact hce) hcv hcl T' rfl X'
    exact ⟨t2, st.trans a1, b1⟩
theorem vx_callv {S SX : Type} {post : S → Prop} {px : SX → Prop} {B : S → State → Prop} {BX : String → SX → State → Prop} {AX : Nat → Prop} (hr : vx_Run p l e R s m args below meth c H locs cells slots mc ms (F0 m pc ls st0) rest (va_Qv post B A1 a) (vx_X px BX AX) free) (hS : va_S A0 H0 H locs) (hA : ∀ q, q < H.size → A1 q → A0 q) (hf : ∀ q, free q → A0 q) (hAX : ∀ q, q < H.size → AX q → A0 q)
    (kx : ∀ (E : String) (ce : Cell) (q9 : Addr) (u : SX) (t : State) (H1 : Heap) (locs1 : List Loc), t.heap = H1 → s.vm.Alike t.vm → px u → BX E u t → H.size ≤ H1.size → (∀ q : Nat, q < H.size → ¬ AX q → H1[q]? = H[q]?) → va_S A0 H0 H1 locs1 → H1[q9]? = some ce → ce.vm = .none → s.vm.findClass E = some ce.cls → vx_W p l e R s m args below meth c H1 locs1 (cells + mc) (slots + ms) Q (F0 m pc ls rest) q9)
    (kk : ∀ (u : S) (t : State) (H1 : Heap) (locs1 : List Loc), t.heap = H1 → s.vm.Alike t.vm → post u → B u t → H.size ≤ H1.size → (∀ q : Nat, q < H.size → ¬ A1 q → H1[q]? = H[q]?) → va_S A0 H0 H1 locs1 → W p l e R s m args below meth c H1 locs1 (cells + mc) (slots + ms) Q (F0 m (pc + 3) ls (rest))) : W p l e R s m args below meth c H locs cells slots Q (F0 m pc ls st0) := by
  intro T hT X
  rcases hr T hT X with ⟨v, st₀, t, T', L, h0, X', hL, e1, e2, ⟨⟨u, hv, hp, hb⟩, hF⟩, st⟩ | ⟨q, st₀, t, T', L, E, ce, h0, X', hL, e1, e2, ⟨u, hp, hb, hF⟩, hce, hcv, hcl, st⟩
  · cases hv
    obtain ⟨k1, k2, k3⟩ := vx_keep h0 e1 hS hA hf hL hF
    obtain ⟨t2, a1, b1⟩ := kk u t T'.heap (locs ++ L) e1.symm (by rw [← e2]; exact X'.warmed.alike) hp hb k1 k2 k3 T' rfl X'
    exact ⟨t2, st t2 a1, b1⟩
  · obtain ⟨k1, k2, k3⟩ := vx_keep h0 e1 hS hAX hf hL hF
    obtain ⟨t2, a1, b1⟩ := kx E ce q u t T'.heap (locs ++ L) e1.symm (by rw [← e2]; exact X'.warmed.alike) hp hb k1 k2 k3 (by rw [e1]; exact hce) hcv hcl T' rfl X'
    exact ⟨t2, st.trans a1, b1⟩
/-- caught by the row x of this method's table; the rows ahead don't take it -/
theorem vx_catch {own name : String} {E : String} {ce : Cell} {q : Addr} (hown : s.vm.findClass own = some m.cls) (pre : List ExceptionTableEntry) (x : ExceptionTableEntry) (suf : List ExceptionTableEntry) (hsplit : c.exceptionTable.toList = pre ++ x :: suf)
    (hpass : ∀ z ∈ pre, covers z pc = false ∨ (z.catchType ≠ 0 ∧ ∃ nm : String, (Cond.classLink own z.catchType nm).before args s = true ∧ va_Nc E nm s)) (hx : covers x pc = true) (h0 : x.catchType ≠ 0)
    (hlink : (Cond.classLink own x.catchType name).before args s = true) (hcast : (Cond.castable E name).before args s = true) (hcell : H[q]? = some ce) (hv : ce.vm = .none) (hcl : s.vm.findClass E = some ce.cls)
    (kk : W p l e R s m args below meth c H locs cells slots Q (F0 m x.handlerPc ls [.ref q])) : vx_W p l e R s m args below meth c H locs cells slots Q (F0 m pc ls rest) q := by
  intro T hT X
  have hpl : e.platform.magicAccessors = ({} : Platform).magicAccessors := by rw [X.admits.platform]
  obtain ⟨c3, c4, hc3, hc4, hasg⟩ := Cond.castable_spec hcast
  cases Option.some.inj (hc3.symm.trans hcl)
  obtain ⟨c5, hc5, hcl5⟩ := Cond.classLink_spec hown hlink e.platform hpl
  cases Option.some.inj (hc4.symm.trans hc5)
  obtain ⟨vm', X', st⟩ := X.thenCaughtThrough q (g := F0 m pc ls rest) rfl (Steps.refl _) (by rw [hT]; exact hcell) (by rw [hv]; rfl) (by obtain ⟨k9, h9, -⟩ := Vm.findClass_spec hcl; exact ⟨k9, h9⟩) pre x suf hsplit
    (fun z hz => by
      rcases hpass z hz with h | ⟨hz0, nm, hl1, hn1⟩
      · exact Or.inl h
      · obtain ⟨c6, hc6, hcl6⟩ := Cond.classLink_spec hown hl1 e.platform hpl
        obtain ⟨a8, b8, h1, h2, h3⟩ := hn1
        cases Option.some.inj (h1.symm.trans hcl)
        cases Option.some.inj (h2.symm.trans hc6)
        exact Or.inr ⟨hz0, _, hcl6, h3⟩) hx (Or.inr ⟨h0, c4, hcl5, hasg⟩)
  obtain ⟨t, a1, b1⟩ := kk (T.setVm vm') hT X'
  exact ⟨t, st.trans a1, b1⟩
end Rows
section Ends
variable {p : Program} {l : Launch} {e : Env} {R : Room} {s : State} {m : MethodId} {args : Array Value} {below : List Frame} {meth : Method} {c : Code} {H : Heap} {locs : List Loc} {cells slots : Nat} {Q : State → Prop}
variable {mc ms : Nat} {free : Addr → Prop} {A0 A1 : Nat → Prop} {H0 : Heap} {a : Array Value} {ls : Array Slot} {st0 rest : List Value}
variable {Qc : Array Value → State → Outcome → State → Prop} {XC : String → State → State → Prop}
/-- what a body that may throw owes at its end -/
def vx_MQ (below : List Frame) (Qc : Array Value → State → Outcome → State → Prop) (XC : String → State → State → Prop) (a : Array Value) (s : State) (mc ms : Nat) (free : Addr → Prop) : State → Prop := fun t =>
  ∃ o, t.status = .running ∧ Ended t below o ∧ vx_Q Qc XC mc ms free a s o t
theorem vx_ret {g : JFrame} {mc ms : Nat} (k : W p l e R s m args below meth c H locs cells slots (MQ below Qc args s mc ms free) g) : W p l e R s m args below meth c H locs cells slots (vx_MQ below Qc XC args s mc ms free) g := by
  intro T hT X
  obtain ⟨t, a1, o, b1, b2, b3, b4⟩ := k T hT X
  exact ⟨t, a1, o, b1, b2, Or.inl ⟨b3, b4⟩⟩
/-- not caught here: it goes on to the caller -/
theorem vx_widen {g : JFrame} {q : Addr} {k n : Nat} (h1 : cells ≤ k) (h2 : slots ≤ n) (kk : vx_W p l e R s m args below meth c H locs k n Q g q) : vx_W p l e R s m args below meth c H locs cells slots Q g q := fun T hT X => kk T hT (stand_widen X h1 h2)
theorem vx_out {pc : Nat} {E : String} {ce : Cell} {q : Addr} {mc ms : Nat} (hout : ∀ x ∈ c.exceptionTable.toList, covers x pc = false) (hlocks : meth.locks = false) (hcell : H[q]? = some ce) (hv : ce.vm = .none) (hcl : s.vm.findClass E = some ce.cls)
    (hx : ∀ t : State, t.heap = H → s.vm.Alike t.vm → XC E s t) (hf : ∀ z ∈ locs, free z.base) (hc : cells ≤ mc) (hs : slots ≤ ms) :
    vx_W p l e R s m args below meth c H locs cells slots (vx_MQ below Qc XC args s mc ms free) (F0 m pc ls rest) q := by
  intro T hT X
  obtain ⟨st1, hrun, hend, hW, hsm⟩ := X.leaveThrown q (g := F0 m pc ls rest) rfl rfl rfl hout hlocks
  have hcell9 : (T.setFrames (.throwing q :: below)).heap[q]? = some ce := by
    show T.heap[q]? = some ce
    rw [hT]; exact hcell
  exact ⟨_, st1, .threw q, hrun, hend, Or.inr ⟨q, rfl, E, ce, locs, hx _ hT hW.alike, hcell9, hv, hcl, hW, hsm.mono hc hs, hf⟩⟩
theorem vx_frame {U : State} {k n : Nat} (h : s.sameButNew ({ U with vm := s.vm } : State) locs k n) : s.heap.size ≤ U.heap.size ∧ ∀ q : Nat, q < s.heap.size → (∀ z ∈ locs, z.base ≠ q) → U.heap[q]? = s.heap[q]? := by
  obtain ⟨-, h2, -, -, -, h6⟩ := h
  refine ⟨h2, fun q hq hz => ?_⟩
  obtain ⟨c9, e1, e2, e3, e4⟩ := h6 q _ (Array.getElem?_eq_getElem hq)
  have hs : c9.slots = (s.heap[q]).slots := Array.ext_getElem? fun i => e4 i fun hm => hz _ hm rfl
  have h9 : c9 = s.heap[q] := by
    rw [hs] at e2
    exact e2
  have e5 : U.heap[q]? = some c9 := e1
  rw [e5, h9, Array.getElem?_eq_getElem hq]
/-- the words of a throw but the four that speak of the heap -/
def vx_no (w : Cond) : Bool := decide (w ≠ .isRef (.static Bundle.tN "UNASSIGNED_STACK" Bundle.steD)) && decide (w ≠ .isRef (.static Bundle.tN "SUPPRESSED_SENTINEL" Bundle.listD)) && decide (w ≠ .laysStatic Bundle.tN "UNASSIGNED_STACK" Bundle.steD) && decide (w ≠ .laysStatic Bundle.tN "SUPPRESSED_SENTINEL" Bundle.listD)
def vx_at0 (own : String) (ic : Nat) (X : String) (names : List String) : List Cond := (Bundle.ownAtoms0 own ic X names).filter vx_no
def vx_atS (own : String) (ic : Nat) (X : String) (names : List String) : List Cond := (Bundle.ownAtoms own ic X names).filter vx_no
/-- a word that the tables alone decide, or a good one -/
def vx_ot (w : Cond) : Bool := w.onTables || goodWord w
theorem vx_ot_at {args a' : Array Value} {s U : State} {w : Cond} (hW : s.WarmedH U.vm) (hvm : s.vm = U.vm) (hg : vx_ot w = true) (h : w.before args s = true) : w.before a' U = true := by
  simp only [vx_ot, Bool.or_eq_true] at hg
  rcases hg with hg | hg
  · exact va_tabs hg hvm h
  · exact word_at hW (good_of_word hg) h
/-- a list's words: the good ones out of the method's own list, the others by premises of their own -/
theorem vx_hat {args : Array Value} {s : State} {L B : List Cond} (h1 : ∀ w ∈ L.filter goodWord, w.before args s = true) (h2 : ∀ w ∈ L.filter (fun w => !goodWord w), w ∈ B) (h3 : ∀ w ∈ B, w.before args s = true) : ∀ w ∈ L, w.before args s = true := by
  intro w hw
  by_cases g : goodWord w = true
  · exact h1 w (List.mem_filter.mpr ⟨hw, g⟩)
  · refine h3 w (h2 w (List.mem_filter.mpr ⟨hw, ?_⟩))
    show (!goodWord w) = true
    cases hgw : goodWord w
    · rfl
    · exact absurd hgw g
theorem vx_c {args : Array Value} {s : State} {w : Cond} {B : List Cond} (h : w.before args s = true) (t : ∀ w ∈ B, w.before args s = true) : ∀ w' ∈ w :: B, w'.before args s = true := fun w' h' => (List.mem_cons.mp h').elim (fun e => by rw [e]; exact h) (t w')
theorem vx_n {args : Array Value} {s : State} : ∀ w ∈ ([] : List Cond), w.before args s = true := fun _ h => nomatch h
theorem vx_own {args : Array Value} {s : State} {L : List Cond} (h1 : ∀ w ∈ L.filter vx_no, w.before args s = true)
    (hU : (Cond.isRef (.static Bundle.tN "UNASSIGNED_STACK" Bundle.steD)).before args s = true) (hN : (Cond.isRef (.static Bundle.tN "SUPPRESSED_SENTINEL" Bundle.listD)).before args s = true)
    (lU : (Cond.laysStatic Bundle.tN "UNASSIGNED_STACK" Bundle.steD).before args s = true) (lN : (Cond.laysStatic Bundle.tN "SUPPRESSED_SENTINEL" Bundle.listD).before args s = true) : ∀ w ∈ L, w.before args s = true := by
  intro w hw
  by_cases e1 : w = .isRef (.static Bundle.tN "UNASSIGNED_STACK" Bundle.steD)
  · rw [e1]; exact hU
  · by_cases e2 : w = .isRef (.static Bundle.tN "SUPPRESSED_SENTINEL" Bundle.listD)
    · rw [e2]; exact hN
    · by_cases e3 : w = .laysStatic Bundle.tN "UNASSIGNED_STACK" Bundle.steD
      · rw [e3]; exact lU
      · by_cases e4 : w = .laysStatic Bundle.tN "SUPPRESSED_SENTINEL" Bundle.listD
        · rw [e4]; exact lN
        · exact h1 w (List.mem_filter.mpr ⟨hw, by unfold vx_no; rw [decide_eq_true e1, decide_eq_true e2, decide_eq_true e3, decide_eq_true e4]; rfl⟩)
/-- where a static field lies, its class's statics cell in H -/
def vx_L (C n d : String) (A : Nat → Prop) (U : State) (H : Heap) : Prop := ∃ (c : ClassId) (k : Class) (i : Nat) (f : Field) (a : Nat) (cell : Cell), U.vm.findClass C = some c ∧ U.fieldFound? C n d = some (c, k, i, f) ∧ f.isStatic = true ∧ k.statics = some a ∧ H[a]? = some cell ∧ cell.vm.isStatics = true ∧ cell.cls = c ∧ f.slot < cell.slots.size ∧ k.staticTypes[f.slot]? = some f.type ∧ ¬ A a
theorem vx_L.moved {C n d : String} {A : Nat → Prop} {u U : State} {H : Heap} (hvm : u.vm.Alike U.vm) (h : vx_L C n d A u H) : vx_L C n d A U H := by
  obtain ⟨c, k, i, f, a, cell, h1, h2, h3, h4, h5, h6, h7, h8, h9, h10⟩ := h
  obtain ⟨k', hi', he⟩ := State.fieldFound?_setVm hvm h2
  exact ⟨c, k', i, f, a, cell, by rw [hvm.findClass]; exact h1, hi', h3, by rw [he]; exact h4, h5, h6, h7, h8, by rw [he]; exact h9, h10⟩
theorem vx_L.kept {C n d : String} {A : Nat → Prop} {U : State} {H H1 : Heap} (h : vx_L C n d A U H) (hq : ∀ a : Nat, a < H.size → ¬ A a → H1[a]? = H[a]?) : vx_L C n d A U H1 := by
  obtain ⟨c, k, i, f, a, cell, h1, h2, h3, h4, h5, h6, h7, h8, h9, h10⟩ := h
  exact ⟨c, k, i, f, a, cell, h1, h2, h3, h4, by rw [hq a (Array.getElem?_eq_some_iff.mp h5).1 h10]; exact h5, h6, h7, h8, h9, h10⟩
theorem vx_L.narrow {C n d : String} {A B : Nat → Prop} {U : State} {H : Heap} (h : vx_L C n d A U H) (hAB : ∀ q, B q → A q) : vx_L C n d B U H := by
  obtain ⟨c, k, i, f, a, cell, h1, h2, h3, h4, h5, h6, h7, h8, h9, h10⟩ := h
  exact ⟨c, k, i, f, a, cell, h1, h2, h3, h4, h5, h6, h7, h8, h9, fun z => h10 (hAB _ z)⟩
theorem vx_L.word {C n d : String} {A : Nat → Prop} {s : State} {args : Array Value} (h : vx_L C n d A s s.heap) : (Cond.laysStatic C n d).before args s = true := by
  obtain ⟨c, k, i, f, a, cell, h1, h2, h3, h4, h5, h6, h7, h8, h9, -⟩ := h
  show (Cond.laysStatic C n d).holds args s none s [] = true
  exact Cond.laysStatic_of h1 h2 h3 h4 h5 h6 h7 h8 h9
/-- .. and what it holds: null or some reference -/
def vx_Zq (C n d : String) (A : Nat → Prop) (U : State) (H : Heap) : Prop := va_Zq C n d A U H ∧ vx_L C n d A U H
theorem vx_Zq.moved {C n d : String} {A : Nat → Prop} {u U : State} {H : Heap} (hvm : u.vm.Alike U.vm) (h : vx_Zq C n d A u H) : vx_Zq C n d A U H := ⟨va_Zq.moved hvm h.1, vx_L.moved hvm h.2⟩
theorem vx_Zq.kept {C n d : String} {A : Nat → Prop} {U : State} {H H1 : Heap} (h : vx_Zq C n d A U H) (hq : ∀ a : Nat, a < H.size → ¬ A a → H1[a]? = H[a]?) : vx_Zq C n d A U H1 := ⟨va_Zq.kept h.1 hq, vx_L.kept h.2 hq⟩
theorem vx_Zq.narrow {C n d : String} {A B : Nat → Prop} {U : State} {H : Heap} (h : vx_Zq C n d A U H) (hAB : ∀ q, B q → A q) : vx_Zq C n d B U H := ⟨va_Zq.narrow h.1 hAB, vx_L.narrow h.2 hAB⟩
theorem vx_Zqof {args : Array Value} {s : State} {C n d : String} {A : Nat → Prop} (hl : (Cond.laysStatic C n d).before args s = true) (hini : (Cond.initialized C).before args s = true) (h : (Cond.isRef (.static C n d)).before args s = true) (hA : ∀ a : Nat, a < s.heap.size → ¬ A a) : vx_Zq C n d A s s.heap := by
  refine ⟨va_Zqof hl hini h hA, ?_⟩
  obtain ⟨c, k, i, f, a, cell, h1, h2, h3, h4, h5, h6, h7, h8, h9⟩ := Cond.laysStatic_spec hl
  exact ⟨c, k, i, f, a, cell, h1, h2, h3, h4, h5, h6, h7, h8, h9, hA a (Array.getElem?_eq_some_iff.mp h5).1⟩
theorem vx_isRef {C n d : String} {v : Value} {A : Nat → Prop} {s : State} {args : Array Value} (h : va_Z C n d v A s s.heap) (hv : v.isRef = true) : (Cond.isRef (.static C n d)).before args s = true := by
  obtain ⟨cf, kf, fi, f, a, cell, h1, h2, h3, h4, h5, h6, h7, -⟩ := h
  have he : (Term.static C n d).eval args s none [] s = some v := by
    simp [Term.eval, State.fieldNamed?, h1, h2, h4, h5, h6, h7]
  simp only [Cond.before, Cond.holds, Cond.value, he]
  cases v <;> simp_all [Value.isRef]
theorem vx_isRefq {C n d : String} {A : Nat → Prop} {s : State} {args : Array Value} (h : va_Zq C n d A s s.heap) : (Cond.isRef (.static C n d)).before args s = true := by
  rcases h with h | ⟨t, h⟩
  · exact vx_isRef h rfl
  · exact vx_isRef h rfl
/-- the same frame, seen from here: as if the method were called anew in this heap -/
theorem vx_rebase {T : State} (X : Stand p l e R s m args below meth c T locs cells slots) {R' : Room} (hf : R'.frames ≤ R.frames) (hl : R'.locals ≤ R.locals) (hc : cells + R'.cells ≤ R.cells) (hs : slots + R'.slots ≤ R.slots) :
    Stand p l e R' ((T.setVm s.vm).setFrames (.invoking m args :: below)) m args below meth c T [] 0 0 := by
  have htop : (T.setVm s.vm).topJava?.isSome := X.here.top
  have hF : ((T.setVm s.vm).setFrames (.invoking m args :: below)).frames = .invoking m args :: below := State.frames_setFrames _ (State.cur_lt_of_top htop)
  obtain ⟨g₀, hg0⟩ := Option.isSome_iff_exists.mp htop
  obtain ⟨r, hr⟩ := State.topJava?_eq_some.mp hg0
  have hl9 : e.platform.stackLimits (T.setVm s.vm).me = e.platform.stackLimits s.me := X.limits
  have hb9 : (T.setVm s.vm).me.stackBytes = s.me.stackBytes := X.bytes
  refine ⟨X.admits, X.cas, X.clock, hF, ?_, X.hears, X.method, X.code, X.here, X.tail, X.warmed, ?_, ?_, ?_⟩
  · have h := X.room
    have hU : ((T.setVm s.vm).setFrames (.invoking m args :: below)).localsInUse = s.localsInUse := by
      rw [State.localsInUse_invoking hF (meth := meth) (c := c) X.method X.code, State.localsInUse_invoking X.frames X.method X.code]
    simp only [State.hasRoom, Bool.and_eq_true, decide_eq_true_eq] at h ⊢
    obtain ⟨⟨⟨⟨h1, h2, h3, h4, h5, h6⟩, h7⟩, h8⟩, h9⟩ := h
    rw [X.frames, List.length_cons] at h2 h3
    have q1 := X.heapSize
    have q2 := X.used
    simp only [hF, hU, List.length_cons, State.stackLimits_setFrames, State.stackBytes_setFrames, hl9, hb9]
    refine ⟨⟨⟨⟨by omega, by omega, by omega, by omega, by omega, h6⟩, ?_⟩, ?_⟩, X.book⟩
    · show T.heap.size + R'.cells ≤ e.platform.maxCells
      omega
    · show T.slotsUsed + R'.slots ≤ e.platform.maxSlots
      omega
  · rw [State.stackLimits_setFrames]; rfl
  · rw [State.stackBytes_setFrames]; rfl
  · refine ⟨?_, Nat.le_refl _, Nat.le_refl _, ?_, ?_, fun a c9 h9 => ⟨c9, h9, rfl, rfl, fun _ _ => rfl⟩⟩
    · obtain ⟨t, ht, -⟩ := State.frames_cons hr
      show T.setVm s.vm = { ((T.setVm s.vm).setFrames (.invoking m args :: below)).setFrames (T.setVm s.vm).frames with heap := T.heap, slotsUsed := T.slotsUsed }
      rw [State.setFrames_setFrames, State.setFrames_self ht]
      rfl
    · show T.slotsUsed = T.slotsUsed + ((T.heap.toList.drop T.heap.size).map (·.slots.size)).sum
      rw [List.drop_eq_nil_of_le (Nat.le_of_eq Array.length_toList)]
      rfl
    · show ((T.heap.toList.drop T.heap.size).map (·.slots.size)).sum ≤ 0
      rw [List.drop_eq_nil_of_le (Nat.le_of_eq Array.length_toList)]
      exact Nat.le_refl _
/-- 'throw new E()': new; dup; invokespecial; athrow -/
theorem vx_throw0 {cc : ByteArray} {pc : Nat} (hexec : p.tables.exec = Jvm.exec) (hb : c.code = cc) (hl : l.stackTraces = false) {own cls : String} {names : List String} {ik ic mc ms : Nat} {A : Nat → Prop}
    (hown : s.vm.findClass own = some m.cls) (hcls : Bundle.fit cls = true) (hnames : ∀ n ∈ names, Bundle.fit n = true)
    (hk : (Cond.classLink own ik cls).before args s = true) (hini : (Cond.initialized cls).before args s = true) (hat : ∀ w ∈ vx_at0 own ic cls names, w.before args s = true)
    (hgood : ∀ w ∈ Cond.classLink own ik cls :: Cond.initialized cls :: vx_at0 own ic cls names, vx_ot w = true)
    (hU : vx_Zq Bundle.tN "UNASSIGNED_STACK" Bundle.steD A s s.heap) (hN : vx_Zq Bundle.tN "SUPPRESSED_SENTINEL" Bundle.listD A s s.heap) (hS : va_S A s.heap H locs) (hsize : ls.size = c.maxLocals)
    (d0 : decode cc pc = .ok (.new ik, 3)) (d3 : decode cc (pc + 3) = .ok (.dup, 1)) (d4 : decode cc (pc + 4) = .ok (.invokespecial ic, 3)) (d7 : decode cc (pc + 7) = .ok (.athrow, 1))
    (hout : ∀ x ∈ c.exceptionTable.toList, covers x (pc + 7) = false)
    (hRframes : names.length + 3 < R.frames) (hRlocals : (rest.map fun v => v.category).sum + (13 * (names.length + 1) + 42) ≤ R.locals) (hRcells : cells + 1 ≤ R.cells) (hRslots : slots + 6 ≤ R.slots) (hlocks : meth.locks = false)
    (hx : ∀ t : State, s.vm.Alike t.vm → H.size ≤ t.heap.size → (∀ q : Nat, q < H.size → t.heap[q]? = H[q]?) → XC cls s t)
    (hf : ∀ z ∈ locs, free z.base) (hc : cells + 1 ≤ mc) (hs : slots + 6 ≤ ms) :
    W p l e R s m args below meth c H locs cells slots (vx_MQ below Qc XC args s mc ms free) (F0 m pc ls rest) := by
  intro T hT X
  have htr : e.platform.stackTraces = false := (show e.platform.stackTraces = l.stackTraces by rw [X.admits.platform]).trans hl
  have Y := vx_rebase X (R' := { frames := R.frames, locals := R.locals, cells := 1, slots := 6 }) (Nat.le_refl _) (Nat.le_refl _) hRcells hRslots
  obtain ⟨s', hA⟩ : ∃ z, z = (T.setVm s.vm).setFrames (.invoking m args :: below) := ⟨_, rfl⟩
  rw [← hA] at Y
  have hvm : s'.vm = s.vm := by rw [hA]; rfl
  have hhp : s'.heap = H := by rw [hA]; exact hT
  have hW0 : s.WarmedH s'.vm := by rw [hvm]; exact State.WarmedH.refl s
  have hat' : ∀ w ∈ vx_at0 own ic cls names, w.before args s' = true := fun w hw => vx_ot_at hW0 hvm.symm (hgood w (List.mem_cons_of_mem _ (List.mem_cons_of_mem _ hw))) (hat w hw)
  have hk' : (Cond.classLink own ik cls).before args s' = true := vx_ot_at hW0 hvm.symm (hgood _ List.mem_cons_self) hk
  have hini' : (Cond.initialized cls).before args s' = true := vx_ot_at hW0 hvm.symm (hgood _ (List.mem_cons_of_mem _ List.mem_cons_self)) hini
  have hU' : vx_Zq Bundle.tN "UNASSIGNED_STACK" Bundle.steD A s' s'.heap := by rw [hhp]; exact vx_Zq.moved hW0.alike (hU.kept hS.2.1)
  have hN' : vx_Zq Bundle.tN "SUPPRESSED_SENTINEL" Bundle.listD A s' s'.heap := by rw [hhp]; exact vx_Zq.moved hW0.alike (hN.kept hS.2.1)
  have h : ∀ w ∈ Bundle.ownAtoms0 own ic cls names, w.before args s' = true := vx_own hat' (vx_isRefq hU'.1) (vx_isRefq hN'.1) hU'.2.word hN'.2.word
  have hown' : s'.vm.findClass own = some m.cls := by rw [hvm]; exact hown
  have hins : (Cond.instantiable cls 6).before args s' = true := h _ (by simp [Bundle.ownAtoms0])
  obtain ⟨vm₁, cX, kX, hfX, hkX, -, -, X₁, st1⟩ := Y.newCold hexec (own := own) (C := cls) (index := ik) (n := 6) hown' hk' hins hini'
    (g := F0 m pc ls rest) rfl (by rw [hb]; exact d0) (Nat.le_refl _) (Nat.le_refl _)
  generalize hT1 : (T.setVm vm₁).pushCell { cls := cX, slots := kX.instanceTypes.map defaultValue, vm := .none } = T1 at X₁ st1
  have hcat : (Value.ref T.heap.size).category = 1 := rfl
  have hcellA : T1.heap[T.heap.size]? = some (freshCell cX kX) := by rw [← hT1]; exact State.heap_pushCell_size _ _
  have d3' : decode c.code (pc + 3) = .ok (.dup, 1) := by rw [hb]; exact d3
  obtain ⟨U, hsteps, hrun, hend, hW, hsame, ce, hce, hO⟩ := X₁.ctorThrow0 hexec htr (own := own) (cls := cls) (names := names) (ic := ic) hown' hcls hnames h (fun x hx => nomatch hx) hfX hkX hcellA (by rw [hhp, hT]; exact Nat.le_refl _)
    (g := { method := m, pc := pc + 4, locals := ls, stack := .ref T.heap.size :: .ref T.heap.size :: rest, locked := none }) rfl hsize rfl rfl (rest := rest) rfl
    (by rw [hb]; exact d4) (by rw [hb]; exact d7) hout hRframes (by simp only [List.map_cons, List.sum_cons, hcat]; omega) hlocks
  obtain ⟨f1, f2⟩ := vx_frame hsame
  rw [hhp] at f1 f2
  have hWs : s.WarmedH U.vm := State.WarmedH.trans hW0 hW
  have hcl : s.vm.findClass cls = some ce.cls := by
    have h9 := hO.cls
    rw [hvm] at h9
    exact h9
  have hall : s.sameButNew ({ U with vm := s.vm } : State) locs mc ms := by
    subst hA
    obtain ⟨e1, e2⟩ := hsame
    rw [State.setFrames_setFrames] at e1
    have h2 : (T.setVm s.vm).sameButNew ({ U with vm := s.vm } : State) [] (0 + 1) (0 + 6) := ⟨e1, e2⟩
    have h3 := X.same.trans h2
    rw [List.append_nil] at h3
    exact h3.mono hc hs
  refine ⟨U, ?_, .threw T.heap.size, hrun, hend, Or.inr ⟨T.heap.size, rfl, cls, ce, locs, hx U hWs.alike f1 (fun q hq => f2 q hq (fun z hz => nomatch hz)), hce, hO.vm, hcl, hWs, hall, hf⟩⟩
  refine st1 _ ?_
  show Steps p.tables e below (T1.setTop { method := m, pc := pc + 3, locals := ls, stack := .ref T.heap.size :: rest, locked := none }) _
  jvm_step X₁.here [X₁.here.top, hexec, d3', Value.category]
  exact hsteps
/-- 'throw new E("text")': new; dup; ldc; invokespecial; athrow -/
theorem vx_throwS {cc : ByteArray} {pc : Nat} (hexec : p.tables.exec = Jvm.exec) (hb : c.code = cc) (hl : l.stackTraces = false) {own cls text : String} {names : List String} {ik is ic mc ms sa : Nat} {A : Nat → Prop}
    (hown : s.vm.findClass own = some m.cls) (hcls : Bundle.fit cls = true) (hnames : ∀ n ∈ names, Bundle.fit n = true)
    (hk : (Cond.classLink own ik cls).before args s = true) (hini : (Cond.initialized cls).before args s = true) (hstr : vk_R own is text sa s) (hat : ∀ w ∈ vx_atS own ic cls names, w.before args s = true)
    (hgood : ∀ w ∈ Cond.classLink own ik cls :: Cond.initialized cls :: vx_atS own ic cls names, vx_ot w = true)
    (hU : vx_Zq Bundle.tN "UNASSIGNED_STACK" Bundle.steD A s s.heap) (hN : vx_Zq Bundle.tN "SUPPRESSED_SENTINEL" Bundle.listD A s s.heap) (hS : va_S A s.heap H locs) (hsize : ls.size = c.maxLocals)
    (d0 : decode cc pc = .ok (.new ik, 3)) (d3 : decode cc (pc + 3) = .ok (.dup, 1)) (d4 : decode cc (pc + 4) = .ok (.ldc is, 2)) (d6 : decode cc (pc + 6) = .ok (.invokespecial ic, 3)) (d9 : decode cc (pc + 9) = .ok (.athrow, 1))
    (hout : ∀ x ∈ c.exceptionTable.toList, covers x (pc + 9) = false)
    (hRframes : names.length + 3 < R.frames) (hRlocals : (rest.map fun v => v.category).sum + (13 * (names.length + 1) + 43) ≤ R.locals) (hRcells : cells + 1 ≤ R.cells) (hRslots : slots + 6 ≤ R.slots) (hlocks : meth.locks = false)
    (hx : ∀ t : State, s.vm.Alike t.vm → H.size ≤ t.heap.size → (∀ q : Nat, q < H.size → t.heap[q]? = H[q]?) → XC cls s t)
    (hf : ∀ z ∈ locs, free z.base) (hc : cells + 1 ≤ mc) (hs : slots + 6 ≤ ms) :
    W p l e R s m args below meth c H locs cells slots (vx_MQ below Qc XC args s mc ms free) (F0 m pc ls rest) := by
  intro T hT X
  have htr : e.platform.stackTraces = false := (show e.platform.stackTraces = l.stackTraces by rw [X.admits.platform]).trans hl
  have Y := vx_rebase X (R' := { frames := R.frames, locals := R.locals, cells := 1, slots := 6 }) (Nat.le_refl _) (Nat.le_refl _) hRcells hRslots
  obtain ⟨s', hA⟩ : ∃ z, z = (T.setVm s.vm).setFrames (.invoking m args :: below) := ⟨_, rfl⟩
  rw [← hA] at Y
  have hvm : s'.vm = s.vm := by rw [hA]; rfl
  have hhp : s'.heap = H := by rw [hA]; exact hT
  have hW0 : s.WarmedH s'.vm := by rw [hvm]; exact State.WarmedH.refl s
  have hat' : ∀ w ∈ vx_atS own ic cls names, w.before args s' = true := fun w hw => vx_ot_at hW0 hvm.symm (hgood w (List.mem_cons_of_mem _ (List.mem_cons_of_mem _ hw))) (hat w hw)
  have hk' : (Cond.classLink own ik cls).before args s' = true := vx_ot_at hW0 hvm.symm (hgood _ List.mem_cons_self) hk
  have hini' : (Cond.initialized cls).before args s' = true := vx_ot_at hW0 hvm.symm (hgood _ (List.mem_cons_of_mem _ List.mem_cons_self)) hini
  have hU' : vx_Zq Bundle.tN "UNASSIGNED_STACK" Bundle.steD A s' s'.heap := by rw [hhp]; exact vx_Zq.moved hW0.alike (hU.kept hS.2.1)
  have hN' : vx_Zq Bundle.tN "SUPPRESSED_SENTINEL" Bundle.listD A s' s'.heap := by rw [hhp]; exact vx_Zq.moved hW0.alike (hN.kept hS.2.1)
  have h : ∀ w ∈ Bundle.ownAtoms own ic cls names, w.before args s' = true := vx_own hat' (vx_isRefq hU'.1) (vx_isRefq hN'.1) hU'.2.word hN'.2.word
  have hown' : s'.vm.findClass own = some m.cls := by rw [hvm]; exact hown
  have hins : (Cond.instantiable cls 6).before args s' = true := h _ (by simp [Bundle.ownAtoms])
  obtain ⟨vm₁, cX, kX, hfX, hkX, -, -, X₁, st1⟩ := Y.newCold hexec (own := own) (C := cls) (index := ik) (n := 6) hown' hk' hins hini'
    (g := F0 m pc ls rest) rfl (by rw [hb]; exact d0) (Nat.le_refl _) (Nat.le_refl _)
  generalize hT1 : (T.setVm vm₁).pushCell { cls := cX, slots := kX.instanceTypes.map defaultValue, vm := .none } = T1 at X₁ st1
  have hcat : (Value.ref T.heap.size).category = 1 := rfl
  have hcellA : T1.heap[T.heap.size]? = some (freshCell cX kX) := by rw [← hT1]; exact State.heap_pushCell_size _ _
  have d3' : decode c.code (pc + 3) = .ok (.dup, 1) := by rw [hb]; exact d3
  have d4' : decode c.code (pc + 4) = .ok (.ldc is, 2) := by rw [hb]; exact d4
  have hstr' : vk_R own is text sa s' := vk_R.warm hW0 hstr
  obtain ⟨U, hsteps, hrun, hend, hW, hsame, ce, hce, hO⟩ := X₁.ctorThrowS hexec htr (own := own) (cls := cls) (names := names) (ic := ic) hown' hcls hnames h (fun x hx => nomatch hx) hfX hkX hcellA (by rw [hhp, hT]; exact Nat.le_refl _) (msg := .ref sa) rfl
    (g := { method := m, pc := pc + 6, locals := ls, stack := .ref sa :: .ref T.heap.size :: .ref T.heap.size :: rest, locked := none }) rfl hsize rfl rfl (rest := rest) rfl
    (by rw [hb]; exact d6) (by rw [hb]; exact d9) hout hRframes (by simp only [List.map_cons, List.sum_cons, hcat]; omega) hlocks
  obtain ⟨f1, f2⟩ := vx_frame hsame
  rw [hhp] at f1 f2
  have hWs : s.WarmedH U.vm := State.WarmedH.trans hW0 hW
  have hcl : s.vm.findClass cls = some ce.cls := by
    have h9 := hO.cls
    rw [hvm] at h9
    exact h9
  have hall : s.sameButNew ({ U with vm := s.vm } : State) locs mc ms := by
    subst hA
    obtain ⟨e1, e2⟩ := hsame
    rw [State.setFrames_setFrames] at e1
    have h2 : (T.setVm s.vm).sameButNew ({ U with vm := s.vm } : State) [] (0 + 1) (0 + 6) := ⟨e1, e2⟩
    have h3 := X.same.trans h2
    rw [List.append_nil] at h3
    exact h3.mono hc hs
  refine ⟨U, ?_, .threw T.heap.size, hrun, hend, Or.inr ⟨T.heap.size, rfl, cls, ce, locs, hx U hWs.alike f1 (fun q hq => f2 q hq (fun z hz => nomatch hz)), hce, hO.vm, hcl, hWs, hall, hf⟩⟩
  refine st1 _ ?_
  show Steps p.tables e below (T1.setTop { method := m, pc := pc + 3, locals := ls, stack := .ref T.heap.size :: rest, locked := none }) _
  jvm_step X₁.here [X₁.here.top, hexec, d3', Value.category]
  exact X₁.ldcString hexec (own := own) (text := text) (index := is) (a := sa) hown' hstr'.1 hstr'.2
    (g := { method := m, pc := pc + 4, locals := ls, stack := .ref T.heap.size :: .ref T.heap.size :: rest, locked := none }) rfl d4' _ hsteps
/-- 'throw new E("text")', the text by a wide index -/
theorem vx_throwSW {cc : ByteArray} {pc : Nat} (hexec : p.tables.exec = Jvm.exec) (hb : c.code = cc) (hl : l.stackTraces = false) {own cls text : String} {names : List String} {ik is ic mc ms sa : Nat} {A : Nat → Prop}
    (hown : s.vm.findClass own = some m.cls) (hcls : Bundle.fit cls = true) (hnames : ∀ n ∈ names, Bundle.fit n = true)
    (hk : (Cond.classLink own ik cls).before args s = true) (hini : (Cond.initialized cls).before args s = true) (hstr : vk_R own is text sa s) (hat : ∀ w ∈ vx_atS own ic cls names, w.before args s = true)
    (hgood : ∀ w ∈ Cond.classLink own ik cls :: Cond.initialized cls :: vx_atS own ic cls names, vx_ot w = true)
    (hU : vx_Zq Bundle.tN "UNASSIGNED_STACK" Bundle.steD A s s.heap) (hN : vx_Zq Bundle.tN "SUPPRESSED_SENTINEL" Bundle.listD A s s.heap) (hS : va_S A s.heap H locs) (hsize : ls.size = c.maxLocals)
    (d0 : decode cc pc = .ok (.new ik, 3)) (d3 : decode cc (pc + 3) = .ok (.dup, 1)) (d4 : decode cc (pc + 4) = .ok (.ldc_w is, 3)) (d7 : decode cc (pc + 7) = .ok (.invokespecial ic, 3)) (d10 : decode cc (pc + 10) = .ok (.athrow, 1))
    (hout : ∀ x ∈ c.exceptionTable.toList, covers x (pc + 10) = false)
    (hRframes : names.length + 3 < R.frames) (hRlocals : (rest.map fun v => v.category).sum + (13 * (names.length + 1) + 43) ≤ R.locals) (hRcells : cells + 1 ≤ R.cells) (hRslots : slots + 6 ≤ R.slots) (hlocks : meth.locks = false)
    (hx : ∀ t : State, s.vm.Alike t.vm → H.size ≤ t.heap.size → (∀ q : Nat, q < H.size → t.heap[q]? = H[q]?) → XC cls s t)
    (hf : ∀ z ∈ locs, free z.base) (hc : cells + 1 ≤ mc) (hs : slots + 6 ≤ ms) :
    W p l e R s m args below meth c H locs cells slots (vx_MQ below Qc XC args s mc ms free) (F0 m pc ls rest) := by
  intro T hT X
  have htr : e.platform.stackTraces = false := (show e.platform.stackTraces = l.stackTraces by rw [X.admits.platform]).trans hl
  have Y := vx_rebase X (R' := { frames := R.frames, locals := R.locals, cells := 1, slots := 6 }) (Nat.le_refl _) (Nat.le_refl _) hRcells hRslots
  obtain ⟨s', hA⟩ : ∃ z, z = (T.setVm s.vm).setFrames (.invoking m args :: below) := ⟨_, rfl⟩
  rw [← hA] at Y
  have hvm : s'.vm = s.vm := by rw [hA]; rfl
  have hhp : s'.heap = H := by rw [hA]; exact hT
  have hW0 : s.WarmedH s'.vm := by rw [hvm]; exact State.WarmedH.refl s
  have hat' : ∀ w ∈ vx_atS own ic cls names, w.before args s' = true := fun w hw => vx_ot_at hW0 hvm.symm (hgood w (List.mem_cons_of_mem _ (List.mem_cons_of_mem _ hw))) (hat w hw)
  have hk' : (Cond.classLink own ik cls).before args s' = true := vx_ot_at hW0 hvm.symm (hgood _ List.mem_cons_self) hk
  have hini' : (Cond.initialized cls).before args s' = true := vx_ot_at hW0 hvm.symm (hgood _ (List.mem_cons_of_mem _ List.mem_cons_self)) hini
  have hU' : vx_Zq Bundle.tN "UNASSIGNED_STACK" Bundle.steD A s' s'.heap := by rw [hhp]; exact vx_Zq.moved hW0.alike (hU.kept hS.2.1)
  have hN' : vx_Zq Bundle.tN "SUPPRESSED_SENTINEL" Bundle.listD A s' s'.heap := by rw [hhp]; exact vx_Zq.moved hW0.alike (hN.kept hS.2.1)
  have h : ∀ w ∈ Bundle.ownAtoms own ic cls names, w.before args s' = true := vx_own hat' (vx_isRefq hU'.1) (vx_isRefq hN'.1) hU'.2.word hN'.2.word
  have hown' : s'.vm.findClass own = some m.cls := by rw [hvm]; exact hown
  have hins : (Cond.instantiable cls 6).before args s' = true := h _ (by simp [Bundle.ownAtoms])
  obtain ⟨vm₁, cX, kX, hfX, hkX, -, -, X₁, st1⟩ := Y.newCold hexec (own := own) (C := cls) (index := ik) (n := 6) hown' hk' hins hini'
    (g := F0 m pc ls rest) rfl (by rw [hb]; exact d0) (Nat.le_refl _) (Nat.le_refl _)
  generalize hT1 : (T.setVm vm₁).pushCell { cls := cX, slots := kX.instanceTypes.map defaultValue, vm := .none } = T1 at X₁ st1
  have hcat : (Value.ref T.heap.size).category = 1 := rfl
  have hcellA : T1.heap[T.heap.size]? = some (freshCell cX kX) := by rw [← hT1]; exact State.heap_pushCell_size _ _
  have d3' : decode c.code (pc + 3) = .ok (.dup, 1) := by rw [hb]; exact d3
  have d4' : decode c.code (pc + 4) = .ok (.ldc_w is, 3) := by rw [hb]; exact d4
  have hstr' : vk_R own is text sa s' := vk_R.warm hW0 hstr
  obtain ⟨U, hsteps, hrun, hend, hW, hsame, ce, hce, hO⟩ := X₁.ctorThrowS hexec htr (own := own) (cls := cls) (names := names) (ic := ic) hown' hcls hnames h (fun x hx => nomatch hx) hfX hkX hcellA (by rw [hhp, hT]; exact Nat.le_refl _) (msg := .ref sa) rfl
    (g := { method := m, pc := pc + 7, locals := ls, stack := .ref sa :: .ref T.heap.size :: .ref T.heap.size :: rest, locked := none }) rfl hsize rfl rfl (rest := rest) rfl
    (by rw [hb]; exact d7) (by rw [hb]; exact d10) hout hRframes (by simp only [List.map_cons, List.sum_cons, hcat]; omega) hlocks
  obtain ⟨f1, f2⟩ := vx_frame hsame
  rw [hhp] at f1 f2
  have hWs : s.WarmedH U.vm := State.WarmedH.trans hW0 hW
  have hcl : s.vm.findClass cls = some ce.cls := by
    have h9 := hO.cls
    rw [hvm] at h9
    exact h9
  have hall : s.sameButNew ({ U with vm := s.vm } : State) locs mc ms := by
    subst hA
    obtain ⟨e1, e2⟩ := hsame
    rw [State.setFrames_setFrames] at e1
    have h2 : (T.setVm s.vm).sameButNew ({ U with vm := s.vm } : State) [] (0 + 1) (0 + 6) := ⟨e1, e2⟩
    have h3 := X.same.trans h2
    rw [List.append_nil] at h3
    exact h3.mono hc hs
  refine ⟨U, ?_, .threw T.heap.size, hrun, hend, Or.inr ⟨T.heap.size, rfl, cls, ce, locs, hx U hWs.alike f1 (fun q hq => f2 q hq (fun z hz => nomatch hz)), hce, hO.vm, hcl, hWs, hall, hf⟩⟩
  refine st1 _ ?_
  show Steps p.tables e below (T1.setTop { method := m, pc := pc + 3, locals := ls, stack := .ref T.heap.size :: rest, locked := none }) _
  jvm_step X₁.here [X₁.here.top, hexec, d3', Value.category]
  exact X₁.ldcStringW hexec (own := own) (text := text) (index := is) (a := sa) hown' hstr'.1 hstr'.2
    (g := { method := m, pc := pc + 4, locals := ls, stack := .ref T.heap.size :: .ref T.heap.size :: rest, locked := none }) rfl d4' _ hsteps
end Ends
section Bodies
variable {l : Launch}
theorem vx_ofW {y : MethodName} {ws ws' : List Cond} {rm : Room} {Pc : Array Value → State → Prop} {Qc : Array Value → State → Outcome → State → Prop} {XC : String → State → State → Prop} {mc ms : Nat} {free : Addr → Prop} {cc : ByteArray} {maxL : Nat} {ret : Option FieldType}
    (hy : plainName y.cls = true) (hw : ws = Cond.code y cc maxL ret :: ws')
    (body : ∀ p e s m args below meth c s₁, BodyLoose p l y (headSpec ws rm) cc maxL ret e s m args below meth c s₁ → c.maxLocals = maxL → (∀ x ∈ c.exceptionTable.toList, False) → Pc args s →
      W p l e (headSpec ws rm).room s m args below meth c s.heap [] 0 0 (vx_MQ below Qc XC args s mc ms free) (entryFrame m args maxL)) : vx_Met l y ws rm Pc Qc XC mc ms free := by
  refine MetFree.of_bodyS (code := cc) (maxLocals := maxL) (ret := ret) hy ?_ ?_
  · intro args s m h hn
    obtain ⟨meth, c, h1, h2, h3, h4, h5, h6, -, -⟩ := Cond.code_spec hn (atoms_spec (ws := ws) h _ (by rw [hw]; exact List.mem_cons_self))
    exact ⟨meth, c, h1, h2, h3, h4, h5, h6⟩
  · intro p e s m args below meth c s₁ B hml hP _
    have hh0 : s₁.heap = s.heap := by rw [B.state]; rfl
    have ht : ∀ x ∈ c.exceptionTable.toList, False := by
      obtain ⟨meth9, c9, h1, h2, -, -, -, -, h7, -⟩ := Cond.code_spec B.named (atoms_spec (ws := ws) B.pre _ (by rw [hw]; exact List.mem_cons_self))
      cases Option.some.inj (h1.symm.trans B.method)
      cases Option.some.inj (h2.symm.trans (Stand.of_body B).code)
      intro x hx
      rw [Array.isEmpty_iff.mp h7] at hx
      cases hx
    obtain ⟨t, a1, o, b1, b2, b3⟩ := body p e s m args below meth c s₁ B hml ht hP s₁ hh0 (Stand.of_body B)
    exact ⟨t, o, a1, b1, b2, b3⟩
/-- the table of a body with handlers -/
theorem vx_table {p : Program} {x y : MethodName} {S : Spec} {cc bytes : ByteArray} {maxL maxL' : Nat} {ret ret' : Option FieldType} {e : Env} {s s₁ : State} {m : MethodId} {args : Array Value} {below : List Frame} {meth : Method} {c : Code} {hh : List (Nat × Nat × Nat × Nat)}
    (B : BodyLoose p l y S cc maxL ret e s m args below meth c s₁) (h : (Cond.codeWith y bytes maxL' ret' hh).before args s = true) : c.exceptionTable.toList = tableOf hh := by
  obtain ⟨m9, meth9, c9, hn9, h1, h2, -, -, h6, -⟩ := Cond.codeWith_spec h
  cases Option.some.inj (hn9.symm.trans B.named)
  cases Option.some.inj (h1.symm.trans B.method)
  cases Option.some.inj (h2.symm.trans (Stand.of_body B).code)
  rw [← h6, table_eq]
end Bodies
end VXA
/-! ===== END ===== -/
/-! ===== BEGIN a static call of a method with an exception table ===== -/
section VXS
variable {p : Program} {l : Launch} {e : Env} {R : Room} {s : State} {m : MethodId} {args : Array Value} {below : List Frame} {meth : Method} {c : Code} {T : State} {H : Heap} {locs : List Loc} {cells slots : Nat}
abbrev vx_CSW (R : Room) (s : State) (args : Array Value) (own : String) (index : Nat) (y : MethodName) (bytes : ByteArray) (maxL : Nat) (ret : Option FieldType) (hh : List (Nat × Nat × Nat × Nat)) (ws : List Cond) (rm : Room) (mc ms n : Nat) : Prop :=
  (rm.cells = mc ∧ rm.slots = ms ∧ rm.frames + 1 ≤ R.frames ∧ 8 + (maxL + 11) + rm.locals ≤ R.locals ∧ (∀ w ∈ ws, ∀ (a' : Array Value) (U : State), s.WarmedH U.vm → w.before a' U = true) ∧ Cond.codeWith y bytes maxL ret hh ∈ ws) ∧
  (Cond.codeWith y bytes maxL ret hh).before args s = true ∧ (Cond.initialized y.cls).before args s = true ∧ (y.cls ≠ "java/lang/invoke/MethodHandle" ∧ y.cls ≠ "java/lang/invoke/VarHandle") ∧
  (∀ sig, parseMethodDescriptor y.desc = some sig → n = sig.parameters.length) ∧ (Cond.methodLink own index y).before args s = true ∧ (Cond.static y).before args s = true
theorem vx_cwSW {own : String} {index maxL mc ms : Nat} {y : MethodName} {bytes : ByteArray} {ret : Option FieldType} {hh : List (Nat × Nat × Nat × Nat)} {Ts ws ws' : List Cond} {rm : Room} (n : Nat) (ht : ∀ w ∈ Ts, w.before args s = true) (hT : GoodIn Ts (va_wsS own index y ws)) (hw : ws = Cond.codeWith y bytes maxL ret hh :: ws') (hrc : rm.cells = mc) (hrs : rm.slots = ms)
    (hd : y.cls ≠ "java/lang/invoke/MethodHandle" ∧ y.cls ≠ "java/lang/invoke/VarHandle" ∧ (parseMethodDescriptor y.desc).map (fun d => d.parameters.length) = some n) (hR : rm.frames + 1 ≤ R.frames ∧ 8 + (maxL + 11) + rm.locals ≤ R.locals) :
    vx_CSW R s args own index y bytes maxL ret hh ws rm mc ms n := by
  have ok : ∀ w ∈ va_wsS own index y ws, w.before args s = true := fun w h => ht w (hT w h).1
  have hG : GoodIn Ts ws := fun w h => hT w (by unfold va_wsS; exact List.mem_append_right _ h)
  have hc : Cond.codeWith y bytes maxL ret hh ∈ ws := by rw [hw]; exact List.mem_cons_self
  refine ⟨⟨hrc, hrs, hR.1, hR.2, pay_in ht hG, hc⟩, ht _ (hG _ hc).1, ok _ (by simp [va_wsS]), ⟨hd.1, hd.2.1⟩, fun sig h => ?_, ok _ (by simp [va_wsS]), ok _ (by simp [va_wsS])⟩
  have h2 := hd.2.2
  rw [h] at h2
  exact (Option.some.inj h2).symm
theorem vx_callSW (X : Stand p l e R s m args below meth c T locs cells slots) (hexec : p.tables.exec = Jvm.exec) {own : String} {index : Nat} {y : MethodName} {bytes : ByteArray} {maxL : Nat} {ret : Option FieldType} {hh : List (Nat × Nat × Nat × Nat)}
    (hown : s.vm.findClass own = some m.cls) (hlink : (Cond.methodLink own index y).before args s = true) (hstat : (Cond.static y).before args s = true) (hinit : (Cond.initialized y.cls).before args s = true)
    (hcode : (Cond.codeWith y bytes maxL ret hh).before args s = true) (hy : y.cls ≠ "java/lang/invoke/MethodHandle" ∧ y.cls ≠ "java/lang/invoke/VarHandle")
    {W9 : Nat} {Pre : Pt → Array Value → Prop} {Post : Pt → Array Value → Option Value → Pt → Prop} (hK : Back l R p e below s args y 3 W9 Pre Post)
    {g : JFrame} (hg : g.method = m) (hsize : g.locals.size = c.maxLocals) {argsL rest : List Value} (hlen : ∀ sig, parseMethodDescriptor y.desc = some sig → argsL.length = sig.parameters.length)
    (hstack : g.stack = argsL.reverse ++ rest) (hW : 2 * g.monitorRoom + (rest.map fun v => v.category).sum ≤ W9) (hdg : decode c.code g.pc = .ok (.invokestatic index, 3))
    (hpre : ∀ vm₁, s.WarmedH vm₁ → Pre ⟨T.setVm vm₁, locs, cells, slots⟩ argsL.toArray) :
    ∃ (v : Option Value) (vm₁ : Vm) (B : Pt), s.WarmedH vm₁ ∧ Stand p l e R s m args below meth c B.U B.locs B.cells B.slots ∧ Post ⟨T.setVm vm₁, locs, cells, slots⟩ argsL.toArray v B ∧
      ∀ target, Steps p.tables e below (B.U.setTop { g with pc := g.pc + 3, stack := v.toList ++ rest }) target → Steps p.tables e below (T.setTop g) target := by
  obtain ⟨mk, methM, cM, hnamed, hmethM, -, -, -, -, -, -, hsigM⟩ := Cond.codeWith_spec hcode
  have hstatic : methM.isStatic = true := Cond.static_spec hnamed hmethM hstat
  obtain ⟨kP, hkP, -⟩ := className_of_methodNamed hnamed
  have hinitP : kP.init = .initialized := Cond.initialized_spec (findClass_of_methodNamed hnamed) hkP hinit
  obtain ⟨vm₁, X₁, hstep₁⟩ := X.invokestatic hexec hown hlink hnamed hmethM hstatic hkP hinitP hy (g := g) hg (argsL := argsL) (rest := rest) (hlen _ hsigM) hstack hdg
  obtain ⟨v, B, X', hpost, hsteps⟩ := hK m meth c ⟨T.setVm vm₁, locs, cells, slots⟩ { g with stack := rest } (.invokestatic index) mk argsL.toArray X₁ hg hsize hdg hW (X₁.named hnamed) (hpre vm₁ X₁.warmed)
  exact ⟨v, vm₁, B, X₁.warmed, X', hpost, fun target h => hstep₁ _ fun acts => by rw [doInvoke_state]; exact hsteps.trans h⟩
theorem vx_runSW {y : MethodName} {bytes cc : ByteArray} {maxL nL mc ms n index : Nat} {ret : Option FieldType} {hh : List (Nat × Nat × Nat × Nat)} {ws : List Cond} {rm : Room} {Pc : Array Value → State → Prop} {Qc : Array Value → State → Outcome → State → Prop} {free : Addr → Prop} {Ts : List Cond} {own : String} {As rest : List Value} {g : JFrame}
    (S : CallFix p m c cc nL s args Ts own) (hM : Met l y ws rm Pc Qc mc ms free) (cw : vx_CSW R s args own index y bytes maxL ret hh ws rm mc ms n) (hp : PreS s H Pc As)
    (hg : g.method = m) (hn : As.length = n) (hsize : g.locals.size = nL) (hstack : g.stack = As.reverse ++ rest) (hW : 2 * g.monitorRoom + (rest.map fun v => v.category).sum ≤ 8) (hdg : decode cc g.pc = .ok (.invokestatic index, 3)) (hf : cells + mc ≤ R.cells ∧ slots + ms ≤ R.slots) :
    va_Run p l e R s m args below meth c H locs cells slots mc ms g rest (Qc As.toArray) (free) := by
  obtain ⟨⟨hrc, hrs, hfr, hlo, hws, hcw⟩, hcode, hini, hy, hlen, hl, hstt⟩ := cw
  have hK : Back l R p e below s args y 3 8 (PreOf R mc ms Pc) (PostOf Qc mc ms free) := va_backW (hh := hh) (bytes := bytes) (maxL := maxL) (ret := ret) hM hp.1 hrc hrs hfr hlo hws hcw (fun a' U hW => word_at hW (Or.inl (by first | rfl | simp [Cond.onTables, Cond.keeps, Cond.steady])) hini)
  obtain ⟨hx, hb, hml, ho, -⟩ := S
  intro T hT X
  obtain ⟨v, vm₁, ⟨U', l2, c2, s2⟩, hW₁, X', ⟨g', mk, t, L, e1, e2, hq, h1, hL, h2, h3⟩, st⟩ := vx_callSW X hx (hh := hh) (bytes := bytes) (maxL := maxL) (ret := ret) ho hl hstt hini hcode hy hK hg (hsize.trans hml.symm) (argsL := As) (rest := rest) (fun sig h => hn.trans (hlen sig h)) hstack hW (by rw [hb]; exact hdg)
    (fun vm₁ hW₁ => ⟨hf.1, hf.2, hp.2 (T.setVm vm₁) hT hW₁⟩)
  dsimp only [Pt.U, Pt.locs, Pt.cells, Pt.slots] at X' e1 e2 h1 h2 h3 st
  subst h1; subst h2; subst h3
  exact ⟨v, (T.setVm vm₁).calling g' mk As.toArray, t, U', L, hT, X', hL, e1, e2, hq, st⟩
/-- not caught here, past rows that name other classes: it goes on to the caller -/
theorem vx_outP {p : Program} {l : Launch} {e : Env} {R : Room} {s : State} {m : MethodId} {args : Array Value} {below : List Frame} {meth : Method} {c : Code} {H : Heap} {locs : List Loc} {cells slots : Nat} {free : Addr → Prop} {ls : Array Slot} {rest : List Value} {Qc : Array Value → State → Outcome → State → Prop} {XC : String → State → State → Prop}
    {pc : Nat} {own E : String} {ce : Cell} {q : Addr} {mc ms : Nat} (hown : s.vm.findClass own = some m.cls) (hlocks : meth.locks = false)
    (hpass : ∀ z ∈ c.exceptionTable.toList, covers z pc = false ∨ (z.catchType ≠ 0 ∧ ∃ nm : String, (Cond.classLink own z.catchType nm).before args s = true ∧ va_Nc E nm s)) (hcell : H[q]? = some ce) (hv : ce.vm = .none) (hcl : s.vm.findClass E = some ce.cls)
    (hx : ∀ t : State, t.heap = H → s.vm.Alike t.vm → XC E s t) (hf : ∀ z ∈ locs, free z.base) (hc : cells ≤ mc) (hs : slots ≤ ms) :
    vx_W p l e R s m args below meth c H locs cells slots (vx_MQ below Qc XC args s mc ms free) (F0 m pc ls rest) q := by
  intro T hT X
  have hpl : e.platform.magicAccessors = ({} : Platform).magicAccessors := by rw [X.admits.platform]
  obtain ⟨vm', hW', X', st⟩ := X.outThrough hlocks q (g := F0 m pc ls rest) rfl rfl rfl (cell := ce) (by rw [hT]; exact hcell) (by rw [hv]; rfl)
    (by obtain ⟨k9, h9, -⟩ := Vm.findClass_spec hcl; exact ⟨k9, h9⟩) (fun z hz => by
      rcases hpass z hz with h | ⟨hz0, nm, hl1, hn1⟩
      · exact Or.inl h
      · obtain ⟨c6, hc6, hcl6⟩ := Cond.classLink_spec hown hl1 e.platform hpl
        obtain ⟨a8, b8, h1, h2, h3⟩ := hn1
        cases Option.some.inj (h1.symm.trans hcl)
        cases Option.some.inj (h2.symm.trans hc6)
        exact Or.inr ⟨hz0, _, hcl6, h3⟩)
  obtain ⟨g₀, hfr⟩ := X'.frames_eq
  have hcell9 : ((T.setVm vm').setFrames (.throwing q :: below)).heap[q]? = some ce := by
    show T.heap[q]? = some ce
    rw [hT]; exact hcell
  have hend : Ended ((T.setVm vm').setFrames (.throwing q :: below)) below (.threw q) := State.frames_setFrames _ (State.cur_lt_of_frames hfr)
  refine ⟨(T.setVm vm').setFrames (.throwing q :: below), ?_, .threw q, X'.here.running, hend, Or.inr ⟨q, rfl, E, ce, locs, hx _ hT (X'.ends _).1.alike, hcell9, hv, hcl, (X'.ends _).1, (X'.ends _).2.mono hc hs, hf⟩⟩
  rw [X.pushThrowing_eq]
  exact st
/-- a thing of a world lies in the heap -/
theorem vx_lt {D : va_G} {cl : List vw_C} {ws : va_W} {H1 : Heap} (h : va_P D cl ws H1) {k : Nat} {q : Nat × va_E} (hk : ws[k]? = some q) : q.1 < H1.size := (h k q hk).lt
end VXS
/-! ===== END ===== -/
/-! ===== BEGIN methods with a table of their own: called by a name, returning or throwing ===== -/
section VXH
/-! vx_backW, vx_callVX, vx_callSX, vx_callVW, vx_runVW, vx_runVX, vx_runSX, vx_ofWH follow the same proofs as their sisters above (Free/Laws.lean, Shelf42/LK1.lean); vx_outP calls Shelf42/NT130.lean (outThrough). -/
section
variable {l : Launch} {R : Room} {p : Program} {e : Env} {below : List Frame} {s : State} {sargs : Array Value} {y : MethodName} {len W9 : Nat}
theorem vx_backW {ws : List Cond} {rm : Room} {Pc : Array Value → State → Prop} {Qc : Array Value → State → Outcome → State → Prop} {XC : String → State → State → Prop} {mc ms : Nat} {free : Addr → Prop} {bytes : ByteArray} {maxL : Nat} {ret : Option FieldType} {hh : List (Nat × Nat × Nat × Nat)}
    (hM : vx_Met l y ws rm Pc Qc XC mc ms free) (hblind : FrameBlind Pc) (hrc : rm.cells = mc) (hrs : rm.slots = ms)
    (hframes : rm.frames + 1 ≤ R.frames) (hlocals : W9 + (maxL + 11) + rm.locals ≤ R.locals)
    (hws : ∀ w ∈ ws, ∀ a' U, s.WarmedH U.vm → w.before a' U = true) (hcode : Cond.codeWith y bytes maxL ret hh ∈ ws) (hinit : ∀ a' U, s.WarmedH U.vm → (Cond.initialized y.cls).before a' U = true) :
    vx_Back l R p e below s sargs y len W9 (PreOf R mc ms Pc) (PostOf Qc mc ms free) (vx_Post XC mc ms free) := by
  intro m meth c A g ig mk a X hg hsize hdg hW hn hp
  have h1 : (headSpec ws rm).pre.before a A.U = true := atoms_intro fun w hw => hws w hw _ _ X.warmed
  have h2 : (Cond.codeWith y bytes maxL ret hh).before a A.U = true := hws _ hcode _ _ X.warmed
  have h3 : (Cond.initialized y.cls).before a A.U = true := hinit _ _ X.warmed
  have h4 : A.cells + (headSpec ws rm).room.cells ≤ R.cells := by rw [show (headSpec ws rm).room.cells = mc from hrc]; exact hp.1
  have h5 : A.slots + (headSpec ws rm).room.slots ≤ R.slots := by rw [show (headSpec ws rm).room.slots = ms from hrs]; exact hp.2.1
  have hPc : Pc a (A.U.calling g mk a) := hblind _ _ _ _ hp.2.2
  obtain ⟨U, Ls, c0, s0⟩ := A
  dsimp only [Pt.U, Pt.locs, Pt.cells, Pt.slots] at h1 h2 h3 h4 h5 X hn hPc ⊢
  obtain ⟨m9, methY, cY, hn9, hmY, hcY, -, hlY, -⟩ := Cond.codeWith_spec h2
  cases Option.some.inj (hn9.symm.trans hn)
  obtain ⟨kY, hkY, -⟩ := className_of_methodNamed hn
  have hinitY : kY.init = .initialized := Cond.initialized_spec (findClass_of_methodNamed hn) hkY h3
  have h : At U g.method c below := by rw [hg]; exact X.here
  have hlocals9 : W9 + (maxL + 11) + (headSpec ws rm).room.locals ≤ R.locals := hlocals
  have happ : (headSpec ws rm).appliesLoose y e.platform (U.calling g mk a) = true :=
    Spec.appliesLoose_calling (g := g) h hdg hn hkY hinitY
      (X.room_calling (g := g) (R' := (headSpec ws rm).room) hsize hmY hcY hframes (by rw [hlY]; omega) h4 h5) h1
  obtain ⟨mid, hmid⟩ := h.above
  have hfr : (U.setTop g).frames = (.java g :: mid) ++ below := by rw [State.frames_setTop' g h.top, hmid]; rfl
  obtain ⟨o, s₂, hsteps, -, hend, hq⟩ := Steps.callFree hM p X.admits X.cas X.clock (acts := []) hfr happ hPc trivial
  have hq' : vx_Q Qc XC mc ms free a (U.calling g mk a) o s₂ := hq
  rw [State.frames_setTop' g h.top] at hend
  obtain ⟨g₀, hg0⟩ := Option.isSome_iff_exists.mp h.top
  obtain ⟨r, hr⟩ := State.topJava?_eq_some.mp hg0
  have hr' : (({ U with heap := s₂.heap, slotsUsed := s₂.slotsUsed } : State).setVm s₂.vm).frames = .java g₀ :: r := hr
  rcases hq' with ⟨hqc, L, hfe, hL⟩ | ⟨q, rfl, E, ce, L, hx, hce, hcv, hcl, hW₂, hsm, hL⟩
  · obtain ⟨⟨v, rfl⟩, hW₂, e2, q2, q3, q4, q5, q6⟩ := id hfe
    have e3 : s₂ = ({ (U.calling g mk a).setFrames s₂.frames with heap := s₂.heap, slotsUsed := s₂.slotsUsed } : State).setVm s₂.vm := by
      have : s₂ = ({ s₂ with vm := (U.calling g mk a).vm } : State).setVm s₂.vm := rfl
      rw [e2] at this
      exact this
    obtain ⟨c₂, i₂, len₂, hc₂, hd₂, hf₂⟩ := hend
    have hW' : U.WarmedH s₂.vm := hW₂
    have hcc : c₂ = c := by
      have h1 : s₂.code? g.method = U.code? g.method := by
        rw [State.code?_eq, State.code?_eq, hW'.alike.method?]
      exact Option.some.inj (hc₂.symm.trans (h1.trans h.code))
    subst hcc
    have hlen : len₂ = len := by rw [hdg] at hd₂; cases hd₂; rfl
    subst hlen
    have hs₂ : s₂ = (({ U with heap := s₂.heap, slotsUsed := s₂.slotsUsed } : State).setVm s₂.vm).setTop { g with pc := g.pc + len₂, stack := v.toList ++ g.stack } := by
      refine e3.trans ?_
      rw [hf₂, State.calling_eq h.top, State.setFrames_setFrames, State.setTop_of_frames _ hr', hr]
      rfl
    have hsame : U.sameButNew ({ U with heap := s₂.heap, slotsUsed := s₂.slotsUsed } : State) L mc ms := by
      refine ⟨?_, q2, q3, q4, q5, q6⟩
      obtain ⟨t, ht, -⟩ := State.frames_cons hr
      show ({ U with heap := s₂.heap, slotsUsed := s₂.slotsUsed } : State) = { U.setFrames U.frames with heap := s₂.heap, slotsUsed := s₂.slotsUsed }
      rw [State.setFrames_self ht]
    subst hg
    refine Or.inl ⟨v, ⟨(({ U with heap := s₂.heap, slotsUsed := s₂.slotsUsed } : State).setVm s₂.vm), Ls ++ L, c0 + mc, s0 + ms⟩,
      ⟨X.admits, X.cas, X.clock, X.frames, X.room, X.hears, X.method, X.code, (X.here.setHeapUsed s₂.heap s₂.slotsUsed).setVm hW'.alike, X.tail, State.WarmedH.trans X.warmed hW', X.limits, X.bytes, X.same.trans (hsame.setVm s.vm)⟩,
      ⟨g, mk, s₂, L, rfl, rfl, hqc, rfl, hL, rfl, rfl⟩, ?_⟩
    show Steps p.tables e below _ ((({ U with heap := s₂.heap, slotsUsed := s₂.slotsUsed } : State).setVm s₂.vm).setTop { g with pc := g.pc + len₂, stack := v.toList ++ g.stack })
    rw [← hs₂]
    exact hsteps
  · obtain ⟨e2, q2, q3, q4, q5, q6⟩ := id hsm
    have e3 : s₂ = ({ (U.calling g mk a).setFrames s₂.frames with heap := s₂.heap, slotsUsed := s₂.slotsUsed } : State).setVm s₂.vm := by
      have : s₂ = ({ s₂ with vm := (U.calling g mk a).vm } : State).setVm s₂.vm := rfl
      rw [e2] at this
      exact this
    have hf₂ : s₂.frames = .throwing q :: .java g :: U.frames.tail := hend
    have hW' : U.WarmedH s₂.vm := hW₂
    have hs₂ : s₂ = ((({ U with heap := s₂.heap, slotsUsed := s₂.slotsUsed } : State).setVm s₂.vm).setTop g).pushFrame (.throwing q) := by
      refine e3.trans ?_
      rw [hf₂, State.calling_eq h.top, State.setFrames_setFrames, State.pushFrame, State.frames_setTop _ hr', State.setTop_of_frames _ hr', State.setFrames_setFrames, hr]
      rfl
    have hsame : U.sameButNew ({ U with heap := s₂.heap, slotsUsed := s₂.slotsUsed } : State) L mc ms := by
      refine ⟨?_, q2, q3, q4, q5, q6⟩
      obtain ⟨t, ht, -⟩ := State.frames_cons hr
      show ({ U with heap := s₂.heap, slotsUsed := s₂.slotsUsed } : State) = { U.setFrames U.frames with heap := s₂.heap, slotsUsed := s₂.slotsUsed }
      rw [State.setFrames_self ht]
    subst hg
    refine Or.inr ⟨q, ⟨(({ U with heap := s₂.heap, slotsUsed := s₂.slotsUsed } : State).setVm s₂.vm), Ls ++ L, c0 + mc, s0 + ms⟩,
      ⟨X.admits, X.cas, X.clock, X.frames, X.room, X.hears, X.method, X.code, (X.here.setHeapUsed s₂.heap s₂.slotsUsed).setVm hW'.alike, X.tail, State.WarmedH.trans X.warmed hW', X.limits, X.bytes, X.same.trans (hsame.setVm s.vm)⟩,
      ⟨g, mk, s₂, L, E, ce, rfl, rfl, hx, hce, hcv, hcl, rfl, hL, rfl, rfl⟩, ?_⟩
    show Steps p.tables e below _ (((({ U with heap := s₂.heap, slotsUsed := s₂.slotsUsed } : State).setVm s₂.vm).setTop g).pushFrame (.throwing q))
    rw [← hs₂]
    exact hsteps
end
variable {p : Program} {l : Launch} {e : Env} {R : Room} {s : State} {m : MethodId} {args : Array Value} {below : List Frame} {meth : Method} {c : Code} {T : State} {H : Heap} {locs : List Loc} {cells slots : Nat}
theorem vx_callVX (X : Stand p l e R s m args below meth c T locs cells slots) (hexec : p.tables.exec = Jvm.exec) {own C : String} {index : Nat} {y : MethodName} {bytes : ByteArray} {maxL : Nat} {ret : Option FieldType} {hh : List (Nat × Nat × Nat × Nat)}
    (hown : s.vm.findClass own = some m.cls) (hlink : (Cond.methodLink own index y).before args s = true) (hinst : (Cond.instanceMethod y).before args s = true) (hsel : (Cond.selects C y y).before args s = true)
    (hcode : (Cond.codeWith y bytes maxL ret hh).before args s = true) (hy : y.cls ≠ "java/lang/invoke/MethodHandle" ∧ y.cls ≠ "java/lang/invoke/VarHandle")
    {W9 : Nat} {Pre : Pt → Array Value → Prop} {Post : Pt → Array Value → Option Value → Pt → Prop} {PostX : Pt → Array Value → Addr → Pt → Prop} (hK : vx_Back l R p e below s args y 3 W9 Pre Post PostX)
    {b : Addr} {cellB : Cell} (hcell : T.heap[b]? = some cellB) (hobj : cellB.vm.isStatics = false) (hcls : s.vm.findClass C = some cellB.cls)
    {g : JFrame} (hg : g.method = m) (hsize : g.locals.size = c.maxLocals) {argsL rest : List Value} (hlen : ∀ sig, parseMethodDescriptor y.desc = some sig → argsL.length = sig.parameters.length)
    (hstack : g.stack = argsL.reverse ++ .ref b :: rest) (hW : 2 * g.monitorRoom + (rest.map fun v => v.category).sum ≤ W9) (hdg : decode c.code g.pc = .ok (.invokevirtual index, 3))
    (hpre : ∀ vm₁, s.WarmedH vm₁ → Pre ⟨T.setVm vm₁, locs, cells, slots⟩ (Value.ref b :: argsL).toArray) :
    (∃ (v : Option Value) (vm₁ : Vm) (B : Pt), s.WarmedH vm₁ ∧ Stand p l e R s m args below meth c B.U B.locs B.cells B.slots ∧ Post ⟨T.setVm vm₁, locs, cells, slots⟩ (Value.ref b :: argsL).toArray v B ∧
      ∀ target, Steps p.tables e below (B.U.setTop { g with pc := g.pc + 3, stack := v.toList ++ rest }) target → Steps p.tables e below (T.setTop g) target) ∨
    (∃ (q : Addr) (vm₁ : Vm) (B : Pt), s.WarmedH vm₁ ∧ Stand p l e R s m args below meth c B.U B.locs B.cells B.slots ∧ PostX ⟨T.setVm vm₁, locs, cells, slots⟩ (Value.ref b :: argsL).toArray q B ∧
      Steps p.tables e below (T.setTop g) ((B.U.setTop { g with stack := rest }).pushFrame (.throwing q))) := by
  obtain ⟨mk, methM, hnamed, hmethM, hstM, habM⟩ := Cond.instanceMethod_spec hinst
  obtain ⟨m8, methM', cM, hn8, hmethM', -, -, -, -, -, -, hsigM⟩ := Cond.codeWith_spec hcode
  cases Option.some.inj (hn8.symm.trans hnamed)
  cases hmethM.symm.trans hmethM'
  obtain ⟨c2, r2, m2, q1, q2, q3, q4, kP, hkP, hkPi⟩ := Cond.selects_spec hsel
  cases hcls.symm.trans q1
  cases (State.methodFound?_of_named hnamed hy).symm.trans q2
  cases hnamed.symm.trans q3
  have hselP : selectMethod e.platform s.vm cellB.cls mk = .method mk := by rw [Launch.admits_selectMethod X.admits]; exact q4
  obtain ⟨vm₁, X₁, hstep₁⟩ := X.invokevirtual hexec hown hlink hnamed hmethM hstM hkP hkPi hy (a := b) (cell := cellB) hcell
    (fun z h => by rw [h] at hobj; cases hobj) hselP hmethM habM hkP hkPi (g := g) hg (argsL := argsL) (rest := rest) (hlen _ hsigM) hstack hdg
  rcases hK m meth c ⟨T.setVm vm₁, locs, cells, slots⟩ { g with stack := rest } (.invokevirtual index) mk (Value.ref b :: argsL).toArray X₁ hg hsize hdg hW (X₁.named hnamed) (hpre vm₁ X₁.warmed) with ⟨v, B, X', hpost, hsteps⟩ | ⟨q, B, X', hpost, hsteps⟩
  · exact Or.inl ⟨v, vm₁, B, X₁.warmed, X', hpost, fun target h => hstep₁ _ fun acts => by rw [doInvoke_state]; exact hsteps.trans h⟩
  · exact Or.inr ⟨q, vm₁, B, X₁.warmed, X', hpost, hstep₁ _ fun acts => by rw [doInvoke_state]; exact hsteps⟩
theorem vx_callSX (X : Stand p l e R s m args below meth c T locs cells slots) (hexec : p.tables.exec = Jvm.exec) {own : String} {index : Nat} {y : MethodName} {bytes : ByteArray} {maxL : Nat} {ret : Option FieldType} {hh : List (Nat × Nat × Nat × Nat)}
    (hown : s.vm.findClass own = some m.cls) (hlink : (Cond.methodLink own index y).before args s = true) (hstat : (Cond.static y).before args s = true) (hinit : (Cond.initialized y.cls).before args s = true)
    (hcode : (Cond.codeWith y bytes maxL ret hh).before args s = true) (hy : y.cls ≠ "java/lang/invoke/MethodHandle" ∧ y.cls ≠ "java/lang/invoke/VarHandle")
    {W9 : Nat} {Pre : Pt → Array Value → Prop} {Post : Pt → Array Value → Option Value → Pt → Prop} {PostX : Pt → Array Value → Addr → Pt → Prop} (hK : vx_Back l R p e below s args y 3 W9 Pre Post PostX)
    {g : JFrame} (hg : g.method = m) (hsize : g.locals.size = c.maxLocals) {argsL rest : List Value} (hlen : ∀ sig, parseMethodDescriptor y.desc = some sig → argsL.length = sig.parameters.length)
    (hstack : g.stack = argsL.reverse ++ rest) (hW : 2 * g.monitorRoom + (rest.map fun v => v.category).sum ≤ W9) (hdg : decode c.code g.pc = .ok (.invokestatic index, 3))
    (hpre : ∀ vm₁, s.WarmedH vm₁ → Pre ⟨T.setVm vm₁, locs, cells, slots⟩ argsL.toArray) :
    (∃ (v : Option Value) (vm₁ : Vm) (B : Pt), s.WarmedH vm₁ ∧ Stand p l e R s m args below meth c B.U B.locs B.cells B.slots ∧ Post ⟨T.setVm vm₁, locs, cells, slots⟩ argsL.toArray v B ∧
      ∀ target, Steps p.tables e below (B.U.setTop { g with pc := g.pc + 3, stack := v.toList ++ rest }) target → Steps p.tables e below (T.setTop g) target) ∨
    (∃ (q : Addr) (vm₁ : Vm) (B : Pt), s.WarmedH vm₁ ∧ Stand p l e R s m args below meth c B.U B.locs B.cells B.slots ∧ PostX ⟨T.setVm vm₁, locs, cells, slots⟩ argsL.toArray q B ∧
      Steps p.tables e below (T.setTop g) ((B.U.setTop { g with stack := rest }).pushFrame (.throwing q))) := by
  obtain ⟨mk, methM, cM, hnamed, hmethM, -, -, -, -, -, -, hsigM⟩ := Cond.codeWith_spec hcode
  have hstatic : methM.isStatic = true := Cond.static_spec hnamed hmethM hstat
  obtain ⟨kP, hkP, -⟩ := className_of_methodNamed hnamed
  have hinitP : kP.init = .initialized := Cond.initialized_spec (findClass_of_methodNamed hnamed) hkP hinit
  obtain ⟨vm₁, X₁, hstep₁⟩ := X.invokestatic hexec hown hlink hnamed hmethM hstatic hkP hinitP hy (g := g) hg (argsL := argsL) (rest := rest) (hlen _ hsigM) hstack hdg
  rcases hK m meth c ⟨T.setVm vm₁, locs, cells, slots⟩ { g with stack := rest } (.invokestatic index) mk argsL.toArray X₁ hg hsize hdg hW (X₁.named hnamed) (hpre vm₁ X₁.warmed) with ⟨v, B, X', hpost, hsteps⟩ | ⟨q, B, X', hpost, hsteps⟩
  · exact Or.inl ⟨v, vm₁, B, X₁.warmed, X', hpost, fun target h => hstep₁ _ fun acts => by rw [doInvoke_state]; exact hsteps.trans h⟩
  · exact Or.inr ⟨q, vm₁, B, X₁.warmed, X', hpost, hstep₁ _ fun acts => by rw [doInvoke_state]; exact hsteps⟩
theorem vx_callVW (X : Stand p l e R s m args below meth c T locs cells slots) (hexec : p.tables.exec = Jvm.exec) {own C : String} {index : Nat} {y : MethodName} {bytes : ByteArray} {maxL : Nat} {ret : Option FieldType} {hh : List (Nat × Nat × Nat × Nat)}
    (hown : s.vm.findClass own = some m.cls) (hlink : (Cond.methodLink own index y).before args s = true) (hinst : (Cond.instanceMethod y).before args s = true) (hsel : (Cond.selects C y y).before args s = true)
    (hcode : (Cond.codeWith y bytes maxL ret hh).before args s = true) (hy : y.cls ≠ "java/lang/invoke/MethodHandle" ∧ y.cls ≠ "java/lang/invoke/VarHandle")
    {W9 : Nat} {Pre : Pt → Array Value → Prop} {Post : Pt → Array Value → Option Value → Pt → Prop} (hK : Back l R p e below s args y 3 W9 Pre Post)
    {b : Addr} {cellB : Cell} (hcell : T.heap[b]? = some cellB) (hobj : cellB.vm.isStatics = false) (hcls : s.vm.findClass C = some cellB.cls)
    {g : JFrame} (hg : g.method = m) (hsize : g.locals.size = c.maxLocals) {argsL rest : List Value} (hlen : ∀ sig, parseMethodDescriptor y.desc = some sig → argsL.length = sig.parameters.length)
    (hstack : g.stack = argsL.reverse ++ .ref b :: rest) (hW : 2 * g.monitorRoom + (rest.map fun v => v.category).sum ≤ W9) (hdg : decode c.code g.pc = .ok (.invokevirtual index, 3))
    (hpre : ∀ vm₁, s.WarmedH vm₁ → Pre ⟨T.setVm vm₁, locs, cells, slots⟩ (Value.ref b :: argsL).toArray) :
    ∃ (v : Option Value) (vm₁ : Vm) (B : Pt), s.WarmedH vm₁ ∧ Stand p l e R s m args below meth c B.U B.locs B.cells B.slots ∧ Post ⟨T.setVm vm₁, locs, cells, slots⟩ (Value.ref b :: argsL).toArray v B ∧
      ∀ target, Steps p.tables e below (B.U.setTop { g with pc := g.pc + 3, stack := v.toList ++ rest }) target → Steps p.tables e below (T.setTop g) target := by
  obtain ⟨mk, methM, hnamed, hmethM, hstM, habM⟩ := Cond.instanceMethod_spec hinst
  obtain ⟨m8, methM', cM, hn8, hmethM', -, -, -, -, -, -, hsigM⟩ := Cond.codeWith_spec hcode
  cases Option.some.inj (hn8.symm.trans hnamed)
  cases hmethM.symm.trans hmethM'
  obtain ⟨c2, r2, m2, q1, q2, q3, q4, kP, hkP, hkPi⟩ := Cond.selects_spec hsel
  cases hcls.symm.trans q1
  cases (State.methodFound?_of_named hnamed hy).symm.trans q2
  cases hnamed.symm.trans q3
  have hselP : selectMethod e.platform s.vm cellB.cls mk = .method mk := by rw [Launch.admits_selectMethod X.admits]; exact q4
  obtain ⟨vm₁, X₁, hstep₁⟩ := X.invokevirtual hexec hown hlink hnamed hmethM hstM hkP hkPi hy (a := b) (cell := cellB) hcell
    (fun z h => by rw [h] at hobj; cases hobj) hselP hmethM habM hkP hkPi (g := g) hg (argsL := argsL) (rest := rest) (hlen _ hsigM) hstack hdg
  obtain ⟨v, B, X', hpost, hsteps⟩ := hK m meth c ⟨T.setVm vm₁, locs, cells, slots⟩ { g with stack := rest } (.invokevirtual index) mk (Value.ref b :: argsL).toArray X₁ hg hsize hdg hW (X₁.named hnamed) (hpre vm₁ X₁.warmed)
  exact ⟨v, vm₁, B, X₁.warmed, X', hpost, fun target h => hstep₁ _ fun acts => by rw [doInvoke_state]; exact hsteps.trans h⟩
abbrev vx_CVW (R : Room) (s : State) (args : Array Value) (own C : String) (index : Nat) (y : MethodName) (bytes : ByteArray) (maxL : Nat) (ret : Option FieldType) (hh : List (Nat × Nat × Nat × Nat)) (ws : List Cond) (rm : Room) (mc ms n : Nat) : Prop :=
  (rm.cells = mc ∧ rm.slots = ms ∧ rm.frames + 1 ≤ R.frames ∧ 8 + (maxL + 11) + rm.locals ≤ R.locals ∧ (∀ w ∈ ws, ∀ (a' : Array Value) (U : State), s.WarmedH U.vm → w.before a' U = true) ∧ Cond.codeWith y bytes maxL ret hh ∈ ws) ∧
  (Cond.codeWith y bytes maxL ret hh).before args s = true ∧ (Cond.initialized y.cls).before args s = true ∧ (y.cls ≠ "java/lang/invoke/MethodHandle" ∧ y.cls ≠ "java/lang/invoke/VarHandle") ∧
  (∀ sig, parseMethodDescriptor y.desc = some sig → n = sig.parameters.length) ∧ (Cond.methodLink own index y).before args s = true ∧ (Cond.instanceMethod y).before args s = true ∧ (Cond.selects C y y).before args s = true
theorem vx_cwVW {own C : String} {index maxL mc ms : Nat} {y : MethodName} {bytes : ByteArray} {ret : Option FieldType} {hh : List (Nat × Nat × Nat × Nat)} {Ts ws ws' : List Cond} {rm : Room} (n : Nat) (ht : ∀ w ∈ Ts, w.before args s = true) (hT : GoodIn Ts (wsV own index C y ws)) (hw : ws = Cond.codeWith y bytes maxL ret hh :: ws') (hrc : rm.cells = mc) (hrs : rm.slots = ms)
    (hd : y.cls = C ∧ y.cls ≠ "java/lang/invoke/MethodHandle" ∧ y.cls ≠ "java/lang/invoke/VarHandle" ∧ (parseMethodDescriptor y.desc).map (fun d => d.parameters.length) = some n) (hR : rm.frames + 1 ≤ R.frames ∧ 8 + (maxL + 11) + rm.locals ≤ R.locals) :
    vx_CVW R s args own C index y bytes maxL ret hh ws rm mc ms n := by
  obtain ⟨hC, hd⟩ := hd
  subst hC
  have ok : ∀ w ∈ wsV own index y.cls y ws, w.before args s = true := fun w h => ht w (hT w h).1
  have hG : GoodIn Ts ws := fun w h => hT w (by unfold wsV; exact List.mem_append_right _ h)
  have hc : Cond.codeWith y bytes maxL ret hh ∈ ws := by rw [hw]; exact List.mem_cons_self
  refine ⟨⟨hrc, hrs, hR.1, hR.2, pay_in ht hG, hc⟩, ht _ (hG _ hc).1, ok _ (by simp [wsV]), ⟨hd.1, hd.2.1⟩, fun sig h => ?_, ok _ (by simp [wsV]), ok _ (by simp [wsV]), ok _ (by simp [wsV])⟩
  have h2 := hd.2.2
  rw [h] at h2
  exact (Option.some.inj h2).symm
theorem vx_runVW {y : MethodName} {bytes cc : ByteArray} {maxL nL mc ms n index : Nat} {ret : Option FieldType} {hh : List (Nat × Nat × Nat × Nat)} {ws : List Cond} {rm : Room} {Pc : Array Value → State → Prop} {Qc : Array Value → State → Outcome → State → Prop} {free : Addr → Prop} {Ts : List Cond} {own C : String} {b : Addr} {As rest : List Value} {g : JFrame}
    (S : CallFix p m c cc nL s args Ts own) (hM : Met l y ws rm Pc Qc mc ms free) (cw : vx_CVW R s args own C index y bytes maxL ret hh ws rm mc ms n) (hp : PreV s H C b Pc As)
    (hg : g.method = m) (hn : As.length = n) (hsize : g.locals.size = nL) (hstack : g.stack = As.reverse ++ .ref b :: rest) (hW : 2 * g.monitorRoom + (rest.map fun v => v.category).sum ≤ 8) (hdg : decode cc g.pc = .ok (.invokevirtual index, 3)) (hf : cells + mc ≤ R.cells ∧ slots + ms ≤ R.slots) :
    va_Run p l e R s m args below meth c H locs cells slots mc ms g rest (Qc (Value.ref b :: As).toArray) free := by
  obtain ⟨⟨hrc, hrs, hfr, hlo, hws, hcw⟩, hcode, hini, hy, hlen, hl, hin, hse⟩ := cw
  have hK : Back l R p e below s args y 3 8 (PreOf R mc ms Pc) (PostOf Qc mc ms free) := va_backW (hh := hh) (bytes := bytes) (maxL := maxL) (ret := ret) hM hp.1 hrc hrs hfr hlo hws hcw (fun a' U hW => word_at hW (Or.inl (by first | rfl | simp [Cond.onTables, Cond.keeps, Cond.steady])) hini)
  obtain ⟨hx, hb, hml, ho, -⟩ := S
  obtain ⟨-, ⟨cellB, hcB, hoB, hclB⟩, hPc⟩ := hp
  intro T hT X
  obtain ⟨v, vm₁, ⟨U', l2, c2, s2⟩, hW₁, X', ⟨g', mk, t, L, e1, e2, hq, h1, hL, h2, h3⟩, st⟩ := vx_callVW X hx (C := C) (hh := hh) (bytes := bytes) (maxL := maxL) (ret := ret) ho hl hin hse hcode hy hK (by rw [hT]; exact hcB) hoB hclB hg (hsize.trans hml.symm) (argsL := As) (rest := rest) (fun sig h => hn.trans (hlen sig h)) hstack hW (by rw [hb]; exact hdg)
    (fun vm₁ hW₁ => ⟨hf.1, hf.2, hPc (T.setVm vm₁) hT hW₁⟩)
  dsimp only [Pt.U, Pt.locs, Pt.cells, Pt.slots] at X' e1 e2 h1 h2 h3 st
  subst h1; subst h2; subst h3
  exact ⟨v, (T.setVm vm₁).calling g' mk (Value.ref b :: As).toArray, t, U', L, hT, X', hL, e1, e2, hq, st⟩
section
variable {y : MethodName} {bytes cc : ByteArray} {maxL nL mc ms n index : Nat} {ret : Option FieldType} {ws : List Cond} {rm : Room} {Pc : Array Value → State → Prop} {Qc : Array Value → State → Outcome → State → Prop} {XC : String → State → State → Prop} {free : Addr → Prop} {Ts : List Cond} {own C : String} {b : Addr} {As rest : List Value} {g : JFrame}
theorem vx_runVX {hh : List (Nat × Nat × Nat × Nat)} (S : CallFix p m c cc nL s args Ts own) (hM : vx_Met l y ws rm Pc Qc XC mc ms free) (cw : vx_CVW R s args own C index y bytes maxL ret hh ws rm mc ms n) (hp : PreV s H C b Pc As)
    (hg : g.method = m) (hn : As.length = n) (hsize : g.locals.size = nL) (hstack : g.stack = As.reverse ++ .ref b :: rest) (hW : 2 * g.monitorRoom + (rest.map fun v => v.category).sum ≤ 8) (hdg : decode cc g.pc = .ok (.invokevirtual index, 3)) (hf : cells + mc ≤ R.cells ∧ slots + ms ≤ R.slots) :
    vx_Run p l e R s m args below meth c H locs cells slots mc ms g rest (Qc (Value.ref b :: As).toArray) XC free := by
  obtain ⟨⟨hrc, hrs, hfr, hlo, hws, hcw⟩, hcode, hini, hy, hlen, hl, hin, hse⟩ := cw
  have hK : vx_Back l R p e below s args y 3 8 (PreOf R mc ms Pc) (PostOf Qc mc ms free) (vx_Post XC mc ms free) := vx_backW (hh := hh) (bytes := bytes) (maxL := maxL) (ret := ret) hM hp.1 hrc hrs hfr hlo hws hcw (fun a' U hW => word_at hW (Or.inl (by first | rfl | simp [Cond.onTables, Cond.keeps, Cond.steady])) hini)
  obtain ⟨hx, hb, hml, ho, -⟩ := S
  obtain ⟨-, ⟨cellB, hcB, hoB, hclB⟩, hPc⟩ := hp
  intro T hT X
  rcases vx_callVX X hx (C := C) (hh := hh) (bytes := bytes) (maxL := maxL) (ret := ret) ho hl hin hse hcode hy hK (by rw [hT]; exact hcB) hoB hclB hg (hsize.trans hml.symm) (argsL := As) (rest := rest) (fun sig h => hn.trans (hlen sig h)) hstack hW (by rw [hb]; exact hdg)
    (fun vm₁ hW₁ => ⟨hf.1, hf.2, hPc (T.setVm vm₁) hT hW₁⟩) with ⟨v, vm₁, ⟨U', l2, c2, s2⟩, hW₁, X', ⟨g', mk, t, L, e1, e2, hq, h1, hL, h2, h3⟩, st⟩ | ⟨q, vm₁, ⟨U', l2, c2, s2⟩, hW₁, X', ⟨g', mk, t, L, E, ce, e1, e2, hq, hce, hcv, hcl, h1, hL, h2, h3⟩, st⟩
  · dsimp only [Pt.U, Pt.locs, Pt.cells, Pt.slots] at X' e1 e2 h1 h2 h3 st
    subst h1; subst h2; subst h3
    exact Or.inl ⟨v, (T.setVm vm₁).calling g' mk (Value.ref b :: As).toArray, t, U', L, hT, X', hL, e1, e2, hq, st⟩
  · dsimp only [Pt.U, Pt.locs, Pt.cells, Pt.slots] at X' e1 e2 h1 h2 h3 st hcl
    subst h1; subst h2; subst h3
    exact Or.inr ⟨q, (T.setVm vm₁).calling g' mk (Value.ref b :: As).toArray, t, U', L, E, ce, hT, X', hL, e1, e2, hq, hce, hcv, vx_cls hW₁ hcl, st⟩
theorem vx_runSX {hh : List (Nat × Nat × Nat × Nat)} (S : CallFix p m c cc nL s args Ts own) (hM : vx_Met l y ws rm Pc Qc XC mc ms free) (cw : vx_CSW R s args own index y bytes maxL ret hh ws rm mc ms n) (hp : PreS s H Pc As)
    (hg : g.method = m) (hn : As.length = n) (hsize : g.locals.size = nL) (hstack : g.stack = As.reverse ++ rest) (hW : 2 * g.monitorRoom + (rest.map fun v => v.category).sum ≤ 8) (hdg : decode cc g.pc = .ok (.invokestatic index, 3)) (hf : cells + mc ≤ R.cells ∧ slots + ms ≤ R.slots) :
    vx_Run p l e R s m args below meth c H locs cells slots mc ms g rest (Qc As.toArray) XC free := by
  obtain ⟨⟨hrc, hrs, hfr, hlo, hws, hcw⟩, hcode, hini, hy, hlen, hl, hstt⟩ := cw
  have hK : vx_Back l R p e below s args y 3 8 (PreOf R mc ms Pc) (PostOf Qc mc ms free) (vx_Post XC mc ms free) := vx_backW (hh := hh) (bytes := bytes) (maxL := maxL) (ret := ret) hM hp.1 hrc hrs hfr hlo hws hcw (fun a' U hW => word_at hW (Or.inl (by first | rfl | simp [Cond.onTables, Cond.keeps, Cond.steady])) hini)
  obtain ⟨hx, hb, hml, ho, -⟩ := S
  intro T hT X
  rcases vx_callSX X hx (hh := hh) (bytes := bytes) (maxL := maxL) (ret := ret) ho hl hstt hini hcode hy hK hg (hsize.trans hml.symm) (argsL := As) (rest := rest) (fun sig h => hn.trans (hlen sig h)) hstack hW (by rw [hb]; exact hdg)
    (fun vm₁ hW₁ => ⟨hf.1, hf.2, hp.2 (T.setVm vm₁) hT hW₁⟩) with ⟨v, vm₁, ⟨U', l2, c2, s2⟩, hW₁, X', ⟨g', mk, t, L, e1, e2, hq, h1, hL, h2, h3⟩, st⟩ | ⟨q, vm₁, ⟨U', l2, c2, s2⟩, hW₁, X', ⟨g', mk, t, L, E, ce, e1, e2, hq, hce, hcv, hcl, h1, hL, h2, h3⟩, st⟩
  · dsimp only [Pt.U, Pt.locs, Pt.cells, Pt.slots] at X' e1 e2 h1 h2 h3 st
    subst h1; subst h2; subst h3
    exact Or.inl ⟨v, (T.setVm vm₁).calling g' mk As.toArray, t, U', L, hT, X', hL, e1, e2, hq, st⟩
  · dsimp only [Pt.U, Pt.locs, Pt.cells, Pt.slots] at X' e1 e2 h1 h2 h3 st hcl
    subst h1; subst h2; subst h3
    exact Or.inr ⟨q, (T.setVm vm₁).calling g' mk As.toArray, t, U', L, E, ce, hT, X', hL, e1, e2, hq, hce, hcv, vx_cls hW₁ hcl, st⟩
end
end VXH
theorem vx_ofWH {l : Launch} {y : MethodName} {ws ws' : List Cond} {rm : Room} {Pc : Array Value → State → Prop} {Qc : Array Value → State → Outcome → State → Prop} {XC : String → State → State → Prop} {mc ms : Nat} {free : Addr → Prop} {cc : ByteArray} {maxL : Nat} {ret : Option FieldType} {hh : List (Nat × Nat × Nat × Nat)}
    (hy : plainName y.cls = true) (hw : ws = Cond.codeWith y cc maxL ret hh :: ws')
    (body : ∀ p e s m args below meth c s₁, BodyLoose p l y (headSpec ws rm) cc maxL ret e s m args below meth c s₁ → c.maxLocals = maxL → Pc args s →
      W p l e (headSpec ws rm).room s m args below meth c s.heap [] 0 0 (vx_MQ below Qc XC args s mc ms free) (entryFrame m args maxL)) : vx_Met l y ws rm Pc Qc XC mc ms free := by
  refine MetFree.of_bodyS (code := cc) (maxLocals := maxL) (ret := ret) hy ?_ ?_
  · intro args s m h hn
    obtain ⟨m9, meth, c, hn9, h1, h2, h3, h4, -, h5, h6, -⟩ := Cond.codeWith_spec (atoms_spec (ws := ws) h _ (by rw [hw]; exact List.mem_cons_self))
    cases hn.symm.trans hn9
    exact ⟨meth, c, h1, h2, h3, h4, h5, h6⟩
  · intro p e s m args below meth c s₁ B hml hP _
    have hh0 : s₁.heap = s.heap := by rw [B.state]; rfl
    obtain ⟨t, a1, o, b1, b2, b3⟩ := body p e s m args below meth c s₁ B hml hP s₁ hh0 (Stand.of_body B)
    exact ⟨t, o, a1, b1, b2, b3⟩
/-! ===== END ===== -/
end
section
/-- the tables' words that a call hands on -/
def Wl : List Cond := lw_tbl.filter goodWord
theorem wl_good : Wl.all goodWord = true := List.all_eq_true.mpr (fun _ h => (List.mem_filter.mp h).2)
theorem wl_in : ∀ w ∈ Wl, w ∈ lw_tbl := fun _ h => (List.mem_filter.mp h).1
theorem tm0 {i : Nat} {w : Cond} (h : (k2_sels lw_privs)[i]? = some w) (g : goodWord w = true) : w ∈ Wl := List.mem_filter.mpr ⟨List.mem_append_left _ (List.mem_of_getElem? h), g⟩
theorem tm1 {i : Nat} {w : Cond} (h : tables_1_1[i]? = some w) (g : goodWord w = true) : w ∈ Wl := List.mem_filter.mpr ⟨List.mem_append_right _ (List.mem_append_left _ (List.mem_of_getElem? h)), g⟩
theorem tm2 {i : Nat} {w : Cond} (h : tables_1_2[i]? = some w) (g : goodWord w = true) : w ∈ Wl := List.mem_filter.mpr ⟨List.mem_append_right _ (List.mem_append_right _ (List.mem_append_left _ (List.mem_of_getElem? h))), g⟩
theorem tm3 {i : Nat} {w : Cond} (h : tables_1_3[i]? = some w) (g : goodWord w = true) : w ∈ Wl := List.mem_filter.mpr ⟨List.mem_append_right _ (List.mem_append_right _ (List.mem_append_right _ (List.mem_append_left _ (List.mem_of_getElem? h)))), g⟩
theorem tm4 {i : Nat} {w : Cond} (h : tables_1_4[i]? = some w) (g : goodWord w = true) : w ∈ Wl := List.mem_filter.mpr ⟨List.mem_append_right _ (List.mem_append_right _ (List.mem_append_right _ (List.mem_append_right _ (List.mem_of_getElem? h)))), g⟩
def TS : u_T := fun k => match k with
  | 0 => ("SendBest", "unitCount", "I", false)
  | 1 => ("SendBest", "skillsOf", "[I", true)
  | 2 => ("SendBest", "isBroken", "[Z", true)
  | 3 => ("SendBest", "stays", "[Z", true)
  | 4 => ("SendBest", "needOf", "[I", true)
  | 5 => ("SendBest", "secondsOf", "[[I", true)
  | 6 => ("SendBest", "incidentCount", "I", false)
  | 7 => ("SendBest", "rankOf", "[I", true)
  | 8 => ("SendBest", "isOpen", "[Z", true)
  | 9 => ("SendBest", "needCount", "I", false)
  | 10 => ("SendBest", "incidentOf", "[I", true)
  | 11 => ("SendBest", "skillOf", "[I", true)
  | 12 => ("SendBest", "unitOf", "[I", true)
  | 13 => ("SendBest", "limitOf", "[I", true)
  | 14 => ("SendBest", "reserveUnits", "I", false)
  | 15 => ("SendBest", "reserveRank", "I", false)
  | _ => ("SendBest", "pairing", "LSendBest$Pairing;", true)
def ftS : Nat → FieldType := fun k => match k with
  | 0 => .int
  | 1 => .array .int
  | 2 => .array .boolean
  | 3 => .array .boolean
  | 4 => .array .int
  | 5 => .array (.array .int)
  | 6 => .int
  | 7 => .array .int
  | 8 => .array .boolean
  | 9 => .int
  | 10 => .array .int
  | 11 => .array .int
  | 12 => .array .int
  | 13 => .array .int
  | 14 => .int
  | 15 => .int
  | _ => .object "SendBest$Pairing"
theorem nmS : ∀ a, a < 17 → ∀ b, b < 17 → a ≠ b → (TS a).2.1 ≠ (TS b).2.1 := by decide +kernel
theorem ftS_ok : ∀ k, k < 17 → parseFieldDescriptor (TS k).2.2.1 = some (ftS k) := by decide +kernel
theorem inS : ∀ w ∈ u_ws "SendBest" TS 17, w ∈ Wl := by
  intro w h
  obtain ⟨k, hk, rfl⟩ := List.mem_map.mp h
  have hk := List.mem_range.mp hk
  match k, hk with
  | 0, _ => exact (tm1 (i := 99) rfl rfl)
  | 1, _ => exact (tm1 (i := 101) rfl rfl)
  | 2, _ => exact (tm1 (i := 103) rfl rfl)
  | 3, _ => exact (tm1 (i := 105) rfl rfl)
  | 4, _ => exact (tm1 (i := 107) rfl rfl)
  | 5, _ => exact (tm1 (i := 109) rfl rfl)
  | 6, _ => exact (tm1 (i := 111) rfl rfl)
  | 7, _ => exact (tm1 (i := 113) rfl rfl)
  | 8, _ => exact (tm1 (i := 115) rfl rfl)
  | 9, _ => exact (tm1 (i := 117) rfl rfl)
  | 10, _ => exact (tm1 (i := 119) rfl rfl)
  | 11, _ => exact (tm1 (i := 121) rfl rfl)
  | 12, _ => exact (tm1 (i := 123) rfl rfl)
  | 13, _ => exact (tm1 (i := 125) rfl rfl)
  | 14, _ => exact (tm1 (i := 127) rfl rfl)
  | 15, _ => exact (tm1 (i := 129) rfl rfl)
  | 16, _ => exact (tm1 (i := 131) rfl rfl)
  | k + 17, hk => exact absurd hk (by omega)
def TP : u_T := fun k => match k with
  | 0 => ("SendBest$Pairing", "rowCount", "I", false)
  | 1 => ("SendBest$Pairing", "unboundCount", "I", false)
  | 2 => ("SendBest$Pairing", "need", "[I", true)
  | 3 => ("SendBest$Pairing", "cost", "[[J", true)
  | 4 => ("SendBest$Pairing", "tie", "[[J", true)
  | 5 => ("SendBest$Pairing", "unitAt", "[I", true)
  | 6 => ("SendBest$Pairing", "rowAt", "[I", true)
  | 7 => ("SendBest$Pairing", "other", "[I", true)
  | 8 => ("SendBest$Pairing", "isFresh", "[Z", true)
  | 9 => ("SendBest$Pairing", "rowCost", "[J", true)
  | 10 => ("SendBest$Pairing", "rowTie", "[J", true)
  | 11 => ("SendBest$Pairing", "cameFrom", "[I", true)
  | 12 => ("SendBest$Pairing", "unitCost", "[J", true)
  | _ => ("SendBest$Pairing", "unitTie", "[J", true)
def ftP : Nat → FieldType := fun k => match k with
  | 0 => .int
  | 1 => .int
  | 2 => .array .int
  | 3 => .array (.array .long)
  | 4 => .array (.array .long)
  | 5 => .array .int
  | 6 => .array .int
  | 7 => .array .int
  | 8 => .array .boolean
  | 9 => .array .long
  | 10 => .array .long
  | 11 => .array .int
  | 12 => .array .long
  | _ => .array .long
theorem nmP : ∀ a, a < 14 → ∀ b, b < 14 → a ≠ b → (TP a).2.1 ≠ (TP b).2.1 := by decide +kernel
theorem ftP_ok : ∀ k, k < 14 → parseFieldDescriptor (TP k).2.2.1 = some (ftP k) := by decide +kernel
theorem inP : ∀ w ∈ u_ws "SendBest$Pairing" TP 14, w ∈ Wl := by
  intro w h
  obtain ⟨k, hk, rfl⟩ := List.mem_map.mp h
  have hk := List.mem_range.mp hk
  match k, hk with
  | 0, _ => exact (tm1 (i := 47) rfl rfl)
  | 1, _ => exact (tm1 (i := 49) rfl rfl)
  | 2, _ => exact (tm1 (i := 51) rfl rfl)
  | 3, _ => exact (tm1 (i := 53) rfl rfl)
  | 4, _ => exact (tm1 (i := 55) rfl rfl)
  | 5, _ => exact (tm1 (i := 57) rfl rfl)
  | 6, _ => exact (tm1 (i := 59) rfl rfl)
  | 7, _ => exact (tm1 (i := 61) rfl rfl)
  | 8, _ => exact (tm1 (i := 63) rfl rfl)
  | 9, _ => exact (tm1 (i := 65) rfl rfl)
  | 10, _ => exact (tm1 (i := 67) rfl rfl)
  | 11, _ => exact (tm1 (i := 69) rfl rfl)
  | 12, _ => exact (tm1 (i := 71) rfl rfl)
  | 13, _ => exact (tm1 (i := 73) rfl rfl)
  | k + 14, hk => exact absurd hk (by omega)
def TM : u_T := fun k => match k with
  | 0 => ("SendBestModel", "thrown", "I", false)
  | 1 => ("SendBestModel", "units", "I", false)
  | 2 => ("SendBestModel", "skills", "[I", true)
  | 3 => ("SendBestModel", "broken", "[Z", true)
  | 4 => ("SendBestModel", "seconds", "[I", true)
  | 5 => ("SendBestModel", "incidents", "I", false)
  | 6 => ("SendBestModel", "rank", "[I", true)
  | 7 => ("SendBestModel", "closed", "[Z", true)
  | 8 => ("SendBestModel", "needs", "I", false)
  | 9 => ("SendBestModel", "incidentOf", "[I", true)
  | 10 => ("SendBestModel", "skillOf", "[I", true)
  | 11 => ("SendBestModel", "filled", "[I", true)
  | 12 => ("SendBestModel", "stays", "[Z", true)
  | 13 => ("SendBestModel", "limit", "[I", true)
  | 14 => ("SendBestModel", "reserve", "I", false)
  | 15 => ("SendBestModel", "below", "I", false)
  | 16 => ("SendBestModel", "row", "[I", true)
  | 17 => ("SendBestModel", "rows", "I", false)
  | _ => ("SendBestModel", "least", "[J", true)
def ftM : Nat → FieldType := fun k => match k with
  | 0 => .int
  | 1 => .int
  | 2 => .array .int
  | 3 => .array .boolean
  | 4 => .array .int
  | 5 => .int
  | 6 => .array .int
  | 7 => .array .boolean
  | 8 => .int
  | 9 => .array .int
  | 10 => .array .int
  | 11 => .array .int
  | 12 => .array .boolean
  | 13 => .array .int
  | 14 => .int
  | 15 => .int
  | 16 => .array .int
  | 17 => .int
  | _ => .array .long
theorem nmM : ∀ a, a < 19 → ∀ b, b < 19 → a ≠ b → (TM a).2.1 ≠ (TM b).2.1 := by decide +kernel
theorem ftM_ok : ∀ k, k < 19 → parseFieldDescriptor (TM k).2.2.1 = some (ftM k) := by decide +kernel
theorem inM : ∀ w ∈ u_ws "SendBestModel" TM 19, w ∈ Wl := by
  intro w h
  obtain ⟨k, hk, rfl⟩ := List.mem_map.mp h
  have hk := List.mem_range.mp hk
  match k, hk with
  | 0, _ => exact (tm3 (i := 122) rfl rfl)
  | 1, _ => exact (tm3 (i := 124) rfl rfl)
  | 2, _ => exact (tm3 (i := 126) rfl rfl)
  | 3, _ => exact (tm3 (i := 128) rfl rfl)
  | 4, _ => exact (tm3 (i := 130) rfl rfl)
  | 5, _ => exact (tm3 (i := 132) rfl rfl)
  | 6, _ => exact (tm3 (i := 134) rfl rfl)
  | 7, _ => exact (tm3 (i := 136) rfl rfl)
  | 8, _ => exact (tm3 (i := 138) rfl rfl)
  | 9, _ => exact (tm3 (i := 140) rfl rfl)
  | 10, _ => exact (tm3 (i := 142) rfl rfl)
  | 11, _ => exact (tm3 (i := 144) rfl rfl)
  | 12, _ => exact (tm3 (i := 146) rfl rfl)
  | 13, _ => exact (tm3 (i := 148) rfl rfl)
  | 14, _ => exact (tm3 (i := 150) rfl rfl)
  | 15, _ => exact (tm3 (i := 152) rfl rfl)
  | 16, _ => exact (tm3 (i := 154) rfl rfl)
  | 17, _ => exact (tm3 (i := 156) rfl rfl)
  | 18, _ => exact (tm3 (i := 158) rfl rfl)
  | k + 19, hk => exact absurd hk (by omega)
abbrev vwCl : List vw_C := [("SendBest$Pairing", TP, 14), ("SendBest", TS, 17), ("SendBestModel", TM, 19)]
abbrev cS_init : ByteArray := prog_1_method_1_code
def yS_init : MethodName := ⟨"SendBest", "<init>", "()V"⟩
abbrev cS_unit : ByteArray := prog_1_method_2_code
def yS_unit : MethodName := ⟨"SendBest", "unit", "(I)I"⟩
abbrev cS_incident : ByteArray := prog_1_method_3_code
def yS_incident : MethodName := ⟨"SendBest", "incident", "(I)I"⟩
abbrev cS_rank : ByteArray := prog_1_method_4_code
def yS_rank : MethodName := ⟨"SendBest", "rank", "(II)V"⟩
abbrev cS_need : ByteArray := prog_1_method_5_code
def yS_need : MethodName := ⟨"SendBest", "need", "(III)I"⟩
abbrev cS_seconds : ByteArray := prog_1_method_6_code
def yS_seconds : MethodName := ⟨"SendBest", "seconds", "(III)V"⟩
abbrev cS_limit : ByteArray := prog_1_method_7_code
def yS_limit : MethodName := ⟨"SendBest", "limit", "(II)V"⟩
abbrev cS_reserve : ByteArray := prog_1_method_8_code
def yS_reserve : MethodName := ⟨"SendBest", "reserve", "(II)V"⟩
abbrev cS_broken : ByteArray := prog_1_method_9_code
def yS_broken : MethodName := ⟨"SendBest", "broken", "(IZ)V"⟩
abbrev cS_send : ByteArray := prog_1_method_10_code
def yS_send : MethodName := ⟨"SendBest", "send", "(I)I"⟩
abbrev cS_stay : ByteArray := prog_1_method_11_code
def yS_stay : MethodName := ⟨"SendBest", "stay", "(IZ)V"⟩
abbrev cS_recall : ByteArray := prog_1_method_12_code
def yS_recall : MethodName := ⟨"SendBest", "recall", "(I)V"⟩
abbrev cS_close : ByteArray := prog_1_method_13_code
def yS_close : MethodName := ⟨"SendBest", "close", "(I)V"⟩
abbrev cS_needAt : ByteArray := prog_1_method_14_code
def yS_needAt : MethodName := ⟨"SendBest", "needAt", "(II)I"⟩
abbrev cS_fills : ByteArray := prog_1_method_15_code
def yS_fills : MethodName := ⟨"SendBest", "fills", "(I)I"⟩
abbrev cS_sum : ByteArray := prog_1_method_16_code
def yS_sum : MethodName := ⟨"SendBest", "sum", "(I)I"⟩
abbrev cS_alternative : ByteArray := prog_1_method_17_code
def yS_alternative : MethodName := ⟨"SendBest", "alternative", "(I)I"⟩
abbrev cS_never : ByteArray := prog_1_method_18_code
def yS_never : MethodName := ⟨"SendBest", "never", "(I)I"⟩
abbrev cS_checkUnit : ByteArray := prog_1_method_19_code
def yS_checkUnit : MethodName := ⟨"SendBest", "checkUnit", "(I)V"⟩
abbrev cS_checkIncident : ByteArray := prog_1_method_20_code
def yS_checkIncident : MethodName := ⟨"SendBest", "checkIncident", "(I)V"⟩
abbrev cS_checkNeed : ByteArray := prog_1_method_21_code
def yS_checkNeed : MethodName := ⟨"SendBest", "checkNeed", "(I)V"⟩
abbrev cS_checkSkill : ByteArray := prog_1_method_22_code
def yS_checkSkill : MethodName := ⟨"SendBest", "checkSkill", "(I)V"⟩
abbrev cS_checkRank : ByteArray := prog_1_method_23_code
def yS_checkRank : MethodName := ⟨"SendBest", "checkRank", "(I)V"⟩
abbrev cS_checkSeconds : ByteArray := prog_1_method_24_code
def yS_checkSeconds : MethodName := ⟨"SendBest", "checkSeconds", "(I)V"⟩
abbrev cS_checkOpen : ByteArray := prog_1_method_25_code
def yS_checkOpen : MethodName := ⟨"SendBest", "checkOpen", "(I)V"⟩
abbrev cS_checkSent : ByteArray := prog_1_method_26_code
def yS_checkSent : MethodName := ⟨"SendBest", "checkSent", "(I)V"⟩
abbrev cS_isOpenNeed : ByteArray := prog_1_method_27_code
def yS_isOpenNeed : MethodName := ⟨"SendBest", "isOpenNeed", "(I)Z"⟩
abbrev cS_rankOfNeed : ByteArray := prog_1_method_28_code
def yS_rankOfNeed : MethodName := ⟨"SendBest", "rankOfNeed", "(I)I"⟩
abbrev cS_secondsTo : ByteArray := prog_1_method_29_code
def yS_secondsTo : MethodName := ⟨"SendBest", "secondsTo", "(II)I"⟩
abbrev cS_canFill : ByteArray := prog_1_method_30_code
def yS_canFill : MethodName := ⟨"SendBest", "canFill", "(II)Z"⟩
abbrev cS_anyCanFill : ByteArray := prog_1_method_31_code
def yS_anyCanFill : MethodName := ⟨"SendBest", "anyCanFill", "(I)Z"⟩
abbrev cS_isFixed : ByteArray := prog_1_method_32_code
def yS_isFixed : MethodName := ⟨"SendBest", "isFixed", "(I)Z"⟩
abbrev cS_hasFixedUnit : ByteArray := prog_1_method_33_code
def yS_hasFixedUnit : MethodName := ⟨"SendBest", "hasFixedUnit", "(I)Z"⟩
abbrev cS_ranksLacking : ByteArray := prog_1_method_34_code
def yS_ranksLacking : MethodName := ⟨"SendBest", "ranksLacking", "(I)I"⟩
abbrev cS_weightedSeconds : ByteArray := prog_1_method_35_code
def yS_weightedSeconds : MethodName := ⟨"SendBest", "weightedSeconds", "(I)I"⟩
abbrev cS_countFilled : ByteArray := prog_1_method_36_code
def yS_countFilled : MethodName := ⟨"SendBest", "countFilled", "()I"⟩
abbrev cS_free : ByteArray := prog_1_method_37_code
def yS_free : MethodName := ⟨"SendBest", "free", "(I)V"⟩
abbrev cS_layOutNeeds : ByteArray := prog_1_method_38_code
def yS_layOutNeeds : MethodName := ⟨"SendBest", "layOutNeeds", "()V"⟩
abbrev cS_addNeeds : ByteArray := prog_1_method_39_code
def yS_addNeeds : MethodName := ⟨"SendBest", "addNeeds", "(Z)V"⟩
abbrev cS_addNeed : ByteArray := prog_1_method_40_code
def yS_addNeed : MethodName := ⟨"SendBest", "addNeed", "(I)V"⟩
abbrev cS_spareUnits : ByteArray := prog_1_method_41_code
def yS_spareUnits : MethodName := ⟨"SendBest", "spareUnits", "()I"⟩
abbrev cS_presentStays : ByteArray := prog_1_method_42_code
def yS_presentStays : MethodName := ⟨"SendBest", "presentStays", "(II)Z"⟩
abbrev cS_takeBest : ByteArray := prog_1_method_43_code
def yS_takeBest : MethodName := ⟨"SendBest", "takeBest", "()V"⟩
abbrev cP_init : ByteArray := prog_2_method_1_code
def yP_init : MethodName := ⟨"SendBest$Pairing", "<init>", "()V"⟩
abbrev cP_clear : ByteArray := prog_2_method_2_code
def yP_clear : MethodName := ⟨"SendBest$Pairing", "clear", "()V"⟩
abbrev cP_addRow : ByteArray := prog_2_method_3_code
def yP_addRow : MethodName := ⟨"SendBest$Pairing", "addRow", "(I)I"⟩
abbrev cP_endUnbound : ByteArray := prog_2_method_4_code
def yP_endUnbound : MethodName := ⟨"SendBest$Pairing", "endUnbound", "()V"⟩
abbrev cP_allow : ByteArray := prog_2_method_5_code
def yP_allow : MethodName := ⟨"SendBest$Pairing", "allow", "(IIII)V"⟩
abbrev cP_rows : ByteArray := prog_2_method_6_code
def yP_rows : MethodName := ⟨"SendBest$Pairing", "rows", "()I"⟩
abbrev cP_needOfRow : ByteArray := prog_2_method_7_code
def yP_needOfRow : MethodName := ⟨"SendBest$Pairing", "needOfRow", "(I)I"⟩
abbrev cP_bestUnit : ByteArray := prog_2_method_8_code
def yP_bestUnit : MethodName := ⟨"SendBest$Pairing", "bestUnit", "(I)I"⟩
abbrev cP_setPresent : ByteArray := prog_2_method_9_code
def yP_setPresent : MethodName := ⟨"SendBest$Pairing", "setPresent", "(II)V"⟩
abbrev cP_presentIsPlan : ByteArray := prog_2_method_10_code
def yP_presentIsPlan : MethodName := ⟨"SendBest$Pairing", "presentIsPlan", "(I)Z"⟩
abbrev cP_savedByBest : ByteArray := prog_2_method_11_code
def yP_savedByBest : MethodName := ⟨"SendBest$Pairing", "savedByBest", "()J"⟩
abbrev cP_findBest : ByteArray := prog_2_method_12_code
def yP_findBest : MethodName := ⟨"SendBest$Pairing", "findBest", "(I)V"⟩
abbrev cP_total : ByteArray := prog_2_method_13_code
def yP_total : MethodName := ⟨"SendBest$Pairing", "total", "([[J[I)J"⟩
abbrev cP_isLess : ByteArray := prog_2_method_14_code
def yP_isLess : MethodName := ⟨"SendBest$Pairing", "isLess", "(JJJJ)Z"⟩
abbrev cP_pair : ByteArray := prog_2_method_15_code
def yP_pair : MethodName := ⟨"SendBest$Pairing", "pair", "(II)V"⟩
abbrev cP_findPaths : ByteArray := prog_2_method_16_code
def yP_findPaths : MethodName := ⟨"SendBest$Pairing", "findPaths", "(I)V"⟩
abbrev cP_spread : ByteArray := prog_2_method_17_code
def yP_spread : MethodName := ⟨"SendBest$Pairing", "spread", "(I)V"⟩
abbrev cP_reach : ByteArray := prog_2_method_18_code
def yP_reach : MethodName := ⟨"SendBest$Pairing", "reach", "(II)V"⟩
abbrev cP_cheapestEnd : ByteArray := prog_2_method_19_code
def yP_cheapestEnd : MethodName := ⟨"SendBest$Pairing", "cheapestEnd", "()I"⟩
abbrev cP_turnPath : ByteArray := prog_2_method_20_code
def yP_turnPath : MethodName := ⟨"SendBest$Pairing", "turnPath", "(I)V"⟩
abbrev cM_init : ByteArray := prog_4_method_1_code
def yM_init : MethodName := ⟨"SendBestModel", "<init>", "()V"⟩
abbrev cM_thrown : ByteArray := prog_4_method_2_code
def yM_thrown : MethodName := ⟨"SendBestModel", "thrown", "()I"⟩
abbrev cM_throwing : ByteArray := prog_4_method_3_code
def yM_throwing : MethodName := ⟨"SendBestModel", "throwing", "(ZZZZ)Z"⟩
abbrev cM_in : ByteArray := prog_4_method_4_code
def yM_in : MethodName := ⟨"SendBestModel", "in", "(III)Z"⟩
abbrev cM_isUnit : ByteArray := prog_4_method_5_code
def yM_isUnit : MethodName := ⟨"SendBestModel", "isUnit", "(I)Z"⟩
abbrev cM_isIncident : ByteArray := prog_4_method_6_code
def yM_isIncident : MethodName := ⟨"SendBestModel", "isIncident", "(I)Z"⟩
abbrev cM_unit : ByteArray := prog_4_method_7_code
def yM_unit : MethodName := ⟨"SendBestModel", "unit", "(I)I"⟩
abbrev cM_incident : ByteArray := prog_4_method_8_code
def yM_incident : MethodName := ⟨"SendBestModel", "incident", "(I)I"⟩
abbrev cM_rank : ByteArray := prog_4_method_9_code
def yM_rank : MethodName := ⟨"SendBestModel", "rank", "(II)V"⟩
abbrev cM_need : ByteArray := prog_4_method_10_code
def yM_need : MethodName := ⟨"SendBestModel", "need", "(III)I"⟩
abbrev cM_seconds : ByteArray := prog_4_method_11_code
def yM_seconds : MethodName := ⟨"SendBestModel", "seconds", "(III)V"⟩
abbrev cM_limit : ByteArray := prog_4_method_12_code
def yM_limit : MethodName := ⟨"SendBestModel", "limit", "(II)V"⟩
abbrev cM_reserve : ByteArray := prog_4_method_13_code
def yM_reserve : MethodName := ⟨"SendBestModel", "reserve", "(II)V"⟩
abbrev cM_needOf : ByteArray := prog_4_method_14_code
def yM_needOf : MethodName := ⟨"SendBestModel", "needOf", "(I)I"⟩
abbrev cM_leave : ByteArray := prog_4_method_15_code
def yM_leave : MethodName := ⟨"SendBestModel", "leave", "(I)V"⟩
abbrev cM_broken : ByteArray := prog_4_method_16_code
def yM_broken : MethodName := ⟨"SendBestModel", "broken", "(IZ)V"⟩
abbrev cM_isOpen : ByteArray := prog_4_method_17_code
def yM_isOpen : MethodName := ⟨"SendBestModel", "isOpen", "(I)Z"⟩
abbrev cM_canFill : ByteArray := prog_4_method_18_code
def yM_canFill : MethodName := ⟨"SendBestModel", "canFill", "(II)Z"⟩
abbrev cM_isFixed : ByteArray := prog_4_method_19_code
def yM_isFixed : MethodName := ⟨"SendBestModel", "isFixed", "(I)Z"⟩
abbrev cM_rankOf : ByteArray := prog_4_method_20_code
def yM_rankOf : MethodName := ⟨"SendBestModel", "rankOf", "(I)I"⟩
abbrev cM_most : ByteArray := prog_4_method_21_code
def yM_most : MethodName := ⟨"SendBestModel", "most", "()I"⟩
abbrev cM_fixedUnits : ByteArray := prog_4_method_22_code
def yM_fixedUnits : MethodName := ⟨"SendBestModel", "fixedUnits", "()I"⟩
abbrev cM_ones : ByteArray := prog_4_method_23_code
def yM_ones : MethodName := ⟨"SendBestModel", "ones", "(I)I"⟩
abbrev cM_gather : ByteArray := prog_4_method_24_code
def yM_gather : MethodName := ⟨"SendBestModel", "gather", "()V"⟩
abbrev cM_may : ByteArray := prog_4_method_25_code
def yM_may : MethodName := ⟨"SendBestModel", "may", "(III)Z"⟩
abbrev cM_with : ByteArray := prog_4_method_26_code
def yM_with : MethodName := ⟨"SendBestModel", "with", "(III)J"⟩
abbrev cM_without : ByteArray := prog_4_method_27_code
def yM_without : MethodName := ⟨"SendBestModel", "without", "(II)J"⟩
abbrev cM_reckon : ByteArray := prog_4_method_28_code
def yM_reckon : MethodName := ⟨"SendBestModel", "reckon", "()V"⟩
abbrev cM_present : ByteArray := prog_4_method_29_code
def yM_present : MethodName := ⟨"SendBestModel", "present", "()J"⟩
abbrev cM_send : ByteArray := prog_4_method_30_code
def yM_send : MethodName := ⟨"SendBestModel", "send", "(I)I"⟩
abbrev cM_stay : ByteArray := prog_4_method_31_code
def yM_stay : MethodName := ⟨"SendBestModel", "stay", "(IZ)V"⟩
abbrev cM_recall : ByteArray := prog_4_method_32_code
def yM_recall : MethodName := ⟨"SendBestModel", "recall", "(I)V"⟩
abbrev cM_close : ByteArray := prog_4_method_33_code
def yM_close : MethodName := ⟨"SendBestModel", "close", "(I)V"⟩
abbrev cM_needAt : ByteArray := prog_4_method_34_code
def yM_needAt : MethodName := ⟨"SendBestModel", "needAt", "(II)I"⟩
abbrev cM_fills : ByteArray := prog_4_method_35_code
def yM_fills : MethodName := ⟨"SendBestModel", "fills", "(I)I"⟩
abbrev cM_sum : ByteArray := prog_4_method_36_code
def yM_sum : MethodName := ⟨"SendBestModel", "sum", "(I)I"⟩
abbrev cM_alternative : ByteArray := prog_4_method_37_code
def yM_alternative : MethodName := ⟨"SendBestModel", "alternative", "(I)I"⟩
abbrev cM_never : ByteArray := prog_4_method_38_code
def yM_never : MethodName := ⟨"SendBestModel", "never", "(I)I"⟩
end
section
/-! A layer over the kit's worlds: a world whose cells have numbers 0 .. N-1; the cell j lies at the address 'ad j' and holds what the layout kf says of it: out of int fields f, arrays of ints a, arrays of longs b (both by the cell's number). Contracts whose ends are any predicates (po: what it answers and the new state; px: the class that it throws and the new state). -/
theorem vpin_lt {i : Int32} {n : Nat} (h : vp_in i n) : i.toNatClampNeg < n := Nat.lt_of_not_le (fun q => h (Or.inr q))
/-- a boolean -/
def zb (v : Int32) : Prop := narrow .boolean (.int v) = .int v
abbrev wF : Type := Nat → Int32
abbrev wA : Type := Nat → Nat → Int32
abbrev wB : Type := Nat → Nat → Int64
abbrev wL : Type := (Nat → Nat) → (Nat → ClassId) → wF → wA → wB → Nat → va_E
def wg (ad : Nat → Nat) (k : Nat → va_E) (N : Nat) : va_W := (List.range N).map (fun j => (ad j, k j))
theorem wg_len {ad : Nat → Nat} {k : Nat → va_E} {N : Nat} : (wg ad k N).length = N := by simp [wg]
theorem wg_get {ad : Nat → Nat} {k : Nat → va_E} {N j : Nat} (h : j < N) : (wg ad k N)[j]? = some (ad j, k j) := by
  unfold wg
  rw [List.getElem?_map, List.getElem?_range h]
  rfl
theorem wg_set {ad : Nat → Nat} {k : Nat → va_E} {N j : Nat} {e : va_E} (h : j < N) : (wg ad k N).set j (ad j, e) = wg ad (va_up k j e) N := by
  refine List.ext_getElem? (fun i => ?_)
  rw [List.getElem?_set]
  by_cases e1 : j = i
  · subst e1
    rw [if_pos rfl, if_pos (by rw [wg_len]; exact h), wg_get h, va_up_self]
  · rw [if_neg e1]
    by_cases hi : i < N
    · rw [wg_get hi, wg_get hi, va_up_ne _ _ (fun q => e1 q.symm)]
    · rw [List.getElem?_eq_none (by rw [wg_len]; omega), List.getElem?_eq_none (by rw [wg_len]; omega)]
def ww (N : Nat) (kf : wL) (ad : Nat → Nat) (ca : Nat → ClassId) (f : wF) (a : wA) (b : wB) : va_W := wg ad (kf ad ca f a b) N
def wd (N : Nat) (kf : wL) (D : va_G) (cl : List vw_C) (ad : Nat → Nat) (ca : Nat → ClassId) (A : Nat → Prop) (s : State) (H : Heap) (locs : List Loc) (f : wF) (a : wA) (b : wB) : Prop :=
  va_P D cl (ww N kf ad ca f a b) H ∧ va_D A (ww N kf ad ca f a b) ∧ va_S A s.heap H locs
/-- what a throw needs: two statics of Throwable, where the texts lie, and words that a call doesn't hand on by itself -/
def thI (X : String) : MethodName := ⟨X, "<init>", "(Ljava/lang/String;)V"⟩
abbrev thX : List String := ["java/lang/IllegalArgumentException", "java/lang/IndexOutOfBoundsException", "java/lang/IllegalStateException", "java/lang/UnsupportedOperationException"]
abbrev thD : List Cond := ["java/lang/RuntimeException", "java/lang/Exception", "java/lang/Throwable"].map (fun X => Cond.declares (thI X))
abbrev thC : List Cond := thX.map (fun X => Cond.castable X X)
def th (tx : List (String × Nat × String)) (sa : Nat → Nat) (A : Nat → Prop) (U : State) (H : Heap) : Prop :=
  vx_Zq Bundle.tN "UNASSIGNED_STACK" Bundle.steD A U H ∧ vx_Zq Bundle.tN "SUPPRESSED_SENTINEL" Bundle.listD A U H ∧ (∀ (k : Nat) (q : String × Nat × String), tx[k]? = some q → vk_R q.1 q.2.1 q.2.2 (sa k) U) ∧ (∀ w ∈ thD, va_Nw w U) ∧ (∀ w ∈ thC, va_Nw w U)
theorem thD_warm {s U : State} (hW : s.WarmedH U.vm) (h : ∀ w ∈ thD, va_Nw w s) : ∀ w ∈ thD, va_Nw w U := by
  intro w hw
  obtain ⟨X, -, rfl⟩ := List.mem_map.mp hw
  exact va_Nw.warmD hW (h _ hw)
theorem thC_warm {s U : State} (hW : s.WarmedH U.vm) (h : ∀ w ∈ thC, va_Nw w s) : ∀ w ∈ thC, va_Nw w U := by
  intro w hw
  obtain ⟨X, -, rfl⟩ := List.mem_map.mp hw
  exact va_Nw.warmC hW (h _ hw)
theorem th_use {s : State} {args : Array Value} (h1 : ∀ w ∈ thD, va_Nw w s) (h2 : ∀ w ∈ thC, va_Nw w s) : ∀ w ∈ thC ++ thD, w.before args s = true := by
  intro w hw
  rcases List.mem_append.mp hw with q | q
  · obtain ⟨X, -, rfl⟩ := List.mem_map.mp q
    exact va_Nw.use rfl (h2 _ q)
  · obtain ⟨X, -, rfl⟩ := List.mem_map.mp q
    exact va_Nw.use rfl (h1 _ q)
theorem th.blind {tx : List (String × Nat × String)} {sa : Nat → Nat} {A : Nat → Prop} {U : State} {g : JFrame} {mk : MethodId} {a : Array Value} (h : th tx sa A U U.heap) : th tx sa A (U.calling g mk a) (U.calling g mk a).heap :=
  ⟨vx_Zq.moved (u := U) (U := U.calling g mk a) (Vm.Alike.refl U.vm) h.1, vx_Zq.moved (u := U) (U := U.calling g mk a) (Vm.Alike.refl U.vm) h.2.1, fun k q hk => vk_R.warm (State.WarmedH.refl U) (h.2.2.1 k q hk), thD_warm (State.WarmedH.refl U) h.2.2.2.1, thC_warm (State.WarmedH.refl U) h.2.2.2.2⟩
theorem th.call {tx : List (String × Nat × String)} {sa : Nat → Nat} {A B : Nat → Prop} {s U : State} {H : Heap} (h : th tx sa A s s.heap) (hU : U.heap = H) (hW : s.WarmedH U.vm) (hq : ∀ a : Nat, a < s.heap.size → ¬ A a → H[a]? = s.heap[a]?) (hAB : ∀ q, B q → A q) : th tx sa B U U.heap := by
  refine ⟨?_, ?_, fun k q hk => vk_R.warm hW (h.2.2.1 k q hk), thD_warm hW h.2.2.2.1, thC_warm hW h.2.2.2.2⟩
  · rw [hU]; exact vx_Zq.moved hW.alike ((h.1.kept hq).narrow hAB)
  · rw [hU]; exact vx_Zq.moved hW.alike ((h.2.1.kept hq).narrow hAB)
/-- what holds all through a method's body -/
def cx (Wl : List Cond) (tys : List (ClassId × FieldType)) (tx : List (String × Nat × String)) (D : va_G) (cl : List vw_C) (sa : Nat → Nat) (A : Nat → Prop) (p : Program) (l : Launch) (s : State) (m : MethodId) (args : Array Value) (meth : Method) (c : Code) (cc : ByteArray) (nL : Nat) (own : String) : Prop :=
  p.tables.exec = Jvm.exec ∧ c.code = cc ∧ c.maxLocals = nL ∧ s.vm.findClass own = some m.cls ∧ (∀ w ∈ Wl, w.before args s = true) ∧ va_K D cl tys s ∧ (∀ q, s.heap.size ≤ q → A q) ∧ th tx sa A s s.heap ∧ meth.locks = false ∧ l.stackTraces = false
def sPre (N : Nat) (kf : wL) (tys : List (ClassId × FieldType)) (tx : List (String × Nat × String)) (D : va_G) (cl : List vw_C) (ad : Nat → Nat) (ca : Nat → ClassId) (sa : Nat → Nat) (sz : Nat) (f : wF) (a : wA) (b : wB) (U : State) : Prop :=
  U.heap.size = sz ∧ va_P D cl (ww N kf ad ca f a b) U.heap ∧ va_K D cl tys U ∧ va_D (fun _ => True) (ww N kf ad ca f a b) ∧ th tx sa (va_A (ww N kf ad ca f a b) sz) U U.heap
def sPost (N : Nat) (kf : wL) (D : va_G) (cl : List vw_C) (ad : Nat → Nat) (ca : Nat → ClassId) (A : Nat → Prop) (u : wF × wA × wB) (t : State) : Prop :=
  va_P D cl (ww N kf ad ca u.1 u.2.1 u.2.2) t.heap ∧ va_D A (ww N kf ad ca u.1 u.2.1 u.2.2)
abbrev sX (N : Nat) (kf : wL) (D : va_G) (cl : List vw_C) (ad : Nat → Nat) (ca : Nat → ClassId) (A : Nat → Prop) (px : String → wF → wA → wB → Prop) : String → State → State → Prop :=
  vx_X (fun _ : wF × wA × wB => True) (fun E u t => px E u.1 u.2.1 u.2.2 ∧ sPost N kf D cl ad ca A u t) A
/-- contracts: of methods that answer an int (a boolean, too), a long, nothing -/
def mI (N : Nat) (kf : wL) (tys : List (ClassId × FieldType)) (tx : List (String × Nat × String)) (D : va_G) (cl : List vw_C) (l : Launch) (y : MethodName) (ws : List Cond) (rm : Room) (av : List Value) (ad : Nat → Nat) (ca : Nat → ClassId) (sa : Nat → Nat) (sz : Nat) (f : wF) (a : wA) (b : wB) (po : Int32 → wF → wA → wB → Prop) (px : String → wF → wA → wB → Prop) (mc ms : Nat) : Prop :=
  vx_Met l y ws rm (va_Pc av (sPre N kf tys tx D cl ad ca sa sz f a b)) (va_Qi (fun r (u : wF × wA × wB) => po r u.1 u.2.1 u.2.2) (sPost N kf D cl ad ca (va_A (ww N kf ad ca f a b) sz)) (va_A (ww N kf ad ca f a b) sz)) (sX N kf D cl ad ca (va_A (ww N kf ad ca f a b) sz) px) mc ms (va_A (ww N kf ad ca f a b) sz)
def mL (N : Nat) (kf : wL) (tys : List (ClassId × FieldType)) (tx : List (String × Nat × String)) (D : va_G) (cl : List vw_C) (l : Launch) (y : MethodName) (ws : List Cond) (rm : Room) (av : List Value) (ad : Nat → Nat) (ca : Nat → ClassId) (sa : Nat → Nat) (sz : Nat) (f : wF) (a : wA) (b : wB) (po : Int64 → wF → wA → wB → Prop) (px : String → wF → wA → wB → Prop) (mc ms : Nat) : Prop :=
  vx_Met l y ws rm (va_Pc av (sPre N kf tys tx D cl ad ca sa sz f a b)) (va_Ql (fun r (u : wF × wA × wB) => po r u.1 u.2.1 u.2.2) (sPost N kf D cl ad ca (va_A (ww N kf ad ca f a b) sz)) (va_A (ww N kf ad ca f a b) sz)) (sX N kf D cl ad ca (va_A (ww N kf ad ca f a b) sz) px) mc ms (va_A (ww N kf ad ca f a b) sz)
def mV (N : Nat) (kf : wL) (tys : List (ClassId × FieldType)) (tx : List (String × Nat × String)) (D : va_G) (cl : List vw_C) (l : Launch) (y : MethodName) (ws : List Cond) (rm : Room) (av : List Value) (ad : Nat → Nat) (ca : Nat → ClassId) (sa : Nat → Nat) (sz : Nat) (f : wF) (a : wA) (b : wB) (po : wF → wA → wB → Prop) (px : String → wF → wA → wB → Prop) (mc ms : Nat) : Prop :=
  vx_Met l y ws rm (va_Pc av (sPre N kf tys tx D cl ad ca sa sz f a b)) (va_Qv (fun (u : wF × wA × wB) => po u.1 u.2.1 u.2.2) (sPost N kf D cl ad ca (va_A (ww N kf ad ca f a b) sz)) (va_A (ww N kf ad ca f a b) sz)) (sX N kf D cl ad ca (va_A (ww N kf ad ca f a b) sz) px) mc ms (va_A (ww N kf ad ca f a b) sz)
theorem wfree {A : Nat → Prop} {ws : va_W} {H0 H : Heap} {locs : List Loc} (hD : va_D A ws) (hS : va_S A H0 H locs) (hA : ∀ q, H0.size ≤ q → A q) : ∀ q, va_A ws H.size q → A q := by
  intro q h
  rcases h with ⟨k, e, h⟩ | h
  · exact hD.2 k (q, e) h
  · exact hA q (Nat.le_trans hS.1 h)
theorem sPre.blind {N : Nat} {kf : wL} {tys : List (ClassId × FieldType)} {tx : List (String × Nat × String)} {D : va_G} {cl : List vw_C} {ad : Nat → Nat} {ca : Nat → ClassId} {sa : Nat → Nat} {sz : Nat} {f : wF} {a : wA} {b : wB} {av : List Value} : FrameBlind (va_Pc av (sPre N kf tys tx D cl ad ca sa sz f a b)) := by
  intro v U g mk h
  obtain ⟨h0, h1, h2, h3, h4, h5⟩ := h
  exact ⟨h0, h1, h2, va_K.moved (u := U) (U := U.calling g mk v) (Vm.Alike.refl U.vm) h3, h4, th.blind h5⟩
theorem good_in {Wl pre : List Cond} {cn : Cond} (hg : Wl.all goodWord = true) (hp : ∀ w ∈ pre, w ∈ Wl) (hn : cn ∈ Wl) : GoodIn Wl (pre ++ cn :: Wl) := by
  have h : ∀ w ∈ Wl, w ∈ Wl ∧ ((w.onTables && w.keeps) = true ∨ ∃ ty, w = .arrayClass ty) := fun w hw => ⟨hw, good_of_word (List.all_eq_true.mp hg w hw)⟩
  intro w hw
  rcases List.mem_append.mp hw with q | q
  · exact h w (hp w q)
  · rcases List.mem_cons.mp q with q | q
    · exact h w (by rw [q]; exact hn)
    · exact h w q
section LAYER
variable {N : Nat} {kf : wL} {Wl : List Cond} {tys : List (ClassId × FieldType)} {tx : List (String × Nat × String)} {D : va_G} {cl : List vw_C} {sa : Nat → Nat} {A : Nat → Prop} {ad : Nat → Nat} {ca : Nat → ClassId}
variable {p : Program} {l : Launch} {e : Env} {R : Room} {s : State} {m : MethodId} {args : Array Value} {below : List Frame} {meth : Method} {c : Code} {cc : ByteArray} {nL : Nat} {own : String} {H : Heap} {locs : List Loc} {cells slots : Nat} {Q : State → Prop} {pc : Nat} {ls : Array Slot} {rest st0 : List Value} {f : wF} {a : wA} {b : wB}
theorem pre_of (X : cx Wl tys tx D cl sa A p l s m args meth c cc nL own) (K : wd N kf D cl ad ca A s H locs f a b) (av : List Value) : ∀ U : State, U.heap = H → s.WarmedH U.vm → va_Pc av (sPre N kf tys tx D cl ad ca sa H.size f a b) av.toArray U := by
  intro U hU hW
  obtain ⟨hx, hb, hml, hown, hts, hK, hA, hth, hlk, hl⟩ := X
  obtain ⟨hP, hD, hS⟩ := K
  exact ⟨rfl, by rw [hU], by rw [hU]; exact hP, va_K.moved hW.alike hK, hD.weaken (fun _ _ _ _ => trivial), th.call hth hU hW hS.2.1 (wfree hD hS hA)⟩
theorem back_of_call (X : cx Wl tys tx D cl sa A p l s m args meth c cc nL own) (K : wd N kf D cl ad ca A s H locs f a b) {u : wF × wA × wB} {t : State} {H1 : Heap} {locs1 : List Loc} (ht : t.heap = H1) (hB : sPost N kf D cl ad ca (va_A (ww N kf ad ca f a b) H.size) u t) (hS1 : va_S A s.heap H1 locs1) : wd N kf D cl ad ca A s H1 locs1 u.1 u.2.1 u.2.2 := by
  obtain ⟨hx, hb, hml, hown, hts, hK, hA, hth, hlk, hl⟩ := X
  obtain ⟨hP, hD, hS⟩ := K
  obtain ⟨h1, h2⟩ := hB
  rw [ht] at h1
  exact ⟨h1, h2.weaken (fun _ q _ h => wfree hD hS hA q.1 h), hS1⟩
theorem gcI (X : cx Wl tys tx D cl sa A p l s m args meth c cc nL own) (K : wd N kf D cl ad ca A s H locs f a b) {y : MethodName} {bytes : ByteArray} {maxL n0 mc ms o ci index n1 : Nat} {ret : Option FieldType} {rm : Room} {C : String} {T : u_T} {As fs : List Value} {po : Int32 → wF → wA → wB → Prop} {px : String → wF → wA → wB → Prop}
    (hM : mI N kf tys tx D cl l y (Cond.code y bytes maxL ret :: Wl) rm (Value.ref (ad o) :: As) ad ca sa H.size f a b po px mc ms) (ho : o < N) (hko : kf ad ca f a b o = .inr (ci, fs)) (hci : cl[ci]? = some (C, T, n1))
    (hg : Wl.all goodWord = true) (w1 : Cond.methodLink own index y ∈ Wl) (w2 : Cond.instanceMethod y ∈ Wl) (w3 : Cond.selects C y y ∈ Wl) (w4 : Cond.initialized C ∈ Wl) (w5 : Cond.code y bytes maxL ret ∈ Wl)
    (hd : y.cls = C ∧ y.cls ≠ "java/lang/invoke/MethodHandle" ∧ y.cls ≠ "java/lang/invoke/VarHandle" ∧ (parseMethodDescriptor y.desc).map (fun d => d.parameters.length) = some n0) (hrc : rm.cells = mc) (hrs : rm.slots = ms) (hR : rm.frames + 1 ≤ R.frames ∧ 8 + (maxL + 11) + rm.locals ≤ R.locals)
    (hn : As.length = n0) (hsz : ls.size = nL) (hst : st0 = As.reverse ++ Value.ref (ad o) :: rest) (hW : (rest.map fun v => v.category).sum ≤ 8) (hdg : decode cc pc = .ok (.invokevirtual index, 3)) (hf : cells + mc ≤ R.cells ∧ slots + ms ≤ R.slots)
    (kx : ∀ (E : String) (ce : Cell) (q9 : Addr) (f1 : wF) (a1 : wA) (b1 : wB) (H1 : Heap) (locs1 : List Loc), px E f1 a1 b1 → wd N kf D cl ad ca A s H1 locs1 f1 a1 b1 → H1[q9]? = some ce → ce.vm = .none → s.vm.findClass E = some ce.cls → vx_W p l e R s m args below meth c H1 locs1 (cells + mc) (slots + ms) Q (F0 m pc ls rest) q9)
    (kk : ∀ (r : Int32) (f1 : wF) (a1 : wA) (b1 : wB) (H1 : Heap) (locs1 : List Loc), po r f1 a1 b1 → wd N kf D cl ad ca A s H1 locs1 f1 a1 b1 → W p l e R s m args below meth c H1 locs1 (cells + mc) (slots + ms) Q (F0 m (pc + 3) ls (.int r :: rest))) : W p l e R s m args below meth c H locs cells slots Q (F0 m pc ls st0) := by
  obtain ⟨hx, hb, hml, hown, hts, hK, hA, hth, hlk, hl⟩ := id X
  obtain ⟨hP, hD, hS⟩ := id K
  have hF := wfree hD hS hA
  have hrv : ∃ cellB : Cell, H[ad o]? = some cellB ∧ cellB.vm.isStatics = false ∧ s.vm.findClass C = some cellB.cls := va_recv hK hP (ci := ci) (q0 := o) hci ((wg_get ho).trans (by rw [hko]))
  have hT : GoodIn Wl (wsV own index C y (Cond.code y bytes maxL ret :: Wl)) := good_in hg (fun w hw => by
    simp only [List.mem_cons, List.not_mem_nil, or_false] at hw
    rcases hw with q | q | q | q
    · rw [q]; exact w1
    · rw [q]; exact w2
    · rw [q]; exact w3
    · rw [q]; exact w4) w5
  exact vx_calli (vx_runV (As := As) (rest := rest) ⟨hx, hb, hml, hown, hts⟩ hM (cwV n0 hts hT rfl hrc hrs hd hR) ⟨sPre.blind, hrv, pre_of X K _⟩ rfl hn hsz hst (lv_room hW) hdg hf) hS (fun q _ h => hF q h) hF (fun q _ h => hF q h)
    (fun E ce q9 u t H1 locs1 ht hvm _ hB hz hk hS1 hce hv hcl => kx E ce q9 u.1 u.2.1 u.2.2 H1 locs1 hB.1 (back_of_call X K ht hB.2 hS1) hce hv hcl)
    (fun r_ u t H1 locs1 ht hvm hw hB hz hk hS1 => kk r_ u.1 u.2.1 u.2.2 H1 locs1 hw (back_of_call X K ht hB hS1))
theorem gcSI (X : cx Wl tys tx D cl sa A p l s m args meth c cc nL own) (K : wd N kf D cl ad ca A s H locs f a b) {y : MethodName} {bytes : ByteArray} {maxL n0 mc ms index : Nat} {ret : Option FieldType} {rm : Room} {As : List Value} {po : Int32 → wF → wA → wB → Prop} {px : String → wF → wA → wB → Prop}
    (hM : mI N kf tys tx D cl l y (Cond.code y bytes maxL ret :: Wl) rm As ad ca sa H.size f a b po px mc ms)
    (hg : Wl.all goodWord = true) (w1 : Cond.methodLink own index y ∈ Wl) (w2 : Cond.static y ∈ Wl) (w4 : Cond.initialized y.cls ∈ Wl) (w5 : Cond.code y bytes maxL ret ∈ Wl)
    (hd : y.cls ≠ "java/lang/invoke/MethodHandle" ∧ y.cls ≠ "java/lang/invoke/VarHandle" ∧ (parseMethodDescriptor y.desc).map (fun d => d.parameters.length) = some n0) (hrc : rm.cells = mc) (hrs : rm.slots = ms) (hR : rm.frames + 1 ≤ R.frames ∧ 8 + (maxL + 11) + rm.locals ≤ R.locals)
    (hn : As.length = n0) (hsz : ls.size = nL) (hst : st0 = As.reverse ++ rest) (hW : (rest.map fun v => v.category).sum ≤ 8) (hdg : decode cc pc = .ok (.invokestatic index, 3)) (hf : cells + mc ≤ R.cells ∧ slots + ms ≤ R.slots)
    (kx : ∀ (E : String) (ce : Cell) (q9 : Addr) (f1 : wF) (a1 : wA) (b1 : wB) (H1 : Heap) (locs1 : List Loc), px E f1 a1 b1 → wd N kf D cl ad ca A s H1 locs1 f1 a1 b1 → H1[q9]? = some ce → ce.vm = .none → s.vm.findClass E = some ce.cls → vx_W p l e R s m args below meth c H1 locs1 (cells + mc) (slots + ms) Q (F0 m pc ls rest) q9)
    (kk : ∀ (r : Int32) (f1 : wF) (a1 : wA) (b1 : wB) (H1 : Heap) (locs1 : List Loc), po r f1 a1 b1 → wd N kf D cl ad ca A s H1 locs1 f1 a1 b1 → W p l e R s m args below meth c H1 locs1 (cells + mc) (slots + ms) Q (F0 m (pc + 3) ls (.int r :: rest))) : W p l e R s m args below meth c H locs cells slots Q (F0 m pc ls st0) := by
  obtain ⟨hx, hb, hml, hown, hts, hK, hA, hth, hlk, hl⟩ := id X
  obtain ⟨hP, hD, hS⟩ := id K
  have hF := wfree hD hS hA
  have hT : GoodIn Wl (va_wsS own index y (Cond.code y bytes maxL ret :: Wl)) := good_in hg (fun w hw => by
    simp only [List.mem_cons, List.not_mem_nil, or_false] at hw
    rcases hw with q | q | q
    · rw [q]; exact w1
    · rw [q]; exact w2
    · rw [q]; exact w4) w5
  exact vx_calli (vx_runS (As := As) (rest := rest) ⟨hx, hb, hml, hown, hts⟩ hM (va_cwS n0 hts hT rfl hrc hrs hd hR) ⟨sPre.blind, pre_of X K _⟩ rfl hn hsz hst (lv_room hW) hdg hf) hS (fun q _ h => hF q h) hF (fun q _ h => hF q h)
    (fun E ce q9 u t H1 locs1 ht hvm _ hB hz hk hS1 hce hv hcl => kx E ce q9 u.1 u.2.1 u.2.2 H1 locs1 hB.1 (back_of_call X K ht hB.2 hS1) hce hv hcl)
    (fun r_ u t H1 locs1 ht hvm hw hB hz hk hS1 => kk r_ u.1 u.2.1 u.2.2 H1 locs1 hw (back_of_call X K ht hB hS1))
theorem gcL (X : cx Wl tys tx D cl sa A p l s m args meth c cc nL own) (K : wd N kf D cl ad ca A s H locs f a b) {y : MethodName} {bytes : ByteArray} {maxL n0 mc ms o ci index n1 : Nat} {ret : Option FieldType} {rm : Room} {C : String} {T : u_T} {As fs : List Value} {po : Int64 → wF → wA → wB → Prop} {px : String → wF → wA → wB → Prop}
    (hM : mL N kf tys tx D cl l y (Cond.code y bytes maxL ret :: Wl) rm (Value.ref (ad o) :: As) ad ca sa H.size f a b po px mc ms) (ho : o < N) (hko : kf ad ca f a b o = .inr (ci, fs)) (hci : cl[ci]? = some (C, T, n1))
    (hg : Wl.all goodWord = true) (w1 : Cond.methodLink own index y ∈ Wl) (w2 : Cond.instanceMethod y ∈ Wl) (w3 : Cond.selects C y y ∈ Wl) (w4 : Cond.initialized C ∈ Wl) (w5 : Cond.code y bytes maxL ret ∈ Wl)
    (hd : y.cls = C ∧ y.cls ≠ "java/lang/invoke/MethodHandle" ∧ y.cls ≠ "java/lang/invoke/VarHandle" ∧ (parseMethodDescriptor y.desc).map (fun d => d.parameters.length) = some n0) (hrc : rm.cells = mc) (hrs : rm.slots = ms) (hR : rm.frames + 1 ≤ R.frames ∧ 8 + (maxL + 11) + rm.locals ≤ R.locals)
    (hn : As.length = n0) (hsz : ls.size = nL) (hst : st0 = As.reverse ++ Value.ref (ad o) :: rest) (hW : (rest.map fun v => v.category).sum ≤ 8) (hdg : decode cc pc = .ok (.invokevirtual index, 3)) (hf : cells + mc ≤ R.cells ∧ slots + ms ≤ R.slots)
    (kx : ∀ (E : String) (ce : Cell) (q9 : Addr) (f1 : wF) (a1 : wA) (b1 : wB) (H1 : Heap) (locs1 : List Loc), px E f1 a1 b1 → wd N kf D cl ad ca A s H1 locs1 f1 a1 b1 → H1[q9]? = some ce → ce.vm = .none → s.vm.findClass E = some ce.cls → vx_W p l e R s m args below meth c H1 locs1 (cells + mc) (slots + ms) Q (F0 m pc ls rest) q9)
    (kk : ∀ (r : Int64) (f1 : wF) (a1 : wA) (b1 : wB) (H1 : Heap) (locs1 : List Loc), po r f1 a1 b1 → wd N kf D cl ad ca A s H1 locs1 f1 a1 b1 → W p l e R s m args below meth c H1 locs1 (cells + mc) (slots + ms) Q (F0 m (pc + 3) ls (.long r :: rest))) : W p l e R s m args below meth c H locs cells slots Q (F0 m pc ls st0) := by
  obtain ⟨hx, hb, hml, hown, hts, hK, hA, hth, hlk, hl⟩ := id X
  obtain ⟨hP, hD, hS⟩ := id K
  have hF := wfree hD hS hA
  have hrv : ∃ cellB : Cell, H[ad o]? = some cellB ∧ cellB.vm.isStatics = false ∧ s.vm.findClass C = some cellB.cls := va_recv hK hP (ci := ci) (q0 := o) hci ((wg_get ho).trans (by rw [hko]))
  have hT : GoodIn Wl (wsV own index C y (Cond.code y bytes maxL ret :: Wl)) := good_in hg (fun w hw => by
    simp only [List.mem_cons, List.not_mem_nil, or_false] at hw
    rcases hw with q | q | q | q
    · rw [q]; exact w1
    · rw [q]; exact w2
    · rw [q]; exact w3
    · rw [q]; exact w4) w5
  exact vx_calll (vx_runV (As := As) (rest := rest) ⟨hx, hb, hml, hown, hts⟩ hM (cwV n0 hts hT rfl hrc hrs hd hR) ⟨sPre.blind, hrv, pre_of X K _⟩ rfl hn hsz hst (lv_room hW) hdg hf) hS (fun q _ h => hF q h) hF (fun q _ h => hF q h)
    (fun E ce q9 u t H1 locs1 ht hvm _ hB hz hk hS1 hce hv hcl => kx E ce q9 u.1 u.2.1 u.2.2 H1 locs1 hB.1 (back_of_call X K ht hB.2 hS1) hce hv hcl)
    (fun r_ u t H1 locs1 ht hvm hw hB hz hk hS1 => kk r_ u.1 u.2.1 u.2.2 H1 locs1 hw (back_of_call X K ht hB hS1))
theorem gcSL (X : cx Wl tys tx D cl sa A p l s m args meth c cc nL own) (K : wd N kf D cl ad ca A s H locs f a b) {y : MethodName} {bytes : ByteArray} {maxL n0 mc ms index : Nat} {ret : Option FieldType} {rm : Room} {As : List Value} {po : Int64 → wF → wA → wB → Prop} {px : String → wF → wA → wB → Prop}
    (hM : mL N kf tys tx D cl l y (Cond.code y bytes maxL ret :: Wl) rm As ad ca sa H.size f a b po px mc ms)
    (hg : Wl.all goodWord = true) (w1 : Cond.methodLink own index y ∈ Wl) (w2 : Cond.static y ∈ Wl) (w4 : Cond.initialized y.cls ∈ Wl) (w5 : Cond.code y bytes maxL ret ∈ Wl)
    (hd : y.cls ≠ "java/lang/invoke/MethodHandle" ∧ y.cls ≠ "java/lang/invoke/VarHandle" ∧ (parseMethodDescriptor y.desc).map (fun d => d.parameters.length) = some n0) (hrc : rm.cells = mc) (hrs : rm.slots = ms) (hR : rm.frames + 1 ≤ R.frames ∧ 8 + (maxL + 11) + rm.locals ≤ R.locals)
    (hn : As.length = n0) (hsz : ls.size = nL) (hst : st0 = As.reverse ++ rest) (hW : (rest.map fun v => v.category).sum ≤ 8) (hdg : decode cc pc = .ok (.invokestatic index, 3)) (hf : cells + mc ≤ R.cells ∧ slots + ms ≤ R.slots)
    (kx : ∀ (E : String) (ce : Cell) (q9 : Addr) (f1 : wF) (a1 : wA) (b1 : wB) (H1 : Heap) (locs1 : List Loc), px E f1 a1 b1 → wd N kf D cl ad ca A s H1 locs1 f1 a1 b1 → H1[q9]? = some ce → ce.vm = .none → s.vm.findClass E = some ce.cls → vx_W p l e R s m args below meth c H1 locs1 (cells + mc) (slots + ms) Q (F0 m pc ls rest) q9)
    (kk : ∀ (r : Int64) (f1 : wF) (a1 : wA) (b1 : wB) (H1 : Heap) (locs1 : List Loc), po r f1 a1 b1 → wd N kf D cl ad ca A s H1 locs1 f1 a1 b1 → W p l e R s m args below meth c H1 locs1 (cells + mc) (slots + ms) Q (F0 m (pc + 3) ls (.long r :: rest))) : W p l e R s m args below meth c H locs cells slots Q (F0 m pc ls st0) := by
  obtain ⟨hx, hb, hml, hown, hts, hK, hA, hth, hlk, hl⟩ := id X
  obtain ⟨hP, hD, hS⟩ := id K
  have hF := wfree hD hS hA
  have hT : GoodIn Wl (va_wsS own index y (Cond.code y bytes maxL ret :: Wl)) := good_in hg (fun w hw => by
    simp only [List.mem_cons, List.not_mem_nil, or_false] at hw
    rcases hw with q | q | q
    · rw [q]; exact w1
    · rw [q]; exact w2
    · rw [q]; exact w4) w5
  exact vx_calll (vx_runS (As := As) (rest := rest) ⟨hx, hb, hml, hown, hts⟩ hM (va_cwS n0 hts hT rfl hrc hrs hd hR) ⟨sPre.blind, pre_of X K _⟩ rfl hn hsz hst (lv_room hW) hdg hf) hS (fun q _ h => hF q h) hF (fun q _ h => hF q h)
    (fun E ce q9 u t H1 locs1 ht hvm _ hB hz hk hS1 hce hv hcl => kx E ce q9 u.1 u.2.1 u.2.2 H1 locs1 hB.1 (back_of_call X K ht hB.2 hS1) hce hv hcl)
    (fun r_ u t H1 locs1 ht hvm hw hB hz hk hS1 => kk r_ u.1 u.2.1 u.2.2 H1 locs1 hw (back_of_call X K ht hB hS1))
theorem gcV (X : cx Wl tys tx D cl sa A p l s m args meth c cc nL own) (K : wd N kf D cl ad ca A s H locs f a b) {y : MethodName} {bytes : ByteArray} {maxL n0 mc ms o ci index n1 : Nat} {ret : Option FieldType} {rm : Room} {C : String} {T : u_T} {As fs : List Value} {po : wF → wA → wB → Prop} {px : String → wF → wA → wB → Prop}
    (hM : mV N kf tys tx D cl l y (Cond.code y bytes maxL ret :: Wl) rm (Value.ref (ad o) :: As) ad ca sa H.size f a b po px mc ms) (ho : o < N) (hko : kf ad ca f a b o = .inr (ci, fs)) (hci : cl[ci]? = some (C, T, n1))
    (hg : Wl.all goodWord = true) (w1 : Cond.methodLink own index y ∈ Wl) (w2 : Cond.instanceMethod y ∈ Wl) (w3 : Cond.selects C y y ∈ Wl) (w4 : Cond.initialized C ∈ Wl) (w5 : Cond.code y bytes maxL ret ∈ Wl)
    (hd : y.cls = C ∧ y.cls ≠ "java/lang/invoke/MethodHandle" ∧ y.cls ≠ "java/lang/invoke/VarHandle" ∧ (parseMethodDescriptor y.desc).map (fun d => d.parameters.length) = some n0) (hrc : rm.cells = mc) (hrs : rm.slots = ms) (hR : rm.frames + 1 ≤ R.frames ∧ 8 + (maxL + 11) + rm.locals ≤ R.locals)
    (hn : As.length = n0) (hsz : ls.size = nL) (hst : st0 = As.reverse ++ Value.ref (ad o) :: rest) (hW : (rest.map fun v => v.category).sum ≤ 8) (hdg : decode cc pc = .ok (.invokevirtual index, 3)) (hf : cells + mc ≤ R.cells ∧ slots + ms ≤ R.slots)
    (kx : ∀ (E : String) (ce : Cell) (q9 : Addr) (f1 : wF) (a1 : wA) (b1 : wB) (H1 : Heap) (locs1 : List Loc), px E f1 a1 b1 → wd N kf D cl ad ca A s H1 locs1 f1 a1 b1 → H1[q9]? = some ce → ce.vm = .none → s.vm.findClass E = some ce.cls → vx_W p l e R s m args below meth c H1 locs1 (cells + mc) (slots + ms) Q (F0 m pc ls rest) q9)
    (kk : ∀ (f1 : wF) (a1 : wA) (b1 : wB) (H1 : Heap) (locs1 : List Loc), po f1 a1 b1 → wd N kf D cl ad ca A s H1 locs1 f1 a1 b1 → W p l e R s m args below meth c H1 locs1 (cells + mc) (slots + ms) Q (F0 m (pc + 3) ls rest)) : W p l e R s m args below meth c H locs cells slots Q (F0 m pc ls st0) := by
  obtain ⟨hx, hb, hml, hown, hts, hK, hA, hth, hlk, hl⟩ := id X
  obtain ⟨hP, hD, hS⟩ := id K
  have hF := wfree hD hS hA
  have hrv : ∃ cellB : Cell, H[ad o]? = some cellB ∧ cellB.vm.isStatics = false ∧ s.vm.findClass C = some cellB.cls := va_recv hK hP (ci := ci) (q0 := o) hci ((wg_get ho).trans (by rw [hko]))
  have hT : GoodIn Wl (wsV own index C y (Cond.code y bytes maxL ret :: Wl)) := good_in hg (fun w hw => by
    simp only [List.mem_cons, List.not_mem_nil, or_false] at hw
    rcases hw with q | q | q | q
    · rw [q]; exact w1
    · rw [q]; exact w2
    · rw [q]; exact w3
    · rw [q]; exact w4) w5
  exact vx_callv (vx_runV (As := As) (rest := rest) ⟨hx, hb, hml, hown, hts⟩ hM (cwV n0 hts hT rfl hrc hrs hd hR) ⟨sPre.blind, hrv, pre_of X K _⟩ rfl hn hsz hst (lv_room hW) hdg hf) hS (fun q _ h => hF q h) hF (fun q _ h => hF q h)
    (fun E ce q9 u t H1 locs1 ht hvm _ hB hz hk hS1 hce hv hcl => kx E ce q9 u.1 u.2.1 u.2.2 H1 locs1 hB.1 (back_of_call X K ht hB.2 hS1) hce hv hcl)
    (fun u t H1 locs1 ht hvm hw hB hz hk hS1 => kk u.1 u.2.1 u.2.2 H1 locs1 hw (back_of_call X K ht hB hS1))
theorem gcSV (X : cx Wl tys tx D cl sa A p l s m args meth c cc nL own) (K : wd N kf D cl ad ca A s H locs f a b) {y : MethodName} {bytes : ByteArray} {maxL n0 mc ms index : Nat} {ret : Option FieldType} {rm : Room} {As : List Value} {po : wF → wA → wB → Prop} {px : String → wF → wA → wB → Prop}
    (hM : mV N kf tys tx D cl l y (Cond.code y bytes maxL ret :: Wl) rm As ad ca sa H.size f a b po px mc ms)
    (hg : Wl.all goodWord = true) (w1 : Cond.methodLink own index y ∈ Wl) (w2 : Cond.static y ∈ Wl) (w4 : Cond.initialized y.cls ∈ Wl) (w5 : Cond.code y bytes maxL ret ∈ Wl)
    (hd : y.cls ≠ "java/lang/invoke/MethodHandle" ∧ y.cls ≠ "java/lang/invoke/VarHandle" ∧ (parseMethodDescriptor y.desc).map (fun d => d.parameters.length) = some n0) (hrc : rm.cells = mc) (hrs : rm.slots = ms) (hR : rm.frames + 1 ≤ R.frames ∧ 8 + (maxL + 11) + rm.locals ≤ R.locals)
    (hn : As.length = n0) (hsz : ls.size = nL) (hst : st0 = As.reverse ++ rest) (hW : (rest.map fun v => v.category).sum ≤ 8) (hdg : decode cc pc = .ok (.invokestatic index, 3)) (hf : cells + mc ≤ R.cells ∧ slots + ms ≤ R.slots)
    (kx : ∀ (E : String) (ce : Cell) (q9 : Addr) (f1 : wF) (a1 : wA) (b1 : wB) (H1 : Heap) (locs1 : List Loc), px E f1 a1 b1 → wd N kf D cl ad ca A s H1 locs1 f1 a1 b1 → H1[q9]? = some ce → ce.vm = .none → s.vm.findClass E = some ce.cls → vx_W p l e R s m args below meth c H1 locs1 (cells + mc) (slots + ms) Q (F0 m pc ls rest) q9)
    (kk : ∀ (f1 : wF) (a1 : wA) (b1 : wB) (H1 : Heap) (locs1 : List Loc), po f1 a1 b1 → wd N kf D cl ad ca A s H1 locs1 f1 a1 b1 → W p l e R s m args below meth c H1 locs1 (cells + mc) (slots + ms) Q (F0 m (pc + 3) ls rest)) : W p l e R s m args below meth c H locs cells slots Q (F0 m pc ls st0) := by
  obtain ⟨hx, hb, hml, hown, hts, hK, hA, hth, hlk, hl⟩ := id X
  obtain ⟨hP, hD, hS⟩ := id K
  have hF := wfree hD hS hA
  have hT : GoodIn Wl (va_wsS own index y (Cond.code y bytes maxL ret :: Wl)) := good_in hg (fun w hw => by
    simp only [List.mem_cons, List.not_mem_nil, or_false] at hw
    rcases hw with q | q | q
    · rw [q]; exact w1
    · rw [q]; exact w2
    · rw [q]; exact w4) w5
  exact vx_callv (vx_runS (As := As) (rest := rest) ⟨hx, hb, hml, hown, hts⟩ hM (va_cwS n0 hts hT rfl hrc hrs hd hR) ⟨sPre.blind, pre_of X K _⟩ rfl hn hsz hst (lv_room hW) hdg hf) hS (fun q _ h => hF q h) hF (fun q _ h => hF q h)
    (fun E ce q9 u t H1 locs1 ht hvm _ hB hz hk hS1 hce hv hcl => kx E ce q9 u.1 u.2.1 u.2.2 H1 locs1 hB.1 (back_of_call X K ht hB.2 hS1) hce hv hcl)
    (fun u t H1 locs1 ht hvm hw hB hz hk hS1 => kk u.1 u.2.1 u.2.2 H1 locs1 hw (back_of_call X K ht hB hS1))
theorem ofI {y : MethodName} {maxL mc ms sz : Nat} {ret : Option FieldType} {rm : Room} {av : List Value} {po : Int32 → wF → wA → wB → Prop} {px : String → wF → wA → wB → Prop} (hy : plainName y.cls = true) (hl : l.stackTraces = false) (hlen : (lg_sl av).length ≤ maxL)
    (body : ∀ (p : Program) (e : Env) (s : State) (m : MethodId) (below : List Frame) (meth : Method) (c : Code) (ls : Array Slot), cx Wl tys tx D cl sa (va_A (ww N kf ad ca f a b) sz) p l s m av.toArray meth c cc maxL y.cls → (∀ x ∈ c.exceptionTable.toList, False) → meth.sig.returnType = ret → wd N kf D cl ad ca (va_A (ww N kf ad ca f a b) sz) s s.heap [] f a b → lv_has ls maxL (lv_args 0 av) →
      W p l e rm s m av.toArray below meth c s.heap [] 0 0 (vx_MQ below (va_Qi (fun r (u : wF × wA × wB) => po r u.1 u.2.1 u.2.2) (sPost N kf D cl ad ca (va_A (ww N kf ad ca f a b) sz)) (va_A (ww N kf ad ca f a b) sz)) (sX N kf D cl ad ca (va_A (ww N kf ad ca f a b) sz) px) av.toArray s mc ms (va_A (ww N kf ad ca f a b) sz)) (F0 m 0 ls [])) : mI N kf tys tx D cl l y (Cond.code y cc maxL ret :: Wl) rm av ad ca sa sz f a b po px mc ms := by
  refine vx_ofW (cc := cc) (maxL := maxL) (ret := ret) hy rfl ?_
  intro p e s m args below meth c s₁ B hml hex hv
  obtain ⟨rfl, hsz, hP, hK, hD0, hth⟩ := hv
  have hts := atoms_spec (ws := Cond.code y cc maxL ret :: Wl) B.pre
  have hl1 := lv_entry av (n := maxL) hlen
  rw [lg_entry_eq]
  generalize (lg_sl av ++ List.replicate (maxL - (lg_sl av).length) Slot.unset).toArray = ls at hl1 ⊢
  exact body p e s m below meth c ls ⟨B.exec, B.bytes, hml, findClass_of_methodNamed B.named, fun w hw => hts w (List.mem_cons_of_mem _ hw), hK, fun q h => Or.inr (by rw [← hsz]; exact h), hth, B.notSynchronized, hl⟩ hex B.returns ⟨hP, hD0.self, va_S.rf⟩ hl1
theorem ofL {y : MethodName} {maxL mc ms sz : Nat} {ret : Option FieldType} {rm : Room} {av : List Value} {po : Int64 → wF → wA → wB → Prop} {px : String → wF → wA → wB → Prop} (hy : plainName y.cls = true) (hl : l.stackTraces = false) (hlen : (lg_sl av).length ≤ maxL)
    (body : ∀ (p : Program) (e : Env) (s : State) (m : MethodId) (below : List Frame) (meth : Method) (c : Code) (ls : Array Slot), cx Wl tys tx D cl sa (va_A (ww N kf ad ca f a b) sz) p l s m av.toArray meth c cc maxL y.cls → (∀ x ∈ c.exceptionTable.toList, False) → meth.sig.returnType = ret → wd N kf D cl ad ca (va_A (ww N kf ad ca f a b) sz) s s.heap [] f a b → lv_has ls maxL (lv_args 0 av) →
      W p l e rm s m av.toArray below meth c s.heap [] 0 0 (vx_MQ below (va_Ql (fun r (u : wF × wA × wB) => po r u.1 u.2.1 u.2.2) (sPost N kf D cl ad ca (va_A (ww N kf ad ca f a b) sz)) (va_A (ww N kf ad ca f a b) sz)) (sX N kf D cl ad ca (va_A (ww N kf ad ca f a b) sz) px) av.toArray s mc ms (va_A (ww N kf ad ca f a b) sz)) (F0 m 0 ls [])) : mL N kf tys tx D cl l y (Cond.code y cc maxL ret :: Wl) rm av ad ca sa sz f a b po px mc ms := by
  refine vx_ofW (cc := cc) (maxL := maxL) (ret := ret) hy rfl ?_
  intro p e s m args below meth c s₁ B hml hex hv
  obtain ⟨rfl, hsz, hP, hK, hD0, hth⟩ := hv
  have hts := atoms_spec (ws := Cond.code y cc maxL ret :: Wl) B.pre
  have hl1 := lv_entry av (n := maxL) hlen
  rw [lg_entry_eq]
  generalize (lg_sl av ++ List.replicate (maxL - (lg_sl av).length) Slot.unset).toArray = ls at hl1 ⊢
  exact body p e s m below meth c ls ⟨B.exec, B.bytes, hml, findClass_of_methodNamed B.named, fun w hw => hts w (List.mem_cons_of_mem _ hw), hK, fun q h => Or.inr (by rw [← hsz]; exact h), hth, B.notSynchronized, hl⟩ hex B.returns ⟨hP, hD0.self, va_S.rf⟩ hl1
theorem ofV {y : MethodName} {maxL mc ms sz : Nat} {ret : Option FieldType} {rm : Room} {av : List Value} {po : wF → wA → wB → Prop} {px : String → wF → wA → wB → Prop} (hy : plainName y.cls = true) (hl : l.stackTraces = false) (hlen : (lg_sl av).length ≤ maxL)
    (body : ∀ (p : Program) (e : Env) (s : State) (m : MethodId) (below : List Frame) (meth : Method) (c : Code) (ls : Array Slot), cx Wl tys tx D cl sa (va_A (ww N kf ad ca f a b) sz) p l s m av.toArray meth c cc maxL y.cls → (∀ x ∈ c.exceptionTable.toList, False) → meth.sig.returnType = ret → wd N kf D cl ad ca (va_A (ww N kf ad ca f a b) sz) s s.heap [] f a b → lv_has ls maxL (lv_args 0 av) →
      W p l e rm s m av.toArray below meth c s.heap [] 0 0 (vx_MQ below (va_Qv (fun (u : wF × wA × wB) => po u.1 u.2.1 u.2.2) (sPost N kf D cl ad ca (va_A (ww N kf ad ca f a b) sz)) (va_A (ww N kf ad ca f a b) sz)) (sX N kf D cl ad ca (va_A (ww N kf ad ca f a b) sz) px) av.toArray s mc ms (va_A (ww N kf ad ca f a b) sz)) (F0 m 0 ls [])) : mV N kf tys tx D cl l y (Cond.code y cc maxL ret :: Wl) rm av ad ca sa sz f a b po px mc ms := by
  refine vx_ofW (cc := cc) (maxL := maxL) (ret := ret) hy rfl ?_
  intro p e s m args below meth c s₁ B hml hex hv
  obtain ⟨rfl, hsz, hP, hK, hD0, hth⟩ := hv
  have hts := atoms_spec (ws := Cond.code y cc maxL ret :: Wl) B.pre
  have hl1 := lv_entry av (n := maxL) hlen
  rw [lg_entry_eq]
  generalize (lg_sl av ++ List.replicate (maxL - (lg_sl av).length) Slot.unset).toArray = ls at hl1 ⊢
  exact body p e s m below meth c ls ⟨B.exec, B.bytes, hml, findClass_of_methodNamed B.named, fun w hw => hts w (List.mem_cons_of_mem _ hw), hK, fun q h => Or.inr (by rw [← hsz]; exact h), hth, B.notSynchronized, hl⟩ hex B.returns ⟨hP, hD0.self, va_S.rf⟩ hl1
theorem endI {ty : FieldType} {rm : Room} {sz mc ms : Nat} {f0 : wF} {a0 : wA} {b0 : wB} {po : Int32 → wF → wA → wB → Prop} {px : String → wF → wA → wB → Prop} {v : Int32} (X : cx Wl tys tx D cl sa (va_A (ww N kf ad ca f0 a0 b0) sz) p l s m args meth c cc nL own) (K : wd N kf D cl ad ca (va_A (ww N kf ad ca f0 a0 b0) sz) s H locs f a b) (hr : meth.sig.returnType = some ty) (hn : narrow ty (.int v) = .int v) (hq : po v f a b) (hc : cells ≤ mc) (hs : slots ≤ ms) (hdg : decode cc pc = .ok (.ireturn, 1)) :
    W p l e rm s m args below meth c H locs cells slots (vx_MQ below (va_Qi (fun r (u : wF × wA × wB) => po r u.1 u.2.1 u.2.2) (sPost N kf D cl ad ca (va_A (ww N kf ad ca f0 a0 b0) sz)) (va_A (ww N kf ad ca f0 a0 b0) sz)) (sX N kf D cl ad ca (va_A (ww N kf ad ca f0 a0 b0) sz) px) args s mc ms (va_A (ww N kf ad ca f0 a0 b0) sz)) (F0 m pc ls [.int v]) := by
  obtain ⟨hx, hb, hml, hown, hts, hK, hA, hth, hlk, hl⟩ := X
  obtain ⟨hP, hD, hS⟩ := K
  refine W.widen (k := mc) (n := ms) hc hs (vx_ret ?_)
  exact W.zret (v := v) hx hb hr hn (fun t ht hW => ⟨⟨v, (f, a, b), rfl, hq, by rw [ht]; exact hP, hD⟩, hS.F ht⟩) hS.2.2 hdg hlk
theorem endL {rm : Room} {sz mc ms : Nat} {f0 : wF} {a0 : wA} {b0 : wB} {po : Int64 → wF → wA → wB → Prop} {px : String → wF → wA → wB → Prop} {v : Int64} (X : cx Wl tys tx D cl sa (va_A (ww N kf ad ca f0 a0 b0) sz) p l s m args meth c cc nL own) (K : wd N kf D cl ad ca (va_A (ww N kf ad ca f0 a0 b0) sz) s H locs f a b) (hr : meth.sig.returnType = some .long) (hq : po v f a b) (hc : cells ≤ mc) (hs : slots ≤ ms) (hdg : decode cc pc = .ok (.lreturn, 1)) :
    W p l e rm s m args below meth c H locs cells slots (vx_MQ below (va_Ql (fun r (u : wF × wA × wB) => po r u.1 u.2.1 u.2.2) (sPost N kf D cl ad ca (va_A (ww N kf ad ca f0 a0 b0) sz)) (va_A (ww N kf ad ca f0 a0 b0) sz)) (sX N kf D cl ad ca (va_A (ww N kf ad ca f0 a0 b0) sz) px) args s mc ms (va_A (ww N kf ad ca f0 a0 b0) sz)) (F0 m pc ls [.long v]) := by
  obtain ⟨hx, hb, hml, hown, hts, hK, hA, hth, hlk, hl⟩ := X
  obtain ⟨hP, hD, hS⟩ := K
  refine W.widen (k := mc) (n := ms) hc hs (vx_ret ?_)
  exact W.lret (v := v) hx hb hr (fun t ht hW => ⟨⟨v, (f, a, b), rfl, hq, by rw [ht]; exact hP, hD⟩, hS.F ht⟩) hS.2.2 hdg hlk
theorem endV {rm : Room} {sz mc ms : Nat} {f0 : wF} {a0 : wA} {b0 : wB} {po : wF → wA → wB → Prop} {px : String → wF → wA → wB → Prop} (X : cx Wl tys tx D cl sa (va_A (ww N kf ad ca f0 a0 b0) sz) p l s m args meth c cc nL own) (K : wd N kf D cl ad ca (va_A (ww N kf ad ca f0 a0 b0) sz) s H locs f a b) (hr : meth.sig.returnType = none) (hq : po f a b) (hc : cells ≤ mc) (hs : slots ≤ ms) (hdg : decode cc pc = .ok (.return_, 1)) :
    W p l e rm s m args below meth c H locs cells slots (vx_MQ below (va_Qv (fun (u : wF × wA × wB) => po u.1 u.2.1 u.2.2) (sPost N kf D cl ad ca (va_A (ww N kf ad ca f0 a0 b0) sz)) (va_A (ww N kf ad ca f0 a0 b0) sz)) (sX N kf D cl ad ca (va_A (ww N kf ad ca f0 a0 b0) sz) px) args s mc ms (va_A (ww N kf ad ca f0 a0 b0) sz)) (F0 m pc ls []) := by
  obtain ⟨hx, hb, hml, hown, hts, hK, hA, hth, hlk, hl⟩ := X
  obtain ⟨hP, hD, hS⟩ := K
  refine W.widen (k := mc) (n := ms) hc hs (vx_ret ?_)
  exact W.vret hx hb hr (fun t ht hW => ⟨⟨(f, a, b), rfl, hq, by rw [ht]; exact hP, hD⟩, hS.F ht⟩) hS.2.2 hdg hlk
/-- an exception of a callee goes on to the caller -/
theorem outX {rm : Room} {sz mc ms : Nat} {f0 : wF} {a0 : wA} {b0 : wB} {Qc : Array Value → State → Outcome → State → Prop} {px : String → wF → wA → wB → Prop} {E : String} {ce : Cell} {q9 : Addr} (X : cx Wl tys tx D cl sa (va_A (ww N kf ad ca f0 a0 b0) sz) p l s m args meth c cc nL own) (hex : ∀ x ∈ c.exceptionTable.toList, False) (K : wd N kf D cl ad ca (va_A (ww N kf ad ca f0 a0 b0) sz) s H locs f a b) (hq : px E f a b) (hce : H[q9]? = some ce) (hv : ce.vm = .none) (hcl : s.vm.findClass E = some ce.cls) (hc : cells ≤ mc) (hs : slots ≤ ms) :
    vx_W p l e rm s m args below meth c H locs cells slots (vx_MQ below Qc (sX N kf D cl ad ca (va_A (ww N kf ad ca f0 a0 b0) sz) px) args s mc ms (va_A (ww N kf ad ca f0 a0 b0) sz)) (F0 m pc ls rest) q9 := by
  obtain ⟨hx, hb, hml, hown, hts, hK, hA, hth, hlk, hl⟩ := X
  obtain ⟨hP, hD, hS⟩ := K
  exact vx_out (E := E) (fun x hx => (hex x hx).elim) hlk hce hv hcl (fun t ht ha => ⟨(f, a, b), trivial, ⟨hq, by rw [ht]; exact hP, hD⟩, hS.F ht⟩) hS.2.2 hc hs
/-- throw new E("text") -/
theorem throwX {rm : Room} {sz mc ms k ik is ic : Nat} {cls text : String} {f0 : wF} {a0 : wA} {b0 : wB} {Qc : Array Value → State → Outcome → State → Prop} {px : String → wF → wA → wB → Prop} {names : List String} (X : cx Wl tys tx D cl sa (va_A (ww N kf ad ca f0 a0 b0) sz) p l s m args meth c cc nL own) (hex : ∀ x ∈ c.exceptionTable.toList, False) (K : wd N kf D cl ad ca (va_A (ww N kf ad ca f0 a0 b0) sz) s H locs f a b) (hq : px cls f a b)
    (hcls : Bundle.fit cls = true) (hnames : ∀ n ∈ names, Bundle.fit n = true) (htx : tx[k]? = some (own, is, text)) (w1 : Cond.classLink own ik cls ∈ Wl) (w2 : Cond.initialized cls ∈ Wl) (hgd : ∀ w ∈ (vx_atS own ic cls names).filter goodWord, w ∈ Wl) (hbd : ∀ w ∈ (vx_atS own ic cls names).filter (fun w => !goodWord w), w ∈ thC ++ thD) (hgood : ∀ w ∈ Cond.classLink own ik cls :: Cond.initialized cls :: vx_atS own ic cls names, vx_ot w = true) (hsz : ls.size = nL)
    (d0 : decode cc pc = .ok (.new ik, 3)) (d3 : decode cc (pc + 3) = .ok (.dup, 1)) (d4 : decode cc (pc + 4) = .ok (.ldc is, 2)) (d6 : decode cc (pc + 6) = .ok (.invokespecial ic, 3)) (d9 : decode cc (pc + 9) = .ok (.athrow, 1))
    (hRf : names.length + 3 < rm.frames) (hRl : (rest.map fun v => v.category).sum + (13 * (names.length + 1) + 43) ≤ rm.locals) (hRc : cells + 1 ≤ rm.cells) (hRs : slots + 6 ≤ rm.slots) (hc : cells + 1 ≤ mc) (hs : slots + 6 ≤ ms) :
    W p l e rm s m args below meth c H locs cells slots (vx_MQ below Qc (sX N kf D cl ad ca (va_A (ww N kf ad ca f0 a0 b0) sz) px) args s mc ms (va_A (ww N kf ad ca f0 a0 b0) sz)) (F0 m pc ls rest) := by
  obtain ⟨hx, hb, hml, hown, hts, hK, hA, hth, hlk, hl⟩ := X
  obtain ⟨hP, hD, hS⟩ := K
  refine vx_throwS hx hb hl (names := names) (A := va_A (ww N kf ad ca f0 a0 b0) sz) hown hcls hnames (hts _ w1) (hts _ w2) (hth.2.2.1 k _ htx) (vx_hat (fun w hw => hts w (hgd w hw)) hbd (th_use hth.2.2.2.1 hth.2.2.2.2)) hgood hth.1 hth.2.1 hS (hsz.trans hml.symm) d0 d3 d4 d6 d9 (fun x hx => (hex x hx).elim) hRf hRl hRc hRs hlk ?_ hS.2.2 hc hs
  intro t ha hle hk
  refine ⟨(f, a, b), trivial, ⟨hq, hP.kept (fun k q hkq => hk q.1 ((hP k q hkq).lt)), hD⟩, Nat.le_trans hS.1 hle, fun q h1 h2 => (hk q (Nat.lt_of_lt_of_le h1 hS.1)).trans (hS.2.1 q h1 h2)⟩
/-- field and array rows, for a layout that says what the cell holds -/
theorem gGet (X : cx Wl tys tx D cl sa A p l s m args meth c cc nL own) (K : wd N kf D cl ad ca A s H locs f a b) {o ci n1 index k : Nat} {C : String} {T : u_T} {fs : List Value} {v : Value} (ho : o < N) (hko : kf ad ca f a b o = .inr (ci, fs)) (hci : cl[ci]? = some (C, T, n1)) (hT : ∀ w ∈ u_ws C T n1, w ∈ Wl) (hk : k < n1) (w1 : Cond.fieldLink own index (T k).1 (T k).2.1 (T k).2.2.1 ∈ Wl) (hv : fs[k]? = some v) (hdg : decode cc pc = .ok (.getfield index, 3))
    (kk : W p l e R s m args below meth c H locs cells slots Q (F0 m (pc + 3) ls (v :: rest))) : W p l e R s m args below meth c H locs cells slots Q (F0 m pc ls (.ref (ad o) :: rest)) := by
  obtain ⟨hx, hb, hml, hown, hts, hK, hA, hth, hlk, hl⟩ := X
  exact va_get (ref := (T k).1) hx hb hts hT hown hK K.1 o ((wg_get ho).trans (by rw [hko])) hci k hk (hts _ w1) (fun _ h9 => h9) hv hdg kk
theorem gPut (X : cx Wl tys tx D cl sa A p l s m args meth c cc nL own) (K : wd N kf D cl ad ca A s H locs f a b) {o ci n1 index k : Nat} {C : String} {T : u_T} {fs : List Value} {v : Value} {ty : FieldType} (ty0 : Nat → FieldType) (hty : ∀ k, k < n1 → parseFieldDescriptor (T k).2.2.1 = some (ty0 k)) (hnm : ∀ a, a < n1 → ∀ b, b < n1 → a ≠ b → (T a).2.1 ≠ (T b).2.1) (ho : o < N) (hko : kf ad ca f a b o = .inr (ci, fs)) (hci : cl[ci]? = some (C, T, n1)) (hT : ∀ w ∈ u_ws C T n1, w ∈ Wl) (hk : k < n1) (w1 : Cond.fieldLink own index (T k).1 (T k).2.1 (T k).2.2.1 ∈ Wl) (hfin : (T k).2.2.2 = false) (hd : parseFieldDescriptor (T k).2.2.1 = some ty) (hn : narrow ty v = v) (hfit : fits ty v = true) (hlen : k < fs.length) (hdg : decode cc pc = .ok (.putfield index, 3)) {f1 : wF} {a1 : wA} {b1 : wB} (hup : va_up (kf ad ca f a b) o (.inr (ci, fs.set k v)) = kf ad ca f1 a1 b1)
    (kk : ∀ (H1 : Heap) (locs1 : List Loc), wd N kf D cl ad ca A s H1 locs1 f1 a1 b1 → W p l e R s m args below meth c H1 locs1 cells slots Q (F0 m (pc + 3) ls rest)) : W p l e R s m args below meth c H locs cells slots Q (F0 m pc ls (v :: .ref (ad o) :: rest)) := by
  obtain ⟨hx, hb, hml, hown, hts, hK, hA, hth, hlk, hl⟩ := X
  refine va_put (ref := (T k).1) hx hb hts hT ty0 hty hnm hown hK K.1 K.2.1 K.2.2 o ((wg_get ho).trans (by rw [hko])) hci k hk (hts _ w1) (fun _ h9 => h9) hfin hd hn hfit hlen hdg (fun H1 locs1 hP1 hD1 hS1 => kk H1 locs1 ?_)
  unfold ww at hP1 hD1
  rw [wg_set ho, hup] at hP1 hD1
  exact ⟨hP1, hD1, hS1⟩
theorem gild (X : cx Wl tys tx D cl sa A p l s m args meth c cc nL own) (K : wd N kf D cl ad ca A s H locs f a b) {o n t0 : Nat} {cA : ClassId} {g : Nat → Int32} (ho : o < N) (hko : kf ad ca f a b o = .inl (cA, n, .inl g)) (ht : tys[t0]? = some (cA, .int)) {i : Int32} (hin : vp_in i n) (hdg : decode cc pc = .ok (.iaload, 1))
    (kk : W p l e R s m args below meth c H locs cells slots Q (F0 m (pc + 1) ls (.int (g i.toNatClampNeg) :: rest))) : W p l e R s m args below meth c H locs cells slots Q (F0 m pc ls (.int i :: .ref (ad o) :: rest)) := by
  obtain ⟨hx, hb, hml, hown, hts, hK, hA, hth, hlk, hl⟩ := X
  exact va_iald hx hb hK K.1 o t0 ((wg_get ho).trans (by rw [hko])) ht hin hdg kk
theorem gzld (X : cx Wl tys tx D cl sa A p l s m args meth c cc nL own) (K : wd N kf D cl ad ca A s H locs f a b) {o n t0 : Nat} {cA : ClassId} {g : Nat → Int32} (ho : o < N) (hko : kf ad ca f a b o = .inl (cA, n, .inl g)) (ht : tys[t0]? = some (cA, .boolean)) {i : Int32} (hin : vp_in i n) (hdg : decode cc pc = .ok (.baload, 1))
    (kk : W p l e R s m args below meth c H locs cells slots Q (F0 m (pc + 1) ls (.int (g i.toNatClampNeg) :: rest))) : W p l e R s m args below meth c H locs cells slots Q (F0 m pc ls (.int i :: .ref (ad o) :: rest)) := by
  obtain ⟨hx, hb, hml, hown, hts, hK, hA, hth, hlk, hl⟩ := X
  exact va_zald hx hb hK K.1 o t0 ((wg_get ho).trans (by rw [hko])) ht hin hdg kk
theorem glld (X : cx Wl tys tx D cl sa A p l s m args meth c cc nL own) (K : wd N kf D cl ad ca A s H locs f a b) {o n t0 : Nat} {cA : ClassId} {g : Nat → Int64} (ho : o < N) (hko : kf ad ca f a b o = .inl (cA, n, .inr (.inl g))) (ht : tys[t0]? = some (cA, .long)) {i : Int32} (hin : vp_in i n) (hdg : decode cc pc = .ok (.laload, 1))
    (kk : W p l e R s m args below meth c H locs cells slots Q (F0 m (pc + 1) ls (.long (g i.toNatClampNeg) :: rest))) : W p l e R s m args below meth c H locs cells slots Q (F0 m pc ls (.int i :: .ref (ad o) :: rest)) := by
  obtain ⟨hx, hb, hml, hown, hts, hK, hA, hth, hlk, hl⟩ := X
  exact va_lald hx hb hK K.1 o t0 ((wg_get ho).trans (by rw [hko])) ht hin hdg kk
theorem gist (X : cx Wl tys tx D cl sa A p l s m args meth c cc nL own) (K : wd N kf D cl ad ca A s H locs f a b) {o n t0 : Nat} {cA : ClassId} {g : Nat → Int32} (ho : o < N) (hko : kf ad ca f a b o = .inl (cA, n, .inl g)) (ht : tys[t0]? = some (cA, .int)) {i : Int32} {x : Int32} (hin : vp_in i n) (hdg : decode cc pc = .ok (.iastore, 1)) {f1 : wF} {a1 : wA} {b1 : wB} (hup : va_up (kf ad ca f a b) o (.inl (cA, n, .inl (upd g i.toNatClampNeg x))) = kf ad ca f1 a1 b1)
    (kk : ∀ (H1 : Heap) (locs1 : List Loc), wd N kf D cl ad ca A s H1 locs1 f1 a1 b1 → W p l e R s m args below meth c H1 locs1 cells slots Q (F0 m (pc + 1) ls rest)) : W p l e R s m args below meth c H locs cells slots Q (F0 m pc ls (.int x :: .int i :: .ref (ad o) :: rest)) := by
  obtain ⟨hx, hb, hml, hown, hts, hK, hA, hth, hlk, hl⟩ := X
  refine va_iast hx hb hK K.1 K.2.1 K.2.2 o t0 ((wg_get ho).trans (by rw [hko])) ht hin hdg (fun H1 locs1 hP1 hD1 hS1 => kk H1 locs1 ?_)
  unfold ww at hP1 hD1
  rw [wg_set ho, hup] at hP1 hD1
  exact ⟨hP1, hD1, hS1⟩
theorem gzst (X : cx Wl tys tx D cl sa A p l s m args meth c cc nL own) (K : wd N kf D cl ad ca A s H locs f a b) {o n t0 : Nat} {cA : ClassId} {g : Nat → Int32} (ho : o < N) (hko : kf ad ca f a b o = .inl (cA, n, .inl g)) (ht : tys[t0]? = some (cA, .boolean)) {i : Int32} {x : Int32} (hin : vp_in i n) (hdg : decode cc pc = .ok (.bastore, 1)) {f1 : wF} {a1 : wA} {b1 : wB} (hup : va_up (kf ad ca f a b) o (.inl (cA, n, .inl (upd g i.toNatClampNeg (vp_nar .boolean x)))) = kf ad ca f1 a1 b1)
    (kk : ∀ (H1 : Heap) (locs1 : List Loc), wd N kf D cl ad ca A s H1 locs1 f1 a1 b1 → W p l e R s m args below meth c H1 locs1 cells slots Q (F0 m (pc + 1) ls rest)) : W p l e R s m args below meth c H locs cells slots Q (F0 m pc ls (.int x :: .int i :: .ref (ad o) :: rest)) := by
  obtain ⟨hx, hb, hml, hown, hts, hK, hA, hth, hlk, hl⟩ := X
  refine va_zast hx hb hK K.1 K.2.1 K.2.2 o t0 ((wg_get ho).trans (by rw [hko])) ht hin hdg (fun H1 locs1 hP1 hD1 hS1 => kk H1 locs1 ?_)
  unfold ww at hP1 hD1
  rw [wg_set ho, hup] at hP1 hD1
  exact ⟨hP1, hD1, hS1⟩
theorem glst (X : cx Wl tys tx D cl sa A p l s m args meth c cc nL own) (K : wd N kf D cl ad ca A s H locs f a b) {o n t0 : Nat} {cA : ClassId} {g : Nat → Int64} (ho : o < N) (hko : kf ad ca f a b o = .inl (cA, n, .inr (.inl g))) (ht : tys[t0]? = some (cA, .long)) {i : Int32} {x : Int64} (hin : vp_in i n) (hdg : decode cc pc = .ok (.lastore, 1)) {f1 : wF} {a1 : wA} {b1 : wB} (hup : va_up (kf ad ca f a b) o (.inl (cA, n, .inr (.inl (vp_updL g i.toNatClampNeg x)))) = kf ad ca f1 a1 b1)
    (kk : ∀ (H1 : Heap) (locs1 : List Loc), wd N kf D cl ad ca A s H1 locs1 f1 a1 b1 → W p l e R s m args below meth c H1 locs1 cells slots Q (F0 m (pc + 1) ls rest)) : W p l e R s m args below meth c H locs cells slots Q (F0 m pc ls (.long x :: .int i :: .ref (ad o) :: rest)) := by
  obtain ⟨hx, hb, hml, hown, hts, hK, hA, hth, hlk, hl⟩ := X
  refine va_last hx hb hK K.1 K.2.1 K.2.2 o t0 ((wg_get ho).trans (by rw [hko])) ht hin hdg (fun H1 locs1 hP1 hD1 hS1 => kk H1 locs1 ?_)
  unfold ww at hP1 hD1
  rw [wg_set ho, hup] at hP1 hD1
  exact ⟨hP1, hD1, hS1⟩
/-- a row of a grid -/
theorem gald (X : cx Wl tys tx D cl sa A p l s m args meth c cc nL own) (K : wd N kf D cl ad ca A s H locs f a b) {o n t0 rb : Nat} {cA : ClassId} {t : FieldType} (ho : o < N) (hko : kf ad ca f a b o = .inl (cA, n, .inr (.inr (.inr (.inr (fun i => if i < n then some (ad (rb + i)) else none)))))) (ht : tys[t0]? = some (cA, .array t)) {i : Int32} (hin : vp_in i n) (hdg : decode cc pc = .ok (.aaload, 1))
    (kk : W p l e R s m args below meth c H locs cells slots Q (F0 m (pc + 1) ls (.ref (ad (rb + i.toNatClampNeg)) :: rest))) : W p l e R s m args below meth c H locs cells slots Q (F0 m pc ls (.int i :: .ref (ad o) :: rest)) := by
  obtain ⟨hx, hb, hml, hown, hts, hK, hA, hth, hlk, hl⟩ := X
  have hlt := vpin_lt hin
  have hc : H[ad o]? = some (vp_cell cA (n, .inr (.inr (.inr (.inr (fun i => if i < n then some (ad (rb + i)) else none)))))) := K.1 o (ad o, .inl (cA, n, .inr (.inr (.inr (.inr (fun i => if i < n then some (ad (rb + i)) else none)))))) ((wg_get ho).trans (by rw [hko]))
  exact W.aald (v := .ref (ad (rb + i.toNatClampNeg))) (ty := .array t) hx hb hc ((hK.2 t0 _ ht).1 n (fun j => va_rf (if j < n then some (ad (rb + j)) else none))) rfl (fun q => by cases q) (by show ¬ (i < 0 ∨ (arrV _ _ _).slots.size ≤ _); rw [arrV_size]; exact hin) (by show (arrV _ _ _).slots[_]? = _; rw [arrV_read _ _ hlt]; show some (va_rf (if i.toNatClampNeg < n then some (ad (rb + i.toNatClampNeg)) else none)) = _; rw [if_pos hlt]; rfl) rfl rfl hdg kk
end LAYER
end
section
abbrev nS : Nat := 57
def kdS (j : Nat) : Nat := ([0, 0, 2, 3, 3, 2, 5, 2, 3, 2, 2, 2, 2, 2, 6, 6, 2, 2, 2, 3, 4, 4, 2, 4, 4, 2, 2, 2, 2, 2, 2, 2, 2, 2, 2, 2, 2, 4, 4, 4, 4, 4, 4, 4, 4, 4, 4, 4, 4, 4, 4, 4, 4, 4, 4, 4, 4] : List Nat).getD j 9
def lnS (j : Nat) : Nat := ([0, 0, 12, 12, 12, 12, 12, 6, 6, 10, 10, 10, 16, 10, 10, 10, 10, 12, 10, 10, 10, 10, 12, 12, 12, 6, 6, 6, 6, 6, 6, 6, 6, 6, 6, 6, 6, 12, 12, 12, 12, 12, 12, 12, 12, 12, 12, 12, 12, 12, 12, 12, 12, 12, 12, 12, 12] : List Nat).getD j 0
def rbS (j : Nat) : Nat := ([0, 0, 0, 0, 0, 0, 25, 0, 0, 0, 0, 0, 0, 0, 37, 47, 0, 0, 0, 0, 0, 0, 0, 0, 0, 0, 0, 0, 0, 0, 0, 0, 0, 0, 0, 0, 0, 0, 0, 0, 0, 0, 0, 0, 0, 0, 0, 0, 0, 0, 0, 0, 0, 0, 0, 0, 0] : List Nat).getD j 0
def tyS (ca : Nat → ClassId) : List (ClassId × FieldType) := [(ca 0, .int), (ca 1, .boolean), (ca 2, .long), (ca 3, .array .int), (ca 4, .array .long)]
def flS_o0 (ad : Nat → Nat) (f : wF) : List Value := [.int (f 0), .ref (ad 2), .ref (ad 3), .ref (ad 4), .ref (ad 5), .ref (ad 6), .int (f 1), .ref (ad 7), .ref (ad 8), .int (f 2), .ref (ad 9), .ref (ad 10), .ref (ad 11), .ref (ad 12), .int (f 3), .int (f 4), .ref (ad 1)]
def flS_o1 (ad : Nat → Nat) (f : wF) : List Value := [.int (f 5), .int (f 6), .ref (ad 13), .ref (ad 14), .ref (ad 15), .ref (ad 16), .ref (ad 17), .ref (ad 18), .ref (ad 19), .ref (ad 20), .ref (ad 21), .ref (ad 22), .ref (ad 23), .ref (ad 24)]
def kS : wL := fun ad ca f a b j => if j = 0 then .inr (1, flS_o0 ad f) else if j = 1 then .inr (0, flS_o1 ad f) else match kdS j with | 2 => .inl (ca 0, lnS j, .inl (a j)) | 3 => .inl (ca 1, lnS j, .inl (a j)) | 4 => .inl (ca 2, lnS j, .inr (.inl (b j))) | 5 => .inl (ca 3, lnS j, .inr (.inr (.inr (.inr (fun i => if i < lnS j then some (ad (rbS j + i)) else none))))) | _ => .inl (ca 4, lnS j, .inr (.inr (.inr (.inr (fun i => if i < lnS j then some (ad (rbS j + i)) else none)))))
theorem kS_2 {ad : Nat → Nat} {ca : Nat → ClassId} {f : wF} {a : wA} {b : wB} {j : Nat} (h0 : j ≠ 0) (h1 : j ≠ 1) (h : kdS j = 2) : kS ad ca f a b j = .inl (ca 0, lnS j, .inl (a j)) := by
  unfold kS
  rw [if_neg h0, if_neg h1, h]
  rfl
theorem kS_3 {ad : Nat → Nat} {ca : Nat → ClassId} {f : wF} {a : wA} {b : wB} {j : Nat} (h0 : j ≠ 0) (h1 : j ≠ 1) (h : kdS j = 3) : kS ad ca f a b j = .inl (ca 1, lnS j, .inl (a j)) := by
  unfold kS
  rw [if_neg h0, if_neg h1, h]
  rfl
theorem kS_4 {ad : Nat → Nat} {ca : Nat → ClassId} {f : wF} {a : wA} {b : wB} {j : Nat} (h0 : j ≠ 0) (h1 : j ≠ 1) (h : kdS j = 4) : kS ad ca f a b j = .inl (ca 2, lnS j, .inr (.inl (b j))) := by
  unfold kS
  rw [if_neg h0, if_neg h1, h]
  rfl
theorem kS_up2 {ad : Nat → Nat} {ca : Nat → ClassId} {f : wF} {a : wA} {b : wB} {j : Nat} {g : Nat → Int32} (h0 : j ≠ 0) (h1 : j ≠ 1) (h : kdS j = 2) : va_up (kS ad ca f a b) j (.inl (ca 0, lnS j, .inl g)) = kS ad ca f (va_up a j g) b := by
  funext i
  by_cases e : i = j
  · subst e
    rw [va_up_self, kS_2 h0 h1 h, va_up_self]
  · rw [va_up_ne _ _ e]
    unfold kS
    rw [va_up_ne _ _ e]
theorem kS_up3 {ad : Nat → Nat} {ca : Nat → ClassId} {f : wF} {a : wA} {b : wB} {j : Nat} {g : Nat → Int32} (h0 : j ≠ 0) (h1 : j ≠ 1) (h : kdS j = 3) : va_up (kS ad ca f a b) j (.inl (ca 1, lnS j, .inl g)) = kS ad ca f (va_up a j g) b := by
  funext i
  by_cases e : i = j
  · subst e
    rw [va_up_self, kS_3 h0 h1 h, va_up_self]
  · rw [va_up_ne _ _ e]
    unfold kS
    rw [va_up_ne _ _ e]
theorem kS_up4 {ad : Nat → Nat} {ca : Nat → ClassId} {f : wF} {a : wA} {b : wB} {j : Nat} {g : Nat → Int64} (h0 : j ≠ 0) (h1 : j ≠ 1) (h : kdS j = 4) : va_up (kS ad ca f a b) j (.inl (ca 2, lnS j, .inr (.inl g))) = kS ad ca f a (va_up b j g) := by
  funext i
  by_cases e : i = j
  · subst e
    rw [va_up_self, kS_4 h0 h1 h, va_up_self]
  · rw [va_up_ne _ _ e]
    unfold kS
    rw [va_up_ne _ _ e]
theorem kS_o0 {ad : Nat → Nat} {ca : Nat → ClassId} {f : wF} {a : wA} {b : wB} : kS ad ca f a b 0 = .inr (1, flS_o0 ad f) := rfl
theorem kS_u0_0 {ad : Nat → Nat} {ca : Nat → ClassId} {f : wF} {a : wA} {b : wB} {x : Int32} : va_up (kS ad ca f a b) 0 (.inr (1, (flS_o0 ad f).set 0 (.int x))) = kS ad ca (va_up f 0 x) a b := by
  funext i
  by_cases e : i = 0
  · subst e
    rw [va_up_self]
    unfold kS
    simp [flS_o0, va_up]
  · rw [va_up_ne _ _ e]
    by_cases e1 : i = 1
    · subst e1
      unfold kS
      simp [flS_o1, va_up]
    unfold kS
    rw [if_neg e, if_neg e1, if_neg e, if_neg e1]
theorem kS_u0_6 {ad : Nat → Nat} {ca : Nat → ClassId} {f : wF} {a : wA} {b : wB} {x : Int32} : va_up (kS ad ca f a b) 0 (.inr (1, (flS_o0 ad f).set 6 (.int x))) = kS ad ca (va_up f 1 x) a b := by
  funext i
  by_cases e : i = 0
  · subst e
    rw [va_up_self]
    unfold kS
    simp [flS_o0, va_up]
  · rw [va_up_ne _ _ e]
    by_cases e1 : i = 1
    · subst e1
      unfold kS
      simp [flS_o1, va_up]
    unfold kS
    rw [if_neg e, if_neg e1, if_neg e, if_neg e1]
theorem kS_u0_9 {ad : Nat → Nat} {ca : Nat → ClassId} {f : wF} {a : wA} {b : wB} {x : Int32} : va_up (kS ad ca f a b) 0 (.inr (1, (flS_o0 ad f).set 9 (.int x))) = kS ad ca (va_up f 2 x) a b := by
  funext i
  by_cases e : i = 0
  · subst e
    rw [va_up_self]
    unfold kS
    simp [flS_o0, va_up]
  · rw [va_up_ne _ _ e]
    by_cases e1 : i = 1
    · subst e1
      unfold kS
      simp [flS_o1, va_up]
    unfold kS
    rw [if_neg e, if_neg e1, if_neg e, if_neg e1]
theorem kS_u0_14 {ad : Nat → Nat} {ca : Nat → ClassId} {f : wF} {a : wA} {b : wB} {x : Int32} : va_up (kS ad ca f a b) 0 (.inr (1, (flS_o0 ad f).set 14 (.int x))) = kS ad ca (va_up f 3 x) a b := by
  funext i
  by_cases e : i = 0
  · subst e
    rw [va_up_self]
    unfold kS
    simp [flS_o0, va_up]
  · rw [va_up_ne _ _ e]
    by_cases e1 : i = 1
    · subst e1
      unfold kS
      simp [flS_o1, va_up]
    unfold kS
    rw [if_neg e, if_neg e1, if_neg e, if_neg e1]
theorem kS_u0_15 {ad : Nat → Nat} {ca : Nat → ClassId} {f : wF} {a : wA} {b : wB} {x : Int32} : va_up (kS ad ca f a b) 0 (.inr (1, (flS_o0 ad f).set 15 (.int x))) = kS ad ca (va_up f 4 x) a b := by
  funext i
  by_cases e : i = 0
  · subst e
    rw [va_up_self]
    unfold kS
    simp [flS_o0, va_up]
  · rw [va_up_ne _ _ e]
    by_cases e1 : i = 1
    · subst e1
      unfold kS
      simp [flS_o1, va_up]
    unfold kS
    rw [if_neg e, if_neg e1, if_neg e, if_neg e1]
theorem kS_o1 {ad : Nat → Nat} {ca : Nat → ClassId} {f : wF} {a : wA} {b : wB} : kS ad ca f a b 1 = .inr (0, flS_o1 ad f) := rfl
theorem kS_u1_0 {ad : Nat → Nat} {ca : Nat → ClassId} {f : wF} {a : wA} {b : wB} {x : Int32} : va_up (kS ad ca f a b) 1 (.inr (0, (flS_o1 ad f).set 0 (.int x))) = kS ad ca (va_up f 5 x) a b := by
  funext i
  by_cases e : i = 1
  · subst e
    rw [va_up_self]
    unfold kS
    simp [flS_o1, va_up]
  · rw [va_up_ne _ _ e]
    by_cases e0 : i = 0
    · subst e0
      unfold kS
      simp [flS_o0, va_up]
    unfold kS
    rw [if_neg e0, if_neg e, if_neg e0, if_neg e]
theorem kS_u1_1 {ad : Nat → Nat} {ca : Nat → ClassId} {f : wF} {a : wA} {b : wB} {x : Int32} : va_up (kS ad ca f a b) 1 (.inr (0, (flS_o1 ad f).set 1 (.int x))) = kS ad ca (va_up f 6 x) a b := by
  funext i
  by_cases e : i = 1
  · subst e
    rw [va_up_self]
    unfold kS
    simp [flS_o1, va_up]
  · rw [va_up_ne _ _ e]
    by_cases e0 : i = 0
    · subst e0
      unfold kS
      simp [flS_o0, va_up]
    unfold kS
    rw [if_neg e0, if_neg e, if_neg e0, if_neg e]
theorem kS_c2 {ad : Nat → Nat} {ca : Nat → ClassId} {f : wF} {a : wA} {b : wB} : kS ad ca f a b 2 = .inl (ca 0, 12, .inl (a 2)) := kS_2 (j := 2) (by decide) (by decide) rfl
theorem kS_p2 {ad : Nat → Nat} {ca : Nat → ClassId} {f : wF} {a : wA} {b : wB} {g : Nat → Int32} : va_up (kS ad ca f a b) 2 (.inl (ca 0, 12, .inl g)) = kS ad ca f (va_up a 2 g) b := kS_up2 (j := 2) (by decide) (by decide) rfl
theorem kS_c3 {ad : Nat → Nat} {ca : Nat → ClassId} {f : wF} {a : wA} {b : wB} : kS ad ca f a b 3 = .inl (ca 1, 12, .inl (a 3)) := kS_3 (j := 3) (by decide) (by decide) rfl
theorem kS_p3 {ad : Nat → Nat} {ca : Nat → ClassId} {f : wF} {a : wA} {b : wB} {g : Nat → Int32} : va_up (kS ad ca f a b) 3 (.inl (ca 1, 12, .inl g)) = kS ad ca f (va_up a 3 g) b := kS_up3 (j := 3) (by decide) (by decide) rfl
theorem kS_c4 {ad : Nat → Nat} {ca : Nat → ClassId} {f : wF} {a : wA} {b : wB} : kS ad ca f a b 4 = .inl (ca 1, 12, .inl (a 4)) := kS_3 (j := 4) (by decide) (by decide) rfl
theorem kS_p4 {ad : Nat → Nat} {ca : Nat → ClassId} {f : wF} {a : wA} {b : wB} {g : Nat → Int32} : va_up (kS ad ca f a b) 4 (.inl (ca 1, 12, .inl g)) = kS ad ca f (va_up a 4 g) b := kS_up3 (j := 4) (by decide) (by decide) rfl
theorem kS_c5 {ad : Nat → Nat} {ca : Nat → ClassId} {f : wF} {a : wA} {b : wB} : kS ad ca f a b 5 = .inl (ca 0, 12, .inl (a 5)) := kS_2 (j := 5) (by decide) (by decide) rfl
theorem kS_p5 {ad : Nat → Nat} {ca : Nat → ClassId} {f : wF} {a : wA} {b : wB} {g : Nat → Int32} : va_up (kS ad ca f a b) 5 (.inl (ca 0, 12, .inl g)) = kS ad ca f (va_up a 5 g) b := kS_up2 (j := 5) (by decide) (by decide) rfl
theorem kS_c7 {ad : Nat → Nat} {ca : Nat → ClassId} {f : wF} {a : wA} {b : wB} : kS ad ca f a b 7 = .inl (ca 0, 6, .inl (a 7)) := kS_2 (j := 7) (by decide) (by decide) rfl
theorem kS_p7 {ad : Nat → Nat} {ca : Nat → ClassId} {f : wF} {a : wA} {b : wB} {g : Nat → Int32} : va_up (kS ad ca f a b) 7 (.inl (ca 0, 6, .inl g)) = kS ad ca f (va_up a 7 g) b := kS_up2 (j := 7) (by decide) (by decide) rfl
theorem kS_c8 {ad : Nat → Nat} {ca : Nat → ClassId} {f : wF} {a : wA} {b : wB} : kS ad ca f a b 8 = .inl (ca 1, 6, .inl (a 8)) := kS_3 (j := 8) (by decide) (by decide) rfl
theorem kS_p8 {ad : Nat → Nat} {ca : Nat → ClassId} {f : wF} {a : wA} {b : wB} {g : Nat → Int32} : va_up (kS ad ca f a b) 8 (.inl (ca 1, 6, .inl g)) = kS ad ca f (va_up a 8 g) b := kS_up3 (j := 8) (by decide) (by decide) rfl
theorem kS_c9 {ad : Nat → Nat} {ca : Nat → ClassId} {f : wF} {a : wA} {b : wB} : kS ad ca f a b 9 = .inl (ca 0, 10, .inl (a 9)) := kS_2 (j := 9) (by decide) (by decide) rfl
theorem kS_p9 {ad : Nat → Nat} {ca : Nat → ClassId} {f : wF} {a : wA} {b : wB} {g : Nat → Int32} : va_up (kS ad ca f a b) 9 (.inl (ca 0, 10, .inl g)) = kS ad ca f (va_up a 9 g) b := kS_up2 (j := 9) (by decide) (by decide) rfl
theorem kS_c10 {ad : Nat → Nat} {ca : Nat → ClassId} {f : wF} {a : wA} {b : wB} : kS ad ca f a b 10 = .inl (ca 0, 10, .inl (a 10)) := kS_2 (j := 10) (by decide) (by decide) rfl
theorem kS_p10 {ad : Nat → Nat} {ca : Nat → ClassId} {f : wF} {a : wA} {b : wB} {g : Nat → Int32} : va_up (kS ad ca f a b) 10 (.inl (ca 0, 10, .inl g)) = kS ad ca f (va_up a 10 g) b := kS_up2 (j := 10) (by decide) (by decide) rfl
theorem kS_c11 {ad : Nat → Nat} {ca : Nat → ClassId} {f : wF} {a : wA} {b : wB} : kS ad ca f a b 11 = .inl (ca 0, 10, .inl (a 11)) := kS_2 (j := 11) (by decide) (by decide) rfl
theorem kS_p11 {ad : Nat → Nat} {ca : Nat → ClassId} {f : wF} {a : wA} {b : wB} {g : Nat → Int32} : va_up (kS ad ca f a b) 11 (.inl (ca 0, 10, .inl g)) = kS ad ca f (va_up a 11 g) b := kS_up2 (j := 11) (by decide) (by decide) rfl
theorem kS_c12 {ad : Nat → Nat} {ca : Nat → ClassId} {f : wF} {a : wA} {b : wB} : kS ad ca f a b 12 = .inl (ca 0, 16, .inl (a 12)) := kS_2 (j := 12) (by decide) (by decide) rfl
theorem kS_p12 {ad : Nat → Nat} {ca : Nat → ClassId} {f : wF} {a : wA} {b : wB} {g : Nat → Int32} : va_up (kS ad ca f a b) 12 (.inl (ca 0, 16, .inl g)) = kS ad ca f (va_up a 12 g) b := kS_up2 (j := 12) (by decide) (by decide) rfl
theorem kS_c13 {ad : Nat → Nat} {ca : Nat → ClassId} {f : wF} {a : wA} {b : wB} : kS ad ca f a b 13 = .inl (ca 0, 10, .inl (a 13)) := kS_2 (j := 13) (by decide) (by decide) rfl
theorem kS_p13 {ad : Nat → Nat} {ca : Nat → ClassId} {f : wF} {a : wA} {b : wB} {g : Nat → Int32} : va_up (kS ad ca f a b) 13 (.inl (ca 0, 10, .inl g)) = kS ad ca f (va_up a 13 g) b := kS_up2 (j := 13) (by decide) (by decide) rfl
theorem kS_c16 {ad : Nat → Nat} {ca : Nat → ClassId} {f : wF} {a : wA} {b : wB} : kS ad ca f a b 16 = .inl (ca 0, 10, .inl (a 16)) := kS_2 (j := 16) (by decide) (by decide) rfl
theorem kS_p16 {ad : Nat → Nat} {ca : Nat → ClassId} {f : wF} {a : wA} {b : wB} {g : Nat → Int32} : va_up (kS ad ca f a b) 16 (.inl (ca 0, 10, .inl g)) = kS ad ca f (va_up a 16 g) b := kS_up2 (j := 16) (by decide) (by decide) rfl
theorem kS_c17 {ad : Nat → Nat} {ca : Nat → ClassId} {f : wF} {a : wA} {b : wB} : kS ad ca f a b 17 = .inl (ca 0, 12, .inl (a 17)) := kS_2 (j := 17) (by decide) (by decide) rfl
theorem kS_p17 {ad : Nat → Nat} {ca : Nat → ClassId} {f : wF} {a : wA} {b : wB} {g : Nat → Int32} : va_up (kS ad ca f a b) 17 (.inl (ca 0, 12, .inl g)) = kS ad ca f (va_up a 17 g) b := kS_up2 (j := 17) (by decide) (by decide) rfl
theorem kS_c18 {ad : Nat → Nat} {ca : Nat → ClassId} {f : wF} {a : wA} {b : wB} : kS ad ca f a b 18 = .inl (ca 0, 10, .inl (a 18)) := kS_2 (j := 18) (by decide) (by decide) rfl
theorem kS_p18 {ad : Nat → Nat} {ca : Nat → ClassId} {f : wF} {a : wA} {b : wB} {g : Nat → Int32} : va_up (kS ad ca f a b) 18 (.inl (ca 0, 10, .inl g)) = kS ad ca f (va_up a 18 g) b := kS_up2 (j := 18) (by decide) (by decide) rfl
theorem kS_c19 {ad : Nat → Nat} {ca : Nat → ClassId} {f : wF} {a : wA} {b : wB} : kS ad ca f a b 19 = .inl (ca 1, 10, .inl (a 19)) := kS_3 (j := 19) (by decide) (by decide) rfl
theorem kS_p19 {ad : Nat → Nat} {ca : Nat → ClassId} {f : wF} {a : wA} {b : wB} {g : Nat → Int32} : va_up (kS ad ca f a b) 19 (.inl (ca 1, 10, .inl g)) = kS ad ca f (va_up a 19 g) b := kS_up3 (j := 19) (by decide) (by decide) rfl
theorem kS_c20 {ad : Nat → Nat} {ca : Nat → ClassId} {f : wF} {a : wA} {b : wB} : kS ad ca f a b 20 = .inl (ca 2, 10, .inr (.inl (b 20))) := kS_4 (j := 20) (by decide) (by decide) rfl
theorem kS_p20 {ad : Nat → Nat} {ca : Nat → ClassId} {f : wF} {a : wA} {b : wB} {g : Nat → Int64} : va_up (kS ad ca f a b) 20 (.inl (ca 2, 10, .inr (.inl g))) = kS ad ca f a (va_up b 20 g) := kS_up4 (j := 20) (by decide) (by decide) rfl
theorem kS_c21 {ad : Nat → Nat} {ca : Nat → ClassId} {f : wF} {a : wA} {b : wB} : kS ad ca f a b 21 = .inl (ca 2, 10, .inr (.inl (b 21))) := kS_4 (j := 21) (by decide) (by decide) rfl
theorem kS_p21 {ad : Nat → Nat} {ca : Nat → ClassId} {f : wF} {a : wA} {b : wB} {g : Nat → Int64} : va_up (kS ad ca f a b) 21 (.inl (ca 2, 10, .inr (.inl g))) = kS ad ca f a (va_up b 21 g) := kS_up4 (j := 21) (by decide) (by decide) rfl
theorem kS_c22 {ad : Nat → Nat} {ca : Nat → ClassId} {f : wF} {a : wA} {b : wB} : kS ad ca f a b 22 = .inl (ca 0, 12, .inl (a 22)) := kS_2 (j := 22) (by decide) (by decide) rfl
theorem kS_p22 {ad : Nat → Nat} {ca : Nat → ClassId} {f : wF} {a : wA} {b : wB} {g : Nat → Int32} : va_up (kS ad ca f a b) 22 (.inl (ca 0, 12, .inl g)) = kS ad ca f (va_up a 22 g) b := kS_up2 (j := 22) (by decide) (by decide) rfl
theorem kS_c23 {ad : Nat → Nat} {ca : Nat → ClassId} {f : wF} {a : wA} {b : wB} : kS ad ca f a b 23 = .inl (ca 2, 12, .inr (.inl (b 23))) := kS_4 (j := 23) (by decide) (by decide) rfl
theorem kS_p23 {ad : Nat → Nat} {ca : Nat → ClassId} {f : wF} {a : wA} {b : wB} {g : Nat → Int64} : va_up (kS ad ca f a b) 23 (.inl (ca 2, 12, .inr (.inl g))) = kS ad ca f a (va_up b 23 g) := kS_up4 (j := 23) (by decide) (by decide) rfl
theorem kS_c24 {ad : Nat → Nat} {ca : Nat → ClassId} {f : wF} {a : wA} {b : wB} : kS ad ca f a b 24 = .inl (ca 2, 12, .inr (.inl (b 24))) := kS_4 (j := 24) (by decide) (by decide) rfl
theorem kS_p24 {ad : Nat → Nat} {ca : Nat → ClassId} {f : wF} {a : wA} {b : wB} {g : Nat → Int64} : va_up (kS ad ca f a b) 24 (.inl (ca 2, 12, .inr (.inl g))) = kS ad ca f a (va_up b 24 g) := kS_up4 (j := 24) (by decide) (by decide) rfl
theorem kS_c6 {ad : Nat → Nat} {ca : Nat → ClassId} {f : wF} {a : wA} {b : wB} : kS ad ca f a b 6 = .inl (ca 3, 12, .inr (.inr (.inr (.inr (fun i => if i < 12 then some (ad (25 + i)) else none))))) := rfl
theorem rS_secondsOf_k : ∀ r, r < 12 → kdS (25 + r) = 2 ∧ lnS (25 + r) = 6 ∧ 25 + r < 57 := by decide
theorem rS_secondsOf_lt {i : Int32} (h : vp_in i 12) : 25 + i.toNatClampNeg < nS := (rS_secondsOf_k _ (vpin_lt h)).2.2
theorem kS_r_secondsOf {ad : Nat → Nat} {ca : Nat → ClassId} {f : wF} {a : wA} {b : wB} {i : Int32} (h : vp_in i 12) : kS ad ca f a b (25 + i.toNatClampNeg) = .inl (ca 0, 6, .inl (a (25 + i.toNatClampNeg))) := by
  obtain ⟨h1, h2, h3⟩ := rS_secondsOf_k _ (vpin_lt h)
  rw [kS_2 (j := 25 + i.toNatClampNeg) (by omega) (by omega) h1, h2]
theorem kS_q_secondsOf {ad : Nat → Nat} {ca : Nat → ClassId} {f : wF} {a : wA} {b : wB} {i : Int32} {g : Nat → Int32} (h : vp_in i 12) : va_up (kS ad ca f a b) (25 + i.toNatClampNeg) (.inl (ca 0, 6, .inl g)) = kS ad ca f (va_up a (25 + i.toNatClampNeg) g) b := by
  obtain ⟨h1, h2, h3⟩ := rS_secondsOf_k _ (vpin_lt h)
  rw [← kS_up2 (j := 25 + i.toNatClampNeg) (g := g) (by omega) (by omega) h1, h2]
theorem kS_c14 {ad : Nat → Nat} {ca : Nat → ClassId} {f : wF} {a : wA} {b : wB} : kS ad ca f a b 14 = .inl (ca 4, 10, .inr (.inr (.inr (.inr (fun i => if i < 10 then some (ad (37 + i)) else none))))) := rfl
theorem rS_cost_k : ∀ r, r < 10 → kdS (37 + r) = 4 ∧ lnS (37 + r) = 12 ∧ 37 + r < 57 := by decide
theorem rS_cost_lt {i : Int32} (h : vp_in i 10) : 37 + i.toNatClampNeg < nS := (rS_cost_k _ (vpin_lt h)).2.2
theorem kS_r_cost {ad : Nat → Nat} {ca : Nat → ClassId} {f : wF} {a : wA} {b : wB} {i : Int32} (h : vp_in i 10) : kS ad ca f a b (37 + i.toNatClampNeg) = .inl (ca 2, 12, .inr (.inl (b (37 + i.toNatClampNeg)))) := by
  obtain ⟨h1, h2, h3⟩ := rS_cost_k _ (vpin_lt h)
  rw [kS_4 (j := 37 + i.toNatClampNeg) (by omega) (by omega) h1, h2]
theorem kS_q_cost {ad : Nat → Nat} {ca : Nat → ClassId} {f : wF} {a : wA} {b : wB} {i : Int32} {g : Nat → Int64} (h : vp_in i 10) : va_up (kS ad ca f a b) (37 + i.toNatClampNeg) (.inl (ca 2, 12, .inr (.inl g))) = kS ad ca f a (va_up b (37 + i.toNatClampNeg) g) := by
  obtain ⟨h1, h2, h3⟩ := rS_cost_k _ (vpin_lt h)
  rw [← kS_up4 (j := 37 + i.toNatClampNeg) (g := g) (by omega) (by omega) h1, h2]
theorem kS_c15 {ad : Nat → Nat} {ca : Nat → ClassId} {f : wF} {a : wA} {b : wB} : kS ad ca f a b 15 = .inl (ca 4, 10, .inr (.inr (.inr (.inr (fun i => if i < 10 then some (ad (47 + i)) else none))))) := rfl
theorem rS_tie_k : ∀ r, r < 10 → kdS (47 + r) = 4 ∧ lnS (47 + r) = 12 ∧ 47 + r < 57 := by decide
theorem rS_tie_lt {i : Int32} (h : vp_in i 10) : 47 + i.toNatClampNeg < nS := (rS_tie_k _ (vpin_lt h)).2.2
theorem kS_r_tie {ad : Nat → Nat} {ca : Nat → ClassId} {f : wF} {a : wA} {b : wB} {i : Int32} (h : vp_in i 10) : kS ad ca f a b (47 + i.toNatClampNeg) = .inl (ca 2, 12, .inr (.inl (b (47 + i.toNatClampNeg)))) := by
  obtain ⟨h1, h2, h3⟩ := rS_tie_k _ (vpin_lt h)
  rw [kS_4 (j := 47 + i.toNatClampNeg) (by omega) (by omega) h1, h2]
theorem kS_q_tie {ad : Nat → Nat} {ca : Nat → ClassId} {f : wF} {a : wA} {b : wB} {i : Int32} {g : Nat → Int64} (h : vp_in i 10) : va_up (kS ad ca f a b) (47 + i.toNatClampNeg) (.inl (ca 2, 12, .inr (.inl g))) = kS ad ca f a (va_up b (47 + i.toNatClampNeg) g) := by
  obtain ⟨h1, h2, h3⟩ := rS_tie_k _ (vpin_lt h)
  rw [← kS_up4 (j := 47 + i.toNatClampNeg) (g := g) (by omega) (by omega) h1, h2]
abbrev nM : Nat := 13
def kdM (j : Nat) : Nat := ([0, 2, 3, 2, 2, 3, 2, 2, 2, 3, 2, 2, 4] : List Nat).getD j 9
def lnM (j : Nat) : Nat := ([0, 12, 12, 72, 6, 6, 10, 10, 10, 10, 16, 10, 45056] : List Nat).getD j 0
def rbM (j : Nat) : Nat := ([0, 0, 0, 0, 0, 0, 0, 0, 0, 0, 0, 0, 0] : List Nat).getD j 0
def tyM (ca : Nat → ClassId) : List (ClassId × FieldType) := [(ca 0, .int), (ca 1, .boolean), (ca 2, .long), (ca 3, .array .int), (ca 4, .array .long)]
def flM_o0 (ad : Nat → Nat) (f : wF) : List Value := [.int (f 0), .int (f 1), .ref (ad 1), .ref (ad 2), .ref (ad 3), .int (f 2), .ref (ad 4), .ref (ad 5), .int (f 3), .ref (ad 6), .ref (ad 7), .ref (ad 8), .ref (ad 9), .ref (ad 10), .int (f 4), .int (f 5), .ref (ad 11), .int (f 6), .ref (ad 12)]
def kM : wL := fun ad ca f a b j => if j = 0 then .inr (2, flM_o0 ad f) else match kdM j with | 2 => .inl (ca 0, lnM j, .inl (a j)) | 3 => .inl (ca 1, lnM j, .inl (a j)) | 4 => .inl (ca 2, lnM j, .inr (.inl (b j))) | 5 => .inl (ca 3, lnM j, .inr (.inr (.inr (.inr (fun i => if i < lnM j then some (ad (rbM j + i)) else none))))) | _ => .inl (ca 4, lnM j, .inr (.inr (.inr (.inr (fun i => if i < lnM j then some (ad (rbM j + i)) else none)))))
theorem kM_2 {ad : Nat → Nat} {ca : Nat → ClassId} {f : wF} {a : wA} {b : wB} {j : Nat} (h0 : j ≠ 0) (h : kdM j = 2) : kM ad ca f a b j = .inl (ca 0, lnM j, .inl (a j)) := by
  unfold kM
  rw [if_neg h0, h]
  rfl
theorem kM_3 {ad : Nat → Nat} {ca : Nat → ClassId} {f : wF} {a : wA} {b : wB} {j : Nat} (h0 : j ≠ 0) (h : kdM j = 3) : kM ad ca f a b j = .inl (ca 1, lnM j, .inl (a j)) := by
  unfold kM
  rw [if_neg h0, h]
  rfl
theorem kM_4 {ad : Nat → Nat} {ca : Nat → ClassId} {f : wF} {a : wA} {b : wB} {j : Nat} (h0 : j ≠ 0) (h : kdM j = 4) : kM ad ca f a b j = .inl (ca 2, lnM j, .inr (.inl (b j))) := by
  unfold kM
  rw [if_neg h0, h]
  rfl
theorem kM_up2 {ad : Nat → Nat} {ca : Nat → ClassId} {f : wF} {a : wA} {b : wB} {j : Nat} {g : Nat → Int32} (h0 : j ≠ 0) (h : kdM j = 2) : va_up (kM ad ca f a b) j (.inl (ca 0, lnM j, .inl g)) = kM ad ca f (va_up a j g) b := by
  funext i
  by_cases e : i = j
  · subst e
    rw [va_up_self, kM_2 h0 h, va_up_self]
  · rw [va_up_ne _ _ e]
    unfold kM
    rw [va_up_ne _ _ e]
theorem kM_up3 {ad : Nat → Nat} {ca : Nat → ClassId} {f : wF} {a : wA} {b : wB} {j : Nat} {g : Nat → Int32} (h0 : j ≠ 0) (h : kdM j = 3) : va_up (kM ad ca f a b) j (.inl (ca 1, lnM j, .inl g)) = kM ad ca f (va_up a j g) b := by
  funext i
  by_cases e : i = j
  · subst e
    rw [va_up_self, kM_3 h0 h, va_up_self]
  · rw [va_up_ne _ _ e]
    unfold kM
    rw [va_up_ne _ _ e]
theorem kM_up4 {ad : Nat → Nat} {ca : Nat → ClassId} {f : wF} {a : wA} {b : wB} {j : Nat} {g : Nat → Int64} (h0 : j ≠ 0) (h : kdM j = 4) : va_up (kM ad ca f a b) j (.inl (ca 2, lnM j, .inr (.inl g))) = kM ad ca f a (va_up b j g) := by
  funext i
  by_cases e : i = j
  · subst e
    rw [va_up_self, kM_4 h0 h, va_up_self]
  · rw [va_up_ne _ _ e]
    unfold kM
    rw [va_up_ne _ _ e]
theorem kM_o0 {ad : Nat → Nat} {ca : Nat → ClassId} {f : wF} {a : wA} {b : wB} : kM ad ca f a b 0 = .inr (2, flM_o0 ad f) := rfl
theorem kM_u0_0 {ad : Nat → Nat} {ca : Nat → ClassId} {f : wF} {a : wA} {b : wB} {x : Int32} : va_up (kM ad ca f a b) 0 (.inr (2, (flM_o0 ad f).set 0 (.int x))) = kM ad ca (va_up f 0 x) a b := by
  funext i
  by_cases e : i = 0
  · subst e
    rw [va_up_self]
    unfold kM
    simp [flM_o0, va_up]
  · rw [va_up_ne _ _ e]
    unfold kM
    rw [if_neg e, if_neg e]
theorem kM_u0_1 {ad : Nat → Nat} {ca : Nat → ClassId} {f : wF} {a : wA} {b : wB} {x : Int32} : va_up (kM ad ca f a b) 0 (.inr (2, (flM_o0 ad f).set 1 (.int x))) = kM ad ca (va_up f 1 x) a b := by
  funext i
  by_cases e : i = 0
  · subst e
    rw [va_up_self]
    unfold kM
    simp [flM_o0, va_up]
  · rw [va_up_ne _ _ e]
    unfold kM
    rw [if_neg e, if_neg e]
theorem kM_u0_5 {ad : Nat → Nat} {ca : Nat → ClassId} {f : wF} {a : wA} {b : wB} {x : Int32} : va_up (kM ad ca f a b) 0 (.inr (2, (flM_o0 ad f).set 5 (.int x))) = kM ad ca (va_up f 2 x) a b := by
  funext i
  by_cases e : i = 0
  · subst e
    rw [va_up_self]
    unfold kM
    simp [flM_o0, va_up]
  · rw [va_up_ne _ _ e]
    unfold kM
    rw [if_neg e, if_neg e]
theorem kM_u0_8 {ad : Nat → Nat} {ca : Nat → ClassId} {f : wF} {a : wA} {b : wB} {x : Int32} : va_up (kM ad ca f a b) 0 (.inr (2, (flM_o0 ad f).set 8 (.int x))) = kM ad ca (va_up f 3 x) a b := by
  funext i
  by_cases e : i = 0
  · subst e
    rw [va_up_self]
    unfold kM
    simp [flM_o0, va_up]
  · rw [va_up_ne _ _ e]
    unfold kM
    rw [if_neg e, if_neg e]
theorem kM_u0_14 {ad : Nat → Nat} {ca : Nat → ClassId} {f : wF} {a : wA} {b : wB} {x : Int32} : va_up (kM ad ca f a b) 0 (.inr (2, (flM_o0 ad f).set 14 (.int x))) = kM ad ca (va_up f 4 x) a b := by
  funext i
  by_cases e : i = 0
  · subst e
    rw [va_up_self]
    unfold kM
    simp [flM_o0, va_up]
  · rw [va_up_ne _ _ e]
    unfold kM
    rw [if_neg e, if_neg e]
theorem kM_u0_15 {ad : Nat → Nat} {ca : Nat → ClassId} {f : wF} {a : wA} {b : wB} {x : Int32} : va_up (kM ad ca f a b) 0 (.inr (2, (flM_o0 ad f).set 15 (.int x))) = kM ad ca (va_up f 5 x) a b := by
  funext i
  by_cases e : i = 0
  · subst e
    rw [va_up_self]
    unfold kM
    simp [flM_o0, va_up]
  · rw [va_up_ne _ _ e]
    unfold kM
    rw [if_neg e, if_neg e]
theorem kM_u0_17 {ad : Nat → Nat} {ca : Nat → ClassId} {f : wF} {a : wA} {b : wB} {x : Int32} : va_up (kM ad ca f a b) 0 (.inr (2, (flM_o0 ad f).set 17 (.int x))) = kM ad ca (va_up f 6 x) a b := by
  funext i
  by_cases e : i = 0
  · subst e
    rw [va_up_self]
    unfold kM
    simp [flM_o0, va_up]
  · rw [va_up_ne _ _ e]
    unfold kM
    rw [if_neg e, if_neg e]
theorem kM_c1 {ad : Nat → Nat} {ca : Nat → ClassId} {f : wF} {a : wA} {b : wB} : kM ad ca f a b 1 = .inl (ca 0, 12, .inl (a 1)) := kM_2 (j := 1) (by decide) rfl
theorem kM_p1 {ad : Nat → Nat} {ca : Nat → ClassId} {f : wF} {a : wA} {b : wB} {g : Nat → Int32} : va_up (kM ad ca f a b) 1 (.inl (ca 0, 12, .inl g)) = kM ad ca f (va_up a 1 g) b := kM_up2 (j := 1) (by decide) rfl
theorem kM_c2 {ad : Nat → Nat} {ca : Nat → ClassId} {f : wF} {a : wA} {b : wB} : kM ad ca f a b 2 = .inl (ca 1, 12, .inl (a 2)) := kM_3 (j := 2) (by decide) rfl
theorem kM_p2 {ad : Nat → Nat} {ca : Nat → ClassId} {f : wF} {a : wA} {b : wB} {g : Nat → Int32} : va_up (kM ad ca f a b) 2 (.inl (ca 1, 12, .inl g)) = kM ad ca f (va_up a 2 g) b := kM_up3 (j := 2) (by decide) rfl
theorem kM_c3 {ad : Nat → Nat} {ca : Nat → ClassId} {f : wF} {a : wA} {b : wB} : kM ad ca f a b 3 = .inl (ca 0, 72, .inl (a 3)) := kM_2 (j := 3) (by decide) rfl
theorem kM_p3 {ad : Nat → Nat} {ca : Nat → ClassId} {f : wF} {a : wA} {b : wB} {g : Nat → Int32} : va_up (kM ad ca f a b) 3 (.inl (ca 0, 72, .inl g)) = kM ad ca f (va_up a 3 g) b := kM_up2 (j := 3) (by decide) rfl
theorem kM_c4 {ad : Nat → Nat} {ca : Nat → ClassId} {f : wF} {a : wA} {b : wB} : kM ad ca f a b 4 = .inl (ca 0, 6, .inl (a 4)) := kM_2 (j := 4) (by decide) rfl
theorem kM_p4 {ad : Nat → Nat} {ca : Nat → ClassId} {f : wF} {a : wA} {b : wB} {g : Nat → Int32} : va_up (kM ad ca f a b) 4 (.inl (ca 0, 6, .inl g)) = kM ad ca f (va_up a 4 g) b := kM_up2 (j := 4) (by decide) rfl
theorem kM_c5 {ad : Nat → Nat} {ca : Nat → ClassId} {f : wF} {a : wA} {b : wB} : kM ad ca f a b 5 = .inl (ca 1, 6, .inl (a 5)) := kM_3 (j := 5) (by decide) rfl
theorem kM_p5 {ad : Nat → Nat} {ca : Nat → ClassId} {f : wF} {a : wA} {b : wB} {g : Nat → Int32} : va_up (kM ad ca f a b) 5 (.inl (ca 1, 6, .inl g)) = kM ad ca f (va_up a 5 g) b := kM_up3 (j := 5) (by decide) rfl
theorem kM_c6 {ad : Nat → Nat} {ca : Nat → ClassId} {f : wF} {a : wA} {b : wB} : kM ad ca f a b 6 = .inl (ca 0, 10, .inl (a 6)) := kM_2 (j := 6) (by decide) rfl
theorem kM_p6 {ad : Nat → Nat} {ca : Nat → ClassId} {f : wF} {a : wA} {b : wB} {g : Nat → Int32} : va_up (kM ad ca f a b) 6 (.inl (ca 0, 10, .inl g)) = kM ad ca f (va_up a 6 g) b := kM_up2 (j := 6) (by decide) rfl
theorem kM_c7 {ad : Nat → Nat} {ca : Nat → ClassId} {f : wF} {a : wA} {b : wB} : kM ad ca f a b 7 = .inl (ca 0, 10, .inl (a 7)) := kM_2 (j := 7) (by decide) rfl
theorem kM_p7 {ad : Nat → Nat} {ca : Nat → ClassId} {f : wF} {a : wA} {b : wB} {g : Nat → Int32} : va_up (kM ad ca f a b) 7 (.inl (ca 0, 10, .inl g)) = kM ad ca f (va_up a 7 g) b := kM_up2 (j := 7) (by decide) rfl
theorem kM_c8 {ad : Nat → Nat} {ca : Nat → ClassId} {f : wF} {a : wA} {b : wB} : kM ad ca f a b 8 = .inl (ca 0, 10, .inl (a 8)) := kM_2 (j := 8) (by decide) rfl
theorem kM_p8 {ad : Nat → Nat} {ca : Nat → ClassId} {f : wF} {a : wA} {b : wB} {g : Nat → Int32} : va_up (kM ad ca f a b) 8 (.inl (ca 0, 10, .inl g)) = kM ad ca f (va_up a 8 g) b := kM_up2 (j := 8) (by decide) rfl
theorem kM_c9 {ad : Nat → Nat} {ca : Nat → ClassId} {f : wF} {a : wA} {b : wB} : kM ad ca f a b 9 = .inl (ca 1, 10, .inl (a 9)) := kM_3 (j := 9) (by decide) rfl
theorem kM_p9 {ad : Nat → Nat} {ca : Nat → ClassId} {f : wF} {a : wA} {b : wB} {g : Nat → Int32} : va_up (kM ad ca f a b) 9 (.inl (ca 1, 10, .inl g)) = kM ad ca f (va_up a 9 g) b := kM_up3 (j := 9) (by decide) rfl
theorem kM_c10 {ad : Nat → Nat} {ca : Nat → ClassId} {f : wF} {a : wA} {b : wB} : kM ad ca f a b 10 = .inl (ca 0, 16, .inl (a 10)) := kM_2 (j := 10) (by decide) rfl
theorem kM_p10 {ad : Nat → Nat} {ca : Nat → ClassId} {f : wF} {a : wA} {b : wB} {g : Nat → Int32} : va_up (kM ad ca f a b) 10 (.inl (ca 0, 16, .inl g)) = kM ad ca f (va_up a 10 g) b := kM_up2 (j := 10) (by decide) rfl
theorem kM_c11 {ad : Nat → Nat} {ca : Nat → ClassId} {f : wF} {a : wA} {b : wB} : kM ad ca f a b 11 = .inl (ca 0, 10, .inl (a 11)) := kM_2 (j := 11) (by decide) rfl
theorem kM_p11 {ad : Nat → Nat} {ca : Nat → ClassId} {f : wF} {a : wA} {b : wB} {g : Nat → Int32} : va_up (kM ad ca f a b) 11 (.inl (ca 0, 10, .inl g)) = kM ad ca f (va_up a 11 g) b := kM_up2 (j := 11) (by decide) rfl
theorem kM_c12 {ad : Nat → Nat} {ca : Nat → ClassId} {f : wF} {a : wA} {b : wB} : kM ad ca f a b 12 = .inl (ca 2, 45056, .inr (.inl (b 12))) := kM_4 (j := 12) (by decide) rfl
theorem kM_p12 {ad : Nat → Nat} {ca : Nat → ClassId} {f : wF} {a : wA} {b : wB} {g : Nat → Int64} : va_up (kM ad ca f a b) 12 (.inl (ca 2, 45056, .inr (.inl g))) = kM ad ca f a (va_up b 12 g) := kM_up4 (j := 12) (by decide) rfl
abbrev tS_o0 : Nat → FieldType := ftS
theorem tS_o0_ok : ∀ k, k < 17 → parseFieldDescriptor (TS k).2.2.1 = some (tS_o0 k) := ftS_ok
theorem nS_o0 : ∀ a, a < 17 → ∀ b, b < 17 → a ≠ b → (TS a).2.1 ≠ (TS b).2.1 := nmS
theorem inS_o0 : ∀ w ∈ u_ws "SendBest" TS 17, w ∈ Wl := inS
abbrev tS_o1 : Nat → FieldType := ftP
theorem tS_o1_ok : ∀ k, k < 14 → parseFieldDescriptor (TP k).2.2.1 = some (tS_o1 k) := ftP_ok
theorem nS_o1 : ∀ a, a < 14 → ∀ b, b < 14 → a ≠ b → (TP a).2.1 ≠ (TP b).2.1 := nmP
theorem inS_o1 : ∀ w ∈ u_ws "SendBest$Pairing" TP 14, w ∈ Wl := inP
abbrev tM_o0 : Nat → FieldType := ftM
theorem tM_o0_ok : ∀ k, k < 19 → parseFieldDescriptor (TM k).2.2.1 = some (tM_o0 k) := ftM_ok
theorem nM_o0 : ∀ a, a < 19 → ∀ b, b < 19 → a ≠ b → (TM a).2.1 ≠ (TM b).2.1 := nmM
theorem inM_o0 : ∀ w ∈ u_ws "SendBestModel" TM 19, w ∈ Wl := inM
def txS : List (String × Nat × String) := [("SendBest", 69, "skills have bits 0 to 15"), ("SendBest", 79, "no room for a unit"), ("SendBest", 197, "a rank is 1 to 9"), ("SendBest", 89, "no room for an incident"), ("SendBest", 191, "no such incident"), ("SendBest", 202, "the incident is closed"), ("SendBest", 195, "no such skill"), ("SendBest", 100, "so many needs are 0 to 10"), ("SendBest", 105, "no room for the needs"), ("SendBest", 189, "no such unit"), ("SendBest", 200, "seconds are 0 to 99999, or -1 for none"), ("SendBest", 115, "a reserve\'s rank is 1 to 10"), ("SendBest", 113, "a reserve has 0 to 12 units"), ("SendBest", 119, "the unit is so"), ("SendBest", 126, "saved seconds are 0 to 1000000"), ("SendBest", 204, "the unit fills no need"), ("SendBest", 193, "no such need"), ("SendBest", 166, "of a need 0 to 3 can be asked"), ("SendBest", 169, "there are the sums 0 and 1"), ("SendBest", 184, "needs are counted from 0 on")]
def txM : List (String × Nat × String) := []
theorem xg_S_71 : ∀ w ∈ (vx_atS "SendBest" 71 "java/lang/IndexOutOfBoundsException" ["java/lang/RuntimeException", "java/lang/Exception"]).filter goodWord, w ∈ Wl := fun w h => List.mem_filter.mpr ⟨(by decide +kernel : ∀ w ∈ (vx_atS "SendBest" 71 "java/lang/IndexOutOfBoundsException" ["java/lang/RuntimeException", "java/lang/Exception"]).filter goodWord, w ∈ lw_tbl) w h, (List.mem_filter.mp h).2⟩
theorem xb_S_71 : ∀ w ∈ (vx_atS "SendBest" 71 "java/lang/IndexOutOfBoundsException" ["java/lang/RuntimeException", "java/lang/Exception"]).filter (fun w => !goodWord w), w ∈ thC ++ thD := by decide +kernel
theorem xo_S_71_67 : ∀ w ∈ Cond.classLink "SendBest" 67 "java/lang/IndexOutOfBoundsException" :: Cond.initialized "java/lang/IndexOutOfBoundsException" :: vx_atS "SendBest" 71 "java/lang/IndexOutOfBoundsException" ["java/lang/RuntimeException", "java/lang/Exception"], vx_ot w = true := by decide +kernel
theorem xg_S_81 : ∀ w ∈ (vx_atS "SendBest" 81 "java/lang/UnsupportedOperationException" ["java/lang/RuntimeException", "java/lang/Exception"]).filter goodWord, w ∈ Wl := fun w h => List.mem_filter.mpr ⟨(by decide +kernel : ∀ w ∈ (vx_atS "SendBest" 81 "java/lang/UnsupportedOperationException" ["java/lang/RuntimeException", "java/lang/Exception"]).filter goodWord, w ∈ lw_tbl) w h, (List.mem_filter.mp h).2⟩
theorem xb_S_81 : ∀ w ∈ (vx_atS "SendBest" 81 "java/lang/UnsupportedOperationException" ["java/lang/RuntimeException", "java/lang/Exception"]).filter (fun w => !goodWord w), w ∈ thC ++ thD := by decide +kernel
theorem xo_S_81_77 : ∀ w ∈ Cond.classLink "SendBest" 77 "java/lang/UnsupportedOperationException" :: Cond.initialized "java/lang/UnsupportedOperationException" :: vx_atS "SendBest" 81 "java/lang/UnsupportedOperationException" ["java/lang/RuntimeException", "java/lang/Exception"], vx_ot w = true := by decide +kernel
theorem xg_S_168 : ∀ w ∈ (vx_atS "SendBest" 168 "java/lang/IllegalArgumentException" ["java/lang/RuntimeException", "java/lang/Exception"]).filter goodWord, w ∈ Wl := fun w h => List.mem_filter.mpr ⟨(by decide +kernel : ∀ w ∈ (vx_atS "SendBest" 168 "java/lang/IllegalArgumentException" ["java/lang/RuntimeException", "java/lang/Exception"]).filter goodWord, w ∈ lw_tbl) w h, (List.mem_filter.mp h).2⟩
theorem xb_S_168 : ∀ w ∈ (vx_atS "SendBest" 168 "java/lang/IllegalArgumentException" ["java/lang/RuntimeException", "java/lang/Exception"]).filter (fun w => !goodWord w), w ∈ thC ++ thD := by decide +kernel
theorem xo_S_168_164 : ∀ w ∈ Cond.classLink "SendBest" 164 "java/lang/IllegalArgumentException" :: Cond.initialized "java/lang/IllegalArgumentException" :: vx_atS "SendBest" 168 "java/lang/IllegalArgumentException" ["java/lang/RuntimeException", "java/lang/Exception"], vx_ot w = true := by decide +kernel
theorem xg_S_121 : ∀ w ∈ (vx_atS "SendBest" 121 "java/lang/IllegalStateException" ["java/lang/RuntimeException", "java/lang/Exception"]).filter goodWord, w ∈ Wl := fun w h => List.mem_filter.mpr ⟨(by decide +kernel : ∀ w ∈ (vx_atS "SendBest" 121 "java/lang/IllegalStateException" ["java/lang/RuntimeException", "java/lang/Exception"]).filter goodWord, w ∈ lw_tbl) w h, (List.mem_filter.mp h).2⟩
theorem xb_S_121 : ∀ w ∈ (vx_atS "SendBest" 121 "java/lang/IllegalStateException" ["java/lang/RuntimeException", "java/lang/Exception"]).filter (fun w => !goodWord w), w ∈ thC ++ thD := by decide +kernel
theorem xo_S_121_117 : ∀ w ∈ Cond.classLink "SendBest" 117 "java/lang/IllegalStateException" :: Cond.initialized "java/lang/IllegalStateException" :: vx_atS "SendBest" 121 "java/lang/IllegalStateException" ["java/lang/RuntimeException", "java/lang/Exception"], vx_ot w = true := by decide +kernel
end
section
def wp_S_unit_10 (po : Int32 → wF → wA → wB → Prop) (px : String → wF → wA → wB → Prop)  (f : wF) (a : wA) (b : wB) : Prop := px "java/lang/IndexOutOfBoundsException" f a b
def wp_S_unit (po : Int32 → wF → wA → wB → Prop) (px : String → wF → wA → wB → Prop) (x1 : Int32) (f : wF) (a : wA) (b : wB) : Prop := (x1 < 0 → (wp_S_unit_10 po px f a b)) ∧ (¬ x1 < 0 → ((x1 < (65536 : Int32) → (((f 0) < (12 : Int32) → (vp_in (f 0) 12 ∧ (po (((va_up f 0 ((f 0) + (1 : Int32))) 0) - (1 : Int32)) (va_up f 0 ((f 0) + (1 : Int32))) (va_up a 2 (upd (a 2) (f 0).toNatClampNeg x1)) b))) ∧ (¬ (f 0) < (12 : Int32) → (px "java/lang/UnsupportedOperationException" f a b)))) ∧ (¬ x1 < (65536 : Int32) → (wp_S_unit_10 po px f a b))))
def wp_S_checkRank_11 (po : wF → wA → wB → Prop) (px : String → wF → wA → wB → Prop)  (f : wF) (a : wA) (b : wB) : Prop := px "java/lang/IndexOutOfBoundsException" f a b
def wp_S_checkRank (po : wF → wA → wB → Prop) (px : String → wF → wA → wB → Prop) (x0 : Int32) (f : wF) (a : wA) (b : wB) : Prop := (x0 < (1 : Int32) → (wp_S_checkRank_11 po px f a b)) ∧ (¬ x0 < (1 : Int32) → ((x0 ≤ (9 : Int32) → (po f a b)) ∧ (¬ x0 ≤ (9 : Int32) → (wp_S_checkRank_11 po px f a b))))
def wp_S_incident (po : Int32 → wF → wA → wB → Prop) (px : String → wF → wA → wB → Prop) (x1 : Int32) (f : wF) (a : wA) (b : wB) : Prop := wp_S_checkRank (fun f1 a1 b1 => ((f1 1) < (6 : Int32) → (vp_in (f1 1) 6 ∧ vp_in (f1 1) 6 ∧ (po (((va_up f1 1 ((f1 1) + (1 : Int32))) 1) - (1 : Int32)) (va_up f1 1 ((f1 1) + (1 : Int32))) (va_up (va_up a1 7 (upd (a1 7) (f1 1).toNatClampNeg x1)) 8 (upd ((va_up a1 7 (upd (a1 7) (f1 1).toNatClampNeg x1)) 8) (f1 1).toNatClampNeg (vp_nar .boolean (1 : Int32)))) b1))) ∧ (¬ (f1 1) < (6 : Int32) → (px "java/lang/UnsupportedOperationException" f1 a1 b1))) px x1 f a b
def wp_S_checkIncident_12 (po : wF → wA → wB → Prop) (px : String → wF → wA → wB → Prop)  (f : wF) (a : wA) (b : wB) : Prop := px "java/lang/IllegalArgumentException" f a b
def wp_S_checkIncident (po : wF → wA → wB → Prop) (px : String → wF → wA → wB → Prop) (x1 : Int32) (f : wF) (a : wA) (b : wB) : Prop := (x1 < 0 → (wp_S_checkIncident_12 po px f a b)) ∧ (¬ x1 < 0 → ((x1 < (f 1) → (po f a b)) ∧ (¬ x1 < (f 1) → (wp_S_checkIncident_12 po px f a b))))
def wp_S_checkOpen (po : wF → wA → wB → Prop) (px : String → wF → wA → wB → Prop) (x1 : Int32) (f : wF) (a : wA) (b : wB) : Prop := vp_in x1 6 ∧ ((¬ (a 8 x1.toNatClampNeg) = 0 → (po f a b)) ∧ ((a 8 x1.toNatClampNeg) = 0 → (px "java/lang/IllegalStateException" f a b)))
def wp_S_rank (po : wF → wA → wB → Prop) (px : String → wF → wA → wB → Prop) (x1 : Int32) (x2 : Int32) (f : wF) (a : wA) (b : wB) : Prop := wp_S_checkIncident (fun f2 a2 b2 => wp_S_checkRank (fun f6 a6 b6 => wp_S_checkOpen (fun f11 a11 b11 => vp_in x1 6 ∧ (po f11 (va_up a11 7 (upd (a11 7) x1.toNatClampNeg x2)) b11)) px x1 f6 a6 b6) px x2 f2 a2 b2) px x1 f a b
def wp_S_checkSkill_10 (po : wF → wA → wB → Prop) (px : String → wF → wA → wB → Prop)  (f : wF) (a : wA) (b : wB) : Prop := px "java/lang/IllegalArgumentException" f a b
def wp_S_checkSkill (po : wF → wA → wB → Prop) (px : String → wF → wA → wB → Prop) (x0 : Int32) (f : wF) (a : wA) (b : wB) : Prop := (x0 < 0 → (wp_S_checkSkill_10 po px f a b)) ∧ (¬ x0 < 0 → ((x0 < (16 : Int32) → (po f a b)) ∧ (¬ x0 < (16 : Int32) → (wp_S_checkSkill_10 po px f a b))))
def wp_S_need_58 (po : Int32 → wF → wA → wB → Prop) (px : String → wF → wA → wB → Prop) : Nat → Int32 → Int32 → Int32 → Int32 → wF → wA → wB → Prop
  | 0 => fun _ _ _ _ _ _ _ => False
  | n + 1 => fun x1 x2 x3 x4 f a b => (x3 ≤ x4 → (po (f 2) f a b)) ∧ (¬ x3 ≤ x4 → (vp_in (f 2) 10 ∧ vp_in (f 2) 10 ∧ (wp_S_need_58 po px n x1 x2 x3 (x4 + (1 : Int32)) (va_up f 2 ((f 2) + (1 : Int32))) (va_up (va_up a 9 (upd (a 9) (f 2).toNatClampNeg x1)) 10 (upd ((va_up a 9 (upd (a 9) (f 2).toNatClampNeg x1)) 10) (f 2).toNatClampNeg x2)) b)))
def wp_S_need_19 (po : Int32 → wF → wA → wB → Prop) (px : String → wF → wA → wB → Prop)  (f : wF) (a : wA) (b : wB) : Prop := px "java/lang/IndexOutOfBoundsException" f a b
def wp_S_need (po : Int32 → wF → wA → wB → Prop) (px : String → wF → wA → wB → Prop) (x1 : Int32) (x2 : Int32) (x3 : Int32) (f : wF) (a : wA) (b : wB) : Prop := wp_S_checkIncident (fun f2 a2 b2 => wp_S_checkSkill (fun f6 a6 b6 => (x3 < 0 → (wp_S_need_19 po px f6 a6 b6)) ∧ (¬ x3 < 0 → ((x3 ≤ (10 : Int32) → (wp_S_checkOpen (fun f31 a31 b31 => (((f31 2) + x3) ≤ (10 : Int32) → (∃ n9, wp_S_need_58 po px n9 x1 x2 x3 (0 : Int32) f31 a31 b31)) ∧ (¬ ((f31 2) + x3) ≤ (10 : Int32) → (px "java/lang/UnsupportedOperationException" f31 a31 b31))) px x1 f6 a6 b6)) ∧ (¬ x3 ≤ (10 : Int32) → (wp_S_need_19 po px f6 a6 b6))))) px x2 f2 a2 b2) px x1 f a b
def wp_S_checkUnit_12 (po : wF → wA → wB → Prop) (px : String → wF → wA → wB → Prop)  (f : wF) (a : wA) (b : wB) : Prop := px "java/lang/IllegalArgumentException" f a b
def wp_S_checkUnit (po : wF → wA → wB → Prop) (px : String → wF → wA → wB → Prop) (x1 : Int32) (f : wF) (a : wA) (b : wB) : Prop := (x1 < 0 → (wp_S_checkUnit_12 po px f a b)) ∧ (¬ x1 < 0 → ((x1 < (f 0) → (po f a b)) ∧ (¬ x1 < (f 0) → (wp_S_checkUnit_12 po px f a b))))
def wp_S_checkSeconds_11 (po : wF → wA → wB → Prop) (px : String → wF → wA → wB → Prop)  (f : wF) (a : wA) (b : wB) : Prop := px "java/lang/IndexOutOfBoundsException" f a b
def wp_S_checkSeconds (po : wF → wA → wB → Prop) (px : String → wF → wA → wB → Prop) (x0 : Int32) (f : wF) (a : wA) (b : wB) : Prop := (x0 < (-1 : Int32) → (wp_S_checkSeconds_11 po px f a b)) ∧ (¬ x0 < (-1 : Int32) → ((x0 ≤ (99999 : Int32) → (po f a b)) ∧ (¬ x0 ≤ (99999 : Int32) → (wp_S_checkSeconds_11 po px f a b))))
def wp_S_seconds (po : wF → wA → wB → Prop) (px : String → wF → wA → wB → Prop) (x1 : Int32) (x2 : Int32) (x3 : Int32) (f : wF) (a : wA) (b : wB) : Prop := wp_S_checkUnit (fun f2 a2 b2 => wp_S_checkIncident (fun f7 a7 b7 => wp_S_checkSeconds (fun f11 a11 b11 => vp_in x1 12 ∧ vp_in x2 6 ∧ (po f11 (va_up a11 (25 + x1.toNatClampNeg) (upd (a11 (25 + x1.toNatClampNeg)) x2.toNatClampNeg x3)) b11)) px x3 f7 a7 b7) px x2 f2 a2 b2) px x1 f a b
def wp_S_limit (po : wF → wA → wB → Prop) (px : String → wF → wA → wB → Prop) (x1 : Int32) (x2 : Int32) (f : wF) (a : wA) (b : wB) : Prop := wp_S_checkSkill (fun f1 a1 b1 => wp_S_checkSeconds (fun f5 a5 b5 => vp_in x1 16 ∧ (po f5 (va_up a5 12 (upd (a5 12) x1.toNatClampNeg x2)) b5)) px x2 f1 a1 b1) px x1 f a b
def wp_S_reserve_31 (po : wF → wA → wB → Prop) (px : String → wF → wA → wB → Prop)  (f : wF) (a : wA) (b : wB) : Prop := px "java/lang/IndexOutOfBoundsException" f a b
def wp_S_reserve_10 (po : wF → wA → wB → Prop) (px : String → wF → wA → wB → Prop)  (f : wF) (a : wA) (b : wB) : Prop := px "java/lang/IndexOutOfBoundsException" f a b
def wp_S_reserve (po : wF → wA → wB → Prop) (px : String → wF → wA → wB → Prop) (x1 : Int32) (x2 : Int32) (f : wF) (a : wA) (b : wB) : Prop := (x1 < 0 → (wp_S_reserve_10 po px f a b)) ∧ (¬ x1 < 0 → ((x1 ≤ (12 : Int32) → ((x2 < (1 : Int32) → (wp_S_reserve_31 po px f a b)) ∧ (¬ x2 < (1 : Int32) → ((x2 ≤ (10 : Int32) → (po (va_up (va_up f 3 x1) 4 x2) a b)) ∧ (¬ x2 ≤ (10 : Int32) → (wp_S_reserve_31 po px f a b)))))) ∧ (¬ x1 ≤ (12 : Int32) → (wp_S_reserve_10 po px f a b))))
def wp_S_free_22 (po : wF → wA → wB → Prop) (x1 : Int32) (f : wF) (a : wA) (b : wB) : Prop := vp_in x1 12 ∧ vp_in x1 12 ∧ (po f (va_up (va_up a 5 (upd (a 5) x1.toNatClampNeg (-1 : Int32))) 4 (upd ((va_up a 5 (upd (a 5) x1.toNatClampNeg (-1 : Int32))) 4) x1.toNatClampNeg (vp_nar .boolean (0 : Int32)))) b)
def wp_S_free (po : wF → wA → wB → Prop) (x1 : Int32) (f : wF) (a : wA) (b : wB) : Prop := vp_in x1 12 ∧ (((a 5 x1.toNatClampNeg) = (-1 : Int32) → (wp_S_free_22 po x1 f a b)) ∧ (¬ (a 5 x1.toNatClampNeg) = (-1 : Int32) → (vp_in x1 12 ∧ vp_in (a 5 x1.toNatClampNeg) 10 ∧ (wp_S_free_22 po x1 f (va_up a 11 (upd (a 11) (a 5 x1.toNatClampNeg).toNatClampNeg (-1 : Int32))) b))))
def wp_S_broken_41 (po : wF → wA → wB → Prop) (px : String → wF → wA → wB → Prop)  (f : wF) (a : wA) (b : wB) : Prop := po f a b
def wp_S_broken (po : wF → wA → wB → Prop) (px : String → wF → wA → wB → Prop) (x1 : Int32) (x2 : Int32) (f : wF) (a : wA) (b : wB) : Prop := wp_S_checkUnit (fun f2 a2 b2 => vp_in x1 12 ∧ ((¬ (a2 3 x1.toNatClampNeg) = x2 → (vp_in x1 12 ∧ ((x2 = 0 → (wp_S_broken_41 po px f2 (va_up a2 3 (upd (a2 3) x1.toNatClampNeg (vp_nar .boolean x2))) b2)) ∧ (¬ x2 = 0 → (wp_S_free (fun f38 a38 b38 => wp_S_broken_41 po px f38 a38 b38) x1 f2 (va_up a2 3 (upd (a2 3) x1.toNatClampNeg (vp_nar .boolean x2))) b2))))) ∧ ((a2 3 x1.toNatClampNeg) = x2 → (px "java/lang/IllegalStateException" f2 a2 b2)))) px x1 f a b
def wp_P_clear_12 (po : wF → wA → wB → Prop) : Nat → Int32 → wF → wA → wB → Prop
  | 0 => fun _ _ _ _ => False
  | n + 1 => fun x1 f a b => ((10 : Int32) ≤ x1 → (po f a b)) ∧ (¬ (10 : Int32) ≤ x1 → (vp_in x1 10 ∧ (wp_P_clear_12 po n (x1 + (1 : Int32)) f a (va_up b (37 + x1.toNatClampNeg) (fun _ => (0 : Int64))))))
def wp_P_clear (po : wF → wA → wB → Prop)  (f : wF) (a : wA) (b : wB) : Prop := ∃ n9, wp_P_clear_12 po n9 (0 : Int32) (va_up (va_up f 5 (0 : Int32)) 6 (0 : Int32)) a b
def wp_S_isOpenNeed (po : Int32 → wF → wA → wB → Prop) (x1 : Int32) (f : wF) (a : wA) (b : wB) : Prop := vp_in x1 10 ∧ vp_in (a 9 x1.toNatClampNeg) 6 ∧ (zb (a 8 (a 9 x1.toNatClampNeg).toNatClampNeg) ∧ po (a 8 (a 9 x1.toNatClampNeg).toNatClampNeg) f a b)
def wp_S_secondsTo (po : Int32 → wF → wA → wB → Prop) (x1 : Int32) (x2 : Int32) (f : wF) (a : wA) (b : wB) : Prop := vp_in x1 12 ∧ vp_in x2 10 ∧ vp_in (a 9 x2.toNatClampNeg) 6 ∧ (po (a (25 + x1.toNatClampNeg) (a 9 x2.toNatClampNeg).toNatClampNeg) f a b)
def wp_S_canFill_71 (po : Int32 → wF → wA → wB → Prop) (k0 : Int32) (f : wF) (a : wA) (b : wB) : Prop := zb k0 ∧ po k0 f a b
def wp_S_canFill_70 (po : Int32 → wF → wA → wB → Prop)  (f : wF) (a : wA) (b : wB) : Prop := wp_S_canFill_71 po (0 : Int32) f a b
def wp_S_canFill_66 (po : Int32 → wF → wA → wB → Prop)  (f : wF) (a : wA) (b : wB) : Prop := wp_S_canFill_71 po (1 : Int32) f a b
def wp_S_canFill_29 (po : Int32 → wF → wA → wB → Prop)  (f : wF) (a : wA) (b : wB) : Prop := zb (0 : Int32) ∧ po (0 : Int32) f a b
def wp_S_canFill (po : Int32 → wF → wA → wB → Prop) (x1 : Int32) (x2 : Int32) (f : wF) (a : wA) (b : wB) : Prop := vp_in x2 10 ∧ vp_in x1 12 ∧ ((¬ (a 3 x1.toNatClampNeg) = 0 → (wp_S_canFill_29 po f a b)) ∧ ((a 3 x1.toNatClampNeg) = 0 → (vp_in x1 12 ∧ ((¬ (((a 2 x1.toNatClampNeg) >>> ((a 10 x2.toNatClampNeg) &&& 31)) &&& (1 : Int32)) = 0 → (wp_S_secondsTo (fun r34 f34 a34 b34 => (r34 = (-1 : Int32) → (wp_S_canFill_70 po f34 a34 b34)) ∧ (¬ r34 = (-1 : Int32) → (vp_in (a 10 x2.toNatClampNeg) 16 ∧ (((a34 12 (a 10 x2.toNatClampNeg).toNatClampNeg) = (-1 : Int32) → (wp_S_canFill_66 po f34 a34 b34)) ∧ (¬ (a34 12 (a 10 x2.toNatClampNeg).toNatClampNeg) = (-1 : Int32) → (vp_in (a 10 x2.toNatClampNeg) 16 ∧ (((a34 12 (a 10 x2.toNatClampNeg).toNatClampNeg) < r34 → (wp_S_canFill_70 po f34 a34 b34)) ∧ (¬ (a34 12 (a 10 x2.toNatClampNeg).toNatClampNeg) < r34 → (wp_S_canFill_66 po f34 a34 b34))))))))) x1 x2 f a b)) ∧ ((((a 2 x1.toNatClampNeg) >>> ((a 10 x2.toNatClampNeg) &&& 31)) &&& (1 : Int32)) = 0 → (wp_S_canFill_29 po f a b))))))
def wp_S_isFixed_38 (po : Int32 → wF → wA → wB → Prop) (k0 : Int32) (f : wF) (a : wA) (b : wB) : Prop := zb k0 ∧ po k0 f a b
def wp_S_isFixed_37 (po : Int32 → wF → wA → wB → Prop)  (f : wF) (a : wA) (b : wB) : Prop := wp_S_isFixed_38 po (0 : Int32) f a b
def wp_S_isFixed (po : Int32 → wF → wA → wB → Prop) (x1 : Int32) (f : wF) (a : wA) (b : wB) : Prop := vp_in x1 12 ∧ (((a 4 x1.toNatClampNeg) = 0 → (wp_S_isFixed_37 po f a b)) ∧ (¬ (a 4 x1.toNatClampNeg) = 0 → (vp_in x1 12 ∧ (((a 5 x1.toNatClampNeg) = (-1 : Int32) → (wp_S_isFixed_37 po f a b)) ∧ (¬ (a 5 x1.toNatClampNeg) = (-1 : Int32) → (vp_in x1 12 ∧ (wp_S_canFill (fun r27 f27 a27 b27 => (r27 = 0 → (wp_S_isFixed_37 po f27 a27 b27)) ∧ (¬ r27 = 0 → (wp_S_isFixed_38 po (1 : Int32) f27 a27 b27))) x1 (a 5 x1.toNatClampNeg) f a b)))))))
def wp_S_hasFixedUnit_28 (po : Int32 → wF → wA → wB → Prop) (k0 : Int32) (f : wF) (a : wA) (b : wB) : Prop := zb k0 ∧ po k0 f a b
def wp_S_hasFixedUnit_27 (po : Int32 → wF → wA → wB → Prop)  (f : wF) (a : wA) (b : wB) : Prop := wp_S_hasFixedUnit_28 po (0 : Int32) f a b
def wp_S_hasFixedUnit (po : Int32 → wF → wA → wB → Prop) (x1 : Int32) (f : wF) (a : wA) (b : wB) : Prop := vp_in x1 10 ∧ (((a 11 x1.toNatClampNeg) = (-1 : Int32) → (wp_S_hasFixedUnit_27 po f a b)) ∧ (¬ (a 11 x1.toNatClampNeg) = (-1 : Int32) → (vp_in x1 10 ∧ (wp_S_isFixed (fun r17 f17 a17 b17 => (r17 = 0 → (wp_S_hasFixedUnit_27 po f17 a17 b17)) ∧ (¬ r17 = 0 → (wp_S_hasFixedUnit_28 po (1 : Int32) f17 a17 b17))) (a 11 x1.toNatClampNeg) f a b))))
def wp_S_rankOfNeed (po : Int32 → wF → wA → wB → Prop) (x1 : Int32) (f : wF) (a : wA) (b : wB) : Prop := vp_in x1 10 ∧ vp_in (a 9 x1.toNatClampNeg) 6 ∧ (po (a 7 (a 9 x1.toNatClampNeg).toNatClampNeg) f a b)
def wp_P_addRow (po : Int32 → wF → wA → wB → Prop) (x1 : Int32) (f : wF) (a : wA) (b : wB) : Prop := vp_in (f 5) 10 ∧ (po (((va_up f 5 ((f 5) + (1 : Int32))) 5) - (1 : Int32)) (va_up f 5 ((f 5) + (1 : Int32))) (va_up a 13 (upd (a 13) (f 5).toNatClampNeg x1)) b)
def wp_P_allow (po : wF → wA → wB → Prop) (x1 : Int32) (x2 : Int32) (x3 : Int32) (x4 : Int32) (f : wF) (a : wA) (b : wB) : Prop := vp_in x1 10 ∧ vp_in x2 12 ∧ (po f a (va_up b (37 + x1.toNatClampNeg) (vp_updL (b (37 + x1.toNatClampNeg)) x2.toNatClampNeg (x3.toInt64 * (x4.toInt64 - (100000000 : Int64))))))
def wp_S_addNeed_56 (po : wF → wA → wB → Prop) (J11 : Int32 → Int32 → Int32 → wF → wA → wB → Prop) (x1 : Int32) (x2 : Int32) (x3 : Int32) (f : wF) (a : wA) (b : wB) : Prop := J11 x1 x2 (x3 + (1 : Int32)) f a b
def wp_S_addNeed_11 (po : wF → wA → wB → Prop) : Nat → Int32 → Int32 → Int32 → wF → wA → wB → Prop
  | 0 => fun _ _ _ _ _ _ => False
  | n + 1 => fun x1 x2 x3 f a b => ((f 0) ≤ x3 → (po f a b)) ∧ (¬ (f 0) ≤ x3 → (wp_S_isFixed (fun r21 f21 a21 b21 => (¬ r21 = 0 → (wp_S_addNeed_56 po (wp_S_addNeed_11 po n) x1 x2 x3 f21 a21 b21)) ∧ (r21 = 0 → (wp_S_canFill (fun r30 f30 a30 b30 => (r30 = 0 → (wp_S_addNeed_56 po (wp_S_addNeed_11 po n) x1 x2 x3 f30 a30 b30)) ∧ (¬ r30 = 0 → (wp_S_rankOfNeed (fun r44 f44 a44 b44 => wp_S_secondsTo (fun r50 f50 a50 b50 => wp_P_allow (fun f53 a53 b53 => wp_S_addNeed_56 po (wp_S_addNeed_11 po n) x1 x2 x3 f53 a53 b53) x2 x3 r44 r50 f50 a50 b50) x3 x1 f44 a44 b44) x1 f30 a30 b30))) x3 x1 f21 a21 b21))) x3 f a b))
def wp_S_addNeed (po : wF → wA → wB → Prop) (x1 : Int32) (f : wF) (a : wA) (b : wB) : Prop := wp_P_addRow (fun r5 f5 a5 b5 => ∃ n9, wp_S_addNeed_11 po n9 x1 r5 (0 : Int32) f5 a5 b5) x1 f a b
def wp_S_addNeeds_52 (po : wF → wA → wB → Prop) (J2 : Int32 → Int32 → wF → wA → wB → Prop) (x1 : Int32) (x2 : Int32) (f : wF) (a : wA) (b : wB) : Prop := J2 x1 (x2 + (1 : Int32)) f a b
def wp_S_addNeeds_43 (po : wF → wA → wB → Prop) (J2 : Int32 → Int32 → wF → wA → wB → Prop) (k0 : Int32) (x1 : Int32) (x2 : Int32) (f : wF) (a : wA) (b : wB) : Prop := (¬ k0 = x1 → (wp_S_addNeeds_52 po J2 x1 x2 f a b)) ∧ (k0 = x1 → (wp_S_addNeed (fun f49 a49 b49 => wp_S_addNeeds_52 po J2 x1 x2 f49 a49 b49) x2 f a b))
def wp_S_addNeeds_2 (po : wF → wA → wB → Prop) : Nat → Int32 → Int32 → wF → wA → wB → Prop
  | 0 => fun _ _ _ _ _ => False
  | n + 1 => fun x1 x2 f a b => ((f 2) ≤ x2 → (po f a b)) ∧ (¬ (f 2) ≤ x2 → (wp_S_isOpenNeed (fun r12 f12 a12 b12 => (r12 = 0 → (wp_S_addNeeds_52 po (wp_S_addNeeds_2 po n) x1 x2 f12 a12 b12)) ∧ (¬ r12 = 0 → (wp_S_hasFixedUnit (fun r20 f20 a20 b20 => (¬ r20 = 0 → (wp_S_addNeeds_52 po (wp_S_addNeeds_2 po n) x1 x2 f20 a20 b20)) ∧ (r20 = 0 → (wp_S_rankOfNeed (fun r28 f28 a28 b28 => (r28 < (f28 4) → (wp_S_addNeeds_43 po (wp_S_addNeeds_2 po n) (0 : Int32) x1 x2 f28 a28 b28)) ∧ (¬ r28 < (f28 4) → (wp_S_addNeeds_43 po (wp_S_addNeeds_2 po n) (1 : Int32) x1 x2 f28 a28 b28))) x2 f20 a20 b20))) x2 f12 a12 b12))) x2 f a b))
def wp_S_addNeeds (po : wF → wA → wB → Prop) (x1 : Int32) (f : wF) (a : wA) (b : wB) : Prop := ∃ n9, wp_S_addNeeds_2 po n9 x1 (0 : Int32) f a b
def wp_P_endUnbound (po : wF → wA → wB → Prop)  (f : wF) (a : wA) (b : wB) : Prop := po (va_up f 6 (f 5)) a b
def wp_S_layOutNeeds (po : wF → wA → wB → Prop)  (f : wF) (a : wA) (b : wB) : Prop := wp_P_clear (fun f4 a4 b4 => wp_S_addNeeds (fun f9 a9 b9 => wp_P_endUnbound (fun f16 a16 b16 => wp_S_addNeeds (fun f21 a21 b21 => po f21 a21 b21) (0 : Int32) f16 a16 b16) f9 a9 b9) (1 : Int32) f4 a4 b4) f a b
def wp_S_spareUnits_36 (po : Int32 → wF → wA → wB → Prop) (J8 : Int32 → Int32 → wF → wA → wB → Prop) (x1 : Int32) (x2 : Int32) (f : wF) (a : wA) (b : wB) : Prop := J8 x1 (x2 + (1 : Int32)) f a b
def wp_S_spareUnits_8 (po : Int32 → wF → wA → wB → Prop) : Nat → Int32 → Int32 → wF → wA → wB → Prop
  | 0 => fun _ _ _ _ _ => False
  | n + 1 => fun x1 x2 f a b => ((f 0) ≤ x2 → (po x1 f a b)) ∧ (¬ (f 0) ≤ x2 → (vp_in x2 12 ∧ ((¬ (a 3 x2.toNatClampNeg) = 0 → (wp_S_spareUnits_36 po (wp_S_spareUnits_8 po n) x1 x2 f a b)) ∧ ((a 3 x2.toNatClampNeg) = 0 → (wp_S_isFixed (fun r27 f27 a27 b27 => (¬ r27 = 0 → (wp_S_spareUnits_36 po (wp_S_spareUnits_8 po n) x1 x2 f27 a27 b27)) ∧ (r27 = 0 → (wp_S_spareUnits_36 po (wp_S_spareUnits_8 po n) (x1 + (1 : Int32)) x2 f27 a27 b27))) x2 f a b)))))
def wp_S_spareUnits (po : Int32 → wF → wA → wB → Prop)  (f : wF) (a : wA) (b : wB) : Prop := ∃ n9, wp_S_spareUnits_8 po n9 (-(f 3)) (0 : Int32) f a b
def wp_P_isLess_26 (po : Int32 → wF → wA → wB → Prop) (k0 : Int32) (f : wF) (a : wA) (b : wB) : Prop := zb k0 ∧ po k0 f a b
def wp_P_isLess_25 (po : Int32 → wF → wA → wB → Prop)  (f : wF) (a : wA) (b : wB) : Prop := wp_P_isLess_26 po (0 : Int32) f a b
def wp_P_isLess_21 (po : Int32 → wF → wA → wB → Prop)  (f : wF) (a : wA) (b : wB) : Prop := wp_P_isLess_26 po (1 : Int32) f a b
def wp_P_isLess (po : Int32 → wF → wA → wB → Prop) (x0 : Int64) (x2 : Int64) (x4 : Int64) (x6 : Int64) (f : wF) (a : wA) (b : wB) : Prop := ((lg_cmp x0 x4) < 0 → (wp_P_isLess_21 po f a b)) ∧ (¬ (lg_cmp x0 x4) < 0 → ((¬ (lg_cmp x0 x4) = 0 → (wp_P_isLess_25 po f a b)) ∧ ((lg_cmp x0 x4) = 0 → ((0 ≤ (lg_cmp x2 x6) → (wp_P_isLess_25 po f a b)) ∧ (¬ 0 ≤ (lg_cmp x2 x6) → (wp_P_isLess_21 po f a b))))))
def wp_P_reach_146 (po : wF → wA → wB → Prop)  (f : wF) (a : wA) (b : wB) : Prop := po f a b
def wp_P_reach_65 (po : wF → wA → wB → Prop) (x1 : Int32) (x2 : Int32) (x3 : Int64) (x5 : Int64) (f : wF) (a : wA) (b : wB) : Prop := vp_in x1 12 ∧ vp_in x1 12 ∧ vp_in x1 12 ∧ vp_in x1 12 ∧ ((((va_up a 22 (upd (a 22) x1.toNatClampNeg x2)) 17 x1.toNatClampNeg) = (-1 : Int32) → (wp_P_reach_146 po f (va_up a 22 (upd (a 22) x1.toNatClampNeg x2)) (va_up (va_up b 23 (vp_updL (b 23) x1.toNatClampNeg x3)) 24 (vp_updL ((va_up b 23 (vp_updL (b 23) x1.toNatClampNeg x3)) 24) x1.toNatClampNeg x5)))) ∧ (¬ ((va_up a 22 (upd (a 22) x1.toNatClampNeg x2)) 17 x1.toNatClampNeg) = (-1 : Int32) → (vp_in ((va_up a 22 (upd (a 22) x1.toNatClampNeg x2)) 17 x1.toNatClampNeg) 10 ∧ vp_in x1 12 ∧ vp_in ((va_up a 22 (upd (a 22) x1.toNatClampNeg x2)) 17 x1.toNatClampNeg) 10 ∧ vp_in ((va_up a 22 (upd (a 22) x1.toNatClampNeg x2)) 17 x1.toNatClampNeg) 10 ∧ vp_in x1 12 ∧ vp_in ((va_up a 22 (upd (a 22) x1.toNatClampNeg x2)) 17 x1.toNatClampNeg) 10 ∧ vp_in ((va_up a 22 (upd (a 22) x1.toNatClampNeg x2)) 17 x1.toNatClampNeg) 10 ∧ (wp_P_reach_146 po f (va_up (va_up a 22 (upd (a 22) x1.toNatClampNeg x2)) 19 (upd ((va_up a 22 (upd (a 22) x1.toNatClampNeg x2)) 19) ((va_up a 22 (upd (a 22) x1.toNatClampNeg x2)) 17 x1.toNatClampNeg).toNatClampNeg (vp_nar .boolean (1 : Int32)))) (va_up (va_up (va_up (va_up b 23 (vp_updL (b 23) x1.toNatClampNeg x3)) 24 (vp_updL ((va_up b 23 (vp_updL (b 23) x1.toNatClampNeg x3)) 24) x1.toNatClampNeg x5)) 20 (vp_updL ((va_up (va_up b 23 (vp_updL (b 23) x1.toNatClampNeg x3)) 24 (vp_updL ((va_up b 23 (vp_updL (b 23) x1.toNatClampNeg x3)) 24) x1.toNatClampNeg x5)) 20) ((va_up a 22 (upd (a 22) x1.toNatClampNeg x2)) 17 x1.toNatClampNeg).toNatClampNeg (x3 - ((va_up (va_up b 23 (vp_updL (b 23) x1.toNatClampNeg x3)) 24 (vp_updL ((va_up b 23 (vp_updL (b 23) x1.toNatClampNeg x3)) 24) x1.toNatClampNeg x5)) (37 + ((va_up a 22 (upd (a 22) x1.toNatClampNeg x2)) 17 x1.toNatClampNeg).toNatClampNeg) x1.toNatClampNeg)))) 21 (vp_updL ((va_up (va_up (va_up b 23 (vp_updL (b 23) x1.toNatClampNeg x3)) 24 (vp_updL ((va_up b 23 (vp_updL (b 23) x1.toNatClampNeg x3)) 24) x1.toNatClampNeg x5)) 20 (vp_updL ((va_up (va_up b 23 (vp_updL (b 23) x1.toNatClampNeg x3)) 24 (vp_updL ((va_up b 23 (vp_updL (b 23) x1.toNatClampNeg x3)) 24) x1.toNatClampNeg x5)) 20) ((va_up a 22 (upd (a 22) x1.toNatClampNeg x2)) 17 x1.toNatClampNeg).toNatClampNeg (x3 - ((va_up (va_up b 23 (vp_updL (b 23) x1.toNatClampNeg x3)) 24 (vp_updL ((va_up b 23 (vp_updL (b 23) x1.toNatClampNeg x3)) 24) x1.toNatClampNeg x5)) (37 + ((va_up a 22 (upd (a 22) x1.toNatClampNeg x2)) 17 x1.toNatClampNeg).toNatClampNeg) x1.toNatClampNeg)))) 21) ((va_up a 22 (upd (a 22) x1.toNatClampNeg x2)) 17 x1.toNatClampNeg).toNatClampNeg (x5 - ((va_up (va_up (va_up b 23 (vp_updL (b 23) x1.toNatClampNeg x3)) 24 (vp_updL ((va_up b 23 (vp_updL (b 23) x1.toNatClampNeg x3)) 24) x1.toNatClampNeg x5)) 20 (vp_updL ((va_up (va_up b 23 (vp_updL (b 23) x1.toNatClampNeg x3)) 24 (vp_updL ((va_up b 23 (vp_updL (b 23) x1.toNatClampNeg x3)) 24) x1.toNatClampNeg x5)) 20) ((va_up a 22 (upd (a 22) x1.toNatClampNeg x2)) 17 x1.toNatClampNeg).toNatClampNeg (x3 - ((va_up (va_up b 23 (vp_updL (b 23) x1.toNatClampNeg x3)) 24 (vp_updL ((va_up b 23 (vp_updL (b 23) x1.toNatClampNeg x3)) 24) x1.toNatClampNeg x5)) (37 + ((va_up a 22 (upd (a 22) x1.toNatClampNeg x2)) 17 x1.toNatClampNeg).toNatClampNeg) x1.toNatClampNeg)))) (47 + ((va_up a 22 (upd (a 22) x1.toNatClampNeg x2)) 17 x1.toNatClampNeg).toNatClampNeg) x1.toNatClampNeg))))))))
def wp_P_reach (po : wF → wA → wB → Prop) (x1 : Int32) (x2 : Int32) (f : wF) (a : wA) (b : wB) : Prop := vp_in x2 10 ∧ vp_in x2 10 ∧ vp_in x1 12 ∧ vp_in x2 10 ∧ vp_in x2 10 ∧ vp_in x1 12 ∧ vp_in x1 12 ∧ (((a 22 x1.toNatClampNeg) = (-1 : Int32) → (wp_P_reach_65 po x1 x2 ((b 20 x2.toNatClampNeg) + (b (37 + x2.toNatClampNeg) x1.toNatClampNeg)) ((b 21 x2.toNatClampNeg) + (b (47 + x2.toNatClampNeg) x1.toNatClampNeg)) f a b)) ∧ (¬ (a 22 x1.toNatClampNeg) = (-1 : Int32) → (vp_in x1 12 ∧ vp_in x1 12 ∧ (wp_P_isLess (fun r58 f58 a58 b58 => (¬ r58 = 0 → (wp_P_reach_65 po x1 x2 ((b 20 x2.toNatClampNeg) + (b (37 + x2.toNatClampNeg) x1.toNatClampNeg)) ((b 21 x2.toNatClampNeg) + (b (47 + x2.toNatClampNeg) x1.toNatClampNeg)) f58 a58 b58)) ∧ (r58 = 0 → (po f58 a58 b58))) ((b 20 x2.toNatClampNeg) + (b (37 + x2.toNatClampNeg) x1.toNatClampNeg)) ((b 21 x2.toNatClampNeg) + (b (47 + x2.toNatClampNeg) x1.toNatClampNeg)) (b 23 x1.toNatClampNeg) (b 24 x1.toNatClampNeg) f a b))))
def wp_P_spread_37 (po : wF → wA → wB → Prop) (J2 : Int32 → Int32 → wF → wA → wB → Prop) (x1 : Int32) (x2 : Int32) (f : wF) (a : wA) (b : wB) : Prop := J2 x1 (x2 + (1 : Int32)) f a b
def wp_P_spread_2 (po : wF → wA → wB → Prop) : Nat → Int32 → Int32 → wF → wA → wB → Prop
  | 0 => fun _ _ _ _ _ => False
  | n + 1 => fun x1 x2 f a b => ((12 : Int32) ≤ x2 → (po f a b)) ∧ (¬ (12 : Int32) ≤ x2 → (vp_in x1 10 ∧ vp_in x2 12 ∧ (((lg_cmp (b (37 + x1.toNatClampNeg) x2.toNatClampNeg) (0 : Int64)) = 0 → (wp_P_spread_37 po (wp_P_spread_2 po n) x1 x2 f a b)) ∧ (¬ (lg_cmp (b (37 + x1.toNatClampNeg) x2.toNatClampNeg) (0 : Int64)) = 0 → (vp_in x1 10 ∧ (((a 16 x1.toNatClampNeg) = x2 → (wp_P_spread_37 po (wp_P_spread_2 po n) x1 x2 f a b)) ∧ (¬ (a 16 x1.toNatClampNeg) = x2 → (wp_P_reach (fun f34 a34 b34 => wp_P_spread_37 po (wp_P_spread_2 po n) x1 x2 f34 a34 b34) x2 x1 f a b))))))))
def wp_P_spread (po : wF → wA → wB → Prop) (x1 : Int32) (f : wF) (a : wA) (b : wB) : Prop := ∃ n9, wp_P_spread_2 po n9 x1 (0 : Int32) f a b
def wp_P_findPaths_118 (po : wF → wA → wB → Prop)  (f : wF) (a : wA) (b : wB) : Prop := po f a b
def wp_P_findPaths_106 (po : wF → wA → wB → Prop) (J60 : Int32 → Int32 → Int32 → wF → wA → wB → Prop) (J74 : Int32 → Int32 → Int32 → Int32 → wF → wA → wB → Prop) (x1 : Int32) (x2 : Int32) (x3 : Int32) (x4 : Int32) (f : wF) (a : wA) (b : wB) : Prop := J74 x1 x2 x3 (x4 + (1 : Int32)) f a b
def wp_P_findPaths_74 (po : wF → wA → wB → Prop) (J60 : Int32 → Int32 → Int32 → wF → wA → wB → Prop) : Nat → Int32 → Int32 → Int32 → Int32 → wF → wA → wB → Prop
  | 0 => fun _ _ _ _ _ _ _ => False
  | n + 1 => fun x1 x2 x3 x4 f a b => (x1 ≤ x4 → (J60 x1 x2 (x3 + (1 : Int32)) f a b)) ∧ (¬ x1 ≤ x4 → (vp_in x4 10 ∧ (((a 19 x4.toNatClampNeg) = 0 → (wp_P_findPaths_106 po J60 (wp_P_findPaths_74 po J60 n) x1 x2 x3 x4 f a b)) ∧ (¬ (a 19 x4.toNatClampNeg) = 0 → (vp_in x4 10 ∧ (wp_P_spread (fun f101 a101 b101 => wp_P_findPaths_106 po J60 (wp_P_findPaths_74 po J60 n) x1 (1 : Int32) x3 x4 f101 a101 b101) x4 f (va_up a 19 (upd (a 19) x4.toNatClampNeg (vp_nar .boolean (0 : Int32)))) b))))))
def wp_P_findPaths_60 (po : wF → wA → wB → Prop) : Nat → Int32 → Int32 → Int32 → wF → wA → wB → Prop
  | 0 => fun _ _ _ _ _ _ => False
  | n + 1 => fun x1 x2 x3 f a b => (x1 ≤ x3 → (wp_P_findPaths_118 po f a b)) ∧ (¬ x1 ≤ x3 → ((x2 = 0 → (wp_P_findPaths_118 po f a b)) ∧ (¬ x2 = 0 → (∃ n9, wp_P_findPaths_74 po (wp_P_findPaths_60 po n) n9 x1 (0 : Int32) x3 (0 : Int32) f a b))))
def wp_P_findPaths_35 (po : wF → wA → wB → Prop) (J10 : Int32 → Int32 → wF → wA → wB → Prop) (k0 : Int32) (k1 : Int32) (x1 : Int32) (x2 : Int32) (f : wF) (a : wA) (b : wB) : Prop := vp_in k1 10 ∧ vp_in x2 10 ∧ vp_in x2 10 ∧ (J10 x1 (x2 + (1 : Int32)) f (va_up a 19 (upd (a 19) k1.toNatClampNeg (vp_nar .boolean k0))) (va_up (va_up b 20 (vp_updL (b 20) x2.toNatClampNeg (0 : Int64))) 21 (vp_updL ((va_up b 20 (vp_updL (b 20) x2.toNatClampNeg (0 : Int64))) 21) x2.toNatClampNeg (0 : Int64))))
def wp_P_findPaths_10 (po : wF → wA → wB → Prop) : Nat → Int32 → Int32 → wF → wA → wB → Prop
  | 0 => fun _ _ _ _ _ => False
  | n + 1 => fun x1 x2 f a b => (x1 ≤ x2 → (∃ n9, wp_P_findPaths_60 po n9 x1 (1 : Int32) (0 : Int32) f a b)) ∧ (¬ x1 ≤ x2 → (vp_in x2 10 ∧ ((¬ (a 16 x2.toNatClampNeg) = (-1 : Int32) → (wp_P_findPaths_35 po (wp_P_findPaths_10 po n) (0 : Int32) x2 x1 x2 f a b)) ∧ ((a 16 x2.toNatClampNeg) = (-1 : Int32) → (wp_P_findPaths_35 po (wp_P_findPaths_10 po n) (1 : Int32) x2 x1 x2 f a b)))))
def wp_P_findPaths (po : wF → wA → wB → Prop) (x1 : Int32) (f : wF) (a : wA) (b : wB) : Prop := ∃ n9, wp_P_findPaths_10 po n9 x1 (0 : Int32) f (va_up a 22 (fun _ => (-1 : Int32))) b
def wp_P_cheapestEnd_67 (po : Int32 → wF → wA → wB → Prop) (J4 : Int32 → Int32 → wF → wA → wB → Prop) (x1 : Int32) (x2 : Int32) (f : wF) (a : wA) (b : wB) : Prop := J4 x1 (x2 + (1 : Int32)) f a b
def wp_P_cheapestEnd_65 (po : Int32 → wF → wA → wB → Prop) (J4 : Int32 → Int32 → wF → wA → wB → Prop) (x2 : Int32) (f : wF) (a : wA) (b : wB) : Prop := wp_P_cheapestEnd_67 po J4 x2 x2 f a b
def wp_P_cheapestEnd_4 (po : Int32 → wF → wA → wB → Prop) : Nat → Int32 → Int32 → wF → wA → wB → Prop
  | 0 => fun _ _ _ _ _ => False
  | n + 1 => fun x1 x2 f a b => ((12 : Int32) ≤ x2 → (po x1 f a b)) ∧ (¬ (12 : Int32) ≤ x2 → (vp_in x2 12 ∧ ((¬ (a 17 x2.toNatClampNeg) = (-1 : Int32) → (wp_P_cheapestEnd_67 po (wp_P_cheapestEnd_4 po n) x1 x2 f a b)) ∧ ((a 17 x2.toNatClampNeg) = (-1 : Int32) → (vp_in x2 12 ∧ (((a 22 x2.toNatClampNeg) = (-1 : Int32) → (wp_P_cheapestEnd_67 po (wp_P_cheapestEnd_4 po n) x1 x2 f a b)) ∧ (¬ (a 22 x2.toNatClampNeg) = (-1 : Int32) → ((x1 = (-1 : Int32) → (wp_P_cheapestEnd_65 po (wp_P_cheapestEnd_4 po n) x2 f a b)) ∧ (¬ x1 = (-1 : Int32) → (vp_in x2 12 ∧ vp_in x2 12 ∧ vp_in x1 12 ∧ vp_in x1 12 ∧ (wp_P_isLess (fun r59 f59 a59 b59 => (r59 = 0 → (wp_P_cheapestEnd_67 po (wp_P_cheapestEnd_4 po n) x1 x2 f59 a59 b59)) ∧ (¬ r59 = 0 → (wp_P_cheapestEnd_65 po (wp_P_cheapestEnd_4 po n) x2 f59 a59 b59))) (b 23 x2.toNatClampNeg) (b 24 x2.toNatClampNeg) (b 23 x1.toNatClampNeg) (b 24 x1.toNatClampNeg) f a b)))))))))))
def wp_P_cheapestEnd (po : Int32 → wF → wA → wB → Prop)  (f : wF) (a : wA) (b : wB) : Prop := ∃ n9, wp_P_cheapestEnd_4 po n9 (-1 : Int32) (0 : Int32) f a b
def wp_P_turnPath_64 (po : wF → wA → wB → Prop)  (f : wF) (a : wA) (b : wB) : Prop := po f a b
def wp_P_turnPath_4 (po : wF → wA → wB → Prop) : Nat → Int32 → Int32 → wF → wA → wB → Prop
  | 0 => fun _ _ _ _ _ => False
  | n + 1 => fun x2 x3 f a b => ((10 : Int32) ≤ x3 → (wp_P_turnPath_64 po f a b)) ∧ (¬ (10 : Int32) ≤ x3 → ((x2 = (-1 : Int32) → (wp_P_turnPath_64 po f a b)) ∧ (¬ x2 = (-1 : Int32) → (vp_in x2 12 ∧ ((¬ (a 22 x2.toNatClampNeg) = (-1 : Int32) → (vp_in (a 22 x2.toNatClampNeg) 10 ∧ vp_in (a 22 x2.toNatClampNeg) 10 ∧ vp_in x2 12 ∧ (wp_P_turnPath_4 po n (a 16 (a 22 x2.toNatClampNeg).toNatClampNeg) (x3 + (1 : Int32)) f (va_up (va_up a 16 (upd (a 16) (a 22 x2.toNatClampNeg).toNatClampNeg x2)) 17 (upd ((va_up a 16 (upd (a 16) (a 22 x2.toNatClampNeg).toNatClampNeg x2)) 17) x2.toNatClampNeg (a 22 x2.toNatClampNeg))) b))) ∧ ((a 22 x2.toNatClampNeg) = (-1 : Int32) → (po f a b)))))))
def wp_P_turnPath (po : wF → wA → wB → Prop) (x1 : Int32) (f : wF) (a : wA) (b : wB) : Prop := ∃ n9, wp_P_turnPath_4 po n9 x1 (0 : Int32) f a b
def wp_P_pair_58 (po : wF → wA → wB → Prop)  (f : wF) (a : wA) (b : wB) : Prop := po f a b
def wp_P_pair_18 (po : wF → wA → wB → Prop) : Nat → Int32 → Int32 → Int32 → wF → wA → wB → Prop
  | 0 => fun _ _ _ _ _ _ => False
  | n + 1 => fun x1 x2 x3 f a b => (x1 ≤ x3 → (wp_P_pair_58 po f a b)) ∧ (¬ x1 ≤ x3 → ((x2 ≤ x3 → (wp_P_pair_58 po f a b)) ∧ (¬ x2 ≤ x3 → (wp_P_findPaths (fun f30 a30 b30 => wp_P_cheapestEnd (fun r34 f34 a34 b34 => (¬ r34 = (-1 : Int32) → (wp_P_turnPath (fun f49 a49 b49 => wp_P_pair_18 po n x1 x2 (x3 + (1 : Int32)) f49 a49 b49) r34 f34 a34 b34)) ∧ (r34 = (-1 : Int32) → (po f34 a34 b34))) f30 a30 b30) x1 f a b))))
def wp_P_pair (po : wF → wA → wB → Prop) (x1 : Int32) (x2 : Int32) (f : wF) (a : wA) (b : wB) : Prop := ∃ n9, wp_P_pair_18 po n9 x1 x2 (0 : Int32) f (va_up (va_up a 16 (fun _ => (-1 : Int32))) 17 (fun _ => (-1 : Int32))) b
def wp_P_total_14_18_34 (po : Int64 → wF → wA → wB → Prop) (J5 : Int64 → Int32 → wF → wA → wB → Prop) (x3 : Int64) (x5 : Int32) (f : wF) (a : wA) (b : wB) : Prop := J5 x3 (x5 + (1 : Int32)) f a b
def wp_P_total_14_18_5 (po : Int64 → wF → wA → wB → Prop) : Nat → Int64 → Int32 → wF → wA → wB → Prop
  | 0 => fun _ _ _ _ _ => False
  | n + 1 => fun x3 x5 f a b => ((f 5) ≤ x5 → (po x3 f a b)) ∧ (¬ (f 5) ≤ x5 → (vp_in x5 10 ∧ (((a 18 x5.toNatClampNeg) = (-1 : Int32) → (wp_P_total_14_18_34 po (wp_P_total_14_18_5 po n) x3 x5 f a b)) ∧ (¬ (a 18 x5.toNatClampNeg) = (-1 : Int32) → (vp_in x5 10 ∧ vp_in x5 10 ∧ vp_in (a 18 x5.toNatClampNeg) 12 ∧ (wp_P_total_14_18_34 po (wp_P_total_14_18_5 po n) (x3 + (b (37 + x5.toNatClampNeg) (a 18 x5.toNatClampNeg).toNatClampNeg)) x5 f a b))))))
def wp_P_total_14_18 (po : Int64 → wF → wA → wB → Prop)  (f : wF) (a : wA) (b : wB) : Prop := ∃ n9, wp_P_total_14_18_5 po n9 (0 : Int64) (0 : Int32) f a b
def wp_P_total_15_18_34 (po : Int64 → wF → wA → wB → Prop) (J5 : Int64 → Int32 → wF → wA → wB → Prop) (x3 : Int64) (x5 : Int32) (f : wF) (a : wA) (b : wB) : Prop := J5 x3 (x5 + (1 : Int32)) f a b
def wp_P_total_15_18_5 (po : Int64 → wF → wA → wB → Prop) : Nat → Int64 → Int32 → wF → wA → wB → Prop
  | 0 => fun _ _ _ _ _ => False
  | n + 1 => fun x3 x5 f a b => ((f 5) ≤ x5 → (po x3 f a b)) ∧ (¬ (f 5) ≤ x5 → (vp_in x5 10 ∧ (((a 18 x5.toNatClampNeg) = (-1 : Int32) → (wp_P_total_15_18_34 po (wp_P_total_15_18_5 po n) x3 x5 f a b)) ∧ (¬ (a 18 x5.toNatClampNeg) = (-1 : Int32) → (vp_in x5 10 ∧ vp_in x5 10 ∧ vp_in (a 18 x5.toNatClampNeg) 12 ∧ (wp_P_total_15_18_34 po (wp_P_total_15_18_5 po n) (x3 + (b (47 + x5.toNatClampNeg) (a 18 x5.toNatClampNeg).toNatClampNeg)) x5 f a b))))))
def wp_P_total_15_18 (po : Int64 → wF → wA → wB → Prop)  (f : wF) (a : wA) (b : wB) : Prop := ∃ n9, wp_P_total_15_18_5 po n9 (0 : Int64) (0 : Int32) f a b
def wp_P_total_14_16_34 (po : Int64 → wF → wA → wB → Prop) (J5 : Int64 → Int32 → wF → wA → wB → Prop) (x3 : Int64) (x5 : Int32) (f : wF) (a : wA) (b : wB) : Prop := J5 x3 (x5 + (1 : Int32)) f a b
def wp_P_total_14_16_5 (po : Int64 → wF → wA → wB → Prop) : Nat → Int64 → Int32 → wF → wA → wB → Prop
  | 0 => fun _ _ _ _ _ => False
  | n + 1 => fun x3 x5 f a b => ((f 5) ≤ x5 → (po x3 f a b)) ∧ (¬ (f 5) ≤ x5 → (vp_in x5 10 ∧ (((a 16 x5.toNatClampNeg) = (-1 : Int32) → (wp_P_total_14_16_34 po (wp_P_total_14_16_5 po n) x3 x5 f a b)) ∧ (¬ (a 16 x5.toNatClampNeg) = (-1 : Int32) → (vp_in x5 10 ∧ vp_in x5 10 ∧ vp_in (a 16 x5.toNatClampNeg) 12 ∧ (wp_P_total_14_16_34 po (wp_P_total_14_16_5 po n) (x3 + (b (37 + x5.toNatClampNeg) (a 16 x5.toNatClampNeg).toNatClampNeg)) x5 f a b))))))
def wp_P_total_14_16 (po : Int64 → wF → wA → wB → Prop)  (f : wF) (a : wA) (b : wB) : Prop := ∃ n9, wp_P_total_14_16_5 po n9 (0 : Int64) (0 : Int32) f a b
def wp_P_total_15_16_34 (po : Int64 → wF → wA → wB → Prop) (J5 : Int64 → Int32 → wF → wA → wB → Prop) (x3 : Int64) (x5 : Int32) (f : wF) (a : wA) (b : wB) : Prop := J5 x3 (x5 + (1 : Int32)) f a b
def wp_P_total_15_16_5 (po : Int64 → wF → wA → wB → Prop) : Nat → Int64 → Int32 → wF → wA → wB → Prop
  | 0 => fun _ _ _ _ _ => False
  | n + 1 => fun x3 x5 f a b => ((f 5) ≤ x5 → (po x3 f a b)) ∧ (¬ (f 5) ≤ x5 → (vp_in x5 10 ∧ (((a 16 x5.toNatClampNeg) = (-1 : Int32) → (wp_P_total_15_16_34 po (wp_P_total_15_16_5 po n) x3 x5 f a b)) ∧ (¬ (a 16 x5.toNatClampNeg) = (-1 : Int32) → (vp_in x5 10 ∧ vp_in x5 10 ∧ vp_in (a 16 x5.toNatClampNeg) 12 ∧ (wp_P_total_15_16_34 po (wp_P_total_15_16_5 po n) (x3 + (b (47 + x5.toNatClampNeg) (a 16 x5.toNatClampNeg).toNatClampNeg)) x5 f a b))))))
def wp_P_total_15_16 (po : Int64 → wF → wA → wB → Prop)  (f : wF) (a : wA) (b : wB) : Prop := ∃ n9, wp_P_total_15_16_5 po n9 (0 : Int64) (0 : Int32) f a b
def wp_P_findBest_114 (po : wF → wA → wB → Prop)  (f : wF) (a : wA) (b : wB) : Prop := po f a b
def wp_P_findBest (po : wF → wA → wB → Prop) (x1 : Int32) (f : wF) (a : wA) (b : wB) : Prop := wp_P_pair (fun f6 a6 b6 => (x1 < (f6 6) → (wp_P_pair (fun f42 a42 b42 => wp_P_total_14_18 (fun r54 f54 a54 b54 => wp_P_total_15_18 (fun r66 f66 a66 b66 => wp_P_total_14_16 (fun r78 f78 a78 b78 => wp_P_total_15_16 (fun r90 f90 a90 b90 => wp_P_isLess (fun r93 f93 a93 b93 => (r93 = 0 → (wp_P_findBest_114 po f93 a93 b93)) ∧ (¬ r93 = 0 → (wp_P_findBest_114 po f93 (va_up a93 16 (va_cpy (a93 18) (a93 16) (0 : Int32).toNatClampNeg (0 : Int32).toNatClampNeg (10 : Int32).toNatClampNeg)) b93))) r54 r66 r78 r90 f90 a90 b90) f78 a78 b78) f66 a66 b66) f54 a54 b54) f42 a42 b42) (f6 6) (f6 6) f6 (va_up a6 18 (va_cpy (a6 16) (a6 18) (0 : Int32).toNatClampNeg (0 : Int32).toNatClampNeg (10 : Int32).toNatClampNeg)) b6)) ∧ (¬ x1 < (f6 6) → (po f6 a6 b6))) (f 5) x1 f a b
def wp_P_rows (po : Int32 → wF → wA → wB → Prop)  (f : wF) (a : wA) (b : wB) : Prop := po (f 5) f a b
def wp_P_presentIsPlan_88 (po : Int32 → wF → wA → wB → Prop) (k0 : Int32) (f : wF) (a : wA) (b : wB) : Prop := zb k0 ∧ po k0 f a b
def wp_P_presentIsPlan_83 (po : Int32 → wF → wA → wB → Prop)  (f : wF) (a : wA) (b : wB) : Prop := wp_P_presentIsPlan_88 po (1 : Int32) f a b
def wp_P_presentIsPlan_68 (po : Int32 → wF → wA → wB → Prop) (J7 : Int32 → Int32 → Int32 → Int32 → wF → wA → wB → Prop) (x1 : Int32) (x2 : Int32) (x3 : Int32) (x4 : Int32) (f : wF) (a : wA) (b : wB) : Prop := J7 x1 x2 x3 (x4 + (1 : Int32)) f a b
def wp_P_presentIsPlan_66 (po : Int32 → wF → wA → wB → Prop) (J7 : Int32 → Int32 → Int32 → Int32 → wF → wA → wB → Prop) (k0 : Int32) (k1 : Int32) (x1 : Int32) (x2 : Int32) (x4 : Int32) (f : wF) (a : wA) (b : wB) : Prop := wp_P_presentIsPlan_68 po J7 x1 x2 (k1 + k0) x4 f a b
def wp_P_presentIsPlan_7 (po : Int32 → wF → wA → wB → Prop) : Nat → Int32 → Int32 → Int32 → Int32 → wF → wA → wB → Prop
  | 0 => fun _ _ _ _ _ _ _ => False
  | n + 1 => fun x1 x2 x3 x4 f a b => ((f 5) ≤ x4 → ((x3 = 0 → (wp_P_presentIsPlan_83 po f a b)) ∧ (¬ x3 = 0 → ((x1 < x2 → (wp_P_presentIsPlan_88 po (0 : Int32) f a b)) ∧ (¬ x1 < x2 → (wp_P_presentIsPlan_83 po f a b)))))) ∧ (¬ (f 5) ≤ x4 → (vp_in x4 10 ∧ (((a 18 x4.toNatClampNeg) = (-1 : Int32) → (wp_P_presentIsPlan_68 po (wp_P_presentIsPlan_7 po n) x1 x2 x3 x4 f a b)) ∧ (¬ (a 18 x4.toNatClampNeg) = (-1 : Int32) → (vp_in x4 10 ∧ vp_in (a 18 x4.toNatClampNeg) 12 ∧ ((¬ (lg_cmp (b (37 + x4.toNatClampNeg) (a 18 x4.toNatClampNeg).toNatClampNeg) (0 : Int64)) = 0 → ((x4 < (f 6) → (wp_P_presentIsPlan_66 po (wp_P_presentIsPlan_7 po n) (0 : Int32) x3 x1 (x2 + (1 : Int32)) x4 f a b)) ∧ (¬ x4 < (f 6) → (wp_P_presentIsPlan_66 po (wp_P_presentIsPlan_7 po n) (1 : Int32) x3 x1 (x2 + (1 : Int32)) x4 f a b)))) ∧ ((lg_cmp (b (37 + x4.toNatClampNeg) (a 18 x4.toNatClampNeg).toNatClampNeg) (0 : Int64)) = 0 → (zb (0 : Int32) ∧ po (0 : Int32) f a b))))))))
def wp_P_presentIsPlan (po : Int32 → wF → wA → wB → Prop) (x1 : Int32) (f : wF) (a : wA) (b : wB) : Prop := ∃ n9, wp_P_presentIsPlan_7 po n9 x1 (0 : Int32) (0 : Int32) (0 : Int32) f a b
def wp_P_savedByBest (po : Int64 → wF → wA → wB → Prop)  (f : wF) (a : wA) (b : wB) : Prop := wp_P_total_14_18 (fun r9 f9 a9 b9 => wp_P_total_14_16 (fun r21 f21 a21 b21 => po (r9 - r21) f21 a21 b21) f9 a9 b9) f a b
def wp_P_needOfRow (po : Int32 → wF → wA → wB → Prop) (x1 : Int32) (f : wF) (a : wA) (b : wB) : Prop := vp_in x1 10 ∧ (po (a 13 x1.toNatClampNeg) f a b)
def wp_P_setPresent (po : wF → wA → wB → Prop) (x1 : Int32) (x2 : Int32) (f : wF) (a : wA) (b : wB) : Prop := vp_in x1 10 ∧ (po f (va_up a 18 (upd (a 18) x1.toNatClampNeg x2)) b)
def wp_S_presentStays_69 (po : Int32 → wF → wA → wB → Prop) (k0 : Int32) (f : wF) (a : wA) (b : wB) : Prop := zb k0 ∧ po k0 f a b
def wp_S_presentStays_68 (po : Int32 → wF → wA → wB → Prop)  (f : wF) (a : wA) (b : wB) : Prop := wp_S_presentStays_69 po (0 : Int32) f a b
def wp_S_presentStays_2 (po : Int32 → wF → wA → wB → Prop) : Nat → Int32 → Int32 → Int32 → wF → wA → wB → Prop
  | 0 => fun _ _ _ _ _ _ => False
  | n + 1 => fun x1 x2 x3 f a b => wp_P_rows (fun r7 f7 a7 b7 => (r7 ≤ x3 → (wp_P_presentIsPlan (fun r45 f45 a45 b45 => (r45 = 0 → (wp_S_presentStays_68 po f45 a45 b45)) ∧ (¬ r45 = 0 → (wp_P_savedByBest (fun r55 f55 a55 b55 => (0 ≤ (lg_cmp r55 x2.toInt64) → (wp_S_presentStays_68 po f55 a55 b55)) ∧ (¬ 0 ≤ (lg_cmp r55 x2.toInt64) → (wp_S_presentStays_69 po (1 : Int32) f55 a55 b55))) f45 a45 b45))) x1 f7 a7 b7)) ∧ (¬ r7 ≤ x3 → (wp_P_needOfRow (fun r27 f27 a27 b27 => vp_in r27 10 ∧ (wp_P_setPresent (fun f31 a31 b31 => wp_S_presentStays_2 po n x1 x2 (x3 + (1 : Int32)) f31 a31 b31) x3 (a27 11 r27.toNatClampNeg) f27 a27 b27)) x3 f7 a7 b7))) f a b
def wp_S_presentStays (po : Int32 → wF → wA → wB → Prop) (x1 : Int32) (x2 : Int32) (f : wF) (a : wA) (b : wB) : Prop := ∃ n9, wp_S_presentStays_2 po n9 x1 x2 (0 : Int32) f a b
def wp_S_countFilled_25 (po : Int32 → wF → wA → wB → Prop) (J4 : Int32 → Int32 → wF → wA → wB → Prop) (x1 : Int32) (x2 : Int32) (f : wF) (a : wA) (b : wB) : Prop := J4 x1 (x2 + (1 : Int32)) f a b
def wp_S_countFilled_4 (po : Int32 → wF → wA → wB → Prop) : Nat → Int32 → Int32 → wF → wA → wB → Prop
  | 0 => fun _ _ _ _ _ => False
  | n + 1 => fun x1 x2 f a b => ((f 2) ≤ x2 → (po x1 f a b)) ∧ (¬ (f 2) ≤ x2 → (vp_in x2 10 ∧ (((a 11 x2.toNatClampNeg) = (-1 : Int32) → (wp_S_countFilled_25 po (wp_S_countFilled_4 po n) x1 x2 f a b)) ∧ (¬ (a 11 x2.toNatClampNeg) = (-1 : Int32) → (wp_S_countFilled_25 po (wp_S_countFilled_4 po n) (x1 + (1 : Int32)) x2 f a b)))))
def wp_S_countFilled (po : Int32 → wF → wA → wB → Prop)  (f : wF) (a : wA) (b : wB) : Prop := ∃ n9, wp_S_countFilled_4 po n9 (0 : Int32) (0 : Int32) f a b
def wp_P_bestUnit (po : Int32 → wF → wA → wB → Prop) (x1 : Int32) (f : wF) (a : wA) (b : wB) : Prop := vp_in x1 10 ∧ (po (a 16 x1.toNatClampNeg) f a b)
def wp_S_takeBest_98 (po : wF → wA → wB → Prop) (J45 : Int32 → wF → wA → wB → Prop) (x1 : Int32) (f : wF) (a : wA) (b : wB) : Prop := J45 (x1 + (1 : Int32)) f a b
def wp_S_takeBest_45 (po : wF → wA → wB → Prop) : Nat → Int32 → wF → wA → wB → Prop
  | 0 => fun _ _ _ _ => False
  | n + 1 => fun x1 f a b => wp_P_rows (fun r50 f50 a50 b50 => (r50 ≤ x1 → (po f50 a50 b50)) ∧ (¬ r50 ≤ x1 → (wp_P_bestUnit (fun r61 f61 a61 b61 => (r61 = (-1 : Int32) → (wp_S_takeBest_98 po (wp_S_takeBest_45 po n) x1 f61 a61 b61)) ∧ (¬ r61 = (-1 : Int32) → (wp_P_needOfRow (fun r79 f79 a79 b79 => vp_in r79 10 ∧ (wp_P_needOfRow (fun r94 f94 a94 b94 => vp_in r61 12 ∧ (wp_S_takeBest_98 po (wp_S_takeBest_45 po n) x1 f94 (va_up a94 5 (upd (a94 5) r61.toNatClampNeg r94)) b94)) x1 f79 (va_up a79 11 (upd (a79 11) r79.toNatClampNeg r61)) b79)) x1 f61 a61 b61))) x1 f50 a50 b50))) f a b
def wp_S_takeBest_37 (po : wF → wA → wB → Prop) (J2 : Int32 → wF → wA → wB → Prop) (x1 : Int32) (f : wF) (a : wA) (b : wB) : Prop := J2 (x1 + (1 : Int32)) f a b
def wp_S_takeBest_2 (po : wF → wA → wB → Prop) : Nat → Int32 → wF → wA → wB → Prop
  | 0 => fun _ _ _ _ => False
  | n + 1 => fun x1 f a b => wp_P_rows (fun r7 f7 a7 b7 => (r7 ≤ x1 → (∃ n9, wp_S_takeBest_45 po n9 (0 : Int32) f7 a7 b7)) ∧ (¬ r7 ≤ x1 → (wp_P_needOfRow (fun r22 f22 a22 b22 => vp_in r22 10 ∧ (((a22 11 r22.toNatClampNeg) = (-1 : Int32) → (wp_S_takeBest_37 po (wp_S_takeBest_2 po n) x1 f22 a22 b22)) ∧ (¬ (a22 11 r22.toNatClampNeg) = (-1 : Int32) → (wp_S_free (fun f34 a34 b34 => wp_S_takeBest_37 po (wp_S_takeBest_2 po n) x1 f34 a34 b34) (a22 11 r22.toNatClampNeg) f22 a22 b22)))) x1 f7 a7 b7))) f a b
def wp_S_takeBest (po : wF → wA → wB → Prop)  (f : wF) (a : wA) (b : wB) : Prop := ∃ n9, wp_S_takeBest_2 po n9 (0 : Int32) f a b
def wp_S_send_54 (po : Int32 → wF → wA → wB → Prop) (px : String → wF → wA → wB → Prop)  (f : wF) (a : wA) (b : wB) : Prop := wp_S_countFilled (fun r55 f55 a55 b55 => po r55 f55 a55 b55) f a b
def wp_S_send_10 (po : Int32 → wF → wA → wB → Prop) (px : String → wF → wA → wB → Prop)  (f : wF) (a : wA) (b : wB) : Prop := px "java/lang/IndexOutOfBoundsException" f a b
def wp_S_send (po : Int32 → wF → wA → wB → Prop) (px : String → wF → wA → wB → Prop) (x1 : Int32) (f : wF) (a : wA) (b : wB) : Prop := (x1 < 0 → (wp_S_send_10 po px f a b)) ∧ (¬ x1 < 0 → ((x1 ≤ (1000000 : Int32) → (wp_S_layOutNeeds (fun f21 a21 b21 => wp_S_spareUnits (fun r25 f25 a25 b25 => wp_P_findBest (fun f34 a34 b34 => wp_S_presentStays (fun r44 f44 a44 b44 => (¬ r44 = 0 → (wp_S_send_54 po px f44 a44 b44)) ∧ (r44 = 0 → (wp_S_takeBest (fun f51 a51 b51 => wp_S_send_54 po px f51 a51 b51) f44 a44 b44))) r25 (if x1 < (1 : Int32) then (1 : Int32) else x1) f34 a34 b34) r25 f25 a25 b25) f21 a21 b21) f a b)) ∧ (¬ x1 ≤ (1000000 : Int32) → (wp_S_send_10 po px f a b))))
def wp_S_checkSent (po : wF → wA → wB → Prop) (px : String → wF → wA → wB → Prop) (x1 : Int32) (f : wF) (a : wA) (b : wB) : Prop := vp_in x1 12 ∧ ((¬ (a 5 x1.toNatClampNeg) = (-1 : Int32) → (po f a b)) ∧ ((a 5 x1.toNatClampNeg) = (-1 : Int32) → (px "java/lang/IllegalStateException" f a b)))
def wp_S_stay (po : wF → wA → wB → Prop) (px : String → wF → wA → wB → Prop) (x1 : Int32) (x2 : Int32) (f : wF) (a : wA) (b : wB) : Prop := wp_S_checkUnit (fun f2 a2 b2 => wp_S_checkSent (fun f7 a7 b7 => vp_in x1 12 ∧ ((¬ (a7 4 x1.toNatClampNeg) = x2 → (vp_in x1 12 ∧ (po f7 (va_up a7 4 (upd (a7 4) x1.toNatClampNeg (vp_nar .boolean x2))) b7))) ∧ ((a7 4 x1.toNatClampNeg) = x2 → (px "java/lang/IllegalStateException" f7 a7 b7)))) px x1 f2 a2 b2) px x1 f a b
def wp_S_recall (po : wF → wA → wB → Prop) (px : String → wF → wA → wB → Prop) (x1 : Int32) (f : wF) (a : wA) (b : wB) : Prop := wp_S_checkUnit (fun f2 a2 b2 => wp_S_checkSent (fun f7 a7 b7 => wp_S_free (fun f12 a12 b12 => po f12 a12 b12) x1 f7 a7 b7) px x1 f2 a2 b2) px x1 f a b
def wp_S_close_57 (po : wF → wA → wB → Prop) (px : String → wF → wA → wB → Prop) (J19 : Int32 → Int32 → wF → wA → wB → Prop) (x1 : Int32) (x2 : Int32) (f : wF) (a : wA) (b : wB) : Prop := J19 x1 (x2 + (1 : Int32)) f a b
def wp_S_close_19 (po : wF → wA → wB → Prop) (px : String → wF → wA → wB → Prop) : Nat → Int32 → Int32 → wF → wA → wB → Prop
  | 0 => fun _ _ _ _ _ => False
  | n + 1 => fun x1 x2 f a b => ((f 2) ≤ x2 → (po f a b)) ∧ (¬ (f 2) ≤ x2 → (vp_in x2 10 ∧ ((¬ (a 9 x2.toNatClampNeg) = x1 → (wp_S_close_57 po px (wp_S_close_19 po px n) x1 x2 f a b)) ∧ ((a 9 x2.toNatClampNeg) = x1 → (vp_in x2 10 ∧ (((a 11 x2.toNatClampNeg) = (-1 : Int32) → (wp_S_close_57 po px (wp_S_close_19 po px n) x1 x2 f a b)) ∧ (¬ (a 11 x2.toNatClampNeg) = (-1 : Int32) → (vp_in x2 10 ∧ (wp_S_free (fun f54 a54 b54 => wp_S_close_57 po px (wp_S_close_19 po px n) x1 x2 f54 a54 b54) (a 11 x2.toNatClampNeg) f a b)))))))))
def wp_S_close (po : wF → wA → wB → Prop) (px : String → wF → wA → wB → Prop) (x1 : Int32) (f : wF) (a : wA) (b : wB) : Prop := wp_S_checkIncident (fun f2 a2 b2 => wp_S_checkOpen (fun f7 a7 b7 => vp_in x1 6 ∧ (∃ n9, wp_S_close_19 po px n9 x1 (0 : Int32) f7 (va_up a7 8 (upd (a7 8) x1.toNatClampNeg (vp_nar .boolean (0 : Int32)))) b7)) px x1 f2 a2 b2) px x1 f a b
def wp_S_checkNeed_12 (po : wF → wA → wB → Prop) (px : String → wF → wA → wB → Prop)  (f : wF) (a : wA) (b : wB) : Prop := px "java/lang/IllegalArgumentException" f a b
def wp_S_checkNeed (po : wF → wA → wB → Prop) (px : String → wF → wA → wB → Prop) (x1 : Int32) (f : wF) (a : wA) (b : wB) : Prop := (x1 < 0 → (wp_S_checkNeed_12 po px f a b)) ∧ (¬ x1 < 0 → ((x1 < (f 2) → (po f a b)) ∧ (¬ x1 < (f 2) → (wp_S_checkNeed_12 po px f a b))))
def wp_S_needAt_70 (po : Int32 → wF → wA → wB → Prop) (px : String → wF → wA → wB → Prop) (k0 : Int32) (f : wF) (a : wA) (b : wB) : Prop := po k0 f a b
def wp_S_needAt (po : Int32 → wF → wA → wB → Prop) (px : String → wF → wA → wB → Prop) (x1 : Int32) (x2 : Int32) (f : wF) (a : wA) (b : wB) : Prop := wp_S_checkNeed (fun f2 a2 b2 => (x2 = (0) → (vp_in x1 10 ∧ (po (a2 9 x1.toNatClampNeg) f2 a2 b2))) ∧ (x2 = (1) → (vp_in x1 10 ∧ (po (a2 10 x1.toNatClampNeg) f2 a2 b2))) ∧ (x2 = (2) → (vp_in x1 10 ∧ (po (a2 11 x1.toNatClampNeg) f2 a2 b2))) ∧ (x2 = (3) → (wp_S_isOpenNeed (fun r59 f59 a59 b59 => (r59 = 0 → (wp_S_needAt_70 po px (0 : Int32) f59 a59 b59)) ∧ (¬ r59 = 0 → (wp_S_needAt_70 po px (1 : Int32) f59 a59 b59))) x1 f2 a2 b2)) ∧ (¬ x2 = (0) → ¬ x2 = (1) → ¬ x2 = (2) → ¬ x2 = (3) → (px "java/lang/IllegalArgumentException" f2 a2 b2))) px x1 f a b
def wp_S_fills (po : Int32 → wF → wA → wB → Prop) (px : String → wF → wA → wB → Prop) (x1 : Int32) (f : wF) (a : wA) (b : wB) : Prop := wp_S_checkUnit (fun f2 a2 b2 => vp_in x1 12 ∧ (po (a2 5 x1.toNatClampNeg) f2 a2 b2)) px x1 f a b
def wp_S_weightedSeconds_35 (po : Int32 → wF → wA → wB → Prop) (k0 : Int32) (f : wF) (a : wA) (b : wB) : Prop := po k0 f a b
def wp_S_weightedSeconds (po : Int32 → wF → wA → wB → Prop) (x1 : Int32) (f : wF) (a : wA) (b : wB) : Prop := vp_in x1 10 ∧ ((¬ (a 11 x1.toNatClampNeg) = (-1 : Int32) → (wp_S_rankOfNeed (fun r16 f16 a16 b16 => vp_in x1 10 ∧ (wp_S_secondsTo (fun r27 f27 a27 b27 => wp_S_weightedSeconds_35 po (r16 * (if r27 < (0 : Int32) then (0 : Int32) else r27)) f27 a27 b27) (a16 11 x1.toNatClampNeg) x1 f16 a16 b16)) x1 f a b)) ∧ ((a 11 x1.toNatClampNeg) = (-1 : Int32) → (wp_S_weightedSeconds_35 po (0 : Int32) f a b)))
def wp_S_ranksLacking_19 (po : Int32 → wF → wA → wB → Prop) (k0 : Int32) (f : wF) (a : wA) (b : wB) : Prop := po k0 f a b
def wp_S_ranksLacking (po : Int32 → wF → wA → wB → Prop) (x1 : Int32) (f : wF) (a : wA) (b : wB) : Prop := vp_in x1 10 ∧ ((¬ (a 11 x1.toNatClampNeg) = (-1 : Int32) → (wp_S_ranksLacking_19 po (0 : Int32) f a b)) ∧ ((a 11 x1.toNatClampNeg) = (-1 : Int32) → (wp_S_rankOfNeed (fun r12 f12 a12 b12 => wp_S_ranksLacking_19 po r12 f12 a12 b12) x1 f a b)))
def wp_S_sum_59 (po : Int32 → wF → wA → wB → Prop) (px : String → wF → wA → wB → Prop) (J23 : Int32 → Int32 → Int32 → wF → wA → wB → Prop) (x1 : Int32) (x2 : Int32) (x3 : Int32) (f : wF) (a : wA) (b : wB) : Prop := J23 x1 x2 (x3 + (1 : Int32)) f a b
def wp_S_sum_57 (po : Int32 → wF → wA → wB → Prop) (px : String → wF → wA → wB → Prop) (J23 : Int32 → Int32 → Int32 → wF → wA → wB → Prop) (k0 : Int32) (k1 : Int32) (x1 : Int32) (x3 : Int32) (f : wF) (a : wA) (b : wB) : Prop := wp_S_sum_59 po px J23 x1 (k1 + k0) x3 f a b
def wp_S_sum_23 (po : Int32 → wF → wA → wB → Prop) (px : String → wF → wA → wB → Prop) : Nat → Int32 → Int32 → Int32 → wF → wA → wB → Prop
  | 0 => fun _ _ _ _ _ _ => False
  | n + 1 => fun x1 x2 x3 f a b => ((f 2) ≤ x3 → (po x2 f a b)) ∧ (¬ (f 2) ≤ x3 → (wp_S_isOpenNeed (fun r33 f33 a33 b33 => (r33 = 0 → (wp_S_sum_59 po px (wp_S_sum_23 po px n) x1 x2 x3 f33 a33 b33)) ∧ (¬ r33 = 0 → ((¬ x1 = 0 → (wp_S_weightedSeconds (fun r54 f54 a54 b54 => wp_S_sum_57 po px (wp_S_sum_23 po px n) r54 x2 x1 x3 f54 a54 b54) x3 f33 a33 b33)) ∧ (x1 = 0 → (wp_S_ranksLacking (fun r46 f46 a46 b46 => wp_S_sum_57 po px (wp_S_sum_23 po px n) r46 x2 x1 x3 f46 a46 b46) x3 f33 a33 b33))))) x3 f a b))
def wp_S_sum_19 (po : Int32 → wF → wA → wB → Prop) (px : String → wF → wA → wB → Prop) (x1 : Int32) (f : wF) (a : wA) (b : wB) : Prop := ∃ n9, wp_S_sum_23 po px n9 x1 (0 : Int32) (0 : Int32) f a b
def wp_S_sum (po : Int32 → wF → wA → wB → Prop) (px : String → wF → wA → wB → Prop) (x1 : Int32) (f : wF) (a : wA) (b : wB) : Prop := (x1 = 0 → (wp_S_sum_19 po px x1 f a b)) ∧ (¬ x1 = 0 → ((x1 = (1 : Int32) → (wp_S_sum_19 po px x1 f a b)) ∧ (¬ x1 = (1 : Int32) → (px "java/lang/IllegalArgumentException" f a b))))
def wp_S_alternative_68 (po : Int32 → wF → wA → wB → Prop) (px : String → wF → wA → wB → Prop) (J19 : Int32 → Int32 → Int32 → wF → wA → wB → Prop) (x1 : Int32) (x2 : Int32) (x3 : Int32) (f : wF) (a : wA) (b : wB) : Prop := J19 x1 x2 (x3 + (1 : Int32)) f a b
def wp_S_alternative_66 (po : Int32 → wF → wA → wB → Prop) (px : String → wF → wA → wB → Prop) (J19 : Int32 → Int32 → Int32 → wF → wA → wB → Prop) (x1 : Int32) (x3 : Int32) (f : wF) (a : wA) (b : wB) : Prop := wp_S_alternative_68 po px J19 x1 x3 x3 f a b
def wp_S_alternative_19 (po : Int32 → wF → wA → wB → Prop) (px : String → wF → wA → wB → Prop) : Nat → Int32 → Int32 → Int32 → wF → wA → wB → Prop
  | 0 => fun _ _ _ _ _ _ => False
  | n + 1 => fun x1 x2 x3 f a b => ((f 0) ≤ x3 → (po x2 f a b)) ∧ (¬ (f 0) ≤ x3 → (vp_in x3 12 ∧ ((¬ (a 5 x3.toNatClampNeg) = (-1 : Int32) → (wp_S_alternative_68 po px (wp_S_alternative_19 po px n) x1 x2 x3 f a b)) ∧ ((a 5 x3.toNatClampNeg) = (-1 : Int32) → (wp_S_canFill (fun r40 f40 a40 b40 => (r40 = 0 → (wp_S_alternative_68 po px (wp_S_alternative_19 po px n) x1 x2 x3 f40 a40 b40)) ∧ (¬ r40 = 0 → ((x2 = (-1 : Int32) → (wp_S_alternative_66 po px (wp_S_alternative_19 po px n) x1 x3 f40 a40 b40)) ∧ (¬ x2 = (-1 : Int32) → (wp_S_secondsTo (fun r54 f54 a54 b54 => wp_S_secondsTo (fun r60 f60 a60 b60 => (r60 ≤ r54 → (wp_S_alternative_68 po px (wp_S_alternative_19 po px n) x1 x2 x3 f60 a60 b60)) ∧ (¬ r60 ≤ r54 → (wp_S_alternative_66 po px (wp_S_alternative_19 po px n) x1 x3 f60 a60 b60))) x2 x1 f54 a54 b54) x3 x1 f40 a40 b40))))) x3 x1 f a b)))))
def wp_S_alternative (po : Int32 → wF → wA → wB → Prop) (px : String → wF → wA → wB → Prop) (x1 : Int32) (f : wF) (a : wA) (b : wB) : Prop := wp_S_checkNeed (fun f2 a2 b2 => vp_in x1 10 ∧ (wp_S_checkOpen (fun f12 a12 b12 => ∃ n9, wp_S_alternative_19 po px n9 x1 (-1 : Int32) (0 : Int32) f12 a12 b12) px (a2 9 x1.toNatClampNeg) f2 a2 b2)) px x1 f a b
def wp_S_anyCanFill_2 (po : Int32 → wF → wA → wB → Prop) : Nat → Int32 → Int32 → wF → wA → wB → Prop
  | 0 => fun _ _ _ _ _ => False
  | n + 1 => fun x1 x2 f a b => ((f 0) ≤ x2 → (zb (0 : Int32) ∧ po (0 : Int32) f a b)) ∧ (¬ (f 0) ≤ x2 → (wp_S_canFill (fun r13 f13 a13 b13 => (r13 = 0 → (wp_S_anyCanFill_2 po n x1 (x2 + (1 : Int32)) f13 a13 b13)) ∧ (¬ r13 = 0 → (zb (1 : Int32) ∧ po (1 : Int32) f13 a13 b13))) x2 x1 f a b))
def wp_S_anyCanFill (po : Int32 → wF → wA → wB → Prop) (x1 : Int32) (f : wF) (a : wA) (b : wB) : Prop := ∃ n9, wp_S_anyCanFill_2 po n9 x1 (0 : Int32) f a b
def wp_S_never_52 (po : Int32 → wF → wA → wB → Prop) (px : String → wF → wA → wB → Prop) (J18 : Int32 → Int32 → Int32 → wF → wA → wB → Prop) (x1 : Int32) (x2 : Int32) (x3 : Int32) (f : wF) (a : wA) (b : wB) : Prop := J18 x1 x2 (x3 + (1 : Int32)) f a b
def wp_S_never_18 (po : Int32 → wF → wA → wB → Prop) (px : String → wF → wA → wB → Prop) : Nat → Int32 → Int32 → Int32 → wF → wA → wB → Prop
  | 0 => fun _ _ _ _ _ _ => False
  | n + 1 => fun x1 x2 x3 f a b => ((f 2) ≤ x3 → (po (-1 : Int32) f a b)) ∧ (¬ (f 2) ≤ x3 → (wp_S_isOpenNeed (fun r28 f28 a28 b28 => (r28 = 0 → (wp_S_never_52 po px (wp_S_never_18 po px n) x1 x2 x3 f28 a28 b28)) ∧ (¬ r28 = 0 → (wp_S_anyCanFill (fun r36 f36 a36 b36 => (¬ r36 = 0 → (wp_S_never_52 po px (wp_S_never_18 po px n) x1 x2 x3 f36 a36 b36)) ∧ (r36 = 0 → ((¬ x2 = x1 → (wp_S_never_52 po px (wp_S_never_18 po px n) x1 (x2 + (1 : Int32)) x3 f36 a36 b36)) ∧ (x2 = x1 → (po x3 f36 a36 b36))))) x3 f28 a28 b28))) x3 f a b))
def wp_S_never (po : Int32 → wF → wA → wB → Prop) (px : String → wF → wA → wB → Prop) (x1 : Int32) (f : wF) (a : wA) (b : wB) : Prop := (0 ≤ x1 → (∃ n9, wp_S_never_18 po px n9 x1 (0 : Int32) (0 : Int32) f a b)) ∧ (¬ 0 ≤ x1 → (px "java/lang/IndexOutOfBoundsException" f a b))
def wp_M_thrown (po : Int32 → wF → wA → wB → Prop)  (f : wF) (a : wA) (b : wB) : Prop := po (f 0) f a b
def wp_M_throwing_50 (po : Int32 → wF → wA → wB → Prop) (k0 : Int32) (f : wF) (a : wA) (b : wB) : Prop := zb k0 ∧ po k0 f a b
def wp_M_throwing_35 (po : Int32 → wF → wA → wB → Prop) (k0 : Int32) (f : wF) (a : wA) (b : wB) : Prop := (((va_up f 0 k0) 0) ≤ 0 → (wp_M_throwing_50 po (0 : Int32) (va_up f 0 k0) a b)) ∧ (¬ ((va_up f 0 k0) 0) ≤ 0 → (wp_M_throwing_50 po (1 : Int32) (va_up f 0 k0) a b))
def wp_M_throwing (po : Int32 → wF → wA → wB → Prop) (x1 : Int32) (x2 : Int32) (x3 : Int32) (x4 : Int32) (f : wF) (a : wA) (b : wB) : Prop := (x1 = 0 → ((x2 = 0 → ((x3 = 0 → ((x4 = 0 → (wp_M_throwing_35 po (0 : Int32) f a b)) ∧ (¬ x4 = 0 → (wp_M_throwing_35 po (4 : Int32) f a b)))) ∧ (¬ x3 = 0 → (wp_M_throwing_35 po (3 : Int32) f a b)))) ∧ (¬ x2 = 0 → (wp_M_throwing_35 po (2 : Int32) f a b)))) ∧ (¬ x1 = 0 → (wp_M_throwing_35 po (1 : Int32) f a b))
def wp_M_in_15 (po : Int32 → wF → wA → wB → Prop) (k0 : Int32) (f : wF) (a : wA) (b : wB) : Prop := zb k0 ∧ po k0 f a b
def wp_M_in_14 (po : Int32 → wF → wA → wB → Prop)  (f : wF) (a : wA) (b : wB) : Prop := wp_M_in_15 po (0 : Int32) f a b
def wp_M_in (po : Int32 → wF → wA → wB → Prop) (x0 : Int32) (x1 : Int32) (x2 : Int32) (f : wF) (a : wA) (b : wB) : Prop := (x0 < x1 → (wp_M_in_14 po f a b)) ∧ (¬ x0 < x1 → ((x2 < x0 → (wp_M_in_14 po f a b)) ∧ (¬ x2 < x0 → (wp_M_in_15 po (1 : Int32) f a b))))
def wp_M_isUnit (po : Int32 → wF → wA → wB → Prop) (x1 : Int32) (f : wF) (a : wA) (b : wB) : Prop := wp_M_in (fun r8 f8 a8 b8 => zb r8 ∧ po r8 f8 a8 b8) x1 (0 : Int32) ((f 1) - (1 : Int32)) f a b
def wp_M_isIncident (po : Int32 → wF → wA → wB → Prop) (x1 : Int32) (f : wF) (a : wA) (b : wB) : Prop := wp_M_in (fun r8 f8 a8 b8 => zb r8 ∧ po r8 f8 a8 b8) x1 (0 : Int32) ((f 2) - (1 : Int32)) f a b
def wp_M_unit_30 (po : Int32 → wF → wA → wB → Prop) (k0 : Int32) (k1 : Int32) (x1 : Int32) (f : wF) (a : wA) (b : wB) : Prop := wp_M_throwing (fun r32 f32 a32 b32 => (r32 = 0 → (vp_in (f32 1) 12 ∧ (po (((va_up f32 1 ((f32 1) + (1 : Int32))) 1) - (1 : Int32)) (va_up f32 1 ((f32 1) + (1 : Int32))) (va_up a32 1 (upd (a32 1) (f32 1).toNatClampNeg x1)) b32))) ∧ (¬ r32 = 0 → (po (0 : Int32) f32 a32 b32))) k1 k0 (0 : Int32) (0 : Int32) f a b
def wp_M_unit_16 (po : Int32 → wF → wA → wB → Prop) (k0 : Int32) (x1 : Int32) (f : wF) (a : wA) (b : wB) : Prop := (¬ (f 1) = (12 : Int32) → (wp_M_unit_30 po (0 : Int32) k0 x1 f a b)) ∧ ((f 1) = (12 : Int32) → (wp_M_unit_30 po (1 : Int32) k0 x1 f a b))
def wp_M_unit (po : Int32 → wF → wA → wB → Prop) (x1 : Int32) (f : wF) (a : wA) (b : wB) : Prop := wp_M_in (fun r5 f5 a5 b5 => (¬ r5 = 0 → (wp_M_unit_16 po (0 : Int32) x1 f5 a5 b5)) ∧ (r5 = 0 → (wp_M_unit_16 po (1 : Int32) x1 f5 a5 b5))) x1 (0 : Int32) (65535 : Int32) f a b
def wp_M_incident_30 (po : Int32 → wF → wA → wB → Prop) (k0 : Int32) (k1 : Int32) (x1 : Int32) (f : wF) (a : wA) (b : wB) : Prop := wp_M_throwing (fun r32 f32 a32 b32 => (r32 = 0 → (vp_in (f32 2) 6 ∧ (po (((va_up f32 2 ((f32 2) + (1 : Int32))) 2) - (1 : Int32)) (va_up f32 2 ((f32 2) + (1 : Int32))) (va_up a32 4 (upd (a32 4) (f32 2).toNatClampNeg x1)) b32))) ∧ (¬ r32 = 0 → (po (0 : Int32) f32 a32 b32))) k1 k0 (0 : Int32) (0 : Int32) f a b
def wp_M_incident_16 (po : Int32 → wF → wA → wB → Prop) (k0 : Int32) (x1 : Int32) (f : wF) (a : wA) (b : wB) : Prop := (¬ (f 2) = (6 : Int32) → (wp_M_incident_30 po (0 : Int32) k0 x1 f a b)) ∧ ((f 2) = (6 : Int32) → (wp_M_incident_30 po (1 : Int32) k0 x1 f a b))
def wp_M_incident (po : Int32 → wF → wA → wB → Prop) (x1 : Int32) (f : wF) (a : wA) (b : wB) : Prop := wp_M_in (fun r5 f5 a5 b5 => (¬ r5 = 0 → (wp_M_incident_16 po (0 : Int32) x1 f5 a5 b5)) ∧ (r5 = 0 → (wp_M_incident_16 po (1 : Int32) x1 f5 a5 b5))) x1 (1 : Int32) (9 : Int32) f a b
def wp_M_rank_49 (po : wF → wA → wB → Prop) (k0 : Int32) (k1 : Int32) (k2 : Int32) (x1 : Int32) (x2 : Int32) (f : wF) (a : wA) (b : wB) : Prop := wp_M_throwing (fun r50 f50 a50 b50 => (r50 = 0 → (vp_in x1 6 ∧ (po f50 (va_up a50 4 (upd (a50 4) x1.toNatClampNeg x2)) b50))) ∧ (¬ r50 = 0 → (po f50 a50 b50))) k2 k1 k0 (0 : Int32) f a b
def wp_M_rank_48 (po : wF → wA → wB → Prop) (k0 : Int32) (k1 : Int32) (x1 : Int32) (x2 : Int32) (f : wF) (a : wA) (b : wB) : Prop := wp_M_rank_49 po (0 : Int32) k0 k1 x1 x2 f a b
def wp_M_rank_31 (po : wF → wA → wB → Prop) (k0 : Int32) (k1 : Int32) (x1 : Int32) (x2 : Int32) (x3 : Int32) (f : wF) (a : wA) (b : wB) : Prop := (¬ x3 = 0 → (wp_M_rank_48 po k0 k1 x1 x2 f a b)) ∧ (x3 = 0 → (vp_in x1 6 ∧ (((a 5 x1.toNatClampNeg) = 0 → (wp_M_rank_48 po k0 k1 x1 x2 f a b)) ∧ (¬ (a 5 x1.toNatClampNeg) = 0 → (wp_M_rank_49 po (1 : Int32) k0 k1 x1 x2 f a b)))))
def wp_M_rank_13 (po : wF → wA → wB → Prop) (k0 : Int32) (x1 : Int32) (x2 : Int32) (f : wF) (a : wA) (b : wB) : Prop := wp_M_in (fun r20 f20 a20 b20 => (¬ r20 = 0 → (wp_M_rank_31 po (0 : Int32) k0 x1 x2 k0 f20 a20 b20)) ∧ (r20 = 0 → (wp_M_rank_31 po (1 : Int32) k0 x1 x2 k0 f20 a20 b20))) x2 (1 : Int32) (9 : Int32) f a b
def wp_M_rank (po : wF → wA → wB → Prop) (x1 : Int32) (x2 : Int32) (f : wF) (a : wA) (b : wB) : Prop := wp_M_isIncident (fun r2 f2 a2 b2 => (¬ r2 = 0 → (wp_M_rank_13 po (0 : Int32) x1 x2 f2 a2 b2)) ∧ (r2 = 0 → (wp_M_rank_13 po (1 : Int32) x1 x2 f2 a2 b2))) x1 f a b
def wp_M_need_98 (po : Int32 → wF → wA → wB → Prop) : Nat → Int32 → Int32 → Int32 → Int32 → wF → wA → wB → Prop
  | 0 => fun _ _ _ _ _ _ _ => False
  | n + 1 => fun x1 x2 x3 x6 f a b => (x3 ≤ x6 → (po (f 3) f a b)) ∧ (¬ x3 ≤ x6 → (vp_in (f 3) 10 ∧ vp_in (f 3) 10 ∧ vp_in (f 3) 10 ∧ vp_in (f 3) 10 ∧ (wp_M_need_98 po n x1 x2 x3 (x6 + (1 : Int32)) (va_up f 3 ((f 3) + (1 : Int32))) (va_up (va_up (va_up (va_up a 6 (upd (a 6) (f 3).toNatClampNeg x1)) 7 (upd ((va_up a 6 (upd (a 6) (f 3).toNatClampNeg x1)) 7) (f 3).toNatClampNeg x2)) 8 (upd ((va_up (va_up a 6 (upd (a 6) (f 3).toNatClampNeg x1)) 7 (upd ((va_up a 6 (upd (a 6) (f 3).toNatClampNeg x1)) 7) (f 3).toNatClampNeg x2)) 8) (f 3).toNatClampNeg (-1 : Int32))) 9 (upd ((va_up (va_up (va_up a 6 (upd (a 6) (f 3).toNatClampNeg x1)) 7 (upd ((va_up a 6 (upd (a 6) (f 3).toNatClampNeg x1)) 7) (f 3).toNatClampNeg x2)) 8 (upd ((va_up (va_up a 6 (upd (a 6) (f 3).toNatClampNeg x1)) 7 (upd ((va_up a 6 (upd (a 6) (f 3).toNatClampNeg x1)) 7) (f 3).toNatClampNeg x2)) 8) (f 3).toNatClampNeg (-1 : Int32))) 9) (f 3).toNatClampNeg (vp_nar .boolean (0 : Int32)))) b)))
def wp_M_need_87 (po : Int32 → wF → wA → wB → Prop) (k0 : Int32) (k1 : Int32) (k2 : Int32) (k3 : Int32) (x1 : Int32) (x2 : Int32) (x3 : Int32) (f : wF) (a : wA) (b : wB) : Prop := wp_M_throwing (fun r87 f87 a87 b87 => (r87 = 0 → (∃ n9, wp_M_need_98 po n9 x1 x2 x3 (0 : Int32) f87 a87 b87)) ∧ (¬ r87 = 0 → (po (0 : Int32) f87 a87 b87))) k3 k2 k1 k0 f a b
def wp_M_need_86 (po : Int32 → wF → wA → wB → Prop) (k0 : Int32) (k1 : Int32) (k2 : Int32) (x1 : Int32) (x2 : Int32) (x3 : Int32) (f : wF) (a : wA) (b : wB) : Prop := wp_M_need_87 po (0 : Int32) k0 k1 k2 x1 x2 x3 f a b
def wp_M_need_66 (po : Int32 → wF → wA → wB → Prop) (k0 : Int32) (k1 : Int32) (k2 : Int32) (x1 : Int32) (x2 : Int32) (x3 : Int32) (x5 : Int32) (f : wF) (a : wA) (b : wB) : Prop := (¬ x5 = 0 → (wp_M_need_86 po k0 k1 k2 x1 x2 x3 f a b)) ∧ (x5 = 0 → ((((f 3) + x3) ≤ (10 : Int32) → (wp_M_need_86 po k0 k1 k2 x1 x2 x3 f a b)) ∧ (¬ ((f 3) + x3) ≤ (10 : Int32) → (wp_M_need_87 po (1 : Int32) k0 k1 k2 x1 x2 x3 f a b))))
def wp_M_need_65 (po : Int32 → wF → wA → wB → Prop) (k0 : Int32) (k1 : Int32) (x1 : Int32) (x2 : Int32) (x3 : Int32) (x5 : Int32) (f : wF) (a : wA) (b : wB) : Prop := wp_M_need_66 po (0 : Int32) k0 k1 x1 x2 x3 x5 f a b
def wp_M_need_40 (po : Int32 → wF → wA → wB → Prop) (k0 : Int32) (x1 : Int32) (x2 : Int32) (x3 : Int32) (x4 : Int32) (f : wF) (a : wA) (b : wB) : Prop := (¬ x4 = 0 → (wp_M_need_65 po k0 x4 x1 x2 x3 k0 f a b)) ∧ (x4 = 0 → (vp_in x1 6 ∧ (((a 5 x1.toNatClampNeg) = 0 → (wp_M_need_65 po k0 x4 x1 x2 x3 k0 f a b)) ∧ (¬ (a 5 x1.toNatClampNeg) = 0 → (wp_M_need_66 po (1 : Int32) k0 x4 x1 x2 x3 k0 f a b)))))
def wp_M_need_23 (po : Int32 → wF → wA → wB → Prop) (k0 : Int32) (x1 : Int32) (x2 : Int32) (x3 : Int32) (f : wF) (a : wA) (b : wB) : Prop := wp_M_in (fun r29 f29 a29 b29 => (¬ r29 = 0 → (wp_M_need_40 po (0 : Int32) x1 x2 x3 k0 f29 a29 b29)) ∧ (r29 = 0 → (wp_M_need_40 po (1 : Int32) x1 x2 x3 k0 f29 a29 b29))) x3 (0 : Int32) (10 : Int32) f a b
def wp_M_need_18 (po : Int32 → wF → wA → wB → Prop) (x1 : Int32) (x2 : Int32) (x3 : Int32) (f : wF) (a : wA) (b : wB) : Prop := wp_M_need_23 po (1 : Int32) x1 x2 x3 f a b
def wp_M_need (po : Int32 → wF → wA → wB → Prop) (x1 : Int32) (x2 : Int32) (x3 : Int32) (f : wF) (a : wA) (b : wB) : Prop := wp_M_isIncident (fun r2 f2 a2 b2 => (r2 = 0 → (wp_M_need_18 po x1 x2 x3 f2 a2 b2)) ∧ (¬ r2 = 0 → (wp_M_in (fun r12 f12 a12 b12 => (¬ r12 = 0 → (wp_M_need_23 po (0 : Int32) x1 x2 x3 f12 a12 b12)) ∧ (r12 = 0 → (wp_M_need_18 po x1 x2 x3 f12 a12 b12))) x2 (0 : Int32) (15 : Int32) f2 a2 b2))) x1 f a b
def wp_M_seconds_37 (po : wF → wA → wB → Prop) (k0 : Int32) (k1 : Int32) (x1 : Int32) (x2 : Int32) (x3 : Int32) (f : wF) (a : wA) (b : wB) : Prop := wp_M_throwing (fun r39 f39 a39 b39 => (r39 = 0 → (vp_in (((6 : Int32) * x1) + x2) 72 ∧ (po f39 (va_up a39 3 (upd (a39 3) (((6 : Int32) * x1) + x2).toNatClampNeg x3)) b39))) ∧ (¬ r39 = 0 → (po f39 a39 b39))) k1 k0 (0 : Int32) (0 : Int32) f a b
def wp_M_seconds_22 (po : wF → wA → wB → Prop) (k0 : Int32) (x1 : Int32) (x2 : Int32) (x3 : Int32) (f : wF) (a : wA) (b : wB) : Prop := wp_M_in (fun r26 f26 a26 b26 => (¬ r26 = 0 → (wp_M_seconds_37 po (0 : Int32) k0 x1 x2 x3 f26 a26 b26)) ∧ (r26 = 0 → (wp_M_seconds_37 po (1 : Int32) k0 x1 x2 x3 f26 a26 b26))) x3 (-1 : Int32) (99999 : Int32) f a b
def wp_M_seconds_17 (po : wF → wA → wB → Prop) (x1 : Int32) (x2 : Int32) (x3 : Int32) (f : wF) (a : wA) (b : wB) : Prop := wp_M_seconds_22 po (1 : Int32) x1 x2 x3 f a b
def wp_M_seconds (po : wF → wA → wB → Prop) (x1 : Int32) (x2 : Int32) (x3 : Int32) (f : wF) (a : wA) (b : wB) : Prop := wp_M_isUnit (fun r3 f3 a3 b3 => (r3 = 0 → (wp_M_seconds_17 po x1 x2 x3 f3 a3 b3)) ∧ (¬ r3 = 0 → (wp_M_isIncident (fun r11 f11 a11 b11 => (¬ r11 = 0 → (wp_M_seconds_22 po (0 : Int32) x1 x2 x3 f11 a11 b11)) ∧ (r11 = 0 → (wp_M_seconds_17 po x1 x2 x3 f11 a11 b11))) x2 f3 a3 b3))) x1 f a b
def wp_M_limit_31 (po : wF → wA → wB → Prop) (k0 : Int32) (k1 : Int32) (x1 : Int32) (x2 : Int32) (f : wF) (a : wA) (b : wB) : Prop := wp_M_throwing (fun r33 f33 a33 b33 => (r33 = 0 → (vp_in x1 16 ∧ (po f33 (va_up a33 10 (upd (a33 10) x1.toNatClampNeg x2)) b33))) ∧ (¬ r33 = 0 → (po f33 a33 b33))) k1 k0 (0 : Int32) (0 : Int32) f a b
def wp_M_limit_16 (po : wF → wA → wB → Prop) (k0 : Int32) (x1 : Int32) (x2 : Int32) (f : wF) (a : wA) (b : wB) : Prop := wp_M_in (fun r20 f20 a20 b20 => (¬ r20 = 0 → (wp_M_limit_31 po (0 : Int32) k0 x1 x2 f20 a20 b20)) ∧ (r20 = 0 → (wp_M_limit_31 po (1 : Int32) k0 x1 x2 f20 a20 b20))) x2 (-1 : Int32) (99999 : Int32) f a b
def wp_M_limit (po : wF → wA → wB → Prop) (x1 : Int32) (x2 : Int32) (f : wF) (a : wA) (b : wB) : Prop := wp_M_in (fun r5 f5 a5 b5 => (¬ r5 = 0 → (wp_M_limit_16 po (0 : Int32) x1 x2 f5 a5 b5)) ∧ (r5 = 0 → (wp_M_limit_16 po (1 : Int32) x1 x2 f5 a5 b5))) x1 (0 : Int32) (15 : Int32) f a b
def wp_M_reserve_26 (po : wF → wA → wB → Prop) (k0 : Int32) (x1 : Int32) (x2 : Int32) (f : wF) (a : wA) (b : wB) : Prop := wp_M_throwing (fun r29 f29 a29 b29 => (r29 = 0 → (po (va_up (va_up f29 4 x1) 5 x2) a29 b29)) ∧ (¬ r29 = 0 → (po f29 a29 b29))) k0 (0 : Int32) (0 : Int32) (0 : Int32) f a b
def wp_M_reserve_21 (po : wF → wA → wB → Prop) (x1 : Int32) (x2 : Int32) (f : wF) (a : wA) (b : wB) : Prop := wp_M_reserve_26 po (1 : Int32) x1 x2 f a b
def wp_M_reserve (po : wF → wA → wB → Prop) (x1 : Int32) (x2 : Int32) (f : wF) (a : wA) (b : wB) : Prop := wp_M_in (fun r5 f5 a5 b5 => (r5 = 0 → (wp_M_reserve_21 po x1 x2 f5 a5 b5)) ∧ (¬ r5 = 0 → (wp_M_in (fun r15 f15 a15 b15 => (¬ r15 = 0 → (wp_M_reserve_26 po (0 : Int32) x1 x2 f15 a15 b15)) ∧ (r15 = 0 → (wp_M_reserve_21 po x1 x2 f15 a15 b15))) x2 (1 : Int32) (10 : Int32) f5 a5 b5))) x1 (0 : Int32) (12 : Int32) f a b
def wp_M_needOf_27 (po : Int32 → wF → wA → wB → Prop) (J4 : Int32 → Int32 → Int32 → wF → wA → wB → Prop) (k0 : Int32) (x1 : Int32) (x3 : Int32) (f : wF) (a : wA) (b : wB) : Prop := J4 x1 k0 (x3 + (1 : Int32)) f a b
def wp_M_needOf_4 (po : Int32 → wF → wA → wB → Prop) : Nat → Int32 → Int32 → Int32 → wF → wA → wB → Prop
  | 0 => fun _ _ _ _ _ _ => False
  | n + 1 => fun x1 x2 x3 f a b => ((f 3) ≤ x3 → (po x2 f a b)) ∧ (¬ (f 3) ≤ x3 → (vp_in x3 10 ∧ ((¬ (a 8 x3.toNatClampNeg) = x1 → (wp_M_needOf_27 po (wp_M_needOf_4 po n) x2 x1 x3 f a b)) ∧ ((a 8 x3.toNatClampNeg) = x1 → (wp_M_needOf_27 po (wp_M_needOf_4 po n) x3 x1 x3 f a b)))))
def wp_M_needOf (po : Int32 → wF → wA → wB → Prop) (x1 : Int32) (f : wF) (a : wA) (b : wB) : Prop := ∃ n9, wp_M_needOf_4 po n9 x1 (-1 : Int32) (0 : Int32) f a b
def wp_M_leave (po : wF → wA → wB → Prop) (x1 : Int32) (f : wF) (a : wA) (b : wB) : Prop := vp_in x1 10 ∧ vp_in x1 10 ∧ (po f (va_up (va_up a 8 (upd (a 8) x1.toNatClampNeg (-1 : Int32))) 9 (upd ((va_up a 8 (upd (a 8) x1.toNatClampNeg (-1 : Int32))) 9) x1.toNatClampNeg (vp_nar .boolean (0 : Int32)))) b)
def wp_M_broken_76 (po : wF → wA → wB → Prop)  (f : wF) (a : wA) (b : wB) : Prop := po f a b
def wp_M_broken_43 (po : wF → wA → wB → Prop) (k0 : Int32) (k1 : Int32) (x1 : Int32) (x2 : Int32) (f : wF) (a : wA) (b : wB) : Prop := wp_M_throwing (fun r45 f45 a45 b45 => (r45 = 0 → (vp_in x1 12 ∧ (wp_M_needOf (fun r61 f61 a61 b61 => (r61 < 0 → (wp_M_broken_76 po f61 a61 b61)) ∧ (¬ r61 < 0 → (wp_M_needOf (fun r70 f70 a70 b70 => wp_M_leave (fun f73 a73 b73 => wp_M_broken_76 po f73 a73 b73) r70 f70 a70 b70) x1 f61 a61 b61))) x1 f45 (va_up a45 2 (upd (a45 2) x1.toNatClampNeg (vp_nar .boolean x2))) b45))) ∧ (¬ r45 = 0 → (po f45 a45 b45))) k1 k0 (0 : Int32) (0 : Int32) f a b
def wp_M_broken_42 (po : wF → wA → wB → Prop) (k0 : Int32) (x1 : Int32) (x2 : Int32) (f : wF) (a : wA) (b : wB) : Prop := wp_M_broken_43 po (0 : Int32) k0 x1 x2 f a b
def wp_M_broken_33 (po : wF → wA → wB → Prop) (k0 : Int32) (k2 : Int32) (x1 : Int32) (x2 : Int32) (f : wF) (a : wA) (b : wB) : Prop := vp_in k0 12 ∧ ((¬ (a 2 k0.toNatClampNeg) = x2 → (wp_M_broken_42 po k2 x1 x2 f a b)) ∧ ((a 2 k0.toNatClampNeg) = x2 → (wp_M_broken_43 po (1 : Int32) k2 x1 x2 f a b)))
def wp_M_broken_13 (po : wF → wA → wB → Prop) (k0 : Int32) (x1 : Int32) (x2 : Int32) (f : wF) (a : wA) (b : wB) : Prop := (¬ k0 = 0 → (wp_M_broken_42 po k0 x1 x2 f a b)) ∧ (k0 = 0 → ((k0 = 0 → (wp_M_broken_33 po x1 k0 x1 x2 f a b)) ∧ (¬ k0 = 0 → (wp_M_broken_33 po (0 : Int32) k0 x1 x2 f a b))))
def wp_M_broken (po : wF → wA → wB → Prop) (x1 : Int32) (x2 : Int32) (f : wF) (a : wA) (b : wB) : Prop := wp_M_isUnit (fun r2 f2 a2 b2 => (¬ r2 = 0 → (wp_M_broken_13 po (0 : Int32) x1 x2 f2 a2 b2)) ∧ (r2 = 0 → (wp_M_broken_13 po (1 : Int32) x1 x2 f2 a2 b2))) x1 f a b
def wp_M_isOpen_19 (po : Int32 → wF → wA → wB → Prop) (k0 : Int32) (f : wF) (a : wA) (b : wB) : Prop := zb k0 ∧ po k0 f a b
def wp_M_isOpen (po : Int32 → wF → wA → wB → Prop) (x1 : Int32) (f : wF) (a : wA) (b : wB) : Prop := vp_in x1 10 ∧ vp_in (a 6 x1.toNatClampNeg) 6 ∧ ((¬ (a 5 (a 6 x1.toNatClampNeg).toNatClampNeg) = 0 → (wp_M_isOpen_19 po (0 : Int32) f a b)) ∧ ((a 5 (a 6 x1.toNatClampNeg).toNatClampNeg) = 0 → (wp_M_isOpen_19 po (1 : Int32) f a b)))
def wp_M_canFill_78 (po : Int32 → wF → wA → wB → Prop) (k0 : Int32) (f : wF) (a : wA) (b : wB) : Prop := zb k0 ∧ po k0 f a b
def wp_M_canFill_77 (po : Int32 → wF → wA → wB → Prop)  (f : wF) (a : wA) (b : wB) : Prop := wp_M_canFill_78 po (0 : Int32) f a b
def wp_M_canFill_73 (po : Int32 → wF → wA → wB → Prop)  (f : wF) (a : wA) (b : wB) : Prop := wp_M_canFill_78 po (1 : Int32) f a b
def wp_M_canFill (po : Int32 → wF → wA → wB → Prop) (x1 : Int32) (x2 : Int32) (f : wF) (a : wA) (b : wB) : Prop := vp_in x2 10 ∧ vp_in (((6 : Int32) * x1) + (a 6 x2.toNatClampNeg)) 72 ∧ vp_in x2 10 ∧ vp_in (a 7 x2.toNatClampNeg) 16 ∧ vp_in x1 12 ∧ ((¬ (a 2 x1.toNatClampNeg) = 0 → (wp_M_canFill_77 po f a b)) ∧ ((a 2 x1.toNatClampNeg) = 0 → (vp_in x1 12 ∧ vp_in x2 10 ∧ ((¬ (((a 1 x1.toNatClampNeg) >>> ((a 7 x2.toNatClampNeg) &&& 31)) &&& (1 : Int32)) = (1 : Int32) → (wp_M_canFill_77 po f a b)) ∧ ((((a 1 x1.toNatClampNeg) >>> ((a 7 x2.toNatClampNeg) &&& 31)) &&& (1 : Int32)) = (1 : Int32) → (((a 3 (((6 : Int32) * x1) + (a 6 x2.toNatClampNeg)).toNatClampNeg) < 0 → (wp_M_canFill_77 po f a b)) ∧ (¬ (a 3 (((6 : Int32) * x1) + (a 6 x2.toNatClampNeg)).toNatClampNeg) < 0 → (((a 10 (a 7 x2.toNatClampNeg).toNatClampNeg) < 0 → (wp_M_canFill_73 po f a b)) ∧ (¬ (a 10 (a 7 x2.toNatClampNeg).toNatClampNeg) < 0 → (((a 10 (a 7 x2.toNatClampNeg).toNatClampNeg) < (a 3 (((6 : Int32) * x1) + (a 6 x2.toNatClampNeg)).toNatClampNeg) → (wp_M_canFill_77 po f a b)) ∧ (¬ (a 10 (a 7 x2.toNatClampNeg).toNatClampNeg) < (a 3 (((6 : Int32) * x1) + (a 6 x2.toNatClampNeg)).toNatClampNeg) → (wp_M_canFill_73 po f a b))))))))))))
def wp_M_isFixed_45 (po : Int32 → wF → wA → wB → Prop) (k0 : Int32) (f : wF) (a : wA) (b : wB) : Prop := zb k0 ∧ po k0 f a b
def wp_M_isFixed_44 (po : Int32 → wF → wA → wB → Prop)  (f : wF) (a : wA) (b : wB) : Prop := wp_M_isFixed_45 po (0 : Int32) f a b
def wp_M_isFixed (po : Int32 → wF → wA → wB → Prop) (x1 : Int32) (f : wF) (a : wA) (b : wB) : Prop := wp_M_isOpen (fun r2 f2 a2 b2 => (r2 = 0 → (wp_M_isFixed_44 po f2 a2 b2)) ∧ (¬ r2 = 0 → (vp_in x1 10 ∧ (((a2 8 x1.toNatClampNeg) < 0 → (wp_M_isFixed_44 po f2 a2 b2)) ∧ (¬ (a2 8 x1.toNatClampNeg) < 0 → (vp_in x1 10 ∧ (((a2 9 x1.toNatClampNeg) = 0 → (wp_M_isFixed_44 po f2 a2 b2)) ∧ (¬ (a2 9 x1.toNatClampNeg) = 0 → (vp_in x1 10 ∧ (wp_M_canFill (fun r34 f34 a34 b34 => (r34 = 0 → (wp_M_isFixed_44 po f34 a34 b34)) ∧ (¬ r34 = 0 → (wp_M_isFixed_45 po (1 : Int32) f34 a34 b34))) (a2 8 x1.toNatClampNeg) x1 f2 a2 b2)))))))))) x1 f a b
def wp_M_rankOf (po : Int32 → wF → wA → wB → Prop) (x1 : Int32) (f : wF) (a : wA) (b : wB) : Prop := vp_in x1 10 ∧ vp_in (a 6 x1.toNatClampNeg) 6 ∧ (po (a 4 (a 6 x1.toNatClampNeg).toNatClampNeg) f a b)
def wp_M_most_31 (po : Int32 → wF → wA → wB → Prop) (J8 : Int32 → Int32 → wF → wA → wB → Prop) (k0 : Int32) (k1 : Int32) (x2 : Int32) (f : wF) (a : wA) (b : wB) : Prop := J8 (k1 + k0) (x2 + (1 : Int32)) f a b
def wp_M_most_8 (po : Int32 → wF → wA → wB → Prop) : Nat → Int32 → Int32 → wF → wA → wB → Prop
  | 0 => fun _ _ _ _ _ => False
  | n + 1 => fun x1 x2 f a b => ((f 1) ≤ x2 → (po x1 f a b)) ∧ (¬ (f 1) ≤ x2 → (vp_in x2 12 ∧ (((a 2 x2.toNatClampNeg) = 0 → (wp_M_most_31 po (wp_M_most_8 po n) (1 : Int32) x1 x2 f a b)) ∧ (¬ (a 2 x2.toNatClampNeg) = 0 → (wp_M_most_31 po (wp_M_most_8 po n) (0 : Int32) x1 x2 f a b)))))
def wp_M_most (po : Int32 → wF → wA → wB → Prop)  (f : wF) (a : wA) (b : wB) : Prop := ∃ n9, wp_M_most_8 po n9 (-(f 4)) (0 : Int32) f a b
def wp_M_fixedUnits_31 (po : Int32 → wF → wA → wB → Prop) (J4 : Int32 → Int32 → wF → wA → wB → Prop) (x1 : Int32) (x2 : Int32) (f : wF) (a : wA) (b : wB) : Prop := J4 x1 (x2 + (1 : Int32)) f a b
def wp_M_fixedUnits_4 (po : Int32 → wF → wA → wB → Prop) : Nat → Int32 → Int32 → wF → wA → wB → Prop
  | 0 => fun _ _ _ _ _ => False
  | n + 1 => fun x1 x2 f a b => ((f 3) ≤ x2 → (po x1 f a b)) ∧ (¬ (f 3) ≤ x2 → (wp_M_isFixed (fun r14 f14 a14 b14 => (r14 = 0 → (wp_M_fixedUnits_31 po (wp_M_fixedUnits_4 po n) x1 x2 f14 a14 b14)) ∧ (¬ r14 = 0 → (vp_in x2 10 ∧ (wp_M_fixedUnits_31 po (wp_M_fixedUnits_4 po n) (x1 ||| ((1 : Int32) <<< ((a14 8 x2.toNatClampNeg) &&& 31))) x2 f14 a14 b14)))) x2 f a b))
def wp_M_fixedUnits (po : Int32 → wF → wA → wB → Prop)  (f : wF) (a : wA) (b : wB) : Prop := ∃ n9, wp_M_fixedUnits_4 po n9 (0 : Int32) (0 : Int32) f a b
def wp_M_ones_4 (po : Int32 → wF → wA → wB → Prop) : Nat → Int32 → Int32 → Int32 → wF → wA → wB → Prop
  | 0 => fun _ _ _ _ _ _ => False
  | n + 1 => fun x0 x1 x2 f a b => ((12 : Int32) ≤ x2 → (po x1 f a b)) ∧ (¬ (12 : Int32) ≤ x2 → (wp_M_ones_4 po n x0 (x1 + ((x0 >>> (x2 &&& 31)) &&& (1 : Int32))) (x2 + (1 : Int32)) f a b))
def wp_M_ones (po : Int32 → wF → wA → wB → Prop) (x0 : Int32) (f : wF) (a : wA) (b : wB) : Prop := ∃ n9, wp_M_ones_4 po n9 x0 (0 : Int32) (0 : Int32) f a b
def wp_M_gather_89 (po : wF → wA → wB → Prop) (J7 : Int32 → wF → wA → wB → Prop) (J14 : Int32 → Int32 → wF → wA → wB → Prop) (x1 : Int32) (x2 : Int32) (f : wF) (a : wA) (b : wB) : Prop := J14 x1 (x2 + (1 : Int32)) f a b
def wp_M_gather_66 (po : wF → wA → wB → Prop) (J7 : Int32 → wF → wA → wB → Prop) (J14 : Int32 → Int32 → wF → wA → wB → Prop) (k0 : Int32) (k1 : Int32) (x1 : Int32) (x2 : Int32) (f : wF) (a : wA) (b : wB) : Prop := (¬ k1 = k0 → (wp_M_gather_89 po J7 J14 x1 x2 f a b)) ∧ (k1 = k0 → (vp_in (f 6) 10 ∧ (wp_M_gather_89 po J7 J14 x1 x2 (va_up f 6 ((f 6) + (1 : Int32))) (va_up a 11 (upd (a 11) (f 6).toNatClampNeg x2)) b)))
def wp_M_gather_39 (po : wF → wA → wB → Prop) (J7 : Int32 → wF → wA → wB → Prop) (J14 : Int32 → Int32 → wF → wA → wB → Prop) (k0 : Int32) (x1 : Int32) (x2 : Int32) (f : wF) (a : wA) (b : wB) : Prop := wp_M_isOpen (fun r42 f42 a42 b42 => (r42 = 0 → (wp_M_gather_89 po J7 J14 x1 x2 f42 a42 b42)) ∧ (¬ r42 = 0 → (wp_M_isFixed (fun r50 f50 a50 b50 => (¬ r50 = 0 → (wp_M_gather_89 po J7 J14 x1 x2 f50 a50 b50)) ∧ (r50 = 0 → ((¬ x1 = 0 → (wp_M_gather_66 po J7 J14 (0 : Int32) k0 x1 x2 f50 a50 b50)) ∧ (x1 = 0 → (wp_M_gather_66 po J7 J14 (1 : Int32) k0 x1 x2 f50 a50 b50))))) x2 f42 a42 b42))) x2 f a b
def wp_M_gather_14 (po : wF → wA → wB → Prop) (J7 : Int32 → wF → wA → wB → Prop) : Nat → Int32 → Int32 → wF → wA → wB → Prop
  | 0 => fun _ _ _ _ _ => False
  | n + 1 => fun x1 x2 f a b => ((f 3) ≤ x2 → (J7 (x1 + (1 : Int32)) f a b)) ∧ (¬ (f 3) ≤ x2 → (wp_M_rankOf (fun r24 f24 a24 b24 => (r24 < (f24 5) → (wp_M_gather_39 po J7 (wp_M_gather_14 po J7 n) (0 : Int32) x1 x2 f24 a24 b24)) ∧ (¬ r24 < (f24 5) → (wp_M_gather_39 po J7 (wp_M_gather_14 po J7 n) (1 : Int32) x1 x2 f24 a24 b24))) x2 f a b))
def wp_M_gather_7 (po : wF → wA → wB → Prop) : Nat → Int32 → wF → wA → wB → Prop
  | 0 => fun _ _ _ _ => False
  | n + 1 => fun x1 f a b => ((2 : Int32) ≤ x1 → (po f a b)) ∧ (¬ (2 : Int32) ≤ x1 → (∃ n9, wp_M_gather_14 po (wp_M_gather_7 po n) n9 x1 (0 : Int32) f a b))
def wp_M_gather (po : wF → wA → wB → Prop)  (f : wF) (a : wA) (b : wB) : Prop := ∃ n9, wp_M_gather_7 po n9 (0 : Int32) (va_up f 6 (0 : Int32)) a b
def wp_M_may_50 (po : Int32 → wF → wA → wB → Prop) (k0 : Int32) (f : wF) (a : wA) (b : wB) : Prop := zb k0 ∧ po k0 f a b
def wp_M_may_45 (po : Int32 → wF → wA → wB → Prop)  (f : wF) (a : wA) (b : wB) : Prop := wp_M_may_50 po (1 : Int32) f a b
def wp_M_may_18 (po : Int32 → wF → wA → wB → Prop)  (f : wF) (a : wA) (b : wB) : Prop := zb (0 : Int32) ∧ po (0 : Int32) f a b
def wp_M_may (po : Int32 → wF → wA → wB → Prop) (x1 : Int32) (x2 : Int32) (x3 : Int32) (f : wF) (a : wA) (b : wB) : Prop := (((x3 >>> (x2 &&& 31)) &&& (1 : Int32)) = (1 : Int32) → (wp_M_may_18 po f a b)) ∧ (¬ ((x3 >>> (x2 &&& 31)) &&& (1 : Int32)) = (1 : Int32) → (wp_M_canFill (fun r12 f12 a12 b12 => (¬ r12 = 0 → (wp_M_rankOf (fun r22 f22 a22 b22 => ((f22 5) ≤ r22 → (wp_M_may_45 po f22 a22 b22)) ∧ (¬ (f22 5) ≤ r22 → (wp_M_ones (fun r33 f33 a33 b33 => wp_M_most (fun r39 f39 a39 b39 => (r39 < (r33 + (1 : Int32)) → (wp_M_may_50 po (0 : Int32) f39 a39 b39)) ∧ (¬ r39 < (r33 + (1 : Int32)) → (wp_M_may_45 po f39 a39 b39))) f33 a33 b33) x3 f22 a22 b22))) x1 f12 a12 b12)) ∧ (r12 = 0 → (wp_M_may_18 po f12 a12 b12))) x2 x1 f a b))
def wp_M_with (po : Int64 → wF → wA → wB → Prop) (x1 : Int32) (x2 : Int32) (x3 : Int32) (f : wF) (a : wA) (b : wB) : Prop := vp_in x1 10 ∧ (wp_M_rankOf (fun r11 f11 a11 b11 => vp_in (a 11 x1.toNatClampNeg) 10 ∧ vp_in (((6 : Int32) * x2) + (a11 6 (a 11 x1.toNatClampNeg).toNatClampNeg)) 72 ∧ vp_in (((4096 : Int32) * (x1 + (1 : Int32))) + (x3 ||| ((1 : Int32) <<< (x2 &&& 31)))) 45056 ∧ (po ((r11.toInt64 * ((a11 3 (((6 : Int32) * x2) + (a11 6 (a 11 x1.toNatClampNeg).toNatClampNeg)).toNatClampNeg).toInt64)) + (b11 12 (((4096 : Int32) * (x1 + (1 : Int32))) + (x3 ||| ((1 : Int32) <<< (x2 &&& 31)))).toNatClampNeg)) f11 a11 b11)) (a 11 x1.toNatClampNeg) f a b)
def wp_M_without (po : Int64 → wF → wA → wB → Prop) (x1 : Int32) (x2 : Int32) (f : wF) (a : wA) (b : wB) : Prop := vp_in x1 10 ∧ (wp_M_rankOf (fun r10 f10 a10 b10 => vp_in (((4096 : Int32) * (x1 + (1 : Int32))) + x2) 45056 ∧ (po (((1000000000000 : Int64) * r10.toInt64) + (b10 12 (((4096 : Int32) * (x1 + (1 : Int32))) + x2).toNatClampNeg)) f10 a10 b10)) (a 11 x1.toNatClampNeg) f a b)
def wp_M_reckon_117 (po : wF → wA → wB → Prop) (J42 : Int32 → wF → wA → wB → Prop) (J48 : Int32 → Int32 → wF → wA → wB → Prop) (J65 : Int32 → Int32 → Int64 → Int32 → wF → wA → wB → Prop) (k0 : Int64) (x1 : Int32) (x2 : Int32) (x5 : Int32) (f : wF) (a : wA) (b : wB) : Prop := J65 x1 x2 k0 (x5 + (1 : Int32)) f a b
def wp_M_reckon_102 (po : wF → wA → wB → Prop) (J42 : Int32 → wF → wA → wB → Prop) (J48 : Int32 → Int32 → wF → wA → wB → Prop) (J65 : Int32 → Int32 → Int64 → Int32 → wF → wA → wB → Prop) (k0 : Int64) (x1 : Int32) (x2 : Int32) (x3 : Int64) (x5 : Int32) (f : wF) (a : wA) (b : wB) : Prop := (0 ≤ (lg_cmp k0 x3) → (wp_M_reckon_117 po J42 J48 J65 x3 x1 x2 x5 f a b)) ∧ (¬ 0 ≤ (lg_cmp k0 x3) → (wp_M_reckon_117 po J42 J48 J65 k0 x1 x2 x5 f a b))
def wp_M_reckon_65 (po : wF → wA → wB → Prop) (J42 : Int32 → wF → wA → wB → Prop) (J48 : Int32 → Int32 → wF → wA → wB → Prop) : Nat → Int32 → Int32 → Int64 → Int32 → wF → wA → wB → Prop
  | 0 => fun _ _ _ _ _ _ _ => False
  | n + 1 => fun x1 x2 x3 x5 f a b => ((f 1) ≤ x5 → (vp_in (((4096 : Int32) * x1) + x2) 45056 ∧ (J48 x1 (x2 + (1 : Int32)) f a (va_up b 12 (vp_updL (b 12) (((4096 : Int32) * x1) + x2).toNatClampNeg x3))))) ∧ (¬ (f 1) ≤ x5 → (vp_in x1 10 ∧ (wp_M_may (fun r84 f84 a84 b84 => (r84 = 0 → (wp_M_reckon_102 po J42 J48 (wp_M_reckon_65 po J42 J48 n) x3 x1 x2 x3 x5 f84 a84 b84)) ∧ (¬ r84 = 0 → (wp_M_with (fun r95 f95 a95 b95 => wp_M_reckon_102 po J42 J48 (wp_M_reckon_65 po J42 J48 n) r95 x1 x2 x3 x5 f95 a95 b95) x1 x5 x2 f84 a84 b84))) (a 11 x1.toNatClampNeg) x5 x2 f a b)))
def wp_M_reckon_48 (po : wF → wA → wB → Prop) (J42 : Int32 → wF → wA → wB → Prop) : Nat → Int32 → Int32 → wF → wA → wB → Prop
  | 0 => fun _ _ _ _ _ => False
  | n + 1 => fun x1 x2 f a b => ((4096 : Int32) ≤ x2 → (J42 (x1 + (-1 : Int32)) f a b)) ∧ (¬ (4096 : Int32) ≤ x2 → (wp_M_without (fun r58 f58 a58 b58 => ∃ n9, wp_M_reckon_65 po J42 (wp_M_reckon_48 po J42 n) n9 x1 x2 r58 (0 : Int32) f58 a58 b58) x1 x2 f a b))
def wp_M_reckon_42 (po : wF → wA → wB → Prop) : Nat → Int32 → wF → wA → wB → Prop
  | 0 => fun _ _ _ _ => False
  | n + 1 => fun x1 f a b => (x1 < 0 → (po f a b)) ∧ (¬ x1 < 0 → (∃ n9, wp_M_reckon_48 po (wp_M_reckon_42 po n) n9 x1 (0 : Int32) f a b))
def wp_M_reckon_6 (po : wF → wA → wB → Prop) : Nat → Int32 → wF → wA → wB → Prop
  | 0 => fun _ _ _ _ => False
  | n + 1 => fun x1 f a b => ((4096 : Int32) ≤ x1 → (∃ n9, wp_M_reckon_42 po n9 ((f 6) - (1 : Int32)) f a b)) ∧ (¬ (4096 : Int32) ≤ x1 → (vp_in (((4096 : Int32) * (f 6)) + x1) 45056 ∧ (wp_M_reckon_6 po n (x1 + (1 : Int32)) f a (va_up b 12 (vp_updL (b 12) (((4096 : Int32) * (f 6)) + x1).toNatClampNeg (0 : Int64))))))
def wp_M_reckon (po : wF → wA → wB → Prop)  (f : wF) (a : wA) (b : wB) : Prop := wp_M_gather (fun f1 a1 b1 => ∃ n9, wp_M_reckon_6 po n9 (0 : Int32) f1 a1 b1) f a b
def wp_M_present_121 (po : Int64 → wF → wA → wB → Prop) (J10 : Int64 → Int32 → Int32 → wF → wA → wB → Prop) (k0 : Int64) (k1 : Int64) (x3 : Int32) (x4 : Int32) (f : wF) (a : wA) (b : wB) : Prop := J10 (k1 + k0) x3 (x4 + (1 : Int32)) f a b
def wp_M_present_72 (po : Int64 → wF → wA → wB → Prop) (J10 : Int64 → Int32 → Int32 → wF → wA → wB → Prop) (k0 : Int32) (k1 : Int32) (x1 : Int64) (x4 : Int32) (x5 : Int32) (x6 : Int32) (f : wF) (a : wA) (b : wB) : Prop := (x6 < 0 → (wp_M_rankOf (fun r116 f116 a116 b116 => wp_M_present_121 po J10 ((1000000000000 : Int64) * r116.toInt64) x1 (k1 ||| k0) x4 f116 a116 b116) x5 f a b)) ∧ (¬ x6 < 0 → (wp_M_rankOf (fun r83 f83 a83 b83 => vp_in x5 10 ∧ vp_in (((6 : Int32) * x6) + (a83 6 x5.toNatClampNeg)) 72 ∧ (wp_M_present_121 po J10 (r83.toInt64 * ((a83 3 (((6 : Int32) * x6) + (a83 6 x5.toNatClampNeg)).toNatClampNeg).toInt64)) x1 (k1 ||| k0) x4 f83 a83 b83)) x5 f a b))
def wp_M_present_58 (po : Int64 → wF → wA → wB → Prop) (J10 : Int64 → Int32 → Int32 → wF → wA → wB → Prop) (x1 : Int64) (x3 : Int32) (x4 : Int32) (x5 : Int32) (x6 : Int32) (f : wF) (a : wA) (b : wB) : Prop := (x6 < 0 → (wp_M_present_72 po J10 (0 : Int32) x3 x1 x4 x5 x6 f a b)) ∧ (¬ x6 < 0 → (wp_M_present_72 po J10 ((1 : Int32) <<< (x6 &&& 31)) x3 x1 x4 x5 x6 f a b))
def wp_M_present_10 (po : Int64 → wF → wA → wB → Prop) : Nat → Int64 → Int32 → Int32 → wF → wA → wB → Prop
  | 0 => fun _ _ _ _ _ _ => False
  | n + 1 => fun x1 x3 x4 f a b => ((f 6) ≤ x4 → (po x1 f a b)) ∧ (¬ (f 6) ≤ x4 → (vp_in x4 10 ∧ vp_in (a 11 x4.toNatClampNeg) 10 ∧ (((a 8 (a 11 x4.toNatClampNeg).toNatClampNeg) < 0 → (wp_M_present_58 po (wp_M_present_10 po n) x1 x3 x4 (a 11 x4.toNatClampNeg) (a 8 (a 11 x4.toNatClampNeg).toNatClampNeg) f a b)) ∧ (¬ (a 8 (a 11 x4.toNatClampNeg).toNatClampNeg) < 0 → (wp_M_may (fun r48 f48 a48 b48 => (¬ r48 = 0 → (wp_M_present_58 po (wp_M_present_10 po n) x1 x3 x4 (a 11 x4.toNatClampNeg) (a 8 (a 11 x4.toNatClampNeg).toNatClampNeg) f48 a48 b48)) ∧ (r48 = 0 → (po (-1 : Int64) f48 a48 b48))) (a 11 x4.toNatClampNeg) (a 8 (a 11 x4.toNatClampNeg).toNatClampNeg) x3 f a b)))))
def wp_M_present (po : Int64 → wF → wA → wB → Prop)  (f : wF) (a : wA) (b : wB) : Prop := wp_M_fixedUnits (fun r3 f3 a3 b3 => ∃ n9, wp_M_present_10 po n9 (0 : Int64) r3 (0 : Int32) f3 a3 b3) f a b
def wp_M_send_293 (po : Int32 → wF → wA → wB → Prop) (J258 : Int32 → Int32 → wF → wA → wB → Prop) (k0 : Int32) (k1 : Int32) (x9 : Int32) (f : wF) (a : wA) (b : wB) : Prop := J258 (k1 + k0) (x9 + (1 : Int32)) f a b
def wp_M_send_292 (po : Int32 → wF → wA → wB → Prop) (J258 : Int32 → Int32 → wF → wA → wB → Prop) (k0 : Int32) (x9 : Int32) (f : wF) (a : wA) (b : wB) : Prop := wp_M_send_293 po J258 (0 : Int32) k0 x9 f a b
def wp_M_send_258 (po : Int32 → wF → wA → wB → Prop) : Nat → Int32 → Int32 → wF → wA → wB → Prop
  | 0 => fun _ _ _ _ _ => False
  | n + 1 => fun x8 x9 f a b => ((f 3) ≤ x9 → (po x8 f a b)) ∧ (¬ (f 3) ≤ x9 → (wp_M_isOpen (fun r272 f272 a272 b272 => (r272 = 0 → (wp_M_send_292 po (wp_M_send_258 po n) x8 x9 f272 a272 b272)) ∧ (¬ r272 = 0 → (vp_in x9 10 ∧ (((a272 8 x9.toNatClampNeg) < 0 → (wp_M_send_292 po (wp_M_send_258 po n) x8 x9 f272 a272 b272)) ∧ (¬ (a272 8 x9.toNatClampNeg) < 0 → (wp_M_send_293 po (wp_M_send_258 po n) (1 : Int32) x8 x9 f272 a272 b272)))))) x9 f a b))
def wp_M_send_252 (po : Int32 → wF → wA → wB → Prop)  (f : wF) (a : wA) (b : wB) : Prop := ∃ n9, wp_M_send_258 po n9 (0 : Int32) (0 : Int32) f a b
def wp_M_send_244 (po : Int32 → wF → wA → wB → Prop) (J100 : Int32 → Int32 → Int32 → wF → wA → wB → Prop) (k0 : Int32) (k1 : Int32) (x7 : Int32) (x8 : Int32) (f : wF) (a : wA) (b : wB) : Prop := J100 (k1 ||| k0) x7 (x8 + (1 : Int32)) f a b
def wp_M_send_220 (po : Int32 → wF → wA → wB → Prop) (J100 : Int32 → Int32 → Int32 → wF → wA → wB → Prop) (k0 : Int32) (k1 : Int32) (x2 : Int32) (x7 : Int32) (x8 : Int32) (x9 : Int32) (x10 : Int32) (f : wF) (a : wA) (b : wB) : Prop := vp_in k1 10 ∧ vp_in x9 10 ∧ ((x10 < 0 → (wp_M_send_244 po J100 (0 : Int32) x2 x7 x8 f (va_up (va_up a 9 (upd (a 9) k1.toNatClampNeg (vp_nar .boolean k0))) 8 (upd ((va_up a 9 (upd (a 9) k1.toNatClampNeg (vp_nar .boolean k0))) 8) x9.toNatClampNeg x10)) b)) ∧ (¬ x10 < 0 → (wp_M_send_244 po J100 ((1 : Int32) <<< (x10 &&& 31)) x2 x7 x8 f (va_up (va_up a 9 (upd (a 9) k1.toNatClampNeg (vp_nar .boolean k0))) 8 (upd ((va_up a 9 (upd (a 9) k1.toNatClampNeg (vp_nar .boolean k0))) 8) x9.toNatClampNeg x10)) b)))
def wp_M_send_219 (po : Int32 → wF → wA → wB → Prop) (J100 : Int32 → Int32 → Int32 → wF → wA → wB → Prop) (k0 : Int32) (x2 : Int32) (x7 : Int32) (x8 : Int32) (x9 : Int32) (x10 : Int32) (f : wF) (a : wA) (b : wB) : Prop := wp_M_send_220 po J100 (0 : Int32) k0 x2 x7 x8 x9 x10 f a b
def wp_M_send_181 (po : Int32 → wF → wA → wB → Prop) (J100 : Int32 → Int32 → Int32 → wF → wA → wB → Prop) (J134 : Int32 → Int32 → Int32 → Int32 → Int32 → Int32 → wF → wA → wB → Prop) (x2 : Int32) (x7 : Int32) (x8 : Int32) (x9 : Int32) (x10 : Int32) (x11 : Int32) (f : wF) (a : wA) (b : wB) : Prop := J134 x2 x7 x8 x9 x10 (x11 + (-1 : Int32)) f a b
def wp_M_send_134 (po : Int32 → wF → wA → wB → Prop) (J100 : Int32 → Int32 → Int32 → wF → wA → wB → Prop) : Nat → Int32 → Int32 → Int32 → Int32 → Int32 → Int32 → wF → wA → wB → Prop
  | 0 => fun _ _ _ _ _ _ _ _ _ => False
  | n + 1 => fun x2 x7 x8 x9 x10 x11 f a b => (x11 < 0 → (vp_in x9 10 ∧ (((a 9 x9.toNatClampNeg) = 0 → (wp_M_send_219 po J100 x9 x2 x7 x8 x9 x10 f a b)) ∧ (¬ (a 9 x9.toNatClampNeg) = 0 → (vp_in x9 10 ∧ ((¬ (a 8 x9.toNatClampNeg) = x10 → (wp_M_send_219 po J100 x9 x2 x7 x8 x9 x10 f a b)) ∧ ((a 8 x9.toNatClampNeg) = x10 → (wp_M_send_220 po J100 (1 : Int32) x9 x2 x7 x8 x9 x10 f a b)))))))) ∧ (¬ x11 < 0 → (wp_M_may (fun r145 f145 a145 b145 => (r145 = 0 → (wp_M_send_181 po J100 (wp_M_send_134 po J100 n) x2 x7 x8 x9 x10 x11 f145 a145 b145)) ∧ (¬ r145 = 0 → (wp_M_with (fun r157 f157 a157 b157 => vp_in (((4096 : Int32) * x8) + x2) 45056 ∧ ((¬ (lg_cmp r157 (b157 12 (((4096 : Int32) * x8) + x2).toNatClampNeg)) = 0 → (wp_M_send_181 po J100 (wp_M_send_134 po J100 n) x2 x7 x8 x9 x10 x11 f157 a157 b157)) ∧ ((lg_cmp r157 (b157 12 (((4096 : Int32) * x8) + x2).toNatClampNeg)) = 0 → (wp_M_send_181 po J100 (wp_M_send_134 po J100 n) x2 x7 x8 x9 x11 x11 f157 a157 b157)))) x8 x11 x2 f145 a145 b145))) x9 x11 x2 f a b))
def wp_M_send_100 (po : Int32 → wF → wA → wB → Prop) : Nat → Int32 → Int32 → Int32 → wF → wA → wB → Prop
  | 0 => fun _ _ _ _ _ _ => False
  | n + 1 => fun x2 x7 x8 f a b => ((f 6) ≤ x8 → (wp_M_send_252 po f a b)) ∧ (¬ (f 6) ≤ x8 → ((¬ x7 = 0 → (wp_M_send_252 po f a b)) ∧ (x7 = 0 → (vp_in x8 10 ∧ (∃ n9, wp_M_send_134 po (wp_M_send_100 po n) n9 x2 x7 x8 (a 11 x8.toNatClampNeg) (-1 : Int32) ((f 1) - (1 : Int32)) f a b)))))
def wp_M_send_95 (po : Int32 → wF → wA → wB → Prop) (k0 : Int32) (x2 : Int32) (f : wF) (a : wA) (b : wB) : Prop := ∃ n9, wp_M_send_100 po n9 x2 k0 (0 : Int32) f a b
def wp_M_send_94 (po : Int32 → wF → wA → wB → Prop) (x2 : Int32) (f : wF) (a : wA) (b : wB) : Prop := wp_M_send_95 po (0 : Int32) x2 f a b
def wp_M_send_85 (po : Int32 → wF → wA → wB → Prop) (k0 : Int32) (k1 : Int64) (x2 : Int32) (f : wF) (a : wA) (b : wB) : Prop := (0 ≤ (lg_cmp k1 k0.toInt64) → (wp_M_send_94 po x2 f a b)) ∧ (¬ 0 ≤ (lg_cmp k1 k0.toInt64) → (wp_M_send_95 po (1 : Int32) x2 f a b))
def wp_M_send_16 (po : Int32 → wF → wA → wB → Prop) (k0 : Int32) (x1 : Int32) (f : wF) (a : wA) (b : wB) : Prop := wp_M_throwing (fun r19 f19 a19 b19 => (r19 = 0 → (wp_M_reckon (fun f28 a28 b28 => wp_M_fixedUnits (fun r32 f32 a32 b32 => vp_in r32 45056 ∧ (wp_M_present (fun r44 f44 a44 b44 => ((lg_cmp r44 (0 : Int64)) < 0 → (wp_M_send_94 po r32 f44 a44 b44)) ∧ (¬ (lg_cmp r44 (0 : Int64)) < 0 → ((¬ (lg_cmp (r44 / (1000000000000 : Int64)) ((b32 12 r32.toNatClampNeg) / (1000000000000 : Int64))) = 0 → (wp_M_send_94 po r32 f44 a44 b44)) ∧ ((lg_cmp (r44 / (1000000000000 : Int64)) ((b32 12 r32.toNatClampNeg) / (1000000000000 : Int64))) = 0 → (((1 : Int32) ≤ x1 → (wp_M_send_85 po x1 (r44 - (b32 12 r32.toNatClampNeg)) r32 f44 a44 b44)) ∧ (¬ (1 : Int32) ≤ x1 → (wp_M_send_85 po (1 : Int32) (r44 - (b32 12 r32.toNatClampNeg)) r32 f44 a44 b44))))))) f32 a32 b32)) f28 a28 b28) f19 a19 b19)) ∧ (¬ r19 = 0 → (po (0 : Int32) f19 a19 b19))) k0 (0 : Int32) (0 : Int32) (0 : Int32) f a b
def wp_M_send (po : Int32 → wF → wA → wB → Prop) (x1 : Int32) (f : wF) (a : wA) (b : wB) : Prop := wp_M_in (fun r5 f5 a5 b5 => (¬ r5 = 0 → (wp_M_send_16 po (0 : Int32) x1 f5 a5 b5)) ∧ (r5 = 0 → (wp_M_send_16 po (1 : Int32) x1 f5 a5 b5))) x1 (0 : Int32) (1000000 : Int32) f a b
def wp_M_stay_65 (po : wF → wA → wB → Prop) (k0 : Int32) (k1 : Int32) (x2 : Int32) (x4 : Int32) (f : wF) (a : wA) (b : wB) : Prop := wp_M_throwing (fun r67 f67 a67 b67 => (r67 = 0 → (vp_in x4 10 ∧ (po f67 (va_up a67 9 (upd (a67 9) x4.toNatClampNeg (vp_nar .boolean x2))) b67))) ∧ (¬ r67 = 0 → (po f67 a67 b67))) k1 k0 (0 : Int32) (0 : Int32) f a b
def wp_M_stay_64 (po : wF → wA → wB → Prop) (k0 : Int32) (x2 : Int32) (x4 : Int32) (f : wF) (a : wA) (b : wB) : Prop := wp_M_stay_65 po (0 : Int32) k0 x2 x4 f a b
def wp_M_stay_60 (po : wF → wA → wB → Prop) (k0 : Int32) (x2 : Int32) (x4 : Int32) (f : wF) (a : wA) (b : wB) : Prop := wp_M_stay_65 po (1 : Int32) k0 x2 x4 f a b
def wp_M_stay_55 (po : wF → wA → wB → Prop) (k0 : Int32) (k2 : Int32) (x2 : Int32) (x4 : Int32) (f : wF) (a : wA) (b : wB) : Prop := vp_in k0 10 ∧ ((¬ (a 9 k0.toNatClampNeg) = x2 → (wp_M_stay_64 po k2 x2 x4 f a b)) ∧ ((a 9 k0.toNatClampNeg) = x2 → (wp_M_stay_60 po k2 x2 x4 f a b)))
def wp_M_stay_27 (po : wF → wA → wB → Prop) (k0 : Int32) (x2 : Int32) (x3 : Int32) (f : wF) (a : wA) (b : wB) : Prop := (¬ x3 = 0 → (wp_M_stay_64 po x3 x2 k0 f a b)) ∧ (x3 = 0 → ((k0 < 0 → (wp_M_stay_60 po x3 x2 k0 f a b)) ∧ (¬ k0 < 0 → ((0 ≤ k0 → (wp_M_stay_55 po k0 x3 x2 k0 f a b)) ∧ (¬ 0 ≤ k0 → (wp_M_stay_55 po (0 : Int32) x3 x2 k0 f a b))))))
def wp_M_stay_13 (po : wF → wA → wB → Prop) (k0 : Int32) (x1 : Int32) (x2 : Int32) (f : wF) (a : wA) (b : wB) : Prop := (k0 = 0 → (wp_M_needOf (fun r24 f24 a24 b24 => wp_M_stay_27 po r24 x2 k0 f24 a24 b24) x1 f a b)) ∧ (¬ k0 = 0 → (wp_M_stay_27 po (-1 : Int32) x2 k0 f a b))
def wp_M_stay (po : wF → wA → wB → Prop) (x1 : Int32) (x2 : Int32) (f : wF) (a : wA) (b : wB) : Prop := wp_M_isUnit (fun r2 f2 a2 b2 => (¬ r2 = 0 → (wp_M_stay_13 po (0 : Int32) x1 x2 f2 a2 b2)) ∧ (r2 = 0 → (wp_M_stay_13 po (1 : Int32) x1 x2 f2 a2 b2))) x1 f a b
def wp_M_recall_43 (po : wF → wA → wB → Prop) (k0 : Int32) (k1 : Int32) (x3 : Int32) (f : wF) (a : wA) (b : wB) : Prop := wp_M_throwing (fun r45 f45 a45 b45 => (r45 = 0 → (wp_M_leave (fun f54 a54 b54 => po f54 a54 b54) x3 f45 a45 b45)) ∧ (¬ r45 = 0 → (po f45 a45 b45))) k1 k0 (0 : Int32) (0 : Int32) f a b
def wp_M_recall_42 (po : wF → wA → wB → Prop) (k0 : Int32) (x3 : Int32) (f : wF) (a : wA) (b : wB) : Prop := wp_M_recall_43 po (0 : Int32) k0 x3 f a b
def wp_M_recall_27 (po : wF → wA → wB → Prop) (k0 : Int32) (x2 : Int32) (f : wF) (a : wA) (b : wB) : Prop := (¬ x2 = 0 → (wp_M_recall_42 po x2 k0 f a b)) ∧ (x2 = 0 → ((0 ≤ k0 → (wp_M_recall_42 po x2 k0 f a b)) ∧ (¬ 0 ≤ k0 → (wp_M_recall_43 po (1 : Int32) x2 k0 f a b))))
def wp_M_recall_13 (po : wF → wA → wB → Prop) (k0 : Int32) (x1 : Int32) (f : wF) (a : wA) (b : wB) : Prop := (k0 = 0 → (wp_M_needOf (fun r24 f24 a24 b24 => wp_M_recall_27 po r24 k0 f24 a24 b24) x1 f a b)) ∧ (¬ k0 = 0 → (wp_M_recall_27 po (-1 : Int32) k0 f a b))
def wp_M_recall (po : wF → wA → wB → Prop) (x1 : Int32) (f : wF) (a : wA) (b : wB) : Prop := wp_M_isUnit (fun r2 f2 a2 b2 => (¬ r2 = 0 → (wp_M_recall_13 po (0 : Int32) x1 f2 a2 b2)) ∧ (r2 = 0 → (wp_M_recall_13 po (1 : Int32) x1 f2 a2 b2))) x1 f a b
def wp_M_close_75 (po : wF → wA → wB → Prop) (J52 : Int32 → Int32 → wF → wA → wB → Prop) (x1 : Int32) (x3 : Int32) (f : wF) (a : wA) (b : wB) : Prop := J52 x1 (x3 + (1 : Int32)) f a b
def wp_M_close_52 (po : wF → wA → wB → Prop) : Nat → Int32 → Int32 → wF → wA → wB → Prop
  | 0 => fun _ _ _ _ _ => False
  | n + 1 => fun x1 x3 f a b => ((f 3) ≤ x3 → (po f a b)) ∧ (¬ (f 3) ≤ x3 → (vp_in x3 10 ∧ ((¬ (a 6 x3.toNatClampNeg) = x1 → (wp_M_close_75 po (wp_M_close_52 po n) x1 x3 f a b)) ∧ ((a 6 x3.toNatClampNeg) = x1 → (wp_M_leave (fun f72 a72 b72 => wp_M_close_75 po (wp_M_close_52 po n) x1 x3 f72 a72 b72) x3 f a b)))))
def wp_M_close_34 (po : wF → wA → wB → Prop) (k0 : Int32) (k1 : Int32) (x1 : Int32) (f : wF) (a : wA) (b : wB) : Prop := wp_M_throwing (fun r36 f36 a36 b36 => (r36 = 0 → (vp_in x1 6 ∧ (∃ n9, wp_M_close_52 po n9 x1 (0 : Int32) f36 (va_up a36 5 (upd (a36 5) x1.toNatClampNeg (vp_nar .boolean (1 : Int32)))) b36))) ∧ (¬ r36 = 0 → (po f36 a36 b36))) k1 k0 (0 : Int32) (0 : Int32) f a b
def wp_M_close_33 (po : wF → wA → wB → Prop) (k0 : Int32) (x1 : Int32) (f : wF) (a : wA) (b : wB) : Prop := wp_M_close_34 po (0 : Int32) k0 x1 f a b
def wp_M_close_13 (po : wF → wA → wB → Prop) (k0 : Int32) (x1 : Int32) (f : wF) (a : wA) (b : wB) : Prop := (¬ k0 = 0 → (wp_M_close_33 po k0 x1 f a b)) ∧ (k0 = 0 → (vp_in x1 6 ∧ (((a 5 x1.toNatClampNeg) = 0 → (wp_M_close_33 po k0 x1 f a b)) ∧ (¬ (a 5 x1.toNatClampNeg) = 0 → (wp_M_close_34 po (1 : Int32) k0 x1 f a b)))))
def wp_M_close (po : wF → wA → wB → Prop) (x1 : Int32) (f : wF) (a : wA) (b : wB) : Prop := wp_M_isIncident (fun r2 f2 a2 b2 => (¬ r2 = 0 → (wp_M_close_13 po (0 : Int32) x1 f2 a2 b2)) ∧ (r2 = 0 → (wp_M_close_13 po (1 : Int32) x1 f2 a2 b2))) x1 f a b
def wp_M_needAt_94 (po : Int32 → wF → wA → wB → Prop) (k0 : Int32) (f : wF) (a : wA) (b : wB) : Prop := po k0 f a b
def wp_M_needAt_29 (po : Int32 → wF → wA → wB → Prop) (k0 : Int32) (x1 : Int32) (x2 : Int32) (f : wF) (a : wA) (b : wB) : Prop := wp_M_throwing (fun r32 f32 a32 b32 => (r32 = 0 → ((¬ x2 = 0 → ((¬ x2 = (1 : Int32) → ((¬ x2 = (2 : Int32) → (wp_M_isOpen (fun r83 f83 a83 b83 => (r83 = 0 → (wp_M_needAt_94 po (0 : Int32) f83 a83 b83)) ∧ (¬ r83 = 0 → (wp_M_needAt_94 po (1 : Int32) f83 a83 b83))) x1 f32 a32 b32)) ∧ (x2 = (2 : Int32) → (vp_in x1 10 ∧ (wp_M_needAt_94 po (a32 8 x1.toNatClampNeg) f32 a32 b32))))) ∧ (x2 = (1 : Int32) → (vp_in x1 10 ∧ (wp_M_needAt_94 po (a32 7 x1.toNatClampNeg) f32 a32 b32))))) ∧ (x2 = 0 → (vp_in x1 10 ∧ (wp_M_needAt_94 po (a32 6 x1.toNatClampNeg) f32 a32 b32))))) ∧ (¬ r32 = 0 → (po (0 : Int32) f32 a32 b32))) k0 (0 : Int32) (0 : Int32) (0 : Int32) f a b
def wp_M_needAt_24 (po : Int32 → wF → wA → wB → Prop) (x1 : Int32) (x2 : Int32) (f : wF) (a : wA) (b : wB) : Prop := wp_M_needAt_29 po (1 : Int32) x1 x2 f a b
def wp_M_needAt (po : Int32 → wF → wA → wB → Prop) (x1 : Int32) (x2 : Int32) (f : wF) (a : wA) (b : wB) : Prop := wp_M_in (fun r9 f9 a9 b9 => (r9 = 0 → (wp_M_needAt_24 po x1 x2 f9 a9 b9)) ∧ (¬ r9 = 0 → (wp_M_in (fun r18 f18 a18 b18 => (¬ r18 = 0 → (wp_M_needAt_29 po (0 : Int32) x1 x2 f18 a18 b18)) ∧ (r18 = 0 → (wp_M_needAt_24 po x1 x2 f18 a18 b18))) x2 (0 : Int32) (3 : Int32) f9 a9 b9))) x1 (0 : Int32) ((f 3) - (1 : Int32)) f a b
def wp_M_fills_14 (po : Int32 → wF → wA → wB → Prop) (k0 : Int32) (x1 : Int32) (f : wF) (a : wA) (b : wB) : Prop := wp_M_throwing (fun r17 f17 a17 b17 => (r17 = 0 → (wp_M_needOf (fun r27 f27 a27 b27 => po r27 f27 a27 b27) x1 f17 a17 b17)) ∧ (¬ r17 = 0 → (po (0 : Int32) f17 a17 b17))) k0 (0 : Int32) (0 : Int32) (0 : Int32) f a b
def wp_M_fills (po : Int32 → wF → wA → wB → Prop) (x1 : Int32) (f : wF) (a : wA) (b : wB) : Prop := wp_M_isUnit (fun r3 f3 a3 b3 => (¬ r3 = 0 → (wp_M_fills_14 po (0 : Int32) x1 f3 a3 b3)) ∧ (r3 = 0 → (wp_M_fills_14 po (1 : Int32) x1 f3 a3 b3))) x1 f a b
def wp_M_sum_133 (po : Int32 → wF → wA → wB → Prop) (J30 : Int32 → Int32 → Int32 → wF → wA → wB → Prop) (x1 : Int32) (x2 : Int32) (x3 : Int32) (f : wF) (a : wA) (b : wB) : Prop := J30 x1 x2 (x3 + (1 : Int32)) f a b
def wp_M_sum_99 (po : Int32 → wF → wA → wB → Prop) (J30 : Int32 → Int32 → Int32 → wF → wA → wB → Prop) (x1 : Int32) (x2 : Int32) (x3 : Int32) (x4 : Int32) (x5 : Int32) (f : wF) (a : wA) (b : wB) : Prop := wp_M_isOpen (fun r101 f101 a101 b101 => (r101 = 0 → (wp_M_sum_133 po J30 x1 x2 x3 f101 a101 b101)) ∧ (¬ r101 = 0 → ((¬ x1 = (1 : Int32) → (wp_M_sum_133 po J30 x1 x2 x3 f101 a101 b101)) ∧ (x1 = (1 : Int32) → ((x4 < 0 → (wp_M_sum_133 po J30 x1 x2 x3 f101 a101 b101)) ∧ (¬ x4 < 0 → ((x5 ≤ 0 → (wp_M_sum_133 po J30 x1 x2 x3 f101 a101 b101)) ∧ (¬ x5 ≤ 0 → (wp_M_rankOf (fun r125 f125 a125 b125 => wp_M_sum_133 po J30 x1 (x2 + (r125 * x5)) x3 f125 a125 b125) x3 f101 a101 b101))))))))) x3 f a b
def wp_M_sum_72 (po : Int32 → wF → wA → wB → Prop) (J30 : Int32 → Int32 → Int32 → wF → wA → wB → Prop) (k0 : Int32) (x1 : Int32) (x2 : Int32) (x3 : Int32) (x4 : Int32) (f : wF) (a : wA) (b : wB) : Prop := wp_M_isOpen (fun r76 f76 a76 b76 => (r76 = 0 → (wp_M_sum_99 po J30 x1 x2 x3 x4 k0 f76 a76 b76)) ∧ (¬ r76 = 0 → ((¬ x1 = 0 → (wp_M_sum_99 po J30 x1 x2 x3 x4 k0 f76 a76 b76)) ∧ (x1 = 0 → ((0 ≤ x4 → (wp_M_sum_99 po J30 x1 x2 x3 x4 k0 f76 a76 b76)) ∧ (¬ 0 ≤ x4 → (wp_M_rankOf (fun r94 f94 a94 b94 => wp_M_sum_99 po J30 x1 (x2 + r94) x3 x4 k0 f94 a94 b94) x3 f76 a76 b76))))))) x3 f a b
def wp_M_sum_30 (po : Int32 → wF → wA → wB → Prop) : Nat → Int32 → Int32 → Int32 → wF → wA → wB → Prop
  | 0 => fun _ _ _ _ _ _ => False
  | n + 1 => fun x1 x2 x3 f a b => ((f 3) ≤ x3 → (po x2 f a b)) ∧ (¬ (f 3) ≤ x3 → (vp_in x3 10 ∧ (((a 8 x3.toNatClampNeg) < 0 → (wp_M_sum_72 po (wp_M_sum_30 po n) (0 : Int32) x1 x2 x3 (a 8 x3.toNatClampNeg) f a b)) ∧ (¬ (a 8 x3.toNatClampNeg) < 0 → (vp_in x3 10 ∧ vp_in (((6 : Int32) * (a 8 x3.toNatClampNeg)) + (a 6 x3.toNatClampNeg)) 72 ∧ (wp_M_sum_72 po (wp_M_sum_30 po n) (a 3 (((6 : Int32) * (a 8 x3.toNatClampNeg)) + (a 6 x3.toNatClampNeg)).toNatClampNeg) x1 x2 x3 (a 8 x3.toNatClampNeg) f a b))))))
def wp_M_sum_15 (po : Int32 → wF → wA → wB → Prop) (k0 : Int32) (x1 : Int32) (f : wF) (a : wA) (b : wB) : Prop := wp_M_throwing (fun r18 f18 a18 b18 => (r18 = 0 → (∃ n9, wp_M_sum_30 po n9 x1 (0 : Int32) (0 : Int32) f18 a18 b18)) ∧ (¬ r18 = 0 → (po (0 : Int32) f18 a18 b18))) k0 (0 : Int32) (0 : Int32) (0 : Int32) f a b
def wp_M_sum (po : Int32 → wF → wA → wB → Prop) (x1 : Int32) (f : wF) (a : wA) (b : wB) : Prop := wp_M_in (fun r4 f4 a4 b4 => (¬ r4 = 0 → (wp_M_sum_15 po (0 : Int32) x1 f4 a4 b4)) ∧ (r4 = 0 → (wp_M_sum_15 po (1 : Int32) x1 f4 a4 b4))) x1 (0 : Int32) (1 : Int32) f a b
def wp_M_alternative_137 (po : Int32 → wF → wA → wB → Prop) (J54 : Int32 → Int32 → Int32 → wF → wA → wB → Prop) (x1 : Int32) (x3 : Int32) (x4 : Int32) (f : wF) (a : wA) (b : wB) : Prop := J54 x1 x3 (x4 + (1 : Int32)) f a b
def wp_M_alternative_134 (po : Int32 → wF → wA → wB → Prop) (J54 : Int32 → Int32 → Int32 → wF → wA → wB → Prop) (x1 : Int32) (x4 : Int32) (f : wF) (a : wA) (b : wB) : Prop := wp_M_alternative_137 po J54 x1 x4 x4 f a b
def wp_M_alternative_87 (po : Int32 → wF → wA → wB → Prop) (J54 : Int32 → Int32 → Int32 → wF → wA → wB → Prop) (k0 : Int32) (x1 : Int32) (x3 : Int32) (x4 : Int32) (f : wF) (a : wA) (b : wB) : Prop := (k0 = 0 → (wp_M_alternative_137 po J54 x1 x3 x4 f a b)) ∧ (¬ k0 = 0 → ((x3 < 0 → (wp_M_alternative_134 po J54 x1 x4 f a b)) ∧ (¬ x3 < 0 → (vp_in x1 10 ∧ vp_in (((6 : Int32) * x4) + (a 6 x1.toNatClampNeg)) 72 ∧ vp_in x1 10 ∧ vp_in (((6 : Int32) * x3) + (a 6 x1.toNatClampNeg)) 72 ∧ (((a 3 (((6 : Int32) * x3) + (a 6 x1.toNatClampNeg)).toNatClampNeg) ≤ (a 3 (((6 : Int32) * x4) + (a 6 x1.toNatClampNeg)).toNatClampNeg) → (wp_M_alternative_137 po J54 x1 x3 x4 f a b)) ∧ (¬ (a 3 (((6 : Int32) * x3) + (a 6 x1.toNatClampNeg)).toNatClampNeg) ≤ (a 3 (((6 : Int32) * x4) + (a 6 x1.toNatClampNeg)).toNatClampNeg) → (wp_M_alternative_134 po J54 x1 x4 f a b)))))))
def wp_M_alternative_86 (po : Int32 → wF → wA → wB → Prop) (J54 : Int32 → Int32 → Int32 → wF → wA → wB → Prop) (x1 : Int32) (x3 : Int32) (x4 : Int32) (f : wF) (a : wA) (b : wB) : Prop := wp_M_alternative_87 po J54 (0 : Int32) x1 x3 x4 f a b
def wp_M_alternative_54 (po : Int32 → wF → wA → wB → Prop) : Nat → Int32 → Int32 → Int32 → wF → wA → wB → Prop
  | 0 => fun _ _ _ _ _ _ => False
  | n + 1 => fun x1 x3 x4 f a b => ((f 1) ≤ x4 → (po x3 f a b)) ∧ (¬ (f 1) ≤ x4 → (wp_M_canFill (fun r67 f67 a67 b67 => (r67 = 0 → (wp_M_alternative_86 po (wp_M_alternative_54 po n) x1 x3 x4 f67 a67 b67)) ∧ (¬ r67 = 0 → (wp_M_needOf (fun r76 f76 a76 b76 => (0 ≤ r76 → (wp_M_alternative_86 po (wp_M_alternative_54 po n) x1 x3 x4 f76 a76 b76)) ∧ (¬ 0 ≤ r76 → (wp_M_alternative_87 po (wp_M_alternative_54 po n) (1 : Int32) x1 x3 x4 f76 a76 b76))) x4 f67 a67 b67))) x4 x1 f a b))
def wp_M_alternative_39 (po : Int32 → wF → wA → wB → Prop) (k0 : Int32) (k1 : Int32) (x1 : Int32) (f : wF) (a : wA) (b : wB) : Prop := wp_M_throwing (fun r41 f41 a41 b41 => (r41 = 0 → (∃ n9, wp_M_alternative_54 po n9 x1 (-1 : Int32) (0 : Int32) f41 a41 b41)) ∧ (¬ r41 = 0 → (po (0 : Int32) f41 a41 b41))) k1 k0 (0 : Int32) (0 : Int32) f a b
def wp_M_alternative_38 (po : Int32 → wF → wA → wB → Prop) (k0 : Int32) (x1 : Int32) (f : wF) (a : wA) (b : wB) : Prop := wp_M_alternative_39 po (0 : Int32) k0 x1 f a b
def wp_M_alternative_19 (po : Int32 → wF → wA → wB → Prop) (k0 : Int32) (x1 : Int32) (f : wF) (a : wA) (b : wB) : Prop := (¬ k0 = 0 → (wp_M_alternative_38 po k0 x1 f a b)) ∧ (k0 = 0 → (wp_M_isOpen (fun r28 f28 a28 b28 => (¬ r28 = 0 → (wp_M_alternative_38 po k0 x1 f28 a28 b28)) ∧ (r28 = 0 → (wp_M_alternative_39 po (1 : Int32) k0 x1 f28 a28 b28))) x1 f a b))
def wp_M_alternative (po : Int32 → wF → wA → wB → Prop) (x1 : Int32) (f : wF) (a : wA) (b : wB) : Prop := wp_M_in (fun r8 f8 a8 b8 => (¬ r8 = 0 → (wp_M_alternative_19 po (0 : Int32) x1 f8 a8 b8)) ∧ (r8 = 0 → (wp_M_alternative_19 po (1 : Int32) x1 f8 a8 b8))) x1 (0 : Int32) ((f 3) - (1 : Int32)) f a b
def wp_M_never_110 (po : Int32 → wF → wA → wB → Prop) (J25 : Int32 → Int32 → wF → wA → wB → Prop) (k0 : Int32) (k1 : Int32) (x3 : Int32) (f : wF) (a : wA) (b : wB) : Prop := J25 (k1 - k0) (x3 + (1 : Int32)) f a b
def wp_M_never_99 (po : Int32 → wF → wA → wB → Prop) (J25 : Int32 → Int32 → wF → wA → wB → Prop) (x2 : Int32) (x3 : Int32) (x4 : Int32) (f : wF) (a : wA) (b : wB) : Prop := (x4 = 0 → (wp_M_never_110 po J25 (1 : Int32) x2 x3 f a b)) ∧ (¬ x4 = 0 → (wp_M_never_110 po J25 (0 : Int32) x2 x3 f a b))
def wp_M_never_80 (po : Int32 → wF → wA → wB → Prop) (J25 : Int32 → Int32 → wF → wA → wB → Prop) (J51 : Int32 → Int32 → Int32 → Int32 → wF → wA → wB → Prop) (k0 : Int32) (x2 : Int32) (x3 : Int32) (x5 : Int32) (f : wF) (a : wA) (b : wB) : Prop := J51 x2 x3 k0 (x5 + (1 : Int32)) f a b
def wp_M_never_75 (po : Int32 → wF → wA → wB → Prop) (J25 : Int32 → Int32 → wF → wA → wB → Prop) (J51 : Int32 → Int32 → Int32 → Int32 → wF → wA → wB → Prop) (x2 : Int32) (x3 : Int32) (x5 : Int32) (f : wF) (a : wA) (b : wB) : Prop := wp_M_never_80 po J25 J51 (1 : Int32) x2 x3 x5 f a b
def wp_M_never_51 (po : Int32 → wF → wA → wB → Prop) (J25 : Int32 → Int32 → wF → wA → wB → Prop) : Nat → Int32 → Int32 → Int32 → Int32 → wF → wA → wB → Prop
  | 0 => fun _ _ _ _ _ _ _ => False
  | n + 1 => fun x2 x3 x4 x5 f a b => ((f 1) ≤ x5 → ((¬ x4 = 0 → (wp_M_never_99 po J25 x2 x3 x4 f a b)) ∧ (x4 = 0 → ((¬ x2 = 0 → (wp_M_never_99 po J25 x2 x3 x4 f a b)) ∧ (x2 = 0 → (po x3 f a b)))))) ∧ (¬ (f 1) ≤ x5 → ((¬ x4 = 0 → (wp_M_never_75 po J25 (wp_M_never_51 po J25 n) x2 x3 x5 f a b)) ∧ (x4 = 0 → (wp_M_canFill (fun r69 f69 a69 b69 => (r69 = 0 → (wp_M_never_80 po J25 (wp_M_never_51 po J25 n) (0 : Int32) x2 x3 x5 f69 a69 b69)) ∧ (¬ r69 = 0 → (wp_M_never_75 po J25 (wp_M_never_51 po J25 n) x2 x3 x5 f69 a69 b69))) x5 x3 f a b))))
def wp_M_never_46 (po : Int32 → wF → wA → wB → Prop) (J25 : Int32 → Int32 → wF → wA → wB → Prop) (k0 : Int32) (x2 : Int32) (x3 : Int32) (f : wF) (a : wA) (b : wB) : Prop := ∃ n9, wp_M_never_51 po J25 n9 x2 x3 k0 (0 : Int32) f a b
def wp_M_never_25 (po : Int32 → wF → wA → wB → Prop) : Nat → Int32 → Int32 → wF → wA → wB → Prop
  | 0 => fun _ _ _ _ _ => False
  | n + 1 => fun x2 x3 f a b => ((f 3) ≤ x3 → (po (-1 : Int32) f a b)) ∧ (¬ (f 3) ≤ x3 → (wp_M_isOpen (fun r35 f35 a35 b35 => (¬ r35 = 0 → (wp_M_never_46 po (wp_M_never_25 po n) (0 : Int32) x2 x3 f35 a35 b35)) ∧ (r35 = 0 → (wp_M_never_46 po (wp_M_never_25 po n) (1 : Int32) x2 x3 f35 a35 b35))) x3 f a b))
def wp_M_never_10 (po : Int32 → wF → wA → wB → Prop) (k0 : Int32) (x1 : Int32) (f : wF) (a : wA) (b : wB) : Prop := wp_M_throwing (fun r13 f13 a13 b13 => (r13 = 0 → (∃ n9, wp_M_never_25 po n9 x1 (0 : Int32) f13 a13 b13)) ∧ (¬ r13 = 0 → (po (0 : Int32) f13 a13 b13))) k0 (0 : Int32) (0 : Int32) (0 : Int32) f a b
def wp_M_never (po : Int32 → wF → wA → wB → Prop) (x1 : Int32) (f : wF) (a : wA) (b : wB) : Prop := (0 ≤ x1 → (wp_M_never_10 po (0 : Int32) x1 f a b)) ∧ (¬ 0 ≤ x1 → (wp_M_never_10 po (1 : Int32) x1 f a b))
end
section
/-! Pure rows: finite sums over Int, valid pairings of rows with units (12 = none), and their optimality by potentials. -/
def sm (f : Nat → Int) : Nat → Int
  | 0 => 0
  | n + 1 => sm f n + f n
theorem sm_congr {f g : Nat → Int} : ∀ {n : Nat}, (∀ i, i < n → f i = g i) → sm f n = sm g n
  | 0, _ => rfl
  | n + 1, h => by
    have h1 := sm_congr (n := n) (fun i hi => h i (by omega))
    have h2 := h n (by omega)
    show sm f n + f n = sm g n + g n
    omega
theorem sm_le {f g : Nat → Int} : ∀ {n : Nat}, (∀ i, i < n → f i ≤ g i) → sm f n ≤ sm g n
  | 0, _ => Int.le_refl 0
  | n + 1, h => by
    have h1 := sm_le (n := n) (fun i hi => h i (by omega))
    have h2 := h n (by omega)
    show sm f n + f n ≤ sm g n + g n
    omega
theorem sm_add (f g : Nat → Int) : ∀ n : Nat, sm (fun i => f i + g i) n = sm f n + sm g n
  | 0 => rfl
  | n + 1 => by
    have h1 := sm_add f g n
    show sm (fun i => f i + g i) n + (f n + g n) = (sm f n + f n) + (sm g n + g n)
    omega
theorem sm_sub (f g : Nat → Int) : ∀ n : Nat, sm (fun i => f i - g i) n = sm f n - sm g n
  | 0 => rfl
  | n + 1 => by
    have h1 := sm_sub f g n
    show sm (fun i => f i - g i) n + (f n - g n) = (sm f n + f n) - (sm g n + g n)
    omega
theorem sm_zero : ∀ n : Nat, sm (fun _ => 0) n = 0
  | 0 => rfl
  | n + 1 => by
    have h1 := sm_zero n
    show sm (fun _ => 0) n + 0 = 0
    omega
/-- one place of a sum changes -/
theorem sm_upd {f : Nat → Int} {k : Nat} {x : Int} : ∀ {n : Nat}, k < n → sm (fun i => if i = k then x else f i) n = sm f n - f k + x
  | 0, h => absurd h (Nat.not_lt_zero k)
  | n + 1, h => by
    show sm (fun i => if i = k then x else f i) n + (if n = k then x else f n) = sm f n + f n - f k + x
    by_cases e : n = k
    · have h1 : sm (fun i => if i = k then x else f i) n = sm f n := sm_congr (fun i hi => if_neg (by omega))
      rw [h1, if_pos e, e]
      omega
    · have h1 := sm_upd (f := f) (x := x) (n := n) (k := k) (by omega)
      rw [h1, if_neg e]
      omega
/-- an update of a function at one place -/
def fu {α : Type} (f : Nat → α) (k : Nat) (x : α) : Nat → α := fun i => if i = k then x else f i
theorem fu_s {α : Type} {f : Nat → α} {k : Nat} {x : α} : fu f k x k = x := if_pos rfl
theorem fu_n {α : Type} {f : Nat → α} {k i : Nat} {x : α} (h : i ≠ k) : fu f k x i = f i := if_neg h
/-- the sum over the rows that have a unit of what g says of the unit -/
def ug (g : Nat → Int) (P : Nat → Nat) : Nat → Int := fun r => if P r = 12 then 0 else g (P r)
/-- P gives no unit twice -/
def inj (n : Nat) (P : Nat → Nat) : Prop := ∀ r q, r < n → q < n → P r = P q → P r ≠ 12 → r = q
/-- units of a pairing, where g is nowhere above 0: not less than all together -/
theorem ug_ge : ∀ {n : Nat} {g : Nat → Int} {P : Nat → Nat}, inj n P → (∀ r, r < n → P r ≤ 12) → (∀ u, u < 12 → g u ≤ 0) → sm g 12 ≤ sm (ug g P) n
  | 0, g, P, _, _, hg => by
    have h1 : sm g 12 ≤ sm (fun _ => 0) 12 := sm_le hg
    rw [sm_zero] at h1
    exact h1
  | n + 1, g, P, hj, hle, hg => by
    show sm g 12 ≤ sm (ug g P) n + ug g P n
    by_cases e : P n = 12
    · have h1 := ug_ge (n := n) (g := g) (P := P) (fun r q hr hq => hj r q (by omega) (by omega)) (fun r hr => hle r (by omega)) hg
      have h2 : ug g P n = 0 := if_pos e
      omega
    · have h1 := ug_ge (n := n) (g := fun i => if i = P n then 0 else g i) (P := P) (fun r q hr hq => hj r q (by omega) (by omega)) (fun r hr => hle r (by omega)) (fun u hu => by
        show (if u = P n then (0 : Int) else g u) ≤ 0
        by_cases e2 : u = P n
        · rw [if_pos e2]; exact Int.le_refl 0
        · rw [if_neg e2]; exact hg u hu)
      have h3 := hle n (by omega)
      rw [sm_upd (f := g) (k := P n) (x := 0) (n := 12) (by omega)] at h1
      have h2 : ug g P n = g (P n) := if_neg e
      have h4 : sm (ug (fun i => if i = P n then 0 else g i) P) n = sm (ug g P) n := sm_congr (fun r hr => by
        show (if P r = 12 then (0 : Int) else if P r = P n then 0 else g (P r)) = if P r = 12 then 0 else g (P r)
        by_cases e3 : P r = 12
        · rw [if_pos e3, if_pos e3]
        · rw [if_neg e3, if_neg e3]
          by_cases e4 : P r = P n
          · have := hj r n (by omega) (by omega) e4 e3
            omega
          · rw [if_neg e4])
      omega
/-- .. and as much as all together, where g is 0 at the units that are free -/
theorem ug_eq : ∀ {n : Nat} {g : Nat → Int} {P : Nat → Nat}, inj n P → (∀ r, r < n → P r ≤ 12) → (∀ u, u < 12 → (∀ r, r < n → P r ≠ u) → g u = 0) → sm (ug g P) n = sm g 12
  | 0, g, P, _, _, hg => by
    have h1 : sm g 12 = sm (fun _ => 0) 12 := sm_congr (fun u hu => hg u hu (fun r hr => absurd hr (Nat.not_lt_zero r)))
    rw [sm_zero] at h1
    exact h1.symm
  | n + 1, g, P, hj, hle, hg => by
    show sm (ug g P) n + ug g P n = sm g 12
    by_cases e : P n = 12
    · have h1 := ug_eq (n := n) (g := g) (P := P) (fun r q hr hq => hj r q (by omega) (by omega)) (fun r hr => hle r (by omega)) (fun u hu hf => hg u hu (fun r hr => by
        by_cases e1 : r = n
        · rw [e1, e]; omega
        · exact hf r (by omega)))
      have h2 : ug g P n = 0 := if_pos e
      omega
    · have h1 := ug_eq (n := n) (g := fun i => if i = P n then 0 else g i) (P := P) (fun r q hr hq => hj r q (by omega) (by omega)) (fun r hr => hle r (by omega)) (fun u hu hf => by
        show (if u = P n then (0 : Int) else g u) = 0
        by_cases e2 : u = P n
        · rw [if_pos e2]
        · rw [if_neg e2]
          exact hg u hu (fun r hr => by
            by_cases e1 : r = n
            · rw [e1]; exact fun q => e2 q.symm
            · exact hf r (by omega)))
      have h3 := hle n (by omega)
      rw [sm_upd (f := g) (k := P n) (x := 0) (n := 12) (by omega)] at h1
      have h2 : ug g P n = g (P n) := if_neg e
      have h4 : sm (ug (fun i => if i = P n then 0 else g i) P) n = sm (ug g P) n := sm_congr (fun r hr => by
        show (if P r = 12 then (0 : Int) else if P r = P n then 0 else g (P r)) = if P r = 12 then 0 else g (P r)
        by_cases e3 : P r = 12
        · rw [if_pos e3, if_pos e3]
        · rw [if_neg e3, if_neg e3]
          by_cases e4 : P r = P n
          · have := hj r n (by omega) (by omega) e4 e3
            omega
          · rw [if_neg e4])
      omega
/-- a pairing of the rows below n: allowed units, none twice -/
def okP (n : Nat) (al : Nat → Nat → Prop) (P : Nat → Nat) : Prop := (∀ r, r < n → P r = 12 ∨ (P r < 12 ∧ al r (P r))) ∧ inj n P
theorem okP.le {n : Nat} {al : Nat → Nat → Prop} {P : Nat → Nat} (h : okP n al P) : ∀ r, r < n → P r ≤ 12 := fun r hr => by
  rcases h.1 r hr with q | q
  · omega
  · omega
/-- what a pairing weighs, and how many rows have a unit -/
def kyf (w : Nat → Nat → Int) (P : Nat → Nat) : Nat → Int := fun r => if P r = 12 then 0 else w r (P r)
def ky (n : Nat) (w : Nat → Nat → Int) (P : Nat → Nat) : Int := sm (kyf w P) n
def cnf (P : Nat → Nat) : Nat → Int := fun r => if P r = 12 then 0 else 1
def cn (n : Nat) (P : Nat → Nat) : Int := sm (cnf P) n
theorem cn_nonneg (n : Nat) (P : Nat → Nat) : 0 ≤ cn n P := by
  have h : sm (fun _ => 0) n ≤ sm (cnf P) n := sm_le (fun i _ => by
    show (0 : Int) ≤ if P i = 12 then 0 else 1
    by_cases e : P i = 12
    · rw [if_pos e]; omega
    · rw [if_neg e]; omega)
  rw [sm_zero] at h
  exact h
theorem sm_one : ∀ n : Nat, sm (fun _ => 1) n = (n : Int)
  | 0 => rfl
  | n + 1 => by
    have h1 := sm_one n
    show sm (fun _ => 1) n + 1 = ((n + 1 : Nat) : Int)
    omega
theorem cn_le (n : Nat) (P : Nat → Nat) : cn n P ≤ n := by
  have h : sm (cnf P) n ≤ sm (fun _ => 1) n := sm_le (fun i _ => by
    show (if P i = 12 then 0 else 1) ≤ (1 : Int)
    by_cases e : P i = 12
    · rw [if_pos e]; omega
    · rw [if_neg e]; omega)
  rw [sm_one] at h
  exact h
theorem sm_mul (k : Int) (f : Nat → Int) : ∀ n : Nat, sm (fun i => f i * k) n = sm f n * k
  | 0 => by show (0 : Int) = 0 * k; rw [Int.zero_mul]
  | n + 1 => by
    have h1 := sm_mul k f n
    show sm (fun i => f i * k) n + f n * k = (sm f n + f n) * k
    rw [h1, Int.add_mul]
/-- potentials of rows and units: no allowed pair lies below them, the pairing's own lie on them; rows without a unit have 0, free units the top -/
def pot (n : Nat) (al : Nat → Nat → Prop) (w : Nat → Nat → Int) (P : Nat → Nat) (pr pu : Nat → Int) (top : Int) : Prop :=
  (∀ r u, r < n → u < 12 → al r u → pu u ≤ w r u + pr r) ∧ (∀ r, r < n → P r ≠ 12 → w r (P r) + pr r = pu (P r)) ∧
  (∀ r, r < n → 0 ≤ pr r ∧ (P r = 12 → pr r = 0)) ∧ (∀ u, u < 12 → pu u ≤ top ∧ ((∀ r, r < n → P r ≠ u) → pu u = top))
theorem pot_lower {n : Nat} {al : Nat → Nat → Prop} {w : Nat → Nat → Int} {P Q : Nat → Nat} {pr pu : Nat → Int} {top : Int} (h : pot n al w P pr pu top) (hQ : okP n al Q) :
    sm (fun u => pu u - top) 12 + cn n Q * top - sm pr n ≤ ky n w Q := by
  obtain ⟨h1, -, h3, h4⟩ := h
  have a1 : sm (fun r => (ug (fun u => pu u - top) Q r + cnf Q r * top) - pr r) n ≤ ky n w Q := sm_le (fun r hr => by
    show ((if Q r = 12 then 0 else pu (Q r) - top) + (if Q r = 12 then 0 else 1) * top) - pr r ≤ if Q r = 12 then 0 else w r (Q r)
    have := (h3 r hr).1
    by_cases e : Q r = 12
    · rw [if_pos e, if_pos e, if_pos e]; omega
    · rw [if_neg e, if_neg e, if_neg e]
      rcases hQ.1 r hr with q | q
      · exact absurd q e
      · have := h1 r (Q r) hr q.1 q.2
        omega)
  rw [sm_sub, sm_add, sm_mul] at a1
  have a2 := ug_ge (n := n) (g := fun u => pu u - top) (P := Q) hQ.2 hQ.le (fun u hu => by have := (h4 u hu).1; show pu u - top ≤ 0; omega)
  show _ ≤ ky n w Q
  unfold cn
  omega
theorem pot_value {n : Nat} {al : Nat → Nat → Prop} {w : Nat → Nat → Int} {P : Nat → Nat} {pr pu : Nat → Int} {top : Int} (h : pot n al w P pr pu top) (hP : okP n al P) :
    ky n w P = sm (fun u => pu u - top) 12 + cn n P * top - sm pr n := by
  obtain ⟨-, h2, h3, h4⟩ := h
  have a1 : sm (fun r => (ug (fun u => pu u - top) P r + cnf P r * top) - pr r) n = ky n w P := sm_congr (fun r hr => by
    show ((if P r = 12 then 0 else pu (P r) - top) + (if P r = 12 then 0 else 1) * top) - pr r = if P r = 12 then 0 else w r (P r)
    have := (h3 r hr).2
    by_cases e : P r = 12
    · rw [if_pos e, if_pos e, if_pos e]; have := this e; omega
    · rw [if_neg e, if_neg e, if_neg e]
      have := h2 r hr e
      omega)
  rw [sm_sub, sm_add, sm_mul] at a1
  have a2 := ug_eq (n := n) (g := fun u => pu u - top) (P := P) hP.2 hP.le (fun u hu hf => by have := (h4 u hu).2 hf; show pu u - top = 0; omega)
  unfold cn
  omega
/-- with potentials whose top isn't above 0, a pairing is the best of those with no more units -/
theorem pot_best_le {n : Nat} {al : Nat → Nat → Prop} {w : Nat → Nat → Int} {P Q : Nat → Nat} {pr pu : Nat → Int} {top : Int} (h : pot n al w P pr pu top) (hP : okP n al P) (hQ : okP n al Q) (ht : top ≤ 0) (hc : cn n Q ≤ cn n P) : ky n w P ≤ ky n w Q := by
  have a := pot_lower h hQ
  have b := pot_value h hP
  have c : cn n P * top ≤ cn n Q * top := Int.mul_le_mul_of_nonpos_right hc ht
  omega
/-- .. and with one that isn't below 0, of those with no fewer -/
theorem pot_best_ge {n : Nat} {al : Nat → Nat → Prop} {w : Nat → Nat → Int} {P Q : Nat → Nat} {pr pu : Nat → Int} {top : Int} (h : pot n al w P pr pu top) (hP : okP n al P) (hQ : okP n al Q) (ht : 0 ≤ top) (hc : cn n P ≤ cn n Q) : ky n w P ≤ ky n w Q := by
  have a := pot_lower h hQ
  have b := pot_value h hP
  have c : cn n P * top ≤ cn n Q * top := Int.mul_le_mul_of_nonneg_right hc ht
  omega
end
section
/-! Pure rows: the search for cheapest ways (labels of rows and units), its invariant, its end. 10 = no row, 12 = no unit. ch: for each row reached the rows of its way, itself first (a ghost). -/
def rch (P fr : Nat → Nat) (r : Nat) : Prop := P r = 12 ∨ fr (P r) ≠ 10
/-- the row's pairs below the unit k are looked at -/
def rlx (al : Nat → Nat → Prop) (w : Nat → Nat → Int) (P : Nat → Nat) (rd ud : Nat → Int) (fr : Nat → Nat) (r k : Nat) : Prop := ∀ u, u < 12 → u < k → al r u → P r ≠ u → fr u ≠ 10 ∧ ud u ≤ rd r + w r u
def bf (n : Nat) (al : Nat → Nat → Prop) (w : Nat → Nat → Int) (P : Nat → Nat) (pr rd ud : Nat → Int) (fr : Nat → Nat) (ch : Nat → List Nat) : Prop :=
  (∀ r, r < n → P r = 12 → rd r = 0 ∧ ch r = [r]) ∧
  (∀ r, r < n → P r ≠ 12 → fr (P r) ≠ 10 → rd r = ud (P r) - w r (P r)) ∧
  (∀ u, u < 12 → fr u ≠ 10 → fr u < n ∧ al (fr u) u ∧ P (fr u) ≠ u ∧ rch P fr (fr u) ∧ rd (fr u) + w (fr u) u ≤ ud u) ∧
  (∀ r, r < n → rch P fr r → pr r ≤ rd r) ∧
  (∀ r, r < n → rch P fr r → (∀ x, x ∈ ch r → x < n ∧ rch P fr x ∧ rd x - pr x ≤ rd r - pr r) ∧ (ch r).Nodup ∧ r ∈ ch r) ∧
  (∀ r, r < n → P r ≠ 12 → fr (P r) ≠ 10 → rd (fr (P r)) + w (fr (P r)) (P r) < ud (P r) ∨ ch r = r :: ch (fr (P r)))
/-- .. while the row cur is looked at, its units below k done; fs: the rows to be looked at again -/
def bfs (n : Nat) (al : Nat → Nat → Prop) (w : Nat → Nat → Int) (P : Nat → Nat) (pr rd ud : Nat → Int) (fr : Nat → Nat) (ch : Nat → List Nat) (fs : Nat → Bool) (cur k : Nat) : Prop :=
  bf n al w P pr rd ud fr ch ∧ (∀ r, r < n → fs r = true → rch P fr r) ∧ (∀ r, r < n → rch P fr r → fs r = false → r ≠ cur → rlx al w P rd ud fr r 12) ∧
  (cur < n → rch P fr cur ∧ fs cur = false ∧ rlx al w P rd ud fr cur k)
theorem nodup_len : ∀ (n : Nat) (l : List Nat), l.Nodup → (∀ x, x ∈ l → x < n) → l.length ≤ n
  | 0, l, _, h => by
    cases l with
    | nil => exact Nat.le_refl 0
    | cons a t => exact absurd (h a List.mem_cons_self) (Nat.not_lt_zero a)
  | n + 1, l, hd, h => by
    have h1 : (l.erase n).length ≤ n := nodup_len n (l.erase n) (hd.erase n) (fun x hx => by
      have h2 := h x (List.mem_of_mem_erase hx)
      have h3 : x ≠ n := fun e => by
        rw [e] at hx
        exact (List.Nodup.not_mem_erase hd) hx
      omega)
    by_cases hm : n ∈ l
    · have := List.length_erase_of_mem hm
      omega
    · rw [List.erase_of_not_mem hm] at h1
      omega
section BF
variable {n : Nat} {al : Nat → Nat → Prop} {w : Nat → Nat → Int} {P : Nat → Nat} {pr pu rd ud : Nat → Int} {top : Int} {fr : Nat → Nat} {ch : Nat → List Nat} {fs : Nat → Bool} {cur k : Nat}
theorem rch_up {fr : Nat → Nat} {r k v : Nat} (hv : v ≠ 10) (h : rch P fr r) : rch P (fu fr k v) r := by
  rcases h with h | h
  · exact Or.inl h
  · refine Or.inr ?_
    by_cases e : P r = k
    · rw [e, fu_s]; exact hv
    · rw [fu_n e]; exact h
theorem rch_dn {fr : Nat → Nat} {r k v : Nat} (hk : P r ≠ k) (h : rch P (fu fr k v) r) : rch P fr r := by
  rcases h with h | h
  · exact Or.inl h
  · rw [fu_n hk] at h
    exact Or.inr h
theorem bfs_len (h : bfs n al w P pr rd ud fr ch fs cur k) {r : Nat} (hr : r < n) (hc : rch P fr r) : (ch r).length ≤ n ∧ 1 ≤ (ch r).length := by
  obtain ⟨⟨-, -, -, -, h5, -⟩, -⟩ := h
  obtain ⟨a, b, c⟩ := h5 r hr hc
  refine ⟨nodup_len n _ b (fun x hx => (a x hx).1), ?_⟩
  cases hl : ch r with
  | nil => rw [hl] at c; cases c
  | cons y t => simp
/-- nothing to do at the unit k -/
theorem bfs_skip (h : bfs n al w P pr rd ud fr ch fs cur k) (hs : cur < n → k < 12 → al cur k → P cur ≠ k → fr k ≠ 10 ∧ ud k ≤ rd cur + w cur k) : bfs n al w P pr rd ud fr ch fs cur (k + 1) := by
  obtain ⟨h1, h2, h3, h4⟩ := h
  refine ⟨h1, h2, h3, fun hc => ?_⟩
  obtain ⟨a, b, c⟩ := h4 hc
  refine ⟨a, b, fun u hu hk ha hn => ?_⟩
  by_cases e : u = k
  · subst e
    exact hs hc hu ha hn
  · exact c u hu (by omega) ha hn
/-- a better way to the unit k, which no row has -/
theorem bfs_free (hp : pot n al w P pr pu top) (h : bfs n al w P pr rd ud fr ch fs cur k) (hn : n ≤ 10) (hcur : cur < n) (hk : k < 12) (hal : al cur k) (hne : P cur ≠ k) (hb : fr k = 10 ∨ rd cur + w cur k < ud k) (hf : ∀ r, r < n → P r ≠ k) :
    bfs n al w P pr rd (fu ud k (rd cur + w cur k)) (fu fr k cur) ch fs cur (k + 1) := by
  obtain ⟨⟨b1, b2, b3, b4, b5, b6⟩, h2, h3, h4⟩ := h
  obtain ⟨c1, c2, c3⟩ := h4 hcur
  have hc10 : cur ≠ 10 := by omega
  have hd : ∀ r, r < n → rch P (fu fr k cur) r → rch P fr r := fun r hr hh => rch_dn (hf r hr) hh
  refine ⟨⟨b1, ?_, ?_, ?_, ?_, ?_⟩, ?_, ?_, ?_⟩
  · intro r hr hP hfr
    rw [fu_n (hf r hr)] at hfr ⊢
    exact b2 r hr hP hfr
  · intro u hu hfr
    by_cases e : u = k
    · subst e
      rw [fu_s, fu_s]
      exact ⟨hcur, hal, hne, rch_up hc10 c1, Int.le_refl _⟩
    · rw [fu_n e] at hfr ⊢
      rw [fu_n e]
      obtain ⟨d1, d2, d3, d4, d5⟩ := b3 u hu hfr
      exact ⟨d1, d2, d3, rch_up hc10 d4, d5⟩
  · intro r hr hh
    exact b4 r hr (hd r hr hh)
  · intro r hr hh
    obtain ⟨e1, e2, e3⟩ := b5 r hr (hd r hr hh)
    exact ⟨fun x hx => ⟨(e1 x hx).1, rch_up hc10 (e1 x hx).2.1, (e1 x hx).2.2⟩, e2, e3⟩
  · intro r hr hP hfr
    rw [fu_n (hf r hr)] at hfr ⊢
    rw [fu_n (hf r hr)]
    exact b6 r hr hP hfr
  · intro r hr hh
    exact rch_up hc10 (h2 r hr hh)
  · intro r hr hh hfs hne2 u hu _ ha hn2
    have g := h3 r hr (hd r hr hh) hfs hne2 u hu hu ha hn2
    by_cases e : u = k
    · subst e
      rw [fu_s, fu_s]
      refine ⟨hc10, ?_⟩
      rcases hb with hb | hb
      · exact absurd hb g.1
      · omega
    · rw [fu_n e, fu_n e]
      exact g
  · intro _
    refine ⟨rch_up hc10 c1, c2, fun u hu hk2 ha hn2 => ?_⟩
    by_cases e : u = k
    · subst e
      rw [fu_s, fu_s]
      exact ⟨hc10, Int.le_refl _⟩
    · rw [fu_n e, fu_n e]
      exact c3 u hu (by omega) ha hn2
/-- a better way to the unit k, and on to the row q that has it -/
theorem bfs_held (hp : pot n al w P pr pu top) (hj : inj n P) (hPl : ∀ r, r < n → P r ≤ 12) (h : bfs n al w P pr rd ud fr ch fs cur k) (hn : n ≤ 10) (hcur : cur < n) (hk : k < 12) (hal : al cur k) (hne : P cur ≠ k) (hb : fr k = 10 ∨ rd cur + w cur k < ud k) {q : Nat} (hq : q < n) (hqk : P q = k) :
    bfs n al w P pr (fu rd q (rd cur + w cur k - w q k)) (fu ud k (rd cur + w cur k)) (fu fr k cur) (fu ch q (q :: ch cur)) (fu fs q true) cur (k + 1) := by
  obtain ⟨⟨b1, b2, b3, b4, b5, b6⟩, h2, h3, h4⟩ := h
  obtain ⟨c1, c2, c3⟩ := h4 hcur
  obtain ⟨p1, p2, p3, p4⟩ := hp
  have hc10 : cur ≠ 10 := by omega
  have hqc : q ≠ cur := fun e => hne (by rw [← e]; exact hqk)
  have hcq : cur ≠ q := fun e => hqc e.symm
  have hq12 : P q ≠ 12 := by omega
  have hoth : ∀ r, r < n → r ≠ q → P r ≠ k := fun r hr e1 e2 => e1 (hj r q hr hq (by rw [e2, hqk]) (by omega))
  have hpu : pu k ≤ rd cur + w cur k := by
    have := p1 cur k hcur hk hal
    have := b4 cur hcur c1
    omega
  have hpq : w q k + pr q = pu k := by have := p2 q hq hq12; rw [hqk] at this; exact this
  have hred : rd cur - pr cur ≤ (rd cur + w cur k - w q k) - pr q := by
    have := p1 cur k hcur hk hal
    omega
  -- the row q's new label is less than its old one, if it had one
  have hless : rch P fr q → rd cur + w cur k - w q k < rd q := by
    intro hh
    rcases hh with hh | hh
    · exact absurd hh hq12
    · have g := b2 q hq hq12 hh
      rw [hqk] at g hh
      rcases hb with hb | hb
      · exact absurd hb hh
      · omega
  have hle : ∀ x, rch P fr x → fu rd q (rd cur + w cur k - w q k) x ≤ rd x := by
    intro x hx
    by_cases e : x = q
    · subst e
      rw [fu_s]
      have := hless hx
      omega
    · rw [fu_n e]
      exact Int.le_refl _
  have hup : ∀ r, rch P fr r → rch P (fu fr k cur) r := fun r hh => rch_up hc10 hh
  have hdn : ∀ r, r < n → r ≠ q → rch P (fu fr k cur) r → rch P fr r := fun r hr e hh => rch_dn (hoth r hr e) hh
  have hnot : q ∉ ch cur := by
    intro hm
    obtain ⟨e1, -, -⟩ := b5 cur hcur c1
    obtain ⟨-, f2, f3⟩ := e1 q hm
    have := hless f2
    omega
  refine ⟨⟨?_, ?_, ?_, ?_, ?_, ?_⟩, ?_, ?_, ?_⟩
  · intro r hr hP
    have e : r ≠ q := fun e => hq12 (by rw [← e]; exact hP)
    rw [fu_n e, fu_n e]
    exact b1 r hr hP
  · intro r hr hP hfr
    by_cases e : r = q
    · subst e
      rw [hqk, fu_s, fu_s]
    · have := hoth r hr e
      rw [fu_n this] at hfr ⊢
      rw [fu_n e]
      exact b2 r hr hP hfr
  · intro u hu hfr
    by_cases e : u = k
    · subst e
      rw [fu_s, fu_s, fu_n hcq]
      exact ⟨hcur, hal, hne, hup _ c1, Int.le_refl _⟩
    · rw [fu_n e] at hfr ⊢
      rw [fu_n e]
      obtain ⟨d1, d2, d3, d4, d5⟩ := b3 u hu hfr
      have := hle (fr u) d4
      exact ⟨d1, d2, d3, hup _ d4, by omega⟩
  · intro r hr hh
    by_cases e : r = q
    · subst e
      rw [fu_s]
      omega
    · rw [fu_n e]
      exact b4 r hr (hdn r hr e hh)
  · intro r hr hh
    by_cases e : r = q
    · subst e
      rw [fu_s, fu_s]
      obtain ⟨e1, e2, -⟩ := b5 cur hcur c1
      refine ⟨fun x hx => ?_, List.nodup_cons.mpr ⟨hnot, e2⟩, List.mem_cons_self⟩
      rcases List.mem_cons.mp hx with hx | hx
      · subst hx
        rw [fu_s]
        exact ⟨hr, hh, Int.le_refl _⟩
      · obtain ⟨f1, f2, f3⟩ := e1 x hx
        have := hle x f2
        exact ⟨f1, hup _ f2, by omega⟩
    · rw [fu_n e, fu_n e]
      obtain ⟨e1, e2, e3⟩ := b5 r hr (hdn r hr e hh)
      refine ⟨fun x hx => ?_, e2, e3⟩
      obtain ⟨f1, f2, f3⟩ := e1 x hx
      have := hle x f2
      exact ⟨f1, hup _ f2, by omega⟩
  · intro r hr hP hfr
    by_cases e : r = q
    · subst e
      refine Or.inr ?_
      simp only [hqk, fu_s, fu_n hcq]
    · have hk2 := hoth r hr e
      rw [fu_n hk2] at hfr ⊢
      rw [fu_n hk2, fu_n e]
      have hu12 : P r < 12 := by have := hPl r hr; omega
      have g := b6 r hr hP hfr
      by_cases e2 : fr (P r) = q
      · left
        obtain ⟨d1, d2, d3, d4, d5⟩ := b3 (P r) hu12 hfr
        rw [e2] at d4 d5
        rw [e2, fu_s]
        have := hless d4
        omega
      · rw [fu_n e2, fu_n e2]
        exact g
  · intro r hr hfs
    by_cases e : r = q
    · subst e
      exact Or.inr (by rw [hqk, fu_s]; exact hc10)
    · rw [fu_n e] at hfs
      exact hup _ (h2 r hr hfs)
  · intro r hr hh hfs hne2 u hu _ ha hn2
    have e : r ≠ q := fun e => by rw [e, fu_s] at hfs; cases hfs
    rw [fu_n e] at hfs ⊢
    have g := h3 r hr (hdn r hr e hh) hfs hne2 u hu hu ha hn2
    by_cases e2 : u = k
    · subst e2
      rw [fu_s, fu_s]
      refine ⟨hc10, ?_⟩
      rcases hb with hb | hb
      · exact absurd hb g.1
      · omega
    · rw [fu_n e2, fu_n e2]
      exact g
  · intro _
    refine ⟨hup _ c1, by rw [fu_n hcq]; exact c2, fun u hu hk2 ha hn2 => ?_⟩
    rw [fu_n hcq]
    by_cases e : u = k
    · subst e
      rw [fu_s, fu_s]
      exact ⟨hc10, Int.le_refl _⟩
    · rw [fu_n e, fu_n e]
      exact c3 u hu (by omega) ha hn2
end BF
section BF2
variable {n : Nat} {al : Nat → Nat → Prop} {w : Nat → Nat → Int} {P : Nat → Nat} {pr pu rd ud : Nat → Int} {top : Int} {fr : Nat → Nat} {ch : Nat → List Nat} {fs : Nat → Bool} {cur k : Nat}
/-- the search has come to its end: no row is to be looked at again -/
def bfe (n : Nat) (al : Nat → Nat → Prop) (w : Nat → Nat → Int) (P : Nat → Nat) (pr rd ud : Nat → Int) (fr : Nat → Nat) (ch : Nat → List Nat) : Prop :=
  bf n al w P pr rd ud fr ch ∧ ∀ r, r < n → rch P fr r → rlx al w P rd ud fr r 12
/-- at the start of a search: the rows without a unit are to be looked at -/
theorem bfs_start (hp : pot n al w P pr pu top) (hfr : ∀ u, u < 12 → fr u = 10) (hrd : ∀ r, r < n → rd r = 0) (hfs : ∀ r, r < n → fs r = decide (P r = 12)) (hPl : ∀ r, r < n → P r ≤ 12) : bfs n al w P pr rd ud fr (fun r => [r]) fs n 0 := by
  obtain ⟨p1, p2, p3, p4⟩ := hp
  have hun : ∀ r, r < n → P r ≠ 12 → ¬ fr (P r) ≠ 10 := fun r hr e h => h (hfr (P r) (by have := hPl r hr; omega))
  have hre : ∀ r, r < n → rch P fr r → P r = 12 := fun r hr h => by
    rcases h with h | h
    · exact h
    · by_cases e : P r = 12
      · exact e
      · exact absurd h (hun r hr e)
  refine ⟨⟨?_, ?_, ?_, ?_, ?_, ?_⟩, ?_, ?_, ?_⟩
  · intro r hr hP
    exact ⟨hrd r hr, rfl⟩
  · intro r hr hP hf
    exact absurd hf (hun r hr hP)
  · intro u hu hf
    exact absurd (hfr u hu) hf
  · intro r hr hh
    have := (p3 r hr).2 (hre r hr hh)
    have := hrd r hr
    omega
  · intro r hr hh
    refine ⟨fun x hx => ?_, by simp, by simp⟩
    rw [List.mem_singleton] at hx
    subst hx
    exact ⟨hr, hh, Int.le_refl _⟩
  · intro r hr hP hf
    exact absurd hf (hun r hr hP)
  · intro r hr h
    rw [hfs r hr] at h
    exact Or.inl (of_decide_eq_true h)
  · intro r hr hh hf
    rw [hfs r hr] at hf
    exact absurd (hre r hr hh) (of_decide_eq_false hf)
  · intro h
    exact absurd h (Nat.lt_irrefl n)
/-- a row is taken up -/
theorem bfs_take (h : bfs n al w P pr rd ud fr ch fs n 0) (hcur : cur < n) (hf : fs cur = true) : bfs n al w P pr rd ud fr ch (fu fs cur false) cur 0 := by
  obtain ⟨h1, h2, h3, h4⟩ := h
  refine ⟨h1, ?_, ?_, ?_⟩
  · intro r hr hh
    by_cases e : r = cur
    · rw [e]; exact h2 cur hcur hf
    · rw [fu_n e] at hh
      exact h2 r hr hh
  · intro r hr hh hfs hne
    rw [fu_n hne] at hfs
    exact h3 r hr hh hfs (by omega)
  · intro _
    refine ⟨h2 cur hcur hf, fu_s, fun u _ hk => absurd hk (Nat.not_lt_zero u)⟩
/-- .. and laid down -/
theorem bfs_done (h : bfs n al w P pr rd ud fr ch fs cur 12) : bfs n al w P pr rd ud fr ch fs n 0 := by
  obtain ⟨h1, h2, h3, h4⟩ := h
  refine ⟨h1, h2, ?_, fun h => absurd h (Nat.lt_irrefl n)⟩
  intro r hr hh hfs _
  by_cases e : r = cur
  · subst e
    exact (h4 hr).2.2
  · exact h3 r hr hh hfs e
theorem bfs_end (h : bfs n al w P pr rd ud fr ch fs n 0) (hf : ∀ r, r < n → fs r = false) : bfe n al w P pr rd ud fr ch := by
  obtain ⟨h1, h2, h3, -⟩ := h
  exact ⟨h1, fun r hr hh => h3 r hr hh (hf r hr) (by omega)⟩
/-- behind the search a unit's label is that of its row with the pair -/
theorem bfe_eq (h : bfe n al w P pr rd ud fr ch) {u : Nat} (hu : u < 12) (hf : fr u ≠ 10) : ud u = rd (fr u) + w (fr u) u := by
  obtain ⟨⟨-, -, b3, -, -, -⟩, h2⟩ := h
  obtain ⟨d1, d2, d3, d4, d5⟩ := b3 u hu hf
  have := (h2 (fr u) d1 d4 u hu hu d2 d3).2
  omega
theorem bfe_ch (h : bfe n al w P pr rd ud fr ch) {r : Nat} (hr : r < n) (hP : P r < 12) (hf : fr (P r) ≠ 10) : ch r = r :: ch (fr (P r)) := by
  have e := bfe_eq h hP hf
  obtain ⟨⟨-, -, -, -, -, b6⟩, -⟩ := h
  rcases b6 r hr (by omega) hf with g | g
  · omega
  · exact g
/-- the way of rows to a unit -/
def pth (P fr : Nat → Nat) : Nat → List Nat → Prop
  | u, [] => u = 12
  | u, x :: l => u ≠ 12 ∧ fr u = x ∧ pth P fr (P x) l
theorem bfe_pth (h : bfe n al w P pr rd ud fr ch) (hPl : ∀ r, r < n → P r ≤ 12) : ∀ (m r : Nat), r < n → rch P fr r → (ch r).length ≤ m → ∃ l, ch r = r :: l ∧ pth P fr (P r) l
  | 0, r, hr, hc, hm => by
    obtain ⟨⟨-, -, -, -, b5, -⟩, -⟩ := h
    have := (b5 r hr hc).2.2
    cases hl : ch r with
    | nil => rw [hl] at this; cases this
    | cons y t => rw [hl] at hm; simp at hm
  | m + 1, r, hr, hc, hm => by
    by_cases e : P r = 12
    · obtain ⟨⟨b1, -⟩, -⟩ := h
      exact ⟨[], (b1 r hr e).2, e⟩
    · have hlt : P r < 12 := by have := hPl r hr; omega
      have hf : fr (P r) ≠ 10 := by
        rcases hc with hc | hc
        · exact absurd hc e
        · exact hc
      have hch := bfe_ch h hr hlt hf
      have hx : fr (P r) < n ∧ rch P fr (fr (P r)) := by
        obtain ⟨⟨-, -, b3, -, -, -⟩, -⟩ := h
        obtain ⟨d1, d2, d3, d4, d5⟩ := b3 (P r) hlt hf
        exact ⟨d1, d4⟩
      obtain ⟨l, hl, hp⟩ := bfe_pth h hPl m (fr (P r)) hx.1 hx.2 (by rw [hch] at hm; simp at hm; omega)
      exact ⟨ch (fr (P r)), hch, by rw [hl]; exact ⟨e, rfl, hp⟩⟩
/-- the pairs along a way are turned -/
def turn : List Nat → Nat → (Nat → Nat) → Nat → Nat
  | [], _, P => P
  | x :: l, u, P => turn l (P x) (fu P x u)
theorem turn_out : ∀ (l : List Nat) (u : Nat) (P : Nat → Nat) (r : Nat), r ∉ l → turn l u P r = P r
  | [], _, _, _, _ => rfl
  | x :: l, u, P, r, h => by
    have h1 : r ≠ x := fun e => h (by rw [e]; exact List.mem_cons_self)
    have h2 : r ∉ l := fun e => h (List.mem_cons_of_mem _ e)
    show turn l (P x) (fu P x u) r = P r
    rw [turn_out l _ _ r h2, fu_n h1]
theorem pth_up {P fr : Nat → Nat} {x v : Nat} : ∀ (l : List Nat) (u : Nat), x ∉ l → pth P fr u l → pth (fu P x v) fr u l
  | [], _, _, h => h
  | y :: l, u, hx, h => by
    obtain ⟨h1, h2, h3⟩ := h
    have e : y ≠ x := fun e => hx (by rw [e]; exact List.mem_cons_self)
    refine ⟨h1, h2, ?_⟩
    rw [fu_n e]
    exact pth_up l _ (fun q => hx (List.mem_cons_of_mem _ q)) h3
/-- a row of the way has now the unit whose row it is -/
theorem turn_in {fr : Nat → Nat} : ∀ (l : List Nat) (u : Nat) (P : Nat → Nat), l.Nodup → pth P fr u l → ∀ r, r ∈ l → turn l u P r ≠ 12 ∧ fr (turn l u P r) = r ∧ (turn l u P r = u ∨ ∃ x, x ∈ l ∧ P x = turn l u P r)
  | [], _, _, _, _, r, h => by cases h
  | x :: l, u, P, hd, hp, r, h => by
    obtain ⟨hx, hd2⟩ := List.nodup_cons.mp hd
    obtain ⟨p1, p2, p3⟩ := hp
    by_cases e : r = x
    · subst e
      show turn l (P r) (fu P r u) r ≠ 12 ∧ fr (turn l (P r) (fu P r u) r) = r ∧ (turn l (P r) (fu P r u) r = u ∨ _)
      rw [turn_out l _ _ r hx, fu_s]
      exact ⟨p1, p2, Or.inl rfl⟩
    · have hm : r ∈ l := by
        rcases List.mem_cons.mp h with h | h
        · exact absurd h e
        · exact h
      obtain ⟨q1, q2, q3⟩ := turn_in l (P x) (fu P x u) hd2 (pth_up l (P x) hx p3) r hm
      refine ⟨q1, q2, Or.inr ?_⟩
      rcases q3 with q3 | ⟨y, hy, q3⟩
      · exact ⟨x, List.mem_cons_self, q3.symm⟩
      · have e2 : y ≠ x := fun e2 => hx (by rw [← e2]; exact hy)
        rw [fu_n e2] at q3
        exact ⟨y, List.mem_cons_of_mem _ hy, q3⟩
theorem ky_up {n : Nat} {w : Nat → Nat → Int} {P : Nat → Nat} {x u : Nat} (hx : x < n) : ky n w (fu P x u) = ky n w P - kyf w P x + (if u = 12 then 0 else w x u) := by
  have h : ky n w (fu P x u) = sm (fun i => if i = x then (if u = 12 then 0 else w x u) else kyf w P i) n := sm_congr (fun i _ => by
    show (if fu P x u i = 12 then 0 else w i (fu P x u i)) = _
    by_cases e : i = x
    · subst e
      rw [fu_s, if_pos rfl]
    · rw [fu_n e, if_neg e]
      rfl)
  rw [h, sm_upd hx]
  rfl
/-- what a turned way saves: the unit's label, for any weights that the labels fit -/
theorem turn_ky {n : Nat} {w : Nat → Nat → Int} {fr : Nat → Nat} {rd ud : Nat → Int} : ∀ (l : List Nat) (u : Nat) (P : Nat → Nat), l.Nodup → pth P fr u l → (∀ x, x ∈ l → x < n) →
    (∀ v, v ≠ 12 → fr v ∈ l → ud v = rd (fr v) + w (fr v) v) → (∀ x, x ∈ l → rd x = if P x = 12 then 0 else ud (P x) - w x (P x)) →
    ky n w (turn l u P) = ky n w P + if u = 12 then 0 else ud u
  | [], u, P, _, hp, _, _, _ => by
    have e : u = 12 := hp
    rw [if_pos e]
    show ky n w P = ky n w P + 0
    omega
  | x :: l, u, P, hd, hp, hn, h1, h2 => by
    obtain ⟨hx, hd2⟩ := List.nodup_cons.mp hd
    obtain ⟨p1, p2, p3⟩ := hp
    have hne : ∀ y, y ∈ l → y ≠ x := fun y hy e => hx (by rw [← e]; exact hy)
    have ih := turn_ky (n := n) (w := w) (fr := fr) (rd := rd) (ud := ud) l (P x) (fu P x u) hd2 (pth_up l (P x) hx p3) (fun y hy => hn y (List.mem_cons_of_mem _ hy)) (fun v hv hm => h1 v hv (List.mem_cons_of_mem _ hm))
      (fun y hy => by rw [fu_n (hne y hy)]; exact h2 y (List.mem_cons_of_mem _ hy))
    show ky n w (turn l (P x) (fu P x u)) = _
    rw [ih, ky_up (hn x List.mem_cons_self), if_neg p1, if_neg p1]
    have a := h1 u p1 (by rw [p2]; exact List.mem_cons_self)
    have b := h2 x List.mem_cons_self
    rw [p2] at a
    have c : kyf w P x = if P x = 12 then 0 else w x (P x) := rfl
    rw [c]
    by_cases e : P x = 12
    · rw [if_pos e, if_pos e]
      rw [if_pos e] at b
      omega
    · rw [if_neg e, if_neg e]
      rw [if_neg e] at b
      omega
theorem turn_cn {n : Nat} {fr : Nat → Nat} : ∀ (l : List Nat) (u : Nat) (P : Nat → Nat), l.Nodup → pth P fr u l → (∀ x, x ∈ l → x < n) → cn n (turn l u P) = cn n P + if u = 12 then 0 else 1
  | [], u, P, _, hp, _ => by
    have e : u = 12 := hp
    rw [if_pos e]
    show cn n P = cn n P + 0
    omega
  | x :: l, u, P, hd, hp, hn => by
    obtain ⟨hx, hd2⟩ := List.nodup_cons.mp hd
    obtain ⟨p1, p2, p3⟩ := hp
    have ih := turn_cn (n := n) (fr := fr) l (P x) (fu P x u) hd2 (pth_up l (P x) hx p3) (fun y hy => hn y (List.mem_cons_of_mem _ hy))
    show cn n (turn l (P x) (fu P x u)) = _
    have k1 : cn n (fu P x u) = cn n P - cnf P x + 1 := by
      have h : cn n (fu P x u) = sm (fun i => if i = x then 1 else cnf P i) n := sm_congr (fun i _ => by
        show (if fu P x u i = 12 then 0 else 1) = _
        by_cases e : i = x
        · subst e
          rw [fu_s, if_pos rfl, if_neg p1]
        · rw [fu_n e, if_neg e]
          rfl)
      rw [h, sm_upd (hn x List.mem_cons_self)]
      rfl
    rw [ih, k1, if_neg p1]
    have c : cnf P x = if P x = 12 then 0 else 1 := rfl
    rw [c]
    by_cases e : P x = 12
    · rw [if_pos e]; omega
    · rw [if_neg e]; omega
end BF2
end
section
/-! Pure rows: a turned cheapest way gives a best pairing of one row more; no way left: a best pairing of all. -/
/-- the unit that a row of the way had goes to a row of the way -/
theorem aug_next {fr : Nat → Nat} : ∀ (l : List Nat) (u : Nat) (P : Nat → Nat), l.Nodup → pth P fr u l → ∀ r, r ∈ l → P r ≠ 12 → (∀ y, y ∈ l → turn l u P y ≠ P r) → False
  | [], _, _, _, _, r, h, _, _ => by cases h
  | x :: l, u, P, hd, hp, r, h, h12, hy => by
    obtain ⟨hx, hd2⟩ := List.nodup_cons.mp hd
    obtain ⟨p1, p2, p3⟩ := hp
    by_cases e : r = x
    · subst e
      -- the next row of the way takes it
      cases l with
      | nil => exact h12 p3
      | cons y t =>
        obtain ⟨q1, q2, q3⟩ := p3
        have hyn : y ∉ t := (List.nodup_cons.mp hd2).1
        have := hy y (List.mem_cons_of_mem _ List.mem_cons_self)
        apply this
        show turn t (fu P r u y) (fu (fu P r u) y (P r)) y = P r
        rw [turn_out t _ _ y hyn, fu_s]
    · have hm : r ∈ l := by
        rcases List.mem_cons.mp h with h | h
        · exact absurd h e
        · exact h
      refine aug_next l (P x) (fu P x u) hd2 (pth_up l (P x) hx p3) r hm (by rw [fu_n e]; exact h12) (fun y hyl => ?_)
      rw [fu_n e]
      exact hy y (List.mem_cons_of_mem _ hyl)
theorem aug_head {fr : Nat → Nat} : ∀ (l : List Nat) (u : Nat) (P : Nat → Nat), l.Nodup → pth P fr u l → fr u ∈ l → turn l u P (fr u) = u
  | [], _, _, _, _, h => by cases h
  | x :: l, u, P, hd, hp, h => by
    obtain ⟨hx, hd2⟩ := List.nodup_cons.mp hd
    obtain ⟨p1, p2, p3⟩ := hp
    rw [p2]
    show turn l (P x) (fu P x u) x = u
    rw [turn_out l _ _ x hx, fu_s]
section AUG
variable {n : Nat} {al : Nat → Nat → Prop} {w : Nat → Nat → Int} {P : Nat → Nat} {pr pu rd ud : Nat → Int} {top : Int} {fr : Nat → Nat} {ch : Nat → List Nat}
theorem aug_way (hok : okP n al P) (h : bfe n al w P pr rd ud fr ch) {e : Nat} (he : e < 12) (hfe : fr e ≠ 10) : pth P fr e (ch (fr e)) ∧ (ch (fr e)).Nodup ∧ (∀ x, x ∈ ch (fr e) → x < n ∧ rch P fr x ∧ rd x - pr x ≤ rd (fr e) - pr (fr e)) ∧ fr e < n := by
  have hx : fr e < n ∧ rch P fr (fr e) := by
    obtain ⟨⟨-, -, b3, -, -, -⟩, -⟩ := h
    obtain ⟨d1, d2, d3, d4, d5⟩ := b3 e he hfe
    exact ⟨d1, d4⟩
  obtain ⟨l, hl, hp⟩ := bfe_pth h hok.le _ (fr e) hx.1 hx.2 (Nat.le_refl _)
  obtain ⟨⟨-, -, -, -, b5, -⟩, -⟩ := h
  obtain ⟨a, b, -⟩ := b5 (fr e) hx.1 hx.2
  refine ⟨?_, b, a, hx.1⟩
  rw [hl]
  exact ⟨by omega, rfl, hp⟩
/-- the units that the turned way gives are of the pairing, or the free one -/
theorem aug_fit (hok : okP n al P) (h : bfe n al w P pr rd ud fr ch) {e : Nat} (he : e < 12) (hfe : fr e ≠ 10) {r : Nat} (hr : r ∈ ch (fr e)) : turn (ch (fr e)) e P r < 12 ∧ fr (turn (ch (fr e)) e P r) = r ∧ (turn (ch (fr e)) e P r = e ∨ ∃ x, x ∈ ch (fr e) ∧ P x = turn (ch (fr e)) e P r) := by
  obtain ⟨w1, w2, w3, w4⟩ := aug_way hok h he hfe
  obtain ⟨q1, q2, q3⟩ := turn_in _ e P w2 w1 r hr
  refine ⟨?_, q2, q3⟩
  rcases q3 with q3 | ⟨x, hx, q3⟩
  · omega
  · have := hok.le x (w3 x hx).1
    omega
theorem aug_ok (hok : okP n al P) (h : bfe n al w P pr rd ud fr ch) {e : Nat} (he : e < 12) (hfe : fr e ≠ 10) (hfree : ∀ r, r < n → P r ≠ e) : okP n al (turn (ch (fr e)) e P) := by
  obtain ⟨w1, w2, w3, w4⟩ := aug_way hok h he hfe
  refine ⟨fun r hr => ?_, fun r q hr hq e1 e2 => ?_⟩
  · by_cases hm : r ∈ ch (fr e)
    · obtain ⟨f1, f2, f3⟩ := aug_fit hok h he hfe hm
      obtain ⟨⟨-, -, b3, -, -, -⟩, -⟩ := h
      have hr10 : fr (turn (ch (fr e)) e P r) ≠ 10 := by
        rcases f3 with f3 | ⟨x, hx, f3⟩
        · rw [f3]; exact hfe
        · rcases (w3 x hx).2.1 with g | g
          · omega
          · rw [← f3]; exact g
      obtain ⟨d1, d2, d3, d4, d5⟩ := b3 _ f1 hr10
      rw [f2] at d2
      exact Or.inr ⟨f1, d2⟩
    · rw [turn_out _ _ _ r hm]
      exact hok.1 r hr
  · by_cases h1 : r ∈ ch (fr e) <;> by_cases h2 : q ∈ ch (fr e)
    · have f1 := (aug_fit hok h he hfe h1).2.1
      have f2 := (aug_fit hok h he hfe h2).2.1
      rw [e1] at f1
      exact f1.symm.trans f2
    · have f1 := (aug_fit hok h he hfe h1).2.2
      rw [turn_out _ _ _ q h2] at e1
      rw [e1] at f1 e2
      rcases f1 with f1 | ⟨x, hx, f1⟩
      · exact absurd f1 (hfree q hq)
      · have := hok.2 q x hq (w3 x hx).1 f1.symm e2
        exact absurd (by rw [this]; exact hx) h2
    · have f1 := (aug_fit hok h he hfe h2).2.2
      rw [turn_out _ _ _ r h1] at e1 e2
      rw [← e1] at f1
      rcases f1 with f1 | ⟨x, hx, f1⟩
      · exact absurd f1 (hfree r hr)
      · have := hok.2 r x hr (w3 x hx).1 f1.symm e2
        exact absurd (by rw [this]; exact hx) h1
    · rw [turn_out _ _ _ r h1] at e1 e2
      rw [turn_out _ _ _ q h2] at e1
      exact hok.2 r q hr hq e1 e2
theorem aug_cn (hok : okP n al P) (h : bfe n al w P pr rd ud fr ch) {e : Nat} (he : e < 12) (hfe : fr e ≠ 10) : cn n (turn (ch (fr e)) e P) = cn n P + 1 := by
  obtain ⟨w1, w2, w3, w4⟩ := aug_way hok h he hfe
  have a := turn_cn (n := n) (fr := fr) _ e P w2 w1 (fun x hx => (w3 x hx).1)
  rw [if_neg (by omega)] at a
  exact a
theorem aug_ky (hn : n ≤ 10) (hok : okP n al P) (h : bfe n al w P pr rd ud fr ch) {e : Nat} (he : e < 12) (hfe : fr e ≠ 10) : ky n w (turn (ch (fr e)) e P) = ky n w P + ud e := by
  obtain ⟨w1, w2, w3, w4⟩ := aug_way hok h he hfe
  have a := turn_ky (n := n) (w := w) (fr := fr) (rd := rd) (ud := fun v => if v < 12 then ud v else rd (fr v) + w (fr v) v) _ e P w2 w1 (fun x hx => (w3 x hx).1) (fun v hv hm => by
      show (if v < 12 then ud v else rd (fr v) + w (fr v) v) = _
      by_cases hl : v < 12
      · rw [if_pos hl]
        exact bfe_eq h hl (by have := (w3 _ hm).1; omega)
      · rw [if_neg hl])
    (fun x hx => by
      obtain ⟨⟨b1, b2, -, -, -, -⟩, -⟩ := h
      obtain ⟨g1, g2, -⟩ := w3 x hx
      by_cases e2 : P x = 12
      · rw [if_pos e2]
        exact (b1 x g1 e2).1
      · rw [if_neg e2]
        have hl : P x < 12 := by have := hok.le x g1; omega
        show rd x = (if P x < 12 then ud (P x) else _) - w x (P x)
        rw [if_pos hl]
        rcases g2 with g2 | g2
        · exact absurd g2 e2
        · exact b2 x g1 e2 g2)
  rw [if_neg (by omega)] at a
  rw [a]
  show ky n w P + (if e < 12 then ud e else _) = _
  rw [if_pos he]
/-- the new potentials: what was found on the way, and d more where that isn't less -/
def npr (P fr : Nat → Nat) (pr rd : Nat → Int) (d : Int) : Nat → Int := fun r => if P r = 12 ∨ fr (P r) ≠ 10 then min (rd r) (pr r + d) else pr r + d
def npu (fr : Nat → Nat) (pu ud : Nat → Int) (d : Int) : Nat → Int := fun u => if fr u = 10 then pu u + d else min (ud u) (pu u + d)
/-- no allowed pair lies below the new potentials, for any d from 0 on -/
theorem np_low (hp : pot n al w P pr pu top) (hok : okP n al P) (h : bfe n al w P pr rd ud fr ch) {d : Int} (hd : 0 ≤ d) : ∀ r u, r < n → u < 12 → al r u → npu fr pu ud d u ≤ w r u + npr P fr pr rd d r := by
  intro r u hr hu ha
  obtain ⟨p1, p2, p3, p4⟩ := hp
  have g1 := p1 r u hr hu ha
  show (if fr u = 10 then pu u + d else min (ud u) (pu u + d)) ≤ w r u + (if P r = 12 ∨ fr (P r) ≠ 10 then min (rd r) (pr r + d) else pr r + d)
  by_cases hc : P r = 12 ∨ fr (P r) ≠ 10
  · rw [if_pos hc]
    by_cases e : P r = u
    · have hfu : fr u ≠ 10 := by
        rcases hc with hc | hc
        · omega
        · rw [← e]; exact hc
      rw [if_neg hfu]
      obtain ⟨⟨-, b2, -, -, -, -⟩, -⟩ := h
      have g := b2 r hr (by omega) (by rw [e]; exact hfu)
      have g2 := p2 r hr (by omega)
      rw [e] at g g2
      omega
    · obtain ⟨q1, q2⟩ := h.2 r hr hc u hu hu ha e
      rw [if_neg q1]
      omega
  · rw [if_neg hc]
    by_cases e : fr u = 10
    · rw [if_pos e]; omega
    · rw [if_neg e]; omega
/-- a pair of the old pairing lies on the new potentials -/
theorem np_old (hp : pot n al w P pr pu top) (hok : okP n al P) (h : bfe n al w P pr rd ud fr ch) {d : Int} : ∀ r, r < n → P r ≠ 12 → w r (P r) + npr P fr pr rd d r = npu fr pu ud d (P r) := by
  intro r hr hP
  obtain ⟨p1, p2, p3, p4⟩ := hp
  have g2 := p2 r hr hP
  show w r (P r) + (if P r = 12 ∨ fr (P r) ≠ 10 then min (rd r) (pr r + d) else pr r + d) = (if fr (P r) = 10 then pu (P r) + d else min (ud (P r)) (pu (P r) + d))
  by_cases hc : fr (P r) = 10
  · rw [if_neg (by
      intro q
      rcases q with q | q
      · exact hP q
      · exact q hc), if_pos hc]
    omega
  · rw [if_pos (Or.inr hc), if_neg hc]
    obtain ⟨⟨-, b2, -, -, -, -⟩, -⟩ := h
    have g := b2 r hr hP hc
    omega
theorem np_row (hp : pot n al w P pr pu top) (h : bfe n al w P pr rd ud fr ch) {d : Int} (hd : 0 ≤ d) : ∀ r, r < n → 0 ≤ npr P fr pr rd d r ∧ (P r = 12 → npr P fr pr rd d r = 0) := by
  intro r hr
  obtain ⟨p1, p2, p3, p4⟩ := hp
  obtain ⟨g1, g2⟩ := p3 r hr
  obtain ⟨⟨b1, -, -, b4, -, -⟩, -⟩ := h
  show 0 ≤ (if P r = 12 ∨ fr (P r) ≠ 10 then min (rd r) (pr r + d) else pr r + d) ∧ (P r = 12 → (if P r = 12 ∨ fr (P r) ≠ 10 then min (rd r) (pr r + d) else pr r + d) = 0)
  refine ⟨?_, fun e => ?_⟩
  · by_cases hc : P r = 12 ∨ fr (P r) ≠ 10
    · rw [if_pos hc]
      have := b4 r hr hc
      omega
    · rw [if_neg hc]
      omega
  · rw [if_pos (Or.inl e)]
    have := (b1 r hr e).1
    have := g2 e
    omega
/-- one row more has a unit: the best pairing's potentials -/
theorem aug_pot (hn : n ≤ 10) (hp : pot n al w P pr pu top) (hok : okP n al P) (h : bfe n al w P pr rd ud fr ch) {e : Nat} (he : e < 12) (hfe : fr e ≠ 10) (hfree : ∀ r, r < n → P r ≠ e)
    (hmin : ∀ u, u < 12 → (∀ r, r < n → P r ≠ u) → fr u ≠ 10 → ud e ≤ ud u) : pot n al w (turn (ch (fr e)) e P) (npr P fr pr rd (ud e - top)) (npu fr pu ud (ud e - top)) (ud e) := by
  obtain ⟨w1, w2, w3, w4⟩ := aug_way hok h he hfe
  have hfit := fun r hr => aug_fit (r := r) hok h he hfe hr
  have hpe : pu e = top := (hp.2.2.2 e he).2 hfree
  have hde := bfe_eq h he hfe
  obtain ⟨d1, d2, d3, d4, d5⟩ : fr e < n ∧ al (fr e) e ∧ P (fr e) ≠ e ∧ rch P fr (fr e) ∧ rd (fr e) + w (fr e) e ≤ ud e := by
    obtain ⟨⟨-, -, b3, -, -, -⟩, -⟩ := h
    exact b3 e he hfe
  have hlo := hp.1 (fr e) e d1 he d2
  have hb4 : ∀ r, r < n → rch P fr r → pr r ≤ rd r := by
    obtain ⟨⟨-, -, -, b4, -, -⟩, -⟩ := h
    exact b4
  have hd : 0 ≤ ud e - top := by
    have := hb4 (fr e) d1 d4
    omega
  refine ⟨np_low hp hok h hd, ?_, ?_, ?_⟩
  · intro r hr hP
    by_cases hm : r ∈ ch (fr e)
    · obtain ⟨f1, f2, f3⟩ := hfit r hm
      obtain ⟨x1, x2, x3⟩ := w3 r hm
      generalize hu : turn (ch (fr e)) e P r = u at f1 f2 f3 hP ⊢
      have hu10 : fr u ≠ 10 := by omega
      have heq := bfe_eq h f1 hu10
      rw [f2] at heq
      show w r u + (if P r = 12 ∨ fr (P r) ≠ 10 then min (rd r) (pr r + (ud e - top)) else pr r + (ud e - top)) = (if fr u = 10 then pu u + (ud e - top) else min (ud u) (pu u + (ud e - top)))
      rw [if_pos (show P r = 12 ∨ fr (P r) ≠ 10 from x2), if_neg hu10]
      have hsu : ud u - pu u ≤ ud e - top := by
        rcases f3 with f3 | ⟨x, hx, f3⟩
        · rw [f3, hpe]; exact Int.le_refl _
        · obtain ⟨y1, y2, y3⟩ := w3 x hx
          obtain ⟨⟨-, b2, -, -, -, -⟩, -⟩ := h
          have hx12 : P x ≠ 12 := by omega
          have k1 := b2 x y1 hx12 (by rw [f3]; exact hu10)
          have k2 := hp.2.1 x y1 hx12
          rw [f3] at k1 k2
          omega
      omega
    · rw [turn_out _ _ _ r hm] at hP ⊢
      exact np_old hp hok h r hr hP
  · intro r hr
    obtain ⟨g1, g2⟩ := np_row hp h hd r hr
    refine ⟨g1, fun e2 => ?_⟩
    by_cases hm : r ∈ ch (fr e)
    · have := (hfit r hm).1
      omega
    · rw [turn_out _ _ _ r hm] at e2
      exact g2 e2
  · intro u hu
    have g1 := (hp.2.2.2 u hu).1
    refine ⟨?_, fun hf => ?_⟩
    · show (if fr u = 10 then pu u + (ud e - top) else min (ud u) (pu u + (ud e - top))) ≤ ud e
      by_cases e2 : fr u = 10
      · rw [if_pos e2]; omega
      · rw [if_neg e2]; omega
    · have hf2 : ∀ r, r < n → P r ≠ u := by
        intro r hr e2
        by_cases hm : r ∈ ch (fr e)
        · -- the unit of a row of the way goes to the next row of it
          exact aug_next (fr := fr) _ e P w2 w1 r hm (by omega) (fun y hy => by
            have := hf y (w3 y hy).1
            rw [e2]
            exact this)
        · have := hf r hr
          rw [turn_out _ _ _ r hm] at this
          exact this e2
      have hue : u ≠ e := by
        intro e2
        have := hf (fr e) d1
        exact this (by
          have hm : fr e ∈ ch (fr e) := by
            obtain ⟨⟨-, -, -, -, b5, -⟩, -⟩ := h
            exact (b5 (fr e) d1 d4).2.2
          rw [e2]
          exact aug_head (fr := fr) _ e P w2 w1 hm)
      have g3 := (hp.2.2.2 u hu).2 hf2
      show (if fr u = 10 then pu u + (ud e - top) else min (ud u) (pu u + (ud e - top))) = ud e
      by_cases e2 : fr u = 10
      · rw [if_pos e2]; omega
      · rw [if_neg e2]
        have := hmin u hu hf2 e2
        omega
end AUG
end
section
/-! Pure rows: no way left; the weights of the class: cost * 2^60 + tie; each way found saves. -/
theorem stop_pot {n : Nat} {al : Nat → Nat → Prop} {w : Nat → Nat → Int} {P : Nat → Nat} {pr pu rd ud : Nat → Int} {top : Int} {fr : Nat → Nat} {ch : Nat → List Nat} (hp : pot n al w P pr pu top) (hok : okP n al P) (h : bfe n al w P pr rd ud fr ch)
    (hnone : ∀ u, u < 12 → (∀ r, r < n → P r ≠ u) → fr u = 10) {d : Int} (hd : 0 ≤ d) : pot n al w P (npr P fr pr rd d) (npu fr pu ud d) (top + d) := by
  refine ⟨np_low hp hok h hd, np_old hp hok h, np_row hp h hd, fun u hu => ?_⟩
  have g1 := (hp.2.2.2 u hu).1
  refine ⟨?_, fun hf => ?_⟩
  · show (if fr u = 10 then pu u + d else min (ud u) (pu u + d)) ≤ top + d
    by_cases e2 : fr u = 10
    · rw [if_pos e2]; omega
    · rw [if_neg e2]; omega
  · have g3 := (hp.2.2.2 u hu).2 hf
    show (if fr u = 10 then pu u + d else min (ud u) (pu u + d)) = top + d
    rw [if_pos (hnone u hu hf), g3]
/-- a pairing that is the best of all with at most so many units -/
def best (n : Nat) (al : Nat → Nat → Prop) (w : Nat → Nat → Int) (most : Int) (P : Nat → Nat) : Prop := okP n al P ∧ cn n P ≤ most ∧ ∀ Q, okP n al Q → cn n Q ≤ most → ky n w P ≤ ky n w Q
/-- the state between two ways: a best pairing of its number -/
def upto (n : Nat) (al : Nat → Nat → Prop) (w : Nat → Nat → Int) (P : Nat → Nat) : Prop := okP n al P ∧ ∃ (pr pu : Nat → Int) (top : Int), top ≤ 0 ∧ pot n al w P pr pu top
theorem upto_best {n : Nat} {al : Nat → Nat → Prop} {w : Nat → Nat → Int} {P : Nat → Nat} (h : upto n al w P) : best n al w (cn n P) P := by
  obtain ⟨hok, pr, pu, top, ht, hp⟩ := h
  exact ⟨hok, Int.le_refl _, fun Q hQ hc => pot_best_le hp hok hQ ht hc⟩
theorem upto_all {n : Nat} {al : Nat → Nat → Prop} {w : Nat → Nat → Int} {P : Nat → Nat} {pr pu rd ud : Nat → Int} {top : Int} {fr : Nat → Nat} {ch : Nat → List Nat} (ht : top ≤ 0) (hp : pot n al w P pr pu top) (hok : okP n al P) (h : bfe n al w P pr rd ud fr ch)
    (hnone : ∀ u, u < 12 → (∀ r, r < n → P r ≠ u) → fr u = 10) {most : Int} (hm : cn n P ≤ most) : best n al w most P := by
  refine ⟨hok, hm, fun Q hQ hc => ?_⟩
  by_cases e : cn n Q ≤ cn n P
  · exact pot_best_le hp hok hQ ht e
  · exact pot_best_ge (stop_pot hp hok h hnone (d := - top) (by omega)) hok hQ (by omega) (by omega)
/-- the first pairing: none -/
theorem upto_none {n : Nat} {al : Nat → Nat → Prop} {w : Nat → Nat → Int} {P : Nat → Nat} (hP : ∀ r, r < n → P r = 12) {b : Int} (hb : b ≤ 0) (hw : ∀ r u, r < n → u < 12 → al r u → b ≤ w r u) : upto n al w P := by
  refine ⟨⟨fun r hr => Or.inl (hP r hr), fun r q hr hq e1 e2 => absurd (hP r hr) e2⟩, fun _ => 0, fun _ => b, b, hb, ?_, ?_, ?_, ?_⟩
  · intro r u hr hu ha
    have := hw r u hr hu ha
    show b ≤ w r u + 0
    omega
  · intro r hr h
    exact absurd (hP r hr) h
  · intro r hr
    exact ⟨Int.le_refl 0, fun _ => rfl⟩
  · intro u hu
    exact ⟨Int.le_refl b, fun _ => rfl⟩
theorem cn_none {n : Nat} {P : Nat → Nat} (hP : ∀ r, r < n → P r = 12) : cn n P = 0 := by
  have h : cn n P = sm (fun _ => 0) n := sm_congr (fun i hi => if_pos (hP i hi))
  rw [h, sm_zero]
/-- the weights of two parts in one -/
theorem ky_two (n : Nat) (a b : Nat → Nat → Int) (k : Int) (P : Nat → Nat) : ky n (fun r u => a r u * k + b r u) P = ky n a P * k + ky n b P := by
  have h : ky n (fun r u => a r u * k + b r u) P = sm (fun i => kyf a P i * k + kyf b P i) n := sm_congr (fun i _ => by
    show (if P i = 12 then 0 else a i (P i) * k + b i (P i)) = (if P i = 12 then 0 else a i (P i)) * k + (if P i = 12 then 0 else b i (P i))
    by_cases e : P i = 12
    · rw [if_pos e, if_pos e, if_pos e]; omega
    · rw [if_neg e, if_neg e, if_neg e])
  rw [h, sm_add, sm_mul]
  rfl
/-- bounds of what a pairing weighs -/
theorem ky_bounds {n : Nat} {a : Nat → Nat → Int} {P : Nat → Nat} {lo hi : Int} (hlo : lo ≤ 0) (hhi : 0 ≤ hi) (h : ∀ r, r < n → P r ≠ 12 → lo ≤ a r (P r) ∧ a r (P r) ≤ hi) : n * lo ≤ ky n a P ∧ ky n a P ≤ n * hi := by
  have e1 : sm (fun _ => 1 * lo) n = n * lo := by rw [sm_mul lo (fun _ => 1), sm_one]
  have e2 : sm (fun _ => 1 * hi) n = n * hi := by rw [sm_mul hi (fun _ => 1), sm_one]
  rw [← e1, ← e2]
  refine ⟨sm_le (fun i hi2 => ?_), sm_le (fun i hi2 => ?_)⟩
  · show 1 * lo ≤ if P i = 12 then 0 else a i (P i)
    by_cases e : P i = 12
    · rw [if_pos e]; omega
    · rw [if_neg e]; have := (h i hi2 e).1; omega
  · show (if P i = 12 then 0 else a i (P i)) ≤ 1 * hi
    by_cases e : P i = 12
    · rw [if_pos e]; omega
    · rw [if_neg e]; have := (h i hi2 e).2; omega
/-- more rows with a unit: at least one rank more -/
theorem rank_more {n : Nat} {wt : Nat → Int} {P Q : Nat → Nat} (hw : ∀ r, r < n → 1 ≤ wt r) (hs : ∀ r, r < n → P r ≠ 12 → Q r ≠ 12) (hc : cn n P + 1 ≤ cn n Q) : ky n (fun r _ => wt r) P + 1 ≤ ky n (fun r _ => wt r) Q := by
  have h : sm (fun r => kyf (fun r _ => wt r) P r - cnf P r) n ≤ sm (fun r => kyf (fun r _ => wt r) Q r - cnf Q r) n := sm_le (fun r hr => by
    show (if P r = 12 then 0 else wt r) - (if P r = 12 then 0 else 1) ≤ (if Q r = 12 then 0 else wt r) - (if Q r = 12 then 0 else 1)
    have g := hw r hr
    by_cases e : P r = 12
    · rw [if_pos e, if_pos e]
      by_cases e2 : Q r = 12
      · rw [if_pos e2, if_pos e2]; omega
      · rw [if_neg e2, if_neg e2]; omega
    · rw [if_neg e, if_neg e, if_neg (hs r hr e), if_neg (hs r hr e)]; omega)
  rw [sm_sub, sm_sub] at h
  unfold ky
  unfold cn at hc
  omega
end
