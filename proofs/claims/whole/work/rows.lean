section
-- ===== PART A: goes FIRST, ahead of the names: the tables' words, and 'selects' of the private methods out of them =====
/-- a private method of a class that the tables say can be made, by its rows of tables_1 -/
def lw_okq (q : MethodName × Nat) : Prop := (q.1.cls ≠ "java/lang/invoke/MethodHandle" ∧ q.1.cls ≠ "java/lang/invoke/VarHandle") ∧ Cond.instantiable q.1.cls q.2 ∈ tables_1 ∧ Cond.privateMethod q.1 ∈ tables_1 ∧ Cond.instanceMethod q.1 ∈ tables_1
theorem lw_p0 : lw_okq (⟨"java/lang/Throwable", "fillInStackTrace", "(I)Ljava/lang/Throwable;"⟩, 6) := ⟨⟨by decide +kernel, by decide +kernel⟩, List.mem_of_getElem? (i := 184) (by decide +kernel), List.mem_of_getElem? (i := 182) (by decide +kernel), List.mem_of_getElem? (i := 183) (by decide +kernel)⟩
theorem lw_p1 : lw_okq (⟨"SendBest", "checkIncident", "(I)V"⟩, 17) := ⟨⟨by decide +kernel, by decide +kernel⟩, List.mem_of_getElem? (i := 15) (by decide +kernel), List.mem_of_getElem? (i := 251) (by decide +kernel), List.mem_of_getElem? (i := 252) (by decide +kernel)⟩
theorem lw_p2 : lw_okq (⟨"SendBest", "checkOpen", "(I)V"⟩, 17) := ⟨⟨by decide +kernel, by decide +kernel⟩, List.mem_of_getElem? (i := 15) (by decide +kernel), List.mem_of_getElem? (i := 271) (by decide +kernel), List.mem_of_getElem? (i := 272) (by decide +kernel)⟩
theorem lw_p3 : lw_okq (⟨"SendBest", "checkUnit", "(I)V"⟩, 17) := ⟨⟨by decide +kernel, by decide +kernel⟩, List.mem_of_getElem? (i := 15) (by decide +kernel), List.mem_of_getElem? (i := 311) (by decide +kernel), List.mem_of_getElem? (i := 312) (by decide +kernel)⟩
theorem lw_p4 : lw_okq (⟨"SendBest", "free", "(I)V"⟩, 17) := ⟨⟨by decide +kernel, by decide +kernel⟩, List.mem_of_getElem? (i := 15) (by decide +kernel), List.mem_of_getElem? (i := 345) (by decide +kernel), List.mem_of_getElem? (i := 346) (by decide +kernel)⟩
theorem lw_p5 : lw_okq (⟨"SendBest", "layOutNeeds", "()V"⟩, 17) := ⟨⟨by decide +kernel, by decide +kernel⟩, List.mem_of_getElem? (i := 15) (by decide +kernel), List.mem_of_getElem? (i := 358) (by decide +kernel), List.mem_of_getElem? (i := 359) (by decide +kernel)⟩
theorem lw_p6 : lw_okq (⟨"SendBest", "addNeeds", "(Z)V"⟩, 17) := ⟨⟨by decide +kernel, by decide +kernel⟩, List.mem_of_getElem? (i := 15) (by decide +kernel), List.mem_of_getElem? (i := 369) (by decide +kernel), List.mem_of_getElem? (i := 370) (by decide +kernel)⟩
theorem lw_p7 : lw_okq (⟨"SendBest", "isOpenNeed", "(I)Z"⟩, 17) := ⟨⟨by decide +kernel, by decide +kernel⟩, List.mem_of_getElem? (i := 15) (by decide +kernel), List.mem_of_getElem? (i := 373) (by decide +kernel), List.mem_of_getElem? (i := 374) (by decide +kernel)⟩
theorem lw_p8 : lw_okq (⟨"SendBest", "hasFixedUnit", "(I)Z"⟩, 17) := ⟨⟨by decide +kernel, by decide +kernel⟩, List.mem_of_getElem? (i := 15) (by decide +kernel), List.mem_of_getElem? (i := 377) (by decide +kernel), List.mem_of_getElem? (i := 378) (by decide +kernel)⟩
theorem lw_p9 : lw_okq (⟨"SendBest", "isFixed", "(I)Z"⟩, 17) := ⟨⟨by decide +kernel, by decide +kernel⟩, List.mem_of_getElem? (i := 15) (by decide +kernel), List.mem_of_getElem? (i := 381) (by decide +kernel), List.mem_of_getElem? (i := 382) (by decide +kernel)⟩
theorem lw_p10 : lw_okq (⟨"SendBest", "canFill", "(II)Z"⟩, 17) := ⟨⟨by decide +kernel, by decide +kernel⟩, List.mem_of_getElem? (i := 15) (by decide +kernel), List.mem_of_getElem? (i := 385) (by decide +kernel), List.mem_of_getElem? (i := 386) (by decide +kernel)⟩
theorem lw_p11 : lw_okq (⟨"SendBest", "secondsTo", "(II)I"⟩, 17) := ⟨⟨by decide +kernel, by decide +kernel⟩, List.mem_of_getElem? (i := 15) (by decide +kernel), List.mem_of_getElem? (i := 389) (by decide +kernel), List.mem_of_getElem? (i := 390) (by decide +kernel)⟩
theorem lw_p12 : lw_okq (⟨"SendBest", "rankOfNeed", "(I)I"⟩, 17) := ⟨⟨by decide +kernel, by decide +kernel⟩, List.mem_of_getElem? (i := 15) (by decide +kernel), List.mem_of_getElem? (i := 393) (by decide +kernel), List.mem_of_getElem? (i := 394) (by decide +kernel)⟩
theorem lw_p13 : lw_okq (⟨"SendBest", "addNeed", "(I)V"⟩, 17) := ⟨⟨by decide +kernel, by decide +kernel⟩, List.mem_of_getElem? (i := 15) (by decide +kernel), List.mem_of_getElem? (i := 397) (by decide +kernel), List.mem_of_getElem? (i := 398) (by decide +kernel)⟩
theorem lw_p14 : lw_okq (⟨"SendBest", "spareUnits", "()I"⟩, 17) := ⟨⟨by decide +kernel, by decide +kernel⟩, List.mem_of_getElem? (i := 15) (by decide +kernel), List.mem_of_getElem? (i := 414) (by decide +kernel), List.mem_of_getElem? (i := 415) (by decide +kernel)⟩
theorem lw_p15 : lw_okq (⟨"SendBest$Pairing", "pair", "(II)V"⟩, 14) := ⟨⟨by decide +kernel, by decide +kernel⟩, List.mem_of_getElem? (i := 25) (by decide +kernel), List.mem_of_getElem? (i := 422) (by decide +kernel), List.mem_of_getElem? (i := 423) (by decide +kernel)⟩
def lw_privs_1 : List (MethodName × Nat) := [(⟨"java/lang/Throwable", "fillInStackTrace", "(I)Ljava/lang/Throwable;"⟩, 6), (⟨"SendBest", "checkIncident", "(I)V"⟩, 17), (⟨"SendBest", "checkOpen", "(I)V"⟩, 17), (⟨"SendBest", "checkUnit", "(I)V"⟩, 17), (⟨"SendBest", "free", "(I)V"⟩, 17), (⟨"SendBest", "layOutNeeds", "()V"⟩, 17), (⟨"SendBest", "addNeeds", "(Z)V"⟩, 17), (⟨"SendBest", "isOpenNeed", "(I)Z"⟩, 17), (⟨"SendBest", "hasFixedUnit", "(I)Z"⟩, 17), (⟨"SendBest", "isFixed", "(I)Z"⟩, 17), (⟨"SendBest", "canFill", "(II)Z"⟩, 17), (⟨"SendBest", "secondsTo", "(II)I"⟩, 17), (⟨"SendBest", "rankOfNeed", "(I)I"⟩, 17), (⟨"SendBest", "addNeed", "(I)V"⟩, 17), (⟨"SendBest", "spareUnits", "()I"⟩, 17), (⟨"SendBest$Pairing", "pair", "(II)V"⟩, 14)]
theorem lw_r1 : ∀ q ∈ lw_privs_1, lw_okq q := List.forall_mem_cons.mpr ⟨lw_p0, List.forall_mem_cons.mpr ⟨lw_p1, List.forall_mem_cons.mpr ⟨lw_p2, List.forall_mem_cons.mpr ⟨lw_p3, List.forall_mem_cons.mpr ⟨lw_p4, List.forall_mem_cons.mpr ⟨lw_p5, List.forall_mem_cons.mpr ⟨lw_p6, List.forall_mem_cons.mpr ⟨lw_p7, List.forall_mem_cons.mpr ⟨lw_p8, List.forall_mem_cons.mpr ⟨lw_p9, List.forall_mem_cons.mpr ⟨lw_p10, List.forall_mem_cons.mpr ⟨lw_p11, List.forall_mem_cons.mpr ⟨lw_p12, List.forall_mem_cons.mpr ⟨lw_p13, List.forall_mem_cons.mpr ⟨lw_p14, List.forall_mem_cons.mpr ⟨lw_p15, fun _ h => absurd h List.not_mem_nil⟩⟩⟩⟩⟩⟩⟩⟩⟩⟩⟩⟩⟩⟩⟩⟩
theorem lw_p16 : lw_okq (⟨"SendBest$Pairing", "findPaths", "(I)V"⟩, 14) := ⟨⟨by decide +kernel, by decide +kernel⟩, List.mem_of_getElem? (i := 25) (by decide +kernel), List.mem_of_getElem? (i := 427) (by decide +kernel), List.mem_of_getElem? (i := 428) (by decide +kernel)⟩
theorem lw_p17 : lw_okq (⟨"SendBest$Pairing", "spread", "(I)V"⟩, 14) := ⟨⟨by decide +kernel, by decide +kernel⟩, List.mem_of_getElem? (i := 25) (by decide +kernel), List.mem_of_getElem? (i := 431) (by decide +kernel), List.mem_of_getElem? (i := 432) (by decide +kernel)⟩
theorem lw_p18 : lw_okq (⟨"SendBest$Pairing", "reach", "(II)V"⟩, 14) := ⟨⟨by decide +kernel, by decide +kernel⟩, List.mem_of_getElem? (i := 25) (by decide +kernel), List.mem_of_getElem? (i := 435) (by decide +kernel), List.mem_of_getElem? (i := 436) (by decide +kernel)⟩
theorem lw_p19 : lw_okq (⟨"SendBest$Pairing", "cheapestEnd", "()I"⟩, 14) := ⟨⟨by decide +kernel, by decide +kernel⟩, List.mem_of_getElem? (i := 25) (by decide +kernel), List.mem_of_getElem? (i := 442) (by decide +kernel), List.mem_of_getElem? (i := 443) (by decide +kernel)⟩
theorem lw_p20 : lw_okq (⟨"SendBest$Pairing", "turnPath", "(I)V"⟩, 14) := ⟨⟨by decide +kernel, by decide +kernel⟩, List.mem_of_getElem? (i := 25) (by decide +kernel), List.mem_of_getElem? (i := 446) (by decide +kernel), List.mem_of_getElem? (i := 447) (by decide +kernel)⟩
theorem lw_p21 : lw_okq (⟨"SendBest$Pairing", "total", "([[J[I)J"⟩, 14) := ⟨⟨by decide +kernel, by decide +kernel⟩, List.mem_of_getElem? (i := 25) (by decide +kernel), List.mem_of_getElem? (i := 453) (by decide +kernel), List.mem_of_getElem? (i := 454) (by decide +kernel)⟩
theorem lw_p22 : lw_okq (⟨"SendBest", "presentStays", "(II)Z"⟩, 17) := ⟨⟨by decide +kernel, by decide +kernel⟩, List.mem_of_getElem? (i := 15) (by decide +kernel), List.mem_of_getElem? (i := 460) (by decide +kernel), List.mem_of_getElem? (i := 461) (by decide +kernel)⟩
theorem lw_p23 : lw_okq (⟨"SendBest", "takeBest", "()V"⟩, 17) := ⟨⟨by decide +kernel, by decide +kernel⟩, List.mem_of_getElem? (i := 15) (by decide +kernel), List.mem_of_getElem? (i := 484) (by decide +kernel), List.mem_of_getElem? (i := 485) (by decide +kernel)⟩
theorem lw_p24 : lw_okq (⟨"SendBest", "countFilled", "()I"⟩, 17) := ⟨⟨by decide +kernel, by decide +kernel⟩, List.mem_of_getElem? (i := 15) (by decide +kernel), List.mem_of_getElem? (i := 492) (by decide +kernel), List.mem_of_getElem? (i := 493) (by decide +kernel)⟩
theorem lw_p25 : lw_okq (⟨"SendBest", "checkSent", "(I)V"⟩, 17) := ⟨⟨by decide +kernel, by decide +kernel⟩, List.mem_of_getElem? (i := 15) (by decide +kernel), List.mem_of_getElem? (i := 503) (by decide +kernel), List.mem_of_getElem? (i := 504) (by decide +kernel)⟩
theorem lw_p26 : lw_okq (⟨"SendBest", "checkNeed", "(I)V"⟩, 17) := ⟨⟨by decide +kernel, by decide +kernel⟩, List.mem_of_getElem? (i := 15) (by decide +kernel), List.mem_of_getElem? (i := 529) (by decide +kernel), List.mem_of_getElem? (i := 530) (by decide +kernel)⟩
theorem lw_p27 : lw_okq (⟨"SendBest", "ranksLacking", "(I)I"⟩, 17) := ⟨⟨by decide +kernel, by decide +kernel⟩, List.mem_of_getElem? (i := 15) (by decide +kernel), List.mem_of_getElem? (i := 550) (by decide +kernel), List.mem_of_getElem? (i := 551) (by decide +kernel)⟩
theorem lw_p28 : lw_okq (⟨"SendBest", "weightedSeconds", "(I)I"⟩, 17) := ⟨⟨by decide +kernel, by decide +kernel⟩, List.mem_of_getElem? (i := 15) (by decide +kernel), List.mem_of_getElem? (i := 554) (by decide +kernel), List.mem_of_getElem? (i := 555) (by decide +kernel)⟩
theorem lw_p29 : lw_okq (⟨"SendBest", "anyCanFill", "(I)Z"⟩, 17) := ⟨⟨by decide +kernel, by decide +kernel⟩, List.mem_of_getElem? (i := 15) (by decide +kernel), List.mem_of_getElem? (i := 573) (by decide +kernel), List.mem_of_getElem? (i := 574) (by decide +kernel)⟩
theorem lw_p30 : lw_okq (⟨"SendBestModel", "throwing", "(ZZZZ)Z"⟩, 19) := ⟨⟨by decide +kernel, by decide +kernel⟩, List.mem_of_getElem? (i := 577) (by decide +kernel), List.mem_of_getElem? (i := 654) (by decide +kernel), List.mem_of_getElem? (i := 655) (by decide +kernel)⟩
theorem lw_p31 : lw_okq (⟨"SendBestModel", "isIncident", "(I)Z"⟩, 19) := ⟨⟨by decide +kernel, by decide +kernel⟩, List.mem_of_getElem? (i := 577) (by decide +kernel), List.mem_of_getElem? (i := 666) (by decide +kernel), List.mem_of_getElem? (i := 667) (by decide +kernel)⟩
def lw_privs_2 : List (MethodName × Nat) := [(⟨"SendBest$Pairing", "findPaths", "(I)V"⟩, 14), (⟨"SendBest$Pairing", "spread", "(I)V"⟩, 14), (⟨"SendBest$Pairing", "reach", "(II)V"⟩, 14), (⟨"SendBest$Pairing", "cheapestEnd", "()I"⟩, 14), (⟨"SendBest$Pairing", "turnPath", "(I)V"⟩, 14), (⟨"SendBest$Pairing", "total", "([[J[I)J"⟩, 14), (⟨"SendBest", "presentStays", "(II)Z"⟩, 17), (⟨"SendBest", "takeBest", "()V"⟩, 17), (⟨"SendBest", "countFilled", "()I"⟩, 17), (⟨"SendBest", "checkSent", "(I)V"⟩, 17), (⟨"SendBest", "checkNeed", "(I)V"⟩, 17), (⟨"SendBest", "ranksLacking", "(I)I"⟩, 17), (⟨"SendBest", "weightedSeconds", "(I)I"⟩, 17), (⟨"SendBest", "anyCanFill", "(I)Z"⟩, 17), (⟨"SendBestModel", "throwing", "(ZZZZ)Z"⟩, 19), (⟨"SendBestModel", "isIncident", "(I)Z"⟩, 19)]
theorem lw_r2 : ∀ q ∈ lw_privs_2, lw_okq q := List.forall_mem_cons.mpr ⟨lw_p16, List.forall_mem_cons.mpr ⟨lw_p17, List.forall_mem_cons.mpr ⟨lw_p18, List.forall_mem_cons.mpr ⟨lw_p19, List.forall_mem_cons.mpr ⟨lw_p20, List.forall_mem_cons.mpr ⟨lw_p21, List.forall_mem_cons.mpr ⟨lw_p22, List.forall_mem_cons.mpr ⟨lw_p23, List.forall_mem_cons.mpr ⟨lw_p24, List.forall_mem_cons.mpr ⟨lw_p25, List.forall_mem_cons.mpr ⟨lw_p26, List.forall_mem_cons.mpr ⟨lw_p27, List.forall_mem_cons.mpr ⟨lw_p28, List.forall_mem_cons.mpr ⟨lw_p29, List.forall_mem_cons.mpr ⟨lw_p30, List.forall_mem_cons.mpr ⟨lw_p31, fun _ h => absurd h List.not_mem_nil⟩⟩⟩⟩⟩⟩⟩⟩⟩⟩⟩⟩⟩⟩⟩⟩
theorem lw_p32 : lw_okq (⟨"SendBestModel", "isUnit", "(I)Z"⟩, 19) := ⟨⟨by decide +kernel, by decide +kernel⟩, List.mem_of_getElem? (i := 577) (by decide +kernel), List.mem_of_getElem? (i := 678) (by decide +kernel), List.mem_of_getElem? (i := 679) (by decide +kernel)⟩
theorem lw_p33 : lw_okq (⟨"SendBestModel", "needOf", "(I)I"⟩, 19) := ⟨⟨by decide +kernel, by decide +kernel⟩, List.mem_of_getElem? (i := 577) (by decide +kernel), List.mem_of_getElem? (i := 695) (by decide +kernel), List.mem_of_getElem? (i := 696) (by decide +kernel)⟩
theorem lw_p34 : lw_okq (⟨"SendBestModel", "leave", "(I)V"⟩, 19) := ⟨⟨by decide +kernel, by decide +kernel⟩, List.mem_of_getElem? (i := 577) (by decide +kernel), List.mem_of_getElem? (i := 699) (by decide +kernel), List.mem_of_getElem? (i := 700) (by decide +kernel)⟩
theorem lw_p35 : lw_okq (⟨"SendBestModel", "reckon", "()V"⟩, 19) := ⟨⟨by decide +kernel, by decide +kernel⟩, List.mem_of_getElem? (i := 577) (by decide +kernel), List.mem_of_getElem? (i := 708) (by decide +kernel), List.mem_of_getElem? (i := 709) (by decide +kernel)⟩
theorem lw_p36 : lw_okq (⟨"SendBestModel", "gather", "()V"⟩, 19) := ⟨⟨by decide +kernel, by decide +kernel⟩, List.mem_of_getElem? (i := 577) (by decide +kernel), List.mem_of_getElem? (i := 712) (by decide +kernel), List.mem_of_getElem? (i := 713) (by decide +kernel)⟩
theorem lw_p37 : lw_okq (⟨"SendBestModel", "rankOf", "(I)I"⟩, 19) := ⟨⟨by decide +kernel, by decide +kernel⟩, List.mem_of_getElem? (i := 577) (by decide +kernel), List.mem_of_getElem? (i := 716) (by decide +kernel), List.mem_of_getElem? (i := 717) (by decide +kernel)⟩
theorem lw_p38 : lw_okq (⟨"SendBestModel", "isOpen", "(I)Z"⟩, 19) := ⟨⟨by decide +kernel, by decide +kernel⟩, List.mem_of_getElem? (i := 577) (by decide +kernel), List.mem_of_getElem? (i := 720) (by decide +kernel), List.mem_of_getElem? (i := 721) (by decide +kernel)⟩
theorem lw_p39 : lw_okq (⟨"SendBestModel", "isFixed", "(I)Z"⟩, 19) := ⟨⟨by decide +kernel, by decide +kernel⟩, List.mem_of_getElem? (i := 577) (by decide +kernel), List.mem_of_getElem? (i := 724) (by decide +kernel), List.mem_of_getElem? (i := 725) (by decide +kernel)⟩
theorem lw_p40 : lw_okq (⟨"SendBestModel", "canFill", "(II)Z"⟩, 19) := ⟨⟨by decide +kernel, by decide +kernel⟩, List.mem_of_getElem? (i := 577) (by decide +kernel), List.mem_of_getElem? (i := 728) (by decide +kernel), List.mem_of_getElem? (i := 729) (by decide +kernel)⟩
theorem lw_p41 : lw_okq (⟨"SendBestModel", "without", "(II)J"⟩, 19) := ⟨⟨by decide +kernel, by decide +kernel⟩, List.mem_of_getElem? (i := 577) (by decide +kernel), List.mem_of_getElem? (i := 732) (by decide +kernel), List.mem_of_getElem? (i := 733) (by decide +kernel)⟩
theorem lw_p42 : lw_okq (⟨"SendBestModel", "may", "(III)Z"⟩, 19) := ⟨⟨by decide +kernel, by decide +kernel⟩, List.mem_of_getElem? (i := 577) (by decide +kernel), List.mem_of_getElem? (i := 737) (by decide +kernel), List.mem_of_getElem? (i := 738) (by decide +kernel)⟩
theorem lw_p43 : lw_okq (⟨"SendBestModel", "most", "()I"⟩, 19) := ⟨⟨by decide +kernel, by decide +kernel⟩, List.mem_of_getElem? (i := 577) (by decide +kernel), List.mem_of_getElem? (i := 744) (by decide +kernel), List.mem_of_getElem? (i := 745) (by decide +kernel)⟩
theorem lw_p44 : lw_okq (⟨"SendBestModel", "with", "(III)J"⟩, 19) := ⟨⟨by decide +kernel, by decide +kernel⟩, List.mem_of_getElem? (i := 577) (by decide +kernel), List.mem_of_getElem? (i := 748) (by decide +kernel), List.mem_of_getElem? (i := 749) (by decide +kernel)⟩
theorem lw_p45 : lw_okq (⟨"SendBestModel", "fixedUnits", "()I"⟩, 19) := ⟨⟨by decide +kernel, by decide +kernel⟩, List.mem_of_getElem? (i := 577) (by decide +kernel), List.mem_of_getElem? (i := 752) (by decide +kernel), List.mem_of_getElem? (i := 753) (by decide +kernel)⟩
theorem lw_p46 : lw_okq (⟨"SendBestModel", "present", "()J"⟩, 19) := ⟨⟨by decide +kernel, by decide +kernel⟩, List.mem_of_getElem? (i := 577) (by decide +kernel), List.mem_of_getElem? (i := 756) (by decide +kernel), List.mem_of_getElem? (i := 757) (by decide +kernel)⟩
def lw_privs_3 : List (MethodName × Nat) := [(⟨"SendBestModel", "isUnit", "(I)Z"⟩, 19), (⟨"SendBestModel", "needOf", "(I)I"⟩, 19), (⟨"SendBestModel", "leave", "(I)V"⟩, 19), (⟨"SendBestModel", "reckon", "()V"⟩, 19), (⟨"SendBestModel", "gather", "()V"⟩, 19), (⟨"SendBestModel", "rankOf", "(I)I"⟩, 19), (⟨"SendBestModel", "isOpen", "(I)Z"⟩, 19), (⟨"SendBestModel", "isFixed", "(I)Z"⟩, 19), (⟨"SendBestModel", "canFill", "(II)Z"⟩, 19), (⟨"SendBestModel", "without", "(II)J"⟩, 19), (⟨"SendBestModel", "may", "(III)Z"⟩, 19), (⟨"SendBestModel", "most", "()I"⟩, 19), (⟨"SendBestModel", "with", "(III)J"⟩, 19), (⟨"SendBestModel", "fixedUnits", "()I"⟩, 19), (⟨"SendBestModel", "present", "()J"⟩, 19)]
theorem lw_r3 : ∀ q ∈ lw_privs_3, lw_okq q := List.forall_mem_cons.mpr ⟨lw_p32, List.forall_mem_cons.mpr ⟨lw_p33, List.forall_mem_cons.mpr ⟨lw_p34, List.forall_mem_cons.mpr ⟨lw_p35, List.forall_mem_cons.mpr ⟨lw_p36, List.forall_mem_cons.mpr ⟨lw_p37, List.forall_mem_cons.mpr ⟨lw_p38, List.forall_mem_cons.mpr ⟨lw_p39, List.forall_mem_cons.mpr ⟨lw_p40, List.forall_mem_cons.mpr ⟨lw_p41, List.forall_mem_cons.mpr ⟨lw_p42, List.forall_mem_cons.mpr ⟨lw_p43, List.forall_mem_cons.mpr ⟨lw_p44, List.forall_mem_cons.mpr ⟨lw_p45, List.forall_mem_cons.mpr ⟨lw_p46, fun _ h => absurd h List.not_mem_nil⟩⟩⟩⟩⟩⟩⟩⟩⟩⟩⟩⟩⟩⟩⟩
def lw_privs : List (MethodName × Nat) := lw_privs_1 ++ (lw_privs_2 ++ (lw_privs_3))
def lw_tbl : List Cond := k2_sels lw_privs ++ tables_1
theorem lw_privs_ok : ∀ q ∈ lw_privs, lw_okq q := by
  show ∀ q ∈ lw_privs_1 ++ (lw_privs_2 ++ (lw_privs_3)), lw_okq q
  exact List.forall_mem_append.mpr ⟨lw_r1, List.forall_mem_append.mpr ⟨lw_r2, lw_r3⟩⟩
/-- what the tables say of arrays of arrays of t (a name that the pasted rows use and that this kit lacks) -/
def va_AOA (t : FieldType) (U : State) : Prop := (Cond.arrayOver (.array t)).before #[] U = true
theorem va_AOA.use {t : FieldType} {A : Array Value} {U : State} (h : va_AOA t U) : (Cond.arrayOver (.array t)).before A U = true := h
theorem va_AOA.of {t : FieldType} {A : Array Value} {U : State} (h : (Cond.arrayOver (.array t)).before A U = true) : va_AOA t U := h
/-! ===== BEGIN words of one list among another's, by their places ===== -/
theorem goodIn_r {big : List Cond} (ws : List Cond) (ps : List Nat) (hp : ws = ps.filterMap (fun i => big[i]?)) (h : ws.all goodWord = true) : GoodIn big ws := by
  intro w hw
  have h1 := List.all_eq_true.mp h w hw
  rw [hp] at hw
  obtain ⟨i, -, hi⟩ := List.mem_filterMap.mp hw
  have hm : w ∈ big := by first | exact List.mem_of_getElem? hi | exact List.getElem?_mem hi
  exact ⟨hm, good_of_word h1⟩
theorem goodIn_app {big a b : List Cond} (ha : GoodIn big a) (hb : GoodIn big b) : GoodIn big (a ++ b) := fun w h => (List.mem_append.mp h).elim (ha w) (hb w)
theorem goodIn_ca {big a b : List Cond} {c : Cond} (ha : GoodIn big (c :: a)) (hb : GoodIn big b) : GoodIn big (c :: (a ++ b)) := fun w h => (List.mem_cons.mp h).elim (fun e => ha w (List.mem_cons.mpr (Or.inl e))) (fun h => (List.mem_append.mp h).elim (fun h => ha w (List.mem_cons.mpr (Or.inr h))) (hb w))
theorem goodIn_sub {big ws : List Cond} (hm : ∀ w ∈ ws, w ∈ big) (h : ws.all goodWord = true) : GoodIn big ws := fun w hw => ⟨hm w hw, good_of_word (List.all_eq_true.mp h w hw)⟩
/-! ===== END ===== -/

/-! ===== BEGIN new T[n][m]: the outer array a place, the inner ones among the pooled ===== -/
/-- f, but v at every address of l -/
def vr_up {α : Type} (f : Nat → α) (l : List Nat) (v : α) : Nat → α := fun a => if a ∈ l then v else f a
theorem vr_up_in {α : Type} {f : Nat → α} {l : List Nat} {v : α} {a : Nat} (h : a ∈ l) : vr_up f l v a = v := if_pos h
theorem vr_up_ne {α : Type} {f : Nat → α} {l : List Nat} {v : α} {a : Nat} (h : a ∉ l) : vr_up f l v a = f a := if_neg h
theorem vr_rows {L l : List Nat} {f : Nat → va_E} {e : va_E} (h : ∀ a, a ∈ l → a ∉ L) : va_pl L f ++ l.map (fun a => (a, e)) = va_pl (L ++ l) (vr_up f l e) := by
  unfold va_pl
  rw [List.map_append]
  congr 1
  · apply List.map_congr_left
    intro a ha
    rw [vr_up_ne (fun q => h a q ha)]
  · apply List.map_congr_left
    intro a ha
    rw [vr_up_in ha]
theorem vr_lay {X rows : va_W} {x : Nat × va_E} {pl : va_W} {D : va_G} {cl : List vw_C} {H : Heap} (hP : va_P D cl (((X ++ pl) ++ [x]) ++ rows) H) : va_P D cl ((X ++ [x]) ++ (pl ++ rows)) H := by
  rw [List.append_assoc (X ++ pl)] at hP
  have h := va_P.swap hP
  rw [← List.append_assoc X] at h
  have h2 := va_P.swap h
  rw [List.append_assoc (X ++ [x])] at h2
  exact h2
theorem vr_layD {X rows : va_W} {x : Nat × va_E} {pl : va_W} {A : Nat → Prop} (hD : va_D A (((X ++ pl) ++ [x]) ++ rows)) : va_D A ((X ++ [x]) ++ (pl ++ rows)) := by
  rw [List.append_assoc (X ++ pl)] at hD
  have h := va_D.swap hD
  rw [← List.append_assoc X] at h
  have h2 := va_D.swap h
  rw [List.append_assoc (X ++ [x])] at h2
  exact h2
theorem vr_outer (c : ClassId) (N h0 : Nat) : ∀ i : Nat, Jvm.Free.Multi.outerC c N h0 i = arrV c N (fun j => va_rf (if j < i then some (h0 + 1 + j) else none))
  | 0 => by
    show ({ cls := c, slots := Array.replicate N .null, vm := .none } : Cell) = _
    rw [arrV_new]
    refine congrArg (arrV c N) (funext fun j => ?_)
    simp [va_rf]
  | i + 1 => by
    show (Jvm.Free.Multi.outerC c N h0 i).setSlot i (.ref (h0 + 1 + i)) = _
    rw [vr_outer c N h0 i, arrV_store]
    refine congrArg (arrV c N) (funext fun j => ?_)
    by_cases e : j = i
    · subst e
      simp [updV, va_rf]
    · by_cases h : j < i
      · simp [updV, e, h, Nat.lt_succ_of_lt h]
      · simp [updV, e, h, show ¬ j < i + 1 by omega]
section VGM
variable {p : Program} {l : Launch} {e : Env} {R : Room} {s : State} {m : MethodId} {args : Array Value} {below : List Frame} {meth : Method} {c : Code} {H : Heap} {locs : List Loc} {cells slots : Nat} {Q : State → Prop}
variable {cc : ByteArray} {pc : Nat} {ls : Array Slot} {rest : List Value} {D : va_G} {cl : List vw_C} {A : Nat → Prop} {a : Nat} {tys : List (ClassId × FieldType)} {ws : va_W} {H0 : Heap}
theorem va_mna {X : va_W} {L : List Nat} {f : Nat → va_E} {cc : ByteArray} (hexec : p.tables.exec = Jvm.exec) (hb : c.code = cc) {own : String} {index : Nat} {ty : FieldType} {cy : ClassId} (hown : s.vm.findClass own = some m.cls) (hclink : (Cond.classLink own index ("[" ++ (FieldType.array ty).toString)).before args s = true) (hover : va_AOA ty s) (harr : (Cond.arrayClass ty).before args s = true) (hcy : s.vm.findClass (FieldType.array ty).toString = some cy)
    (hK : va_K D cl tys s) (hP : va_P D cl (X ++ va_pl L f) H) (hD : va_D A (X ++ va_pl L f)) (hS : va_S A H0 H locs) (hA : ∀ q, H0.size ≤ q → A q) {n k : Int32} {N' K' : Nat} {z : vp_A} (hn : ¬ n < 0) (hk : ¬ k < 0) (hN : n.toNatClampNeg = N') (hM : k.toNatClampNeg = K')
    (hb1 : N' * 4 ≤ 536870912) (hb2 : K' * componentBytes ty ≤ 536870912) (hb3 : K' ≤ 536870912) (hdf : fits ty (defaultValue ty) = true) (hdd : (defaultValue ty).isDefault = true) (hcells : cells + (1 + N') ≤ R.cells) (hslots : slots + (N' + N' * K') ≤ R.slots) (hz : ∀ c : ClassId, Jvm.Free.Multi.innerC c K' (defaultValue ty) = vp_cell c z) (hdg : decode cc pc = .ok (.multianewarray index 2, 4))
    (kk : ∀ (q : Nat) (r : Nat → Nat) (cA : ClassId) (H1 : Heap), (∀ i j : Nat, i < N' → j < N' → r i = r j → i = j) → (∀ i : Nat, i < N' → r i ∉ L) → va_K D cl (tys ++ [(cA, .array ty)]) s →
      va_P D cl ((X ++ [(q, .inl (cA, N', .inr (.inr (.inr (.inr (fun i => if i < N' then some (r i) else none))))))]) ++ va_pl (L ++ (List.range N').map r) (vr_up f ((List.range N').map r) (.inl (cy, z)))) H1 → va_D A ((X ++ [(q, .inl (cA, N', .inr (.inr (.inr (.inr (fun i => if i < N' then some (r i) else none))))))]) ++ va_pl (L ++ (List.range N').map r) (vr_up f ((List.range N').map r) (.inl (cy, z)))) → va_S A H0 H1 locs →
      W p l e R s m args below meth c H1 locs (cells + 1 + N') (slots + N' + N' * K') Q (F0 m (pc + 4) ls (.ref q :: rest))) : W p l e R s m args below meth c H locs cells slots Q (F0 m pc ls (.int k :: .int n :: rest)) := by
  subst hN
  subst hM
  intro T hT Xs
  obtain ⟨vm₁, cA, comp, -, fA, fC, hO, -, X', step⟩ := Xs.multianewarray2F hexec hown hclink (va_AOA.use hover) harr (g := F0 m pc ls (.int k :: .int n :: rest)) rfl (by rw [hb]; exact hdg) rfl hn hk hb1 hb2 hb3 hdf hdd hcells hslots
  have ec : some cy = some comp := hcy.symm.trans fC
  cases ec
  generalize hF : Jvm.Free.Multi.fill (T.setVm vm₁) cA cy n.toNatClampNeg k.toNatClampNeg (defaultValue ty) n.toNatClampNeg = F at X' step
  have hTh : (T.setVm vm₁).heap = H := hT
  obtain ⟨f1, f2, -, -⟩ := Jvm.Free.Multi.fill_facts (T.setVm vm₁) cA cy n.toNatClampNeg k.toNatClampNeg (defaultValue ty) n.toNatClampNeg
  rw [hF, hTh] at f1 f2
  have hold : ∀ x : Nat, x < H.size → F.heap[x]? = H[x]? := fun x hx => by
    have := Jvm.Free.Multi.fill_old (T.setVm vm₁) cA cy n.toNatClampNeg k.toNatClampNeg (defaultValue ty) (a := x) (by rw [hTh]; exact hx) n.toNatClampNeg
    rw [hF, hTh] at this
    exact this
  have hrow : ∀ j : Nat, j < n.toNatClampNeg → F.heap[H.size + 1 + j]? = some (vp_cell cy z) := fun j hj => by
    have := Jvm.Free.Multi.fill_inner (T.setVm vm₁) cA cy n.toNatClampNeg k.toNatClampNeg (defaultValue ty) n.toNatClampNeg j hj
    rw [hF, hTh, hz] at this
    exact this
  have hout : Jvm.Free.Multi.outerC cA n.toNatClampNeg H.size n.toNatClampNeg = vp_cell cA (n.toNatClampNeg, .inr (.inr (.inr (.inr (fun i => if i < n.toNatClampNeg then some (H.size + 1 + i) else none))))) := by
    rw [vp_cell_q]
    exact vr_outer cA n.toNatClampNeg H.size n.toNatClampNeg
  rw [hout] at f2
  have hlt : ∀ a, a ∈ L → a < H.size := fun a ha => by
    obtain ⟨k9, hk9⟩ := va_pl_get (X := X) (f := f) ha
    exact (hP k9 _ hk9).lt
  have hnl : ∀ i : Nat, i < n.toNatClampNeg → H.size + 1 + i ∉ L := fun i _ h => by
    have := hlt _ h
    omega
  have hnm : ∀ a, a ∈ (List.range n.toNatClampNeg).map (fun i => H.size + 1 + i) → a ∉ L := fun a ha h => by
    obtain ⟨i, -, rfl⟩ := List.mem_map.mp ha
    have := hlt _ h
    omega
  have hP0 : va_P D cl (X ++ va_pl L f) F.heap := hP.kept (fun k9 x hx => hold x.1 ((hP k9 x hx).lt))
  have hP1 : va_P D cl ((X ++ va_pl L f) ++ [(H.size, .inl (cA, n.toNatClampNeg, .inr (.inr (.inr (.inr (fun i => if i < n.toNatClampNeg then some (H.size + 1 + i) else none))))))]) F.heap := hP0.app (fun k9 x hx => by
    have h0 : k9 < 1 := (List.getElem?_eq_some_iff.mp hx).1
    rw [show k9 = 0 by omega] at hx
    cases hx
    exact f2)
  have hP2 : va_P D cl (((X ++ va_pl L f) ++ [(H.size, .inl (cA, n.toNatClampNeg, .inr (.inr (.inr (.inr (fun i => if i < n.toNatClampNeg then some (H.size + 1 + i) else none))))))]) ++ ((List.range n.toNatClampNeg).map (fun i => H.size + 1 + i)).map (fun a => (a, .inl (cy, z)))) F.heap := hP1.app (fun k9 x hx => by
    obtain ⟨a, ha, rfl⟩ := List.mem_map.mp (List.mem_of_getElem? hx)
    obtain ⟨i, hi, rfl⟩ := List.mem_map.mp ha
    exact hrow i (List.mem_range.mp hi))
  have hD2 : va_D A (((X ++ va_pl L f) ++ [(H.size, .inl (cA, n.toNatClampNeg, .inr (.inr (.inr (.inr (fun i => if i < n.toNatClampNeg then some (H.size + 1 + i) else none))))))]) ++ ((List.range n.toNatClampNeg).map (fun i => H.size + 1 + i)).map (fun a => (a, .inl (cy, z)))) := by
    have hD1 := hD.push (e := .inl (cA, n.toNatClampNeg, .inr (.inr (.inr (.inr (fun i => if i < n.toNatClampNeg then some (H.size + 1 + i) else none)))))) hP rfl (hA _ hS.1)
    generalize hW1 : (X ++ va_pl L f) ++ [(H.size, .inl (cA, n.toNatClampNeg, .inr (.inr (.inr (.inr (fun i => if i < n.toNatClampNeg then some (H.size + 1 + i) else none))))))] = W1 at hD1 hP1 ⊢
    have hle : ∀ (k9 : Nat) (x : Nat × va_E), W1[k9]? = some x → x.1 ≤ H.size := fun k9 x hx => by
      rw [← hW1] at hx
      by_cases hl : k9 < (X ++ va_pl L f).length
      · rw [List.getElem?_append_left hl] at hx
        exact Nat.le_of_lt ((hP k9 x hx).lt)
      · rw [List.getElem?_append_right (by omega)] at hx
        have h0 : k9 - (X ++ va_pl L f).length < 1 := (List.getElem?_eq_some_iff.mp hx).1
        rw [show k9 - (X ++ va_pl L f).length = 0 by omega] at hx
        cases hx
        exact Nat.le_refl _
    have hr : ∀ (k9 : Nat) (x : Nat × va_E), (((List.range n.toNatClampNeg).map (fun i => H.size + 1 + i)).map (fun a => ((a, .inl (cy, z)) : Nat × va_E)))[k9]? = some x → x.1 = H.size + 1 + k9 := fun k9 x hx => by
      rw [List.getElem?_map, List.getElem?_map] at hx
      by_cases h9 : k9 < n.toNatClampNeg
      · rw [List.getElem?_range h9] at hx
        cases hx
        rfl
      · have hn0 : (List.range n.toNatClampNeg)[k9]? = none := List.getElem?_eq_none (by rw [List.length_range]; omega)
        rw [hn0] at hx
        cases hx
    refine ⟨fun i j x y hi hj hxy => ?_, fun k9 x hx => ?_⟩
    · by_cases h1 : i < W1.length <;> by_cases h2 : j < W1.length
      · rw [List.getElem?_append_left h1] at hi
        rw [List.getElem?_append_left h2] at hj
        exact hD1.1 i j x y hi hj hxy
      · rw [List.getElem?_append_left h1] at hi
        rw [List.getElem?_append_right (by omega)] at hj
        have := hle _ _ hi
        have := hr _ _ hj
        omega
      · rw [List.getElem?_append_right (by omega)] at hi
        rw [List.getElem?_append_left h2] at hj
        have := hle _ _ hj
        have := hr _ _ hi
        omega
      · rw [List.getElem?_append_right (by omega)] at hi hj
        have := hr _ _ hi
        have := hr _ _ hj
        omega
    · by_cases h1 : k9 < W1.length
      · rw [List.getElem?_append_left h1] at hx
        exact hD1.2 k9 x hx
      · rw [List.getElem?_append_right (by omega)] at hx
        have := hr _ _ hx
        exact hA _ (by have := hS.1; omega)
  have hAr : ArrOfT s cA (.array ty) := fun N9 z9 => by
    obtain ⟨-, k9, hk9, cm9, hkk9⟩ := (hO 0 0 0).1
    exact ⟨(fun q hq => by cases hq), k9, hk9, cm9, hkk9⟩
  have hK2 : va_K D cl (tys ++ [(cA, .array ty)]) s := ⟨hK.1, fun k9 x hx => by
    by_cases hl : k9 < tys.length
    · rw [List.getElem?_append_left hl] at hx
      exact hK.2 k9 x hx
    · rw [List.getElem?_append_right (by omega)] at hx
      have h0 : k9 - tys.length < 1 := (List.getElem?_eq_some_iff.mp hx).1
      rw [show k9 - tys.length = 0 by omega] at hx
      cases hx
      exact ⟨hAr, fA⟩⟩
  obtain ⟨t, a1, b1⟩ := kk H.size (fun i => H.size + 1 + i) cA F.heap (fun i j _ _ h => by have h9 : H.size + 1 + i = H.size + 1 + j := h; omega) hnl hK2 (by rw [← vr_rows hnm]; exact vr_lay hP2) (by rw [← vr_rows hnm]; exact vr_layD hD2) ⟨by rw [f1]; have := hS.1; omega, fun x h1 h2 => (hold x (Nat.lt_of_lt_of_le h1 hS.1)).trans (hS.2.1 x h1 h2), hS.2.2⟩ F rfl X'
  refine ⟨t, step t ?_, b1⟩
  have e : T.heap.size = H.size := by rw [hT]
  rw [e]
  exact a1
end VGM
/-! ===== END ===== -/

/-! ===== BEGIN exceptions that leave a method, and their catching by the caller (launches without stack traces) ===== -/
section VXA
/-! The laws vx_back, vx_callV, vx_callS, vx_callSW, vx_throw0, vx_throwS follow proofs of the library, with one case more: JvmDerived/Free/Laws.lean (Back.of_free), Shelf42/LK1.lean (callV, callS), Shelf/KitTraced.lean (throwNew0V, throwNewS). -/
/-- where a method has thrown q: the class by its name, the cell, what was written, the world -/
def vx_T (XC : String → State → State → Prop) (st : State) (q : Addr) (t : State) (mc ms : Nat) (free : Addr → Prop) : Prop :=
  ∃ (E : String) (ce : Cell) (L : List Loc), XC E st t ∧ t.heap[q]? = some ce ∧ ce.vm = .none ∧ st.vm.findClass E = some ce.cls ∧ st.WarmedH t.vm ∧ st.sameButNew ({ t with vm := st.vm } : State) L mc ms ∧ ∀ z ∈ L, free z.base
def vx_Q (Qc : Array Value → State → Outcome → State → Prop) (XC : String → State → State → Prop) (mc ms : Nat) (free : Addr → Prop) : Array Value → State → Outcome → State → Prop := fun a st o t =>
  (Qc a st o t ∧ ∃ L, FrameEnd st o t L mc ms ∧ ∀ q ∈ L, free q.base) ∨ ∃ q, o = .threw q ∧ vx_T XC st q t mc ms free
/-- a callee that returns or throws -/
def vx_Met (l : Launch) (y : MethodName) (ws : List Cond) (rm : Room) (Pc : Array Value → State → Prop) (Qc : Array Value → State → Outcome → State → Prop) (XC : String → State → State → Prop) (mc ms : Nat) (free : Addr → Prop) : Prop :=
  MetFree l y (headSpec ws rm) Pc (fun _ _ _ _ _ => True) (vx_Q Qc XC mc ms free)
def vx_Post (XC : String → State → State → Prop) (mc ms : Nat) (free : Addr → Prop) : Pt → Array Value → Addr → Pt → Prop := fun A a q B =>
  ∃ (g : JFrame) (mk : MethodId) (t : State) (L : List Loc) (E : String) (ce : Cell), B.U.heap = t.heap ∧ B.U.vm = t.vm ∧ XC E (A.U.calling g mk a) t ∧ t.heap[q]? = some ce ∧ ce.vm = .none ∧ A.U.vm.findClass E = some ce.cls ∧ B.locs = A.locs ++ L ∧ (∀ z ∈ L, free z.base) ∧ B.cells = A.cells + mc ∧ B.slots = A.slots + ms
def vx_Back (l : Launch) (R : Room) (p : Program) (e : Env) (below : List Frame) (s : State) (sargs : Array Value) (y : MethodName) (len W9 : Nat)
    (Pre : Pt → Array Value → Prop) (Post : Pt → Array Value → Option Value → Pt → Prop) (PostX : Pt → Array Value → Addr → Pt → Prop) : Prop :=
  ∀ (m : MethodId) (meth : Method) (c : Code) (A : Pt) (g : JFrame) (ig : Instr) (mk : MethodId) (a : Array Value),
    Stand p l e R s m sargs below meth c A.U A.locs A.cells A.slots → g.method = m → g.locals.size = c.maxLocals → decode c.code g.pc = .ok (ig, len) →
    2 * g.monitorRoom + (g.stack.map fun v => v.category).sum ≤ W9 → A.U.methodNamed? y = some mk → Pre A a →
    (∃ (v : Option Value) (B : Pt), Stand p l e R s m sargs below meth c B.U B.locs B.cells B.slots ∧ Post A a v B ∧
      Steps p.tables e below (doInvoke e (A.U.setTop g) [] mk a).1 (B.U.setTop { g with pc := g.pc + len, stack := v.toList ++ g.stack })) ∨
    (∃ (q : Addr) (B : Pt), Stand p l e R s m sargs below meth c B.U B.locs B.cells B.slots ∧ PostX A a q B ∧
      Steps p.tables e below (doInvoke e (A.U.setTop g) [] mk a).1 ((B.U.setTop g).pushFrame (.throwing q)))
section Payer
variable {l : Launch} {R : Room} {p : Program} {e : Env} {below : List Frame} {s : State} {sargs : Array Value} {y : MethodName} {len W9 : Nat}
theorem vx_back {ws : List Cond} {rm : Room} {Pc : Array Value → State → Prop} {Qc : Array Value → State → Outcome → State → Prop} {XC : String → State → State → Prop} {mc ms : Nat} {free : Addr → Prop} {bytes : ByteArray} {maxL : Nat} {ret : Option FieldType}
    (hM : vx_Met l y ws rm Pc Qc XC mc ms free) (hblind : FrameBlind Pc) (hrc : rm.cells = mc) (hrs : rm.slots = ms)
    (hframes : rm.frames + 1 ≤ R.frames) (hlocals : W9 + (maxL + 11) + rm.locals ≤ R.locals)
    (hws : ∀ w ∈ ws, ∀ a' U, s.WarmedH U.vm → w.before a' U = true) (hcode : Cond.code y bytes maxL ret ∈ ws) (hinit : ∀ a' U, s.WarmedH U.vm → (Cond.initialized y.cls).before a' U = true) :
    vx_Back l R p e below s sargs y len W9 (PreOf R mc ms Pc) (PostOf Qc mc ms free) (vx_Post XC mc ms free) := by
  intro m meth c A g ig mk a X hg hsize hdg hW hn hp
  have h1 : (headSpec ws rm).pre.before a A.U = true := atoms_intro fun w hw => hws w hw _ _ X.warmed
  have h2 : (Cond.code y bytes maxL ret).before a A.U = true := hws _ hcode _ _ X.warmed
  have h3 : (Cond.initialized y.cls).before a A.U = true := hinit _ _ X.warmed
  have h4 : A.cells + (headSpec ws rm).room.cells ≤ R.cells := by rw [show (headSpec ws rm).room.cells = mc from hrc]; exact hp.1
  have h5 : A.slots + (headSpec ws rm).room.slots ≤ R.slots := by rw [show (headSpec ws rm).room.slots = ms from hrs]; exact hp.2.1
  have hPc : Pc a (A.U.calling g mk a) := hblind _ _ _ _ hp.2.2
  obtain ⟨U, Ls, c0, s0⟩ := A
  dsimp only [Pt.U, Pt.locs, Pt.cells, Pt.slots] at h1 h2 h3 h4 h5 X hn hPc ⊢
  obtain ⟨methY, cY, hmY, hcY, -, hlY, -, -, -, -⟩ := Cond.code_spec hn h2
  obtain ⟨kY, hkY, -⟩ := className_of_methodNamed hn
  have hinitY : kY.init = .initialized := Cond.initialized_spec (findClass_of_methodNamed hn) hkY h3
  have h : At U g.method c below := by rw [hg]; exact X.here
  have hlocals9 : W9 + (maxL + 11) + (headSpec ws rm).room.locals ≤ R.locals := hlocals
  have happ : (headSpec ws rm).appliesLoose y e.platform (U.calling g mk a) = true :=
    Spec.appliesLoose_calling (g := g) h hdg hn hkY hinitY
      (X.room_calling (g := g) (R' := (headSpec ws rm).room) hsize hmY hcY hframes (by rw [hlY]; omega) h4 h5) h1
  obtain ⟨mid, hmid⟩ := h.above
  have hfr : (U.setTop g).frames = (.java g :: mid) ++ below := by rw [State.frames_setTop' g h.top, hmid]; rfl
  obtain ⟨o, s₂, hsteps, -, hend, hq⟩ := Steps.callFree hM p X.admits X.cas X.clock (acts := []) hfr happ hPc trivial
  have hq' : vx_Q Qc XC mc ms free a (U.calling g mk a) o s₂ := hq
  rw [State.frames_setTop' g h.top] at hend
  obtain ⟨g₀, hg0⟩ := Option.isSome_iff_exists.mp h.top
  obtain ⟨r, hr⟩ := State.topJava?_eq_some.mp hg0
  have hr' : (({ U with heap := s₂.heap, slotsUsed := s₂.slotsUsed } : State).setVm s₂.vm).frames = .java g₀ :: r := hr
  rcases hq' with ⟨hqc, L, hfe, hL⟩ | ⟨q, rfl, E, ce, L, hx, hce, hcv, hcl, hW₂, hsm, hL⟩
  · obtain ⟨⟨v, rfl⟩, hW₂, e2, q2, q3, q4, q5, q6⟩ := id hfe
    have e3 : s₂ = ({ (U.calling g mk a).setFrames s₂.frames with heap := s₂.heap, slotsUsed := s₂.slotsUsed } : State).setVm s₂.vm := by
      have : s₂ = ({ s₂ with vm := (U.calling g mk a).vm } : State).setVm s₂.vm := rfl
      rw [e2] at this
      exact this
    obtain ⟨c₂, i₂, len₂, hc₂, hd₂, hf₂⟩ := hend
    have hW' : U.WarmedH s₂.vm := hW₂
    have hcc : c₂ = c := by
      have h1 : s₂.code? g.method = U.code? g.method := by
        rw [State.code?_eq, State.code?_eq, hW'.alike.method?]
      exact Option.some.inj (hc₂.symm.trans (h1.trans h.code))
    subst hcc
    have hlen : len₂ = len := by rw [hdg] at hd₂; cases hd₂; rfl
    subst hlen
    have hs₂ : s₂ = (({ U with heap := s₂.heap, slotsUsed := s₂.slotsUsed } : State).setVm s₂.vm).setTop { g with pc := g.pc + len₂, stack := v.toList ++ g.stack } := by
      refine e3.trans ?_
      rw [hf₂, State.calling_eq h.top, State.setFrames_setFrames, State.setTop_of_frames _ hr', hr]
      rfl
    have hsame : U.sameButNew ({ U with heap := s₂.heap, slotsUsed := s₂.slotsUsed } : State) L mc ms := by
      refine ⟨?_, q2, q3, q4, q5, q6⟩
      obtain ⟨t, ht, -⟩ := State.frames_cons hr
      show ({ U with heap := s₂.heap, slotsUsed := s₂.slotsUsed } : State) = { U.setFrames U.frames with heap := s₂.heap, slotsUsed := s₂.slotsUsed }
      rw [State.setFrames_self ht]
    subst hg
    refine Or.inl ⟨v, ⟨(({ U with heap := s₂.heap, slotsUsed := s₂.slotsUsed } : State).setVm s₂.vm), Ls ++ L, c0 + mc, s0 + ms⟩,
      ⟨X.admits, X.cas, X.clock, X.frames, X.room, X.hears, X.method, X.code, (X.here.setHeapUsed s₂.heap s₂.slotsUsed).setVm hW'.alike, X.tail, State.WarmedH.trans X.warmed hW', X.limits, X.bytes, X.same.trans (hsame.setVm s.vm)⟩,
      ⟨g, mk, s₂, L, rfl, rfl, hqc, rfl, hL, rfl, rfl⟩, ?_⟩
    show Steps p.tables e below _ ((({ U with heap := s₂.heap, slotsUsed := s₂.slotsUsed } : State).setVm s₂.vm).setTop { g with pc := g.pc + len₂, stack := v.toList ++ g.stack })
    rw [← hs₂]
    exact hsteps
  · obtain ⟨e2, q2, q3, q4, q5, q6⟩ := id hsm
    have e3 : s₂ = ({ (U.calling g mk a).setFrames s₂.frames with heap := s₂.heap, slotsUsed := s₂.slotsUsed } : State).setVm s₂.vm := by
      have : s₂ = ({ s₂ with vm := (U.calling g mk a).vm } : State).setVm s₂.vm := rfl
      rw [e2] at this
      exact this
    have hf₂ : s₂.frames = .throwing q :: .java g :: U.frames.tail := hend
    have hW' : U.WarmedH s₂.vm := hW₂
    have hs₂ : s₂ = ((({ U with heap := s₂.heap, slotsUsed := s₂.slotsUsed } : State).setVm s₂.vm).setTop g).pushFrame (.throwing q) := by
      refine e3.trans ?_
      rw [hf₂, State.calling_eq h.top, State.setFrames_setFrames, State.pushFrame, State.frames_setTop _ hr', State.setTop_of_frames _ hr', State.setFrames_setFrames, hr]
      rfl
    have hsame : U.sameButNew ({ U with heap := s₂.heap, slotsUsed := s₂.slotsUsed } : State) L mc ms := by
      refine ⟨?_, q2, q3, q4, q5, q6⟩
      obtain ⟨t, ht, -⟩ := State.frames_cons hr
      show ({ U with heap := s₂.heap, slotsUsed := s₂.slotsUsed } : State) = { U.setFrames U.frames with heap := s₂.heap, slotsUsed := s₂.slotsUsed }
      rw [State.setFrames_self ht]
    subst hg
    refine Or.inr ⟨q, ⟨(({ U with heap := s₂.heap, slotsUsed := s₂.slotsUsed } : State).setVm s₂.vm), Ls ++ L, c0 + mc, s0 + ms⟩,
      ⟨X.admits, X.cas, X.clock, X.frames, X.room, X.hears, X.method, X.code, (X.here.setHeapUsed s₂.heap s₂.slotsUsed).setVm hW'.alike, X.tail, State.WarmedH.trans X.warmed hW', X.limits, X.bytes, X.same.trans (hsame.setVm s.vm)⟩,
      ⟨g, mk, s₂, L, E, ce, rfl, rfl, hx, hce, hcv, hcl, rfl, hL, rfl, rfl⟩, ?_⟩
    show Steps p.tables e below _ (((({ U with heap := s₂.heap, slotsUsed := s₂.slotsUsed } : State).setVm s₂.vm).setTop g).pushFrame (.throwing q))
    rw [← hs₂]
    exact hsteps
end Payer
section Calls
variable {p : Program} {l : Launch} {e : Env} {R : Room} {s : State} {m : MethodId} {args : Array Value} {below : List Frame} {meth : Method} {c : Code} {T : State} {locs : List Loc} {cells slots : Nat}
theorem vx_callV (X : Stand p l e R s m args below meth c T locs cells slots) (hexec : p.tables.exec = Jvm.exec) {own C : String} {index : Nat} {y : MethodName} {bytes : ByteArray} {maxL : Nat} {ret : Option FieldType}
    (hown : s.vm.findClass own = some m.cls) (hlink : (Cond.methodLink own index y).before args s = true) (hinst : (Cond.instanceMethod y).before args s = true) (hsel : (Cond.selects C y y).before args s = true)
    (hcode : (Cond.code y bytes maxL ret).before args s = true) (hy : y.cls ≠ "java/lang/invoke/MethodHandle" ∧ y.cls ≠ "java/lang/invoke/VarHandle")
    {W9 : Nat} {Pre : Pt → Array Value → Prop} {Post : Pt → Array Value → Option Value → Pt → Prop} {PostX : Pt → Array Value → Addr → Pt → Prop} (hK : vx_Back l R p e below s args y 3 W9 Pre Post PostX)
    {b : Addr} {cellB : Cell} (hcell : T.heap[b]? = some cellB) (hobj : cellB.vm.isStatics = false) (hcls : s.vm.findClass C = some cellB.cls)
    {g : JFrame} (hg : g.method = m) (hsize : g.locals.size = c.maxLocals) {argsL rest : List Value} (hlen : ∀ sig, parseMethodDescriptor y.desc = some sig → argsL.length = sig.parameters.length)
    (hstack : g.stack = argsL.reverse ++ .ref b :: rest) (hW : 2 * g.monitorRoom + (rest.map fun v => v.category).sum ≤ W9) (hdg : decode c.code g.pc = .ok (.invokevirtual index, 3))
    (hpre : ∀ vm₁, s.WarmedH vm₁ → Pre ⟨T.setVm vm₁, locs, cells, slots⟩ (Value.ref b :: argsL).toArray) :
    (∃ (v : Option Value) (vm₁ : Vm) (B : Pt), s.WarmedH vm₁ ∧ Stand p l e R s m args below meth c B.U B.locs B.cells B.slots ∧ Post ⟨T.setVm vm₁, locs, cells, slots⟩ (Value.ref b :: argsL).toArray v B ∧
      ∀ target, Steps p.tables e below (B.U.setTop { g with pc := g.pc + 3, stack := v.toList ++ rest }) target → Steps p.tables e below (T.setTop g) target) ∨
    (∃ (q : Addr) (vm₁ : Vm) (B : Pt), s.WarmedH vm₁ ∧ Stand p l e R s m args below meth c B.U B.locs B.cells B.slots ∧ PostX ⟨T.setVm vm₁, locs, cells, slots⟩ (Value.ref b :: argsL).toArray q B ∧
      Steps p.tables e below (T.setTop g) ((B.U.setTop { g with stack := rest }).pushFrame (.throwing q))) := by
  obtain ⟨mk, methM, hnamed, hmethM, hstM, habM⟩ := Cond.instanceMethod_spec hinst
  obtain ⟨methM', cM, hmethM', -, -, -, -, -, -, hsigM⟩ := Cond.code_spec hnamed hcode
  cases hmethM.symm.trans hmethM'
  obtain ⟨c2, r2, m2, q1, q2, q3, q4, kP, hkP, hkPi⟩ := Cond.selects_spec hsel
  cases hcls.symm.trans q1
  cases (State.methodFound?_of_named hnamed hy).symm.trans q2
  cases hnamed.symm.trans q3
  have hselP : selectMethod e.platform s.vm cellB.cls mk = .method mk := by rw [Launch.admits_selectMethod X.admits]; exact q4
  obtain ⟨vm₁, X₁, hstep₁⟩ := X.invokevirtual hexec hown hlink hnamed hmethM hstM hkP hkPi hy (a := b) (cell := cellB) hcell
    (fun z h => by rw [h] at hobj; cases hobj) hselP hmethM habM hkP hkPi (g := g) hg (argsL := argsL) (rest := rest) (hlen _ hsigM) hstack hdg
  rcases hK m meth c ⟨T.setVm vm₁, locs, cells, slots⟩ { g with stack := rest } (.invokevirtual index) mk (Value.ref b :: argsL).toArray X₁ hg hsize hdg hW (X₁.named hnamed) (hpre vm₁ X₁.warmed) with ⟨v, B, X', hpost, hsteps⟩ | ⟨q, B, X', hpost, hsteps⟩
  · exact Or.inl ⟨v, vm₁, B, X₁.warmed, X', hpost, fun target h => hstep₁ _ fun acts => by rw [doInvoke_state]; exact hsteps.trans h⟩
  · exact Or.inr ⟨q, vm₁, B, X₁.warmed, X', hpost, hstep₁ _ fun acts => by rw [doInvoke_state]; exact hsteps⟩
theorem vx_callS (X : Stand p l e R s m args below meth c T locs cells slots) (hexec : p.tables.exec = Jvm.exec) {own : String} {index : Nat} {y : MethodName} {bytes : ByteArray} {maxL : Nat} {ret : Option FieldType}
    (hown : s.vm.findClass own = some m.cls) (hlink : (Cond.methodLink own index y).before args s = true) (hstat : (Cond.static y).before args s = true) (hinit : (Cond.initialized y.cls).before args s = true)
    (hcode : (Cond.code y bytes maxL ret).before args s = true) (hy : y.cls ≠ "java/lang/invoke/MethodHandle" ∧ y.cls ≠ "java/lang/invoke/VarHandle")
    {W9 : Nat} {Pre : Pt → Array Value → Prop} {Post : Pt → Array Value → Option Value → Pt → Prop} {PostX : Pt → Array Value → Addr → Pt → Prop} (hK : vx_Back l R p e below s args y 3 W9 Pre Post PostX)
    {g : JFrame} (hg : g.method = m) (hsize : g.locals.size = c.maxLocals) {argsL rest : List Value} (hlen : ∀ sig, parseMethodDescriptor y.desc = some sig → argsL.length = sig.parameters.length)
    (hstack : g.stack = argsL.reverse ++ rest) (hW : 2 * g.monitorRoom + (rest.map fun v => v.category).sum ≤ W9) (hdg : decode c.code g.pc = .ok (.invokestatic index, 3))
    (hpre : ∀ vm₁, s.WarmedH vm₁ → Pre ⟨T.setVm vm₁, locs, cells, slots⟩ argsL.toArray) :
    (∃ (v : Option Value) (vm₁ : Vm) (B : Pt), s.WarmedH vm₁ ∧ Stand p l e R s m args below meth c B.U B.locs B.cells B.slots ∧ Post ⟨T.setVm vm₁, locs, cells, slots⟩ argsL.toArray v B ∧
      ∀ target, Steps p.tables e below (B.U.setTop { g with pc := g.pc + 3, stack := v.toList ++ rest }) target → Steps p.tables e below (T.setTop g) target) ∨
    (∃ (q : Addr) (vm₁ : Vm) (B : Pt), s.WarmedH vm₁ ∧ Stand p l e R s m args below meth c B.U B.locs B.cells B.slots ∧ PostX ⟨T.setVm vm₁, locs, cells, slots⟩ argsL.toArray q B ∧
      Steps p.tables e below (T.setTop g) ((B.U.setTop { g with stack := rest }).pushFrame (.throwing q))) := by
  obtain ⟨mk, hnamed⟩ := Cond.code_named hcode
  obtain ⟨methM, cM, hmethM, -, -, -, -, -, -, hsigM⟩ := Cond.code_spec hnamed hcode
  have hstatic : methM.isStatic = true := Cond.static_spec hnamed hmethM hstat
  obtain ⟨kP, hkP, -⟩ := className_of_methodNamed hnamed
  have hinitP : kP.init = .initialized := Cond.initialized_spec (findClass_of_methodNamed hnamed) hkP hinit
  obtain ⟨vm₁, X₁, hstep₁⟩ := X.invokestatic hexec hown hlink hnamed hmethM hstatic hkP hinitP hy (g := g) hg (argsL := argsL) (rest := rest) (hlen _ hsigM) hstack hdg
  rcases hK m meth c ⟨T.setVm vm₁, locs, cells, slots⟩ { g with stack := rest } (.invokestatic index) mk argsL.toArray X₁ hg hsize hdg hW (X₁.named hnamed) (hpre vm₁ X₁.warmed) with ⟨v, B, X', hpost, hsteps⟩ | ⟨q, B, X', hpost, hsteps⟩
  · exact Or.inl ⟨v, vm₁, B, X₁.warmed, X', hpost, fun target h => hstep₁ _ fun acts => by rw [doInvoke_state]; exact hsteps.trans h⟩
  · exact Or.inr ⟨q, vm₁, B, X₁.warmed, X', hpost, hstep₁ _ fun acts => by rw [doInvoke_state]; exact hsteps⟩
end Calls
theorem vx_cls {s : State} {T : State} {vm₁ : Vm} {E : String} {k : ClassId} (hW : s.WarmedH vm₁) (h : (T.setVm vm₁).vm.findClass E = some k) : s.vm.findClass E = some k := by
  have h1 : vm₁.findClass E = some k := h
  rw [hW.alike.findClass] at h1
  exact h1
/-- the method's frame g, with q thrown over it -/
def vx_W (p : Program) (l : Launch) (e : Env) (R : Room) (s : State) (m : MethodId) (args : Array Value) (below : List Frame) (meth : Method) (c : Code) (H : Heap) (locs : List Loc) (cells slots : Nat) (Q : State → Prop) (g : JFrame) (q : Addr) : Prop :=
  ∀ T : State, T.heap = H → Stand p l e R s m args below meth c T locs cells slots → ∃ t, Steps p.tables e below ((T.setTop g).pushFrame (.throwing q)) t ∧ Q t
def vx_Run (p : Program) (l : Launch) (e : Env) (R : Room) (s : State) (m : MethodId) (args : Array Value) (below : List Frame) (meth : Method) (c : Code) (H : Heap) (locs : List Loc) (cells slots mc ms : Nat) (g : JFrame) (rest : List Value) (Qa : State → Outcome → State → Prop) (XC : String → State → State → Prop) (free : Addr → Prop) : Prop :=
  ∀ T : State, T.heap = H → Stand p l e R s m args below meth c T locs cells slots →
    (∃ (v : Option Value) (st₀ t T' : State) (L : List Loc), st₀.heap = H ∧ Stand p l e R s m args below meth c T' (locs ++ L) (cells + mc) (slots + ms) ∧ (∀ q ∈ L, free q.base) ∧ T'.heap = t.heap ∧ T'.vm = t.vm ∧ Qa st₀ (.returned v) t ∧
      Goes p e below T g T' { g with pc := g.pc + 3, stack := v.toList ++ rest }) ∨
    (∃ (q : Addr) (st₀ t T' : State) (L : List Loc) (E : String) (ce : Cell), st₀.heap = H ∧ Stand p l e R s m args below meth c T' (locs ++ L) (cells + mc) (slots + ms) ∧ (∀ z ∈ L, free z.base) ∧ T'.heap = t.heap ∧ T'.vm = t.vm ∧ XC E st₀ t ∧ t.heap[q]? = some ce ∧ ce.vm = .none ∧ s.vm.findClass E = some ce.cls ∧
      Steps p.tables e below (T.setTop g) ((T'.setTop { g with stack := rest }).pushFrame (.throwing q)))
def vx_X {S : Type} (px : S → Prop) (B : String → S → State → Prop) (A : Nat → Prop) : String → State → State → Prop := fun E st t => ∃ u : S, px u ∧ B E u t ∧ va_F A st t
section Runs
variable {p : Program} {l : Launch} {e : Env} {R : Room} {s : State} {m : MethodId} {args : Array Value} {below : List Frame} {meth : Method} {c : Code} {H : Heap} {locs : List Loc} {cells slots : Nat}
variable {y : MethodName} {bytes cc : ByteArray} {maxL nL mc ms n index : Nat} {ret : Option FieldType} {ws : List Cond} {rm : Room} {Pc : Array Value → State → Prop} {Qc : Array Value → State → Outcome → State → Prop} {XC : String → State → State → Prop} {free : Addr → Prop} {Ts : List Cond} {own C : String} {b : Addr} {As rest : List Value} {g : JFrame}
theorem vx_callBack (cb : CallB R s args own index y bytes maxL ret ws rm mc ms n) (hM : vx_Met l y ws rm Pc Qc XC mc ms free) (hbl : FrameBlind Pc) : vx_Back l R p e below s args y 3 8 (PreOf R mc ms Pc) (PostOf Qc mc ms free) (vx_Post XC mc ms free) := by
  obtain ⟨hrc, hrs, hfr, hlo, hws, hcw, -, hini, -⟩ := cb
  exact vx_back (bytes := bytes) (maxL := maxL) (ret := ret) hM hbl hrc hrs hfr hlo hws hcw (fun a' U hW => word_at hW (Or.inl (by first | rfl | simp [Cond.onTables, Cond.keeps, Cond.steady])) hini)
theorem vx_runV (S : CallFix p m c cc nL s args Ts own) (hM : vx_Met l y ws rm Pc Qc XC mc ms free) (cw : CallW R s args own C index y bytes maxL ret ws rm mc ms n) (hp : PreV s H C b Pc As)
    (hg : g.method = m) (hn : As.length = n) (hsize : g.locals.size = nL) (hstack : g.stack = As.reverse ++ .ref b :: rest) (hW : 2 * g.monitorRoom + (rest.map fun v => v.category).sum ≤ 8) (hdg : decode cc g.pc = .ok (.invokevirtual index, 3)) (hf : cells + mc ≤ R.cells ∧ slots + ms ≤ R.slots) :
    vx_Run p l e R s m args below meth c H locs cells slots mc ms g rest (Qc (Value.ref b :: As).toArray) XC free := by
  have hK : vx_Back l R p e below s args y 3 8 (PreOf R mc ms Pc) (PostOf Qc mc ms free) (vx_Post XC mc ms free) := vx_callBack cw.1 hM hp.1
  obtain ⟨⟨-, -, -, -, -, -, hcode, -, hy, hlen, hl⟩, hin, hse⟩ := cw
  obtain ⟨hx, hb, hml, ho, -⟩ := S
  obtain ⟨-, ⟨cellB, hcB, hoB, hclB⟩, hPc⟩ := hp
  intro T hT X
  rcases vx_callV X hx (C := C) (bytes := bytes) (maxL := maxL) (ret := ret) ho hl hin hse hcode hy hK (by rw [hT]; exact hcB) hoB hclB hg (hsize.trans hml.symm) (argsL := As) (rest := rest) (fun sig h => hn.trans (hlen sig h)) hstack hW (by rw [hb]; exact hdg)
    (fun vm₁ hW₁ => ⟨hf.1, hf.2, hPc (T.setVm vm₁) hT hW₁⟩) with ⟨v, vm₁, ⟨U', l2, c2, s2⟩, hW₁, X', ⟨g', mk, t, L, e1, e2, hq, h1, hL, h2, h3⟩, st⟩ | ⟨q, vm₁, ⟨U', l2, c2, s2⟩, hW₁, X', ⟨g', mk, t, L, E, ce, e1, e2, hq, hce, hcv, hcl, h1, hL, h2, h3⟩, st⟩
  · dsimp only [Pt.U, Pt.locs, Pt.cells, Pt.slots] at X' e1 e2 h1 h2 h3 st
    subst h1; subst h2; subst h3
    exact Or.inl ⟨v, (T.setVm vm₁).calling g' mk (Value.ref b :: As).toArray, t, U', L, hT, X', hL, e1, e2, hq, st⟩
  · dsimp only [Pt.U, Pt.locs, Pt.cells, Pt.slots] at X' e1 e2 h1 h2 h3 st hcl
    subst h1; subst h2; subst h3
    exact Or.inr ⟨q, (T.setVm vm₁).calling g' mk (Value.ref b :: As).toArray, t, U', L, E, ce, hT, X', hL, e1, e2, hq, hce, hcv, vx_cls hW₁ hcl, st⟩
theorem vx_runS (S : CallFix p m c cc nL s args Ts own) (hM : vx_Met l y ws rm Pc Qc XC mc ms free) (cw : CallB R s args own index y bytes maxL ret ws rm mc ms n ∧ (Cond.static y).before args s = true) (hp : PreS s H Pc As)
    (hg : g.method = m) (hn : As.length = n) (hsize : g.locals.size = nL) (hstack : g.stack = As.reverse ++ rest) (hW : 2 * g.monitorRoom + (rest.map fun v => v.category).sum ≤ 8) (hdg : decode cc g.pc = .ok (.invokestatic index, 3)) (hf : cells + mc ≤ R.cells ∧ slots + ms ≤ R.slots) :
    vx_Run p l e R s m args below meth c H locs cells slots mc ms g rest (Qc As.toArray) XC free := by
  have hK : vx_Back l R p e below s args y 3 8 (PreOf R mc ms Pc) (PostOf Qc mc ms free) (vx_Post XC mc ms free) := vx_callBack cw.1 hM hp.1
  obtain ⟨⟨-, -, -, -, -, -, hcode, hini, hy, hlen, hl⟩, hstt⟩ := cw
  obtain ⟨hx, hb, hml, ho, -⟩ := S
  intro T hT X
  rcases vx_callS X hx (bytes := bytes) (maxL := maxL) (ret := ret) ho hl hstt hini hcode hy hK hg (hsize.trans hml.symm) (argsL := As) (rest := rest) (fun sig h => hn.trans (hlen sig h)) hstack hW (by rw [hb]; exact hdg)
    (fun vm₁ hW₁ => ⟨hf.1, hf.2, hp.2 (T.setVm vm₁) hT hW₁⟩) with ⟨v, vm₁, ⟨U', l2, c2, s2⟩, hW₁, X', ⟨g', mk, t, L, e1, e2, hq, h1, hL, h2, h3⟩, st⟩ | ⟨q, vm₁, ⟨U', l2, c2, s2⟩, hW₁, X', ⟨g', mk, t, L, E, ce, e1, e2, hq, hce, hcv, hcl, h1, hL, h2, h3⟩, st⟩
  · dsimp only [Pt.U, Pt.locs, Pt.cells, Pt.slots] at X' e1 e2 h1 h2 h3 st
    subst h1; subst h2; subst h3
    exact Or.inl ⟨v, (T.setVm vm₁).calling g' mk As.toArray, t, U', L, hT, X', hL, e1, e2, hq, st⟩
  · dsimp only [Pt.U, Pt.locs, Pt.cells, Pt.slots] at X' e1 e2 h1 h2 h3 st hcl
    subst h1; subst h2; subst h3
    exact Or.inr ⟨q, (T.setVm vm₁).calling g' mk As.toArray, t, U', L, E, ce, hT, X', hL, e1, e2, hq, hce, hcv, vx_cls hW₁ hcl, st⟩
end Runs
section Rows
variable {p : Program} {l : Launch} {e : Env} {R : Room} {s : State} {m : MethodId} {args : Array Value} {below : List Frame} {meth : Method} {c : Code} {H : Heap} {locs : List Loc} {cells slots : Nat} {Q : State → Prop}
variable {mc ms : Nat} {free : Addr → Prop} {A0 A1 : Nat → Prop} {H0 : Heap} {a : Array Value} {pc : Nat} {ls : Array Slot} {st0 rest : List Value}
theorem vx_keep {st₀ t T' : State} {L : List Loc} (h0 : st₀.heap = H) (e1 : T'.heap = t.heap) (hS : va_S A0 H0 H locs) (hA : ∀ q, q < H.size → A1 q → A0 q) (hf : ∀ q, free q → A0 q) (hL : ∀ q ∈ L, free q.base) (hF : va_F A1 st₀ t) :
    H.size ≤ T'.heap.size ∧ (∀ q : Nat, q < H.size → ¬ A1 q → T'.heap[q]? = H[q]?) ∧ va_S A0 H0 T'.heap (locs ++ L) := by
  obtain ⟨hz, hk⟩ := hF
  rw [h0] at hz hk
  exact ⟨by rw [e1]; exact hz, fun q h1 h2 => by rw [e1]; exact hk q h1 h2,
    ⟨Nat.le_trans hS.1 (by rw [e1]; exact hz), fun q h1 h2 => by rw [e1, hk q (Nat.lt_of_lt_of_le h1 hS.1) (fun z => h2 (hA q (Nat.lt_of_lt_of_le h1 hS.1) z))]; exact hS.2.1 q h1 h2, fun q hq => by
      rcases List.mem_append.mp hq with h | h
      · exact hS.2.2 q h
      · exact hf _ (hL q h)⟩⟩
theorem vx_calli {S SX : Type} {post : Int32 → S → Prop} {px : SX → Prop} {B : S → State → Prop} {BX : String → SX → State → Prop} {AX : Nat → Prop} (hr : vx_Run p l e R s m args below meth c H locs cells slots mc ms (F0 m pc ls st0) rest (va_Qi post B A1 a) (vx_X px BX AX) free) (hS : va_S A0 H0 H locs) (hA : ∀ q, q < H.size → A1 q → A0 q) (hf : ∀ q, free q → A0 q) (hAX : ∀ q, q < H.size → AX q → A0 q)
    (kx : ∀ (E : String) (ce : Cell) (q9 : Addr) (u : SX) (t : State) (H1 : Heap) (locs1 : List Loc), t.heap = H1 → s.vm.Alike t.vm → px u → BX E u t → H.size ≤ H1.size → (∀ q : Nat, q < H.size → ¬ AX q → H1[q]? = H[q]?) → va_S A0 H0 H1 locs1 → H1[q9]? = some ce → ce.vm = .none → s.vm.findClass E = some ce.cls → vx_W p l e R s m args below meth c H1 locs1 (cells + mc) (slots + ms) Q (F0 m pc ls rest) q9)
    (kk : ∀ (r : Int32) (u : S) (t : State) (H1 : Heap) (locs1 : List Loc), t.heap = H1 → s.vm.Alike t.vm → post r u → B u t → H.size ≤ H1.size → (∀ q : Nat, q < H.size → ¬ A1 q → H1[q]? = H[q]?) → va_S A0 H0 H1 locs1 → W p l e R s m args below meth c H1 locs1 (cells + mc) (slots + ms) Q (F0 m (pc + 3) ls (.int r :: rest))) : W p l e R s m args below meth c H locs cells slots Q (F0 m pc ls st0) := by
  intro T hT X
  rcases hr T hT X with ⟨v, st₀, t, T', L, h0, X', hL, e1, e2, ⟨⟨r, u, hv, hp, hb⟩, hF⟩, st⟩ | ⟨q, st₀, t, T', L, E, ce, h0, X', hL, e1, e2, ⟨u, hp, hb, hF⟩, hce, hcv, hcl, st⟩
  · cases hv
    obtain ⟨k1, k2, k3⟩ := vx_keep h0 e1 hS hA hf hL hF
    obtain ⟨t2, a1, b1⟩ := kk r u t T'.heap (locs ++ L) e1.symm (by rw [← e2]; exact X'.warmed.alike) hp hb k1 k2 k3 T' rfl X'
    exact ⟨t2, st t2 a1, b1⟩
  · obtain ⟨k1, k2, k3⟩ := vx_keep h0 e1 hS hAX hf hL hF
    obtain ⟨t2, a1, b1⟩ := kx E ce q u t T'.heap (locs ++ L) e1.symm (by rw [← e2]; exact X'.warmed.alike) hp hb k1 k2 k3 (by rw [e1]; exact hce) hcv hcl T' rfl X'
    exact ⟨t2, st.trans a1, b1⟩
theorem vx_calll {S SX : Type} {post : Int64 → S → Prop} {px : SX → Prop} {B : S → State → Prop} {BX : String → SX → State → Prop} {AX : Nat → Prop} (hr : vx_Run p l e R s m args below meth c H locs cells slots mc ms (F0 m pc ls st0) rest (va_Ql post B A1 a) (vx_X px BX AX) free) (hS : va_S A0 H0 H locs) (hA : ∀ q, q < H.size → A1 q → A0 q) (hf : ∀ q, free q → A0 q) (hAX : ∀ q, q < H.size → AX q → A0 q)
    (kx : ∀ (E : String) (ce : Cell) (q9 : Addr) (u : SX) (t : State) (H1 : Heap) (locs1 : List Loc), t.heap = H1 → s.vm.Alike t.vm → px u → BX E u t → H.size ≤ H1.size → (∀ q : Nat, q < H.size → ¬ AX q → H1[q]? = H[q]?) → va_S A0 H0 H1 locs1 → H1[q9]? = some ce → ce.vm = .none → s.vm.findClass E = some ce.cls → vx_W p l e R s m args below meth c H1 locs1 (cells + mc) (slots + ms) Q (F0 m pc ls rest) q9)
    (kk : ∀ (r : Int64) (u : S) (t : State) (H1 : Heap) (locs1 : List Loc), t.heap = H1 → s.vm.Alike t.vm → post r u → B u t → H.size ≤ H1.size → (∀ q : Nat, q < H.size → ¬ A1 q → H1[q]? = H[q]?) → va_S A0 H0 H1 locs1 → W p l e R s m args below meth c H1 locs1 (cells + mc) (slots + ms) Q (F0 m (pc + 3) ls (.long r :: rest))) : W p l e R s m args below meth c H locs cells slots Q (F0 m pc ls st0) := by
  intro T hT X
  rcases hr T hT X with ⟨v, st₀, t, T', L, h0, X', hL, e1, e2, ⟨⟨r, u, hv, hp, hb⟩, hF⟩, st⟩ | ⟨q, st₀, t, T', L, E, ce, h0, X', hL, e1, e2, ⟨u, hp, hb, hF⟩, hce, hcv, hcl, st⟩
  · cases hv
    obtain ⟨k1, k2, k3⟩ := vx_keep h0 e1 hS hA hf hL hF
    obtain ⟨t2, a1, b1⟩ := kk r u t T'.heap (locs ++ L) e1.symm (by rw [← e2]; exact X'.warmed.alike) hp hb k1 k2 k3 T' rfl X'
    exact ⟨t2, st t2 a1, b1⟩
  · obtain ⟨k1, k2, k3⟩ := vx_keep h0 e1 hS hAX hf hL hF
    obtain ⟨t2, a1, b1⟩ := kx E ce q u t T'.heap (locs ++ L) e1.symm (by rw [← e2]; exact X'.warmed.alike) hp hb k1 k2 k3 (by rw [e1]; exact hce) hcv hcl T' rfl X'
    exact ⟨t2, st.trans a1, b1⟩
theorem vx_callf {S SX : Type} {post : UInt32 → S → Prop} {px : SX → Prop} {B : S → State → Prop} {BX : String → SX → State → Prop} {AX : Nat → Prop} (hr : vx_Run p l e R s m args below meth c H locs cells slots mc ms (F0 m pc ls st0) rest (va_Qf post B A1 a) (vx_X px BX AX) free) (hS : va_S A0 H0 H locs) (hA : ∀ q, q < H.size → A1 q → A0 q) (hf : ∀ q, free q → A0 q) (hAX : ∀ q, q < H.size → AX q → A0 q)
    (kx : ∀ (E : String) (ce : Cell) (q9 : Addr) (u : SX) (t : State) (H1 : Heap) (locs1 : List Loc), t.heap = H1 → s.vm.Alike t.vm → px u → BX E u t → H.size ≤ H1.size → (∀ q : Nat, q < H.size → ¬ AX q → H1[q]? = H[q]?) → va_S A0 H0 H1 locs1 → H1[q9]? = some ce → ce.vm = .none → s.vm.findClass E = some ce.cls → vx_W p l e R s m args below meth c H1 locs1 (cells + mc) (slots + ms) Q (F0 m pc ls rest) q9)
    (kk : ∀ (r : UInt32) (u : S) (t : State) (H1 : Heap) (locs1 : List Loc), t.heap = H1 → s.vm.Alike t.vm → post r u → B u t → H.size ≤ H1.size → (∀ q : Nat, q < H.size → ¬ A1 q → H1[q]? = H[q]?) → va_S A0 H0 H1 locs1 → W p l e R s m args below meth c H1 locs1 (cells + mc) (slots + ms) Q (F0 m (pc + 3) ls (.float r :: rest))) : W p l e R s m args below meth c H locs cells slots Q (F0 m pc ls st0) := by
  intro T hT X
  rcases hr T hT X with ⟨v, st₀, t, T', L, h0, X', hL, e1, e2, ⟨⟨r, u, hv, hp, hb⟩, hF⟩, st⟩ | ⟨q, st₀, t, T', L, E, ce, h0, X', hL, e1, e2, ⟨u, hp, hb, hF⟩, hce, hcv, hcl, st⟩
  · cases hv
    obtain ⟨k1, k2, k3⟩ := vx_keep h0 e1 hS hA hf hL hF
    obtain ⟨t2, a1, b1⟩ := kk r u t T'.heap (locs ++ L) e1.symm (by rw [← e2]; exact X'.warmed.alike) hp hb k1 k2 k3 T' rfl X'
    exact ⟨t2, st t2 a1, b1⟩
  · obtain ⟨k1, k2, k3⟩ := vx_keep h0 e1 hS hAX hf hL hF
    obtain ⟨t2, a1, b1⟩ := kx E ce q u t T'.heap (locs ++ L) e1.symm (by rw [← e2]; exact X'.warmed.alike) hp hb k1 k2 k3 (by rw [e1]; exact hce) hcv hcl T' rfl X'
    exact ⟨t2, st.trans a1, b1⟩
theorem vx_calld {S SX : Type} {post : UInt64 → S → Prop} {px : SX → Prop} {B : S → State → Prop} {BX : String → SX → State → Prop} {AX : Nat → Prop} (hr : vx_Run p l e R s m args below meth c H locs cells slots mc ms (F0 m pc ls st0) rest (va_Qd post B A1 a) (vx_X px BX AX) free) (hS : va_S A0 H0 H locs) (hA : ∀ q, q < H.size → A1 q → A0 q) (hf : ∀ q, free q → A0 q) (hAX : ∀ q, q < H.size → AX q → A0 q)
    (kx : ∀ (E : String) (ce : Cell) (q9 : Addr) (u : SX) (t : State) (H1 : Heap) (locs1 : List Loc), t.heap = H1 → s.vm.Alike t.vm → px u → BX E u t → H.size ≤ H1.size → (∀ q : Nat, q < H.size → ¬ AX q → H1[q]? = H[q]?) → va_S A0 H0 H1 locs1 → H1[q9]? = some ce → ce.vm = .none → s.vm.findClass E = some ce.cls → vx_W p l e R s m args below meth c H1 locs1 (cells + mc) (slots + ms) Q (F0 m pc ls rest) q9)
    (kk : ∀ (r : UInt64) (u : S) (t : State) (H1 : Heap) (locs1 : List Loc), t.heap = H1 → s.vm.Alike t.vm → post r u → B u t → H.size ≤ H1.size → (∀ q : Nat, q < H.size → ¬ A1 q → H1[q]? = H[q]?) → va_S A0 H0 H1 locs1 → W p l e R s m args below meth c H1 locs1 (cells + mc) (slots + ms) Q (F0 m (pc + 3) ls (.double r :: rest))) : W p l e R s m args below meth c H locs cells slots Q (F0 m pc ls st0) := by
  intro T hT X
  rcases hr T hT X with ⟨v, st₀, t, T', L, h0, X', hL, e1, e2, ⟨⟨r, u, hv, hp, hb⟩, hF⟩, st⟩ | ⟨q, st₀, t, T', L, E, ce, h0, X', hL, e1, e2, ⟨u, hp, hb, hF⟩, hce, hcv, hcl, st⟩
  · cases hv
    obtain ⟨k1, k2, k3⟩ := vx_keep h0 e1 hS hA hf hL hF
    obtain ⟨t2, a1, b1⟩ := kk r u t T'.heap (locs ++ L) e1.symm (by rw [← e2]; exact X'.warmed.alike) hp hb k1 k2 k3 T' rfl X'
    exact ⟨t2, st t2 a1, b1⟩
  · obtain ⟨k1, k2, k3⟩ := vx_keep h0 e1 hS hAX hf hL hF
    obtain ⟨t2, a1, b1⟩ := kx E ce q u t T'.heap (locs ++ L) e1.symm (by rw [← e2]; exact X'.warmed.alike) hp hb k1 k2 k3 (by rw [e1]; exact hce) hcv hcl T' rfl X'
    exact ⟨t2, st.trans a1, b1⟩
theorem vx_callv {S SX : Type} {post : S → Prop} {px : SX → Prop} {B : S → State → Prop} {BX : String → SX → State → Prop} {AX : Nat → Prop} (hr : vx_Run p l e R s m args below meth c H locs cells slots mc ms (F0 m pc ls st0) rest (va_Qv post B A1 a) (vx_X px BX AX) free) (hS : va_S A0 H0 H locs) (hA : ∀ q, q < H.size → A1 q → A0 q) (hf : ∀ q, free q → A0 q) (hAX : ∀ q, q < H.size → AX q → A0 q)
    (kx : ∀ (E : String) (ce : Cell) (q9 : Addr) (u : SX) (t : State) (H1 : Heap) (locs1 : List Loc), t.heap = H1 → s.vm.Alike t.vm → px u → BX E u t → H.size ≤ H1.size → (∀ q : Nat, q < H.size → ¬ AX q → H1[q]? = H[q]?) → va_S A0 H0 H1 locs1 → H1[q9]? = some ce → ce.vm = .none → s.vm.findClass E = some ce.cls → vx_W p l e R s m args below meth c H1 locs1 (cells + mc) (slots + ms) Q (F0 m pc ls rest) q9)
    (kk : ∀ (u : S) (t : State) (H1 : Heap) (locs1 : List Loc), t.heap = H1 → s.vm.Alike t.vm → post u → B u t → H.size ≤ H1.size → (∀ q : Nat, q < H.size → ¬ A1 q → H1[q]? = H[q]?) → va_S A0 H0 H1 locs1 → W p l e R s m args below meth c H1 locs1 (cells + mc) (slots + ms) Q (F0 m (pc + 3) ls (rest))) : W p l e R s m args below meth c H locs cells slots Q (F0 m pc ls st0) := by
  intro T hT X
  rcases hr T hT X with ⟨v, st₀, t, T', L, h0, X', hL, e1, e2, ⟨⟨u, hv, hp, hb⟩, hF⟩, st⟩ | ⟨q, st₀, t, T', L, E, ce, h0, X', hL, e1, e2, ⟨u, hp, hb, hF⟩, hce, hcv, hcl, st⟩
  · cases hv
    obtain ⟨k1, k2, k3⟩ := vx_keep h0 e1 hS hA hf hL hF
    obtain ⟨t2, a1, b1⟩ := kk u t T'.heap (locs ++ L) e1.symm (by rw [← e2]; exact X'.warmed.alike) hp hb k1 k2 k3 T' rfl X'
    exact ⟨t2, st t2 a1, b1⟩
  · obtain ⟨k1, k2, k3⟩ := vx_keep h0 e1 hS hAX hf hL hF
    obtain ⟨t2, a1, b1⟩ := kx E ce q u t T'.heap (locs ++ L) e1.symm (by rw [← e2]; exact X'.warmed.alike) hp hb k1 k2 k3 (by rw [e1]; exact hce) hcv hcl T' rfl X'
    exact ⟨t2, st.trans a1, b1⟩
/-- caught by the row x of this method's table; the rows ahead don't take it -/
theorem vx_catch {own name : String} {E : String} {ce : Cell} {q : Addr} (hown : s.vm.findClass own = some m.cls) (pre : List ExceptionTableEntry) (x : ExceptionTableEntry) (suf : List ExceptionTableEntry) (hsplit : c.exceptionTable.toList = pre ++ x :: suf)
    (hpass : ∀ z ∈ pre, covers z pc = false ∨ (z.catchType ≠ 0 ∧ ∃ nm : String, (Cond.classLink own z.catchType nm).before args s = true ∧ va_Nc E nm s)) (hx : covers x pc = true) (h0 : x.catchType ≠ 0)
    (hlink : (Cond.classLink own x.catchType name).before args s = true) (hcast : (Cond.castable E name).before args s = true) (hcell : H[q]? = some ce) (hv : ce.vm = .none) (hcl : s.vm.findClass E = some ce.cls)
    (kk : W p l e R s m args below meth c H locs cells slots Q (F0 m x.handlerPc ls [.ref q])) : vx_W p l e R s m args below meth c H locs cells slots Q (F0 m pc ls rest) q := by
  intro T hT X
  have hpl : e.platform.magicAccessors = ({} : Platform).magicAccessors := by rw [X.admits.platform]
  obtain ⟨c3, c4, hc3, hc4, hasg⟩ := Cond.castable_spec hcast
  cases Option.some.inj (hc3.symm.trans hcl)
  obtain ⟨c5, hc5, hcl5⟩ := Cond.classLink_spec hown hlink e.platform hpl
  cases Option.some.inj (hc4.symm.trans hc5)
  obtain ⟨vm', X', st⟩ := X.thenCaughtThrough q (g := F0 m pc ls rest) rfl (Steps.refl _) (by rw [hT]; exact hcell) (by rw [hv]; rfl) (by obtain ⟨k9, h9, -⟩ := Vm.findClass_spec hcl; exact ⟨k9, h9⟩) pre x suf hsplit
    (fun z hz => by
      rcases hpass z hz with h | ⟨hz0, nm, hl1, hn1⟩
      · exact Or.inl h
      · obtain ⟨c6, hc6, hcl6⟩ := Cond.classLink_spec hown hl1 e.platform hpl
        obtain ⟨a8, b8, h1, h2, h3⟩ := hn1
        cases Option.some.inj (h1.symm.trans hcl)
        cases Option.some.inj (h2.symm.trans hc6)
        exact Or.inr ⟨hz0, _, hcl6, h3⟩) hx (Or.inr ⟨h0, c4, hcl5, hasg⟩)
  obtain ⟨t, a1, b1⟩ := kk (T.setVm vm') hT X'
  exact ⟨t, st.trans a1, b1⟩
end Rows
section Ends
variable {p : Program} {l : Launch} {e : Env} {R : Room} {s : State} {m : MethodId} {args : Array Value} {below : List Frame} {meth : Method} {c : Code} {H : Heap} {locs : List Loc} {cells slots : Nat} {Q : State → Prop}
variable {mc ms : Nat} {free : Addr → Prop} {A0 A1 : Nat → Prop} {H0 : Heap} {a : Array Value} {ls : Array Slot} {st0 rest : List Value}
variable {Qc : Array Value → State → Outcome → State → Prop} {XC : String → State → State → Prop}
/-- what a body that may throw owes at its end -/
def vx_MQ (below : List Frame) (Qc : Array Value → State → Outcome → State → Prop) (XC : String → State → State → Prop) (a : Array Value) (s : State) (mc ms : Nat) (free : Addr → Prop) : State → Prop := fun t =>
  ∃ o, t.status = .running ∧ Ended t below o ∧ vx_Q Qc XC mc ms free a s o t
theorem vx_ret {g : JFrame} {mc ms : Nat} (k : W p l e R s m args below meth c H locs cells slots (MQ below Qc args s mc ms free) g) : W p l e R s m args below meth c H locs cells slots (vx_MQ below Qc XC args s mc ms free) g := by
  intro T hT X
  obtain ⟨t, a1, o, b1, b2, b3, b4⟩ := k T hT X
  exact ⟨t, a1, o, b1, b2, Or.inl ⟨b3, b4⟩⟩
/-- not caught here: it goes on to the caller -/
theorem vx_widen {g : JFrame} {q : Addr} {k n : Nat} (h1 : cells ≤ k) (h2 : slots ≤ n) (kk : vx_W p l e R s m args below meth c H locs k n Q g q) : vx_W p l e R s m args below meth c H locs cells slots Q g q := fun T hT X => kk T hT (stand_widen X h1 h2)
theorem vx_out {pc : Nat} {E : String} {ce : Cell} {q : Addr} {mc ms : Nat} (hout : ∀ x ∈ c.exceptionTable.toList, covers x pc = false) (hlocks : meth.locks = false) (hcell : H[q]? = some ce) (hv : ce.vm = .none) (hcl : s.vm.findClass E = some ce.cls)
    (hx : ∀ t : State, t.heap = H → s.vm.Alike t.vm → XC E s t) (hf : ∀ z ∈ locs, free z.base) (hc : cells ≤ mc) (hs : slots ≤ ms) :
    vx_W p l e R s m args below meth c H locs cells slots (vx_MQ below Qc XC args s mc ms free) (F0 m pc ls rest) q := by
  intro T hT X
  obtain ⟨st1, hrun, hend, hW, hsm⟩ := X.leaveThrown q (g := F0 m pc ls rest) rfl rfl rfl hout hlocks
  have hcell9 : (T.setFrames (.throwing q :: below)).heap[q]? = some ce := by
    show T.heap[q]? = some ce
    rw [hT]; exact hcell
  exact ⟨_, st1, .threw q, hrun, hend, Or.inr ⟨q, rfl, E, ce, locs, hx _ hT hW.alike, hcell9, hv, hcl, hW, hsm.mono hc hs, hf⟩⟩
theorem vx_frame {U : State} {k n : Nat} (h : s.sameButNew ({ U with vm := s.vm } : State) locs k n) : s.heap.size ≤ U.heap.size ∧ ∀ q : Nat, q < s.heap.size → (∀ z ∈ locs, z.base ≠ q) → U.heap[q]? = s.heap[q]? := by
  obtain ⟨-, h2, -, -, -, h6⟩ := h
  refine ⟨h2, fun q hq hz => ?_⟩
  obtain ⟨c9, e1, e2, e3, e4⟩ := h6 q _ (Array.getElem?_eq_getElem hq)
  have hs : c9.slots = (s.heap[q]).slots := Array.ext_getElem? fun i => e4 i fun hm => hz _ hm rfl
  have h9 : c9 = s.heap[q] := by
    rw [hs] at e2
    exact e2
  have e5 : U.heap[q]? = some c9 := e1
  rw [e5, h9, Array.getElem?_eq_getElem hq]
/-- the words of a throw but the four that speak of the heap -/
def vx_no (w : Cond) : Bool := decide (w ≠ .isRef (.static Bundle.tN "UNASSIGNED_STACK" Bundle.steD)) && decide (w ≠ .isRef (.static Bundle.tN "SUPPRESSED_SENTINEL" Bundle.listD)) && decide (w ≠ .laysStatic Bundle.tN "UNASSIGNED_STACK" Bundle.steD) && decide (w ≠ .laysStatic Bundle.tN "SUPPRESSED_SENTINEL" Bundle.listD)
def vx_at0 (own : String) (ic : Nat) (X : String) (names : List String) : List Cond := (Bundle.ownAtoms0 own ic X names).filter vx_no
def vx_atS (own : String) (ic : Nat) (X : String) (names : List String) : List Cond := (Bundle.ownAtoms own ic X names).filter vx_no
/-- a word that the tables alone decide, or a good one -/
def vx_ot (w : Cond) : Bool := w.onTables || goodWord w
theorem vx_ot_at {args a' : Array Value} {s U : State} {w : Cond} (hW : s.WarmedH U.vm) (hvm : s.vm = U.vm) (hg : vx_ot w = true) (h : w.before args s = true) : w.before a' U = true := by
  simp only [vx_ot, Bool.or_eq_true] at hg
  rcases hg with hg | hg
  · exact va_tabs hg hvm h
  · exact word_at hW (good_of_word hg) h
/-- a list's words: the good ones out of the method's own list, the others by premises of their own -/
theorem vx_hat {args : Array Value} {s : State} {L B : List Cond} (h1 : ∀ w ∈ L.filter goodWord, w.before args s = true) (h2 : ∀ w ∈ L.filter (fun w => !goodWord w), w ∈ B) (h3 : ∀ w ∈ B, w.before args s = true) : ∀ w ∈ L, w.before args s = true := by
  intro w hw
  by_cases g : goodWord w = true
  · exact h1 w (List.mem_filter.mpr ⟨hw, g⟩)
  · refine h3 w (h2 w (List.mem_filter.mpr ⟨hw, ?_⟩))
    show (!goodWord w) = true
    cases hgw : goodWord w
    · rfl
    · exact absurd hgw g
theorem vx_c {args : Array Value} {s : State} {w : Cond} {B : List Cond} (h : w.before args s = true) (t : ∀ w ∈ B, w.before args s = true) : ∀ w' ∈ w :: B, w'.before args s = true := fun w' h' => (List.mem_cons.mp h').elim (fun e => by rw [e]; exact h) (t w')
theorem vx_n {args : Array Value} {s : State} : ∀ w ∈ ([] : List Cond), w.before args s = true := fun _ h => nomatch h
theorem vx_own {args : Array Value} {s : State} {L : List Cond} (h1 : ∀ w ∈ L.filter vx_no, w.before args s = true)
    (hU : (Cond.isRef (.static Bundle.tN "UNASSIGNED_STACK" Bundle.steD)).before args s = true) (hN : (Cond.isRef (.static Bundle.tN "SUPPRESSED_SENTINEL" Bundle.listD)).before args s = true)
    (lU : (Cond.laysStatic Bundle.tN "UNASSIGNED_STACK" Bundle.steD).before args s = true) (lN : (Cond.laysStatic Bundle.tN "SUPPRESSED_SENTINEL" Bundle.listD).before args s = true) : ∀ w ∈ L, w.before args s = true := by
  intro w hw
  by_cases e1 : w = .isRef (.static Bundle.tN "UNASSIGNED_STACK" Bundle.steD)
  · rw [e1]; exact hU
  · by_cases e2 : w = .isRef (.static Bundle.tN "SUPPRESSED_SENTINEL" Bundle.listD)
    · rw [e2]; exact hN
    · by_cases e3 : w = .laysStatic Bundle.tN "UNASSIGNED_STACK" Bundle.steD
      · rw [e3]; exact lU
      · by_cases e4 : w = .laysStatic Bundle.tN "SUPPRESSED_SENTINEL" Bundle.listD
        · rw [e4]; exact lN
        · exact h1 w (List.mem_filter.mpr ⟨hw, by unfold vx_no; rw [decide_eq_true e1, decide_eq_true e2, decide_eq_true e3, decide_eq_true e4]; rfl⟩)
/-- where a static field lies, its class's statics cell in H -/
def vx_L (C n d : String) (A : Nat → Prop) (U : State) (H : Heap) : Prop := ∃ (c : ClassId) (k : Class) (i : Nat) (f : Field) (a : Nat) (cell : Cell), U.vm.findClass C = some c ∧ U.fieldFound? C n d = some (c, k, i, f) ∧ f.isStatic = true ∧ k.statics = some a ∧ H[a]? = some cell ∧ cell.vm.isStatics = true ∧ cell.cls = c ∧ f.slot < cell.slots.size ∧ k.staticTypes[f.slot]? = some f.type ∧ ¬ A a
theorem vx_L.moved {C n d : String} {A : Nat → Prop} {u U : State} {H : Heap} (hvm : u.vm.Alike U.vm) (h : vx_L C n d A u H) : vx_L C n d A U H := by
  obtain ⟨c, k, i, f, a, cell, h1, h2, h3, h4, h5, h6, h7, h8, h9, h10⟩ := h
  obtain ⟨k', hi', he⟩ := State.fieldFound?_setVm hvm h2
  exact ⟨c, k', i, f, a, cell, by rw [hvm.findClass]; exact h1, hi', h3, by rw [he]; exact h4, h5, h6, h7, h8, by rw [he]; exact h9, h10⟩
theorem vx_L.kept {C n d : String} {A : Nat → Prop} {U : State} {H H1 : Heap} (h : vx_L C n d A U H) (hq : ∀ a : Nat, a < H.size → ¬ A a → H1[a]? = H[a]?) : vx_L C n d A U H1 := by
  obtain ⟨c, k, i, f, a, cell, h1, h2, h3, h4, h5, h6, h7, h8, h9, h10⟩ := h
  exact ⟨c, k, i, f, a, cell, h1, h2, h3, h4, by rw [hq a (Array.getElem?_eq_some_iff.mp h5).1 h10]; exact h5, h6, h7, h8, h9, h10⟩
theorem vx_L.narrow {C n d : String} {A B : Nat → Prop} {U : State} {H : Heap} (h : vx_L C n d A U H) (hAB : ∀ q, B q → A q) : vx_L C n d B U H := by
  obtain ⟨c, k, i, f, a, cell, h1, h2, h3, h4, h5, h6, h7, h8, h9, h10⟩ := h
  exact ⟨c, k, i, f, a, cell, h1, h2, h3, h4, h5, h6, h7, h8, h9, fun z => h10 (hAB _ z)⟩
theorem vx_L.word {C n d : String} {A : Nat → Prop} {s : State} {args : Array Value} (h : vx_L C n d A s s.heap) : (Cond.laysStatic C n d).before args s = true := by
  obtain ⟨c, k, i, f, a, cell, h1, h2, h3, h4, h5, h6, h7, h8, h9, -⟩ := h
  show (Cond.laysStatic C n d).holds args s none s [] = true
  exact Cond.laysStatic_of h1 h2 h3 h4 h5 h6 h7 h8 h9
/-- .. and what it holds: null or some reference -/
def vx_Zq (C n d : String) (A : Nat → Prop) (U : State) (H : Heap) : Prop := va_Zq C n d A U H ∧ vx_L C n d A U H
theorem vx_Zq.moved {C n d : String} {A : Nat → Prop} {u U : State} {H : Heap} (hvm : u.vm.Alike U.vm) (h : vx_Zq C n d A u H) : vx_Zq C n d A U H := ⟨va_Zq.moved hvm h.1, vx_L.moved hvm h.2⟩
theorem vx_Zq.kept {C n d : String} {A : Nat → Prop} {U : State} {H H1 : Heap} (h : vx_Zq C n d A U H) (hq : ∀ a : Nat, a < H.size → ¬ A a → H1[a]? = H[a]?) : vx_Zq C n d A U H1 := ⟨va_Zq.kept h.1 hq, vx_L.kept h.2 hq⟩
theorem vx_Zq.narrow {C n d : String} {A B : Nat → Prop} {U : State} {H : Heap} (h : vx_Zq C n d A U H) (hAB : ∀ q, B q → A q) : vx_Zq C n d B U H := ⟨va_Zq.narrow h.1 hAB, vx_L.narrow h.2 hAB⟩
theorem vx_Zqof {args : Array Value} {s : State} {C n d : String} {A : Nat → Prop} (hl : (Cond.laysStatic C n d).before args s = true) (hini : (Cond.initialized C).before args s = true) (h : (Cond.isRef (.static C n d)).before args s = true) (hA : ∀ a : Nat, a < s.heap.size → ¬ A a) : vx_Zq C n d A s s.heap := by
  refine ⟨va_Zqof hl hini h hA, ?_⟩
  obtain ⟨c, k, i, f, a, cell, h1, h2, h3, h4, h5, h6, h7, h8, h9⟩ := Cond.laysStatic_spec hl
  exact ⟨c, k, i, f, a, cell, h1, h2, h3, h4, h5, h6, h7, h8, h9, hA a (Array.getElem?_eq_some_iff.mp h5).1⟩
theorem vx_isRef {C n d : String} {v : Value} {A : Nat → Prop} {s : State} {args : Array Value} (h : va_Z C n d v A s s.heap) (hv : v.isRef = true) : (Cond.isRef (.static C n d)).before args s = true := by
  obtain ⟨cf, kf, fi, f, a, cell, h1, h2, h3, h4, h5, h6, h7, -⟩ := h
  have he : (Term.static C n d).eval args s none [] s = some v := by
    simp [Term.eval, State.fieldNamed?, h1, h2, h4, h5, h6, h7]
  simp only [Cond.before, Cond.holds, Cond.value, he]
  cases v <;> simp_all [Value.isRef]
theorem vx_isRefq {C n d : String} {A : Nat → Prop} {s : State} {args : Array Value} (h : va_Zq C n d A s s.heap) : (Cond.isRef (.static C n d)).before args s = true := by
  rcases h with h | ⟨t, h⟩
  · exact vx_isRef h rfl
  · exact vx_isRef h rfl
/-- the same frame, seen from here: as if the method were called anew in this heap -/
theorem vx_rebase {T : State} (X : Stand p l e R s m args below meth c T locs cells slots) {R' : Room} (hf : R'.frames ≤ R.frames) (hl : R'.locals ≤ R.locals) (hc : cells + R'.cells ≤ R.cells) (hs : slots + R'.slots ≤ R.slots) :
    Stand p l e R' ((T.setVm s.vm).setFrames (.invoking m args :: below)) m args below meth c T [] 0 0 := by
  have htop : (T.setVm s.vm).topJava?.isSome := X.here.top
  have hF : ((T.setVm s.vm).setFrames (.invoking m args :: below)).frames = .invoking m args :: below := State.frames_setFrames _ (State.cur_lt_of_top htop)
  obtain ⟨g₀, hg0⟩ := Option.isSome_iff_exists.mp htop
  obtain ⟨r, hr⟩ := State.topJava?_eq_some.mp hg0
  have hl9 : e.platform.stackLimits (T.setVm s.vm).me = e.platform.stackLimits s.me := X.limits
  have hb9 : (T.setVm s.vm).me.stackBytes = s.me.stackBytes := X.bytes
  refine ⟨X.admits, X.cas, X.clock, hF, ?_, X.hears, X.method, X.code, X.here, X.tail, X.warmed, ?_, ?_, ?_⟩
  · have h := X.room
    have hU : ((T.setVm s.vm).setFrames (.invoking m args :: below)).localsInUse = s.localsInUse := by
      rw [State.localsInUse_invoking hF (meth := meth) (c := c) X.method X.code, State.localsInUse_invoking X.frames X.method X.code]
    simp only [State.hasRoom, Bool.and_eq_true, decide_eq_true_eq] at h ⊢
    obtain ⟨⟨⟨⟨h1, h2, h3, h4, h5, h6⟩, h7⟩, h8⟩, h9⟩ := h
    rw [X.frames, List.length_cons] at h2 h3
    have q1 := X.heapSize
    have q2 := X.used
    simp only [hF, hU, List.length_cons, State.stackLimits_setFrames, State.stackBytes_setFrames, hl9, hb9]
    refine ⟨⟨⟨⟨by omega, by omega, by omega, by omega, by omega, h6⟩, ?_⟩, ?_⟩, X.book⟩
    · show T.heap.size + R'.cells ≤ e.platform.maxCells
      omega
    · show T.slotsUsed + R'.slots ≤ e.platform.maxSlots
      omega
  · rw [State.stackLimits_setFrames]; rfl
  · rw [State.stackBytes_setFrames]; rfl
  · refine ⟨?_, Nat.le_refl _, Nat.le_refl _, ?_, ?_, fun a c9 h9 => ⟨c9, h9, rfl, rfl, fun _ _ => rfl⟩⟩
    · obtain ⟨t, ht, -⟩ := State.frames_cons hr
      show T.setVm s.vm = { ((T.setVm s.vm).setFrames (.invoking m args :: below)).setFrames (T.setVm s.vm).frames with heap := T.heap, slotsUsed := T.slotsUsed }
      rw [State.setFrames_setFrames, State.setFrames_self ht]
      rfl
    · show T.slotsUsed = T.slotsUsed + ((T.heap.toList.drop T.heap.size).map (·.slots.size)).sum
      rw [List.drop_eq_nil_of_le (Nat.le_of_eq Array.length_toList)]
      rfl
    · show ((T.heap.toList.drop T.heap.size).map (·.slots.size)).sum ≤ 0
      rw [List.drop_eq_nil_of_le (Nat.le_of_eq Array.length_toList)]
      exact Nat.le_refl _
/-- 'throw new E()': new; dup; invokespecial; athrow -/
theorem vx_throw0 {cc : ByteArray} {pc : Nat} (hexec : p.tables.exec = Jvm.exec) (hb : c.code = cc) (hl : l.stackTraces = false) {own cls : String} {names : List String} {ik ic mc ms : Nat} {A : Nat → Prop}
    (hown : s.vm.findClass own = some m.cls) (hcls : Bundle.fit cls = true) (hnames : ∀ n ∈ names, Bundle.fit n = true)
    (hk : (Cond.classLink own ik cls).before args s = true) (hini : (Cond.initialized cls).before args s = true) (hat : ∀ w ∈ vx_at0 own ic cls names, w.before args s = true)
    (hgood : ∀ w ∈ Cond.classLink own ik cls :: Cond.initialized cls :: vx_at0 own ic cls names, vx_ot w = true)
    (hU : vx_Zq Bundle.tN "UNASSIGNED_STACK" Bundle.steD A s s.heap) (hN : vx_Zq Bundle.tN "SUPPRESSED_SENTINEL" Bundle.listD A s s.heap) (hS : va_S A s.heap H locs) (hsize : ls.size = c.maxLocals)
    (d0 : decode cc pc = .ok (.new ik, 3)) (d3 : decode cc (pc + 3) = .ok (.dup, 1)) (d4 : decode cc (pc + 4) = .ok (.invokespecial ic, 3)) (d7 : decode cc (pc + 7) = .ok (.athrow, 1))
    (hout : ∀ x ∈ c.exceptionTable.toList, covers x (pc + 7) = false)
    (hRframes : names.length + 3 < R.frames) (hRlocals : (rest.map fun v => v.category).sum + (13 * (names.length + 1) + 42) ≤ R.locals) (hRcells : cells + 1 ≤ R.cells) (hRslots : slots + 6 ≤ R.slots) (hlocks : meth.locks = false)
    (hx : ∀ t : State, s.vm.Alike t.vm → H.size ≤ t.heap.size → (∀ q : Nat, q < H.size → t.heap[q]? = H[q]?) → XC cls s t)
    (hf : ∀ z ∈ locs, free z.base) (hc : cells + 1 ≤ mc) (hs : slots + 6 ≤ ms) :
    W p l e R s m args below meth c H locs cells slots (vx_MQ below Qc XC args s mc ms free) (F0 m pc ls rest) := by
  intro T hT X
  have htr : e.platform.stackTraces = false := (show e.platform.stackTraces = l.stackTraces by rw [X.admits.platform]).trans hl
  have Y := vx_rebase X (R' := { frames := R.frames, locals := R.locals, cells := 1, slots := 6 }) (Nat.le_refl _) (Nat.le_refl _) hRcells hRslots
  obtain ⟨s', hA⟩ : ∃ z, z = (T.setVm s.vm).setFrames (.invoking m args :: below) := ⟨_, rfl⟩
  rw [← hA] at Y
  have hvm : s'.vm = s.vm := by rw [hA]; rfl
  have hhp : s'.heap = H := by rw [hA]; exact hT
  have hW0 : s.WarmedH s'.vm := by rw [hvm]; exact State.WarmedH.refl s
  have hat' : ∀ w ∈ vx_at0 own ic cls names, w.before args s' = true := fun w hw => vx_ot_at hW0 hvm.symm (hgood w (List.mem_cons_of_mem _ (List.mem_cons_of_mem _ hw))) (hat w hw)
  have hk' : (Cond.classLink own ik cls).before args s' = true := vx_ot_at hW0 hvm.symm (hgood _ List.mem_cons_self) hk
  have hini' : (Cond.initialized cls).before args s' = true := vx_ot_at hW0 hvm.symm (hgood _ (List.mem_cons_of_mem _ List.mem_cons_self)) hini
  have hU' : vx_Zq Bundle.tN "UNASSIGNED_STACK" Bundle.steD A s' s'.heap := by rw [hhp]; exact vx_Zq.moved hW0.alike (hU.kept hS.2.1)
  have hN' : vx_Zq Bundle.tN "SUPPRESSED_SENTINEL" Bundle.listD A s' s'.heap := by rw [hhp]; exact vx_Zq.moved hW0.alike (hN.kept hS.2.1)
  have h : ∀ w ∈ Bundle.ownAtoms0 own ic cls names, w.before args s' = true := vx_own hat' (vx_isRefq hU'.1) (vx_isRefq hN'.1) hU'.2.word hN'.2.word
  have hown' : s'.vm.findClass own = some m.cls := by rw [hvm]; exact hown
  have hins : (Cond.instantiable cls 6).before args s' = true := h _ (by simp [Bundle.ownAtoms0])
  obtain ⟨vm₁, cX, kX, hfX, hkX, -, -, X₁, st1⟩ := Y.newCold hexec (own := own) (C := cls) (index := ik) (n := 6) hown' hk' hins hini'
    (g := F0 m pc ls rest) rfl (by rw [hb]; exact d0) (Nat.le_refl _) (Nat.le_refl _)
  generalize hT1 : (T.setVm vm₁).pushCell { cls := cX, slots := kX.instanceTypes.map defaultValue, vm := .none } = T1 at X₁ st1
  have hcat : (Value.ref T.heap.size).category = 1 := rfl
  have hcellA : T1.heap[T.heap.size]? = some (freshCell cX kX) := by rw [← hT1]; exact State.heap_pushCell_size _ _
  have d3' : decode c.code (pc + 3) = .ok (.dup, 1) := by rw [hb]; exact d3
  obtain ⟨U, hsteps, hrun, hend, hW, hsame, ce, hce, hO⟩ := X₁.ctorThrow0 hexec htr (own := own) (cls := cls) (names := names) (ic := ic) hown' hcls hnames h (fun x hx => nomatch hx) hfX hkX hcellA (by rw [hhp, hT]; exact Nat.le_refl _)
    (g := { method := m, pc := pc + 4, locals := ls, stack := .ref T.heap.size :: .ref T.heap.size :: rest, locked := none }) rfl hsize rfl rfl (rest := rest) rfl
    (by rw [hb]; exact d4) (by rw [hb]; exact d7) hout hRframes (by simp only [List.map_cons, List.sum_cons, hcat]; omega) hlocks
  obtain ⟨f1, f2⟩ := vx_frame hsame
  rw [hhp] at f1 f2
  have hWs : s.WarmedH U.vm := State.WarmedH.trans hW0 hW
  have hcl : s.vm.findClass cls = some ce.cls := by
    have h9 := hO.cls
    rw [hvm] at h9
    exact h9
  have hall : s.sameButNew ({ U with vm := s.vm } : State) locs mc ms := by
    subst hA
    obtain ⟨e1, e2⟩ := hsame
    rw [State.setFrames_setFrames] at e1
    have h2 : (T.setVm s.vm).sameButNew ({ U with vm := s.vm } : State) [] (0 + 1) (0 + 6) := ⟨e1, e2⟩
    have h3 := X.same.trans h2
    rw [List.append_nil] at h3
    exact h3.mono hc hs
  refine ⟨U, ?_, .threw T.heap.size, hrun, hend, Or.inr ⟨T.heap.size, rfl, cls, ce, locs, hx U hWs.alike f1 (fun q hq => f2 q hq (fun z hz => nomatch hz)), hce, hO.vm, hcl, hWs, hall, hf⟩⟩
  refine st1 _ ?_
  show Steps p.tables e below (T1.setTop { method := m, pc := pc + 3, locals := ls, stack := .ref T.heap.size :: rest, locked := none }) _
  jvm_step X₁.here [X₁.here.top, hexec, d3', Value.category]
  exact hsteps
/-- 'throw new E("text")': new; dup; ldc; invokespecial; athrow -/
theorem vx_throwS {cc : ByteArray} {pc : Nat} (hexec : p.tables.exec = Jvm.exec) (hb : c.code = cc) (hl : l.stackTraces = false) {own cls text : String} {names : List String} {ik is ic mc ms sa : Nat} {A : Nat → Prop}
    (hown : s.vm.findClass own = some m.cls) (hcls : Bundle.fit cls = true) (hnames : ∀ n ∈ names, Bundle.fit n = true)
    (hk : (Cond.classLink own ik cls).before args s = true) (hini : (Cond.initialized cls).before args s = true) (hstr : vk_R own is text sa s) (hat : ∀ w ∈ vx_atS own ic cls names, w.before args s = true)
    (hgood : ∀ w ∈ Cond.classLink own ik cls :: Cond.initialized cls :: vx_atS own ic cls names, vx_ot w = true)
    (hU : vx_Zq Bundle.tN "UNASSIGNED_STACK" Bundle.steD A s s.heap) (hN : vx_Zq Bundle.tN "SUPPRESSED_SENTINEL" Bundle.listD A s s.heap) (hS : va_S A s.heap H locs) (hsize : ls.size = c.maxLocals)
    (d0 : decode cc pc = .ok (.new ik, 3)) (d3 : decode cc (pc + 3) = .ok (.dup, 1)) (d4 : decode cc (pc + 4) = .ok (.ldc is, 2)) (d6 : decode cc (pc + 6) = .ok (.invokespecial ic, 3)) (d9 : decode cc (pc + 9) = .ok (.athrow, 1))
    (hout : ∀ x ∈ c.exceptionTable.toList, covers x (pc + 9) = false)
    (hRframes : names.length + 3 < R.frames) (hRlocals : (rest.map fun v => v.category).sum + (13 * (names.length + 1) + 43) ≤ R.locals) (hRcells : cells + 1 ≤ R.cells) (hRslots : slots + 6 ≤ R.slots) (hlocks : meth.locks = false)
    (hx : ∀ t : State, s.vm.Alike t.vm → H.size ≤ t.heap.size → (∀ q : Nat, q < H.size → t.heap[q]? = H[q]?) → XC cls s t)
    (hf : ∀ z ∈ locs, free z.base) (hc : cells + 1 ≤ mc) (hs : slots + 6 ≤ ms) :
    W p l e R s m args below meth c H locs cells slots (vx_MQ below Qc XC args s mc ms free) (F0 m pc ls rest) := by
  intro T hT X
  have htr : e.platform.stackTraces = false := (show e.platform.stackTraces = l.stackTraces by rw [X.admits.platform]).trans hl
  have Y := vx_rebase X (R' := { frames := R.frames, locals := R.locals, cells := 1, slots := 6 }) (Nat.le_refl _) (Nat.le_refl _) hRcells hRslots
  obtain ⟨s', hA⟩ : ∃ z, z = (T.setVm s.vm).setFrames (.invoking m args :: below) := ⟨_, rfl⟩
  rw [← hA] at Y
  have hvm : s'.vm = s.vm := by rw [hA]; rfl
  have hhp : s'.heap = H := by rw [hA]; exact hT
  have hW0 : s.WarmedH s'.vm := by rw [hvm]; exact State.WarmedH.refl s
  have hat' : ∀ w ∈ vx_atS own ic cls names, w.before args s' = true := fun w hw => vx_ot_at hW0 hvm.symm (hgood w (List.mem_cons_of_mem _ (List.mem_cons_of_mem _ hw))) (hat w hw)
  have hk' : (Cond.classLink own ik cls).before args s' = true := vx_ot_at hW0 hvm.symm (hgood _ List.mem_cons_self) hk
  have hini' : (Cond.initialized cls).before args s' = true := vx_ot_at hW0 hvm.symm (hgood _ (List.mem_cons_of_mem _ List.mem_cons_self)) hini
  have hU' : vx_Zq Bundle.tN "UNASSIGNED_STACK" Bundle.steD A s' s'.heap := by rw [hhp]; exact vx_Zq.moved hW0.alike (hU.kept hS.2.1)
  have hN' : vx_Zq Bundle.tN "SUPPRESSED_SENTINEL" Bundle.listD A s' s'.heap := by rw [hhp]; exact vx_Zq.moved hW0.alike (hN.kept hS.2.1)
  have h : ∀ w ∈ Bundle.ownAtoms own ic cls names, w.before args s' = true := vx_own hat' (vx_isRefq hU'.1) (vx_isRefq hN'.1) hU'.2.word hN'.2.word
  have hown' : s'.vm.findClass own = some m.cls := by rw [hvm]; exact hown
  have hins : (Cond.instantiable cls 6).before args s' = true := h _ (by simp [Bundle.ownAtoms])
  obtain ⟨vm₁, cX, kX, hfX, hkX, -, -, X₁, st1⟩ := Y.newCold hexec (own := own) (C := cls) (index := ik) (n := 6) hown' hk' hins hini'
    (g := F0 m pc ls rest) rfl (by rw [hb]; exact d0) (Nat.le_refl _) (Nat.le_refl _)
  generalize hT1 : (T.setVm vm₁).pushCell { cls := cX, slots := kX.instanceTypes.map defaultValue, vm := .none } = T1 at X₁ st1
  have hcat : (Value.ref T.heap.size).category = 1 := rfl
  have hcellA : T1.heap[T.heap.size]? = some (freshCell cX kX) := by rw [← hT1]; exact State.heap_pushCell_size _ _
  have d3' : decode c.code (pc + 3) = .ok (.dup, 1) := by rw [hb]; exact d3
  have d4' : decode c.code (pc + 4) = .ok (.ldc is, 2) := by rw [hb]; exact d4
  have hstr' : vk_R own is text sa s' := vk_R.warm hW0 hstr
  obtain ⟨U, hsteps, hrun, hend, hW, hsame, ce, hce, hO⟩ := X₁.ctorThrowS hexec htr (own := own) (cls := cls) (names := names) (ic := ic) hown' hcls hnames h (fun x hx => nomatch hx) hfX hkX hcellA (by rw [hhp, hT]; exact Nat.le_refl _) (msg := .ref sa) rfl
    (g := { method := m, pc := pc + 6, locals := ls, stack := .ref sa :: .ref T.heap.size :: .ref T.heap.size :: rest, locked := none }) rfl hsize rfl rfl (rest := rest) rfl
    (by rw [hb]; exact d6) (by rw [hb]; exact d9) hout hRframes (by simp only [List.map_cons, List.sum_cons, hcat]; omega) hlocks
  obtain ⟨f1, f2⟩ := vx_frame hsame
  rw [hhp] at f1 f2
  have hWs : s.WarmedH U.vm := State.WarmedH.trans hW0 hW
  have hcl : s.vm.findClass cls = some ce.cls := by
    have h9 := hO.cls
    rw [hvm] at h9
    exact h9
  have hall : s.sameButNew ({ U with vm := s.vm } : State) locs mc ms := by
    subst hA
    obtain ⟨e1, e2⟩ := hsame
    rw [State.setFrames_setFrames] at e1
    have h2 : (T.setVm s.vm).sameButNew ({ U with vm := s.vm } : State) [] (0 + 1) (0 + 6) := ⟨e1, e2⟩
    have h3 := X.same.trans h2
    rw [List.append_nil] at h3
    exact h3.mono hc hs
  refine ⟨U, ?_, .threw T.heap.size, hrun, hend, Or.inr ⟨T.heap.size, rfl, cls, ce, locs, hx U hWs.alike f1 (fun q hq => f2 q hq (fun z hz => nomatch hz)), hce, hO.vm, hcl, hWs, hall, hf⟩⟩
  refine st1 _ ?_
  show Steps p.tables e below (T1.setTop { method := m, pc := pc + 3, locals := ls, stack := .ref T.heap.size :: rest, locked := none }) _
  jvm_step X₁.here [X₁.here.top, hexec, d3', Value.category]
  exact X₁.ldcString hexec (own := own) (text := text) (index := is) (a := sa) hown' hstr'.1 hstr'.2
    (g := { method := m, pc := pc + 4, locals := ls, stack := .ref T.heap.size :: .ref T.heap.size :: rest, locked := none }) rfl d4' _ hsteps
/-- 'throw new E("text")', the text by a wide index -/
theorem vx_throwSW {cc : ByteArray} {pc : Nat} (hexec : p.tables.exec = Jvm.exec) (hb : c.code = cc) (hl : l.stackTraces = false) {own cls text : String} {names : List String} {ik is ic mc ms sa : Nat} {A : Nat → Prop}
    (hown : s.vm.findClass own = some m.cls) (hcls : Bundle.fit cls = true) (hnames : ∀ n ∈ names, Bundle.fit n = true)
    (hk : (Cond.classLink own ik cls).before args s = true) (hini : (Cond.initialized cls).before args s = true) (hstr : vk_R own is text sa s) (hat : ∀ w ∈ vx_atS own ic cls names, w.before args s = true)
    (hgood : ∀ w ∈ Cond.classLink own ik cls :: Cond.initialized cls :: vx_atS own ic cls names, vx_ot w = true)
    (hU : vx_Zq Bundle.tN "UNASSIGNED_STACK" Bundle.steD A s s.heap) (hN : vx_Zq Bundle.tN "SUPPRESSED_SENTINEL" Bundle.listD A s s.heap) (hS : va_S A s.heap H locs) (hsize : ls.size = c.maxLocals)
    (d0 : decode cc pc = .ok (.new ik, 3)) (d3 : decode cc (pc + 3) = .ok (.dup, 1)) (d4 : decode cc (pc + 4) = .ok (.ldc_w is, 3)) (d7 : decode cc (pc + 7) = .ok (.invokespecial ic, 3)) (d10 : decode cc (pc + 10) = .ok (.athrow, 1))
    (hout : ∀ x ∈ c.exceptionTable.toList, covers x (pc + 10) = false)
    (hRframes : names.length + 3 < R.frames) (hRlocals : (rest.map fun v => v.category).sum + (13 * (names.length + 1) + 43) ≤ R.locals) (hRcells : cells + 1 ≤ R.cells) (hRslots : slots + 6 ≤ R.slots) (hlocks : meth.locks = false)
    (hx : ∀ t : State, s.vm.Alike t.vm → H.size ≤ t.heap.size → (∀ q : Nat, q < H.size → t.heap[q]? = H[q]?) → XC cls s t)
    (hf : ∀ z ∈ locs, free z.base) (hc : cells + 1 ≤ mc) (hs : slots + 6 ≤ ms) :
    W p l e R s m args below meth c H locs cells slots (vx_MQ below Qc XC args s mc ms free) (F0 m pc ls rest) := by
  intro T hT X
  have htr : e.platform.stackTraces = false := (show e.platform.stackTraces = l.stackTraces by rw [X.admits.platform]).trans hl
  have Y := vx_rebase X (R' := { frames := R.frames, locals := R.locals, cells := 1, slots := 6 }) (Nat.le_refl _) (Nat.le_refl _) hRcells hRslots
  obtain ⟨s', hA⟩ : ∃ z, z = (T.setVm s.vm).setFrames (.invoking m args :: below) := ⟨_, rfl⟩
  rw [← hA] at Y
  have hvm : s'.vm = s.vm := by rw [hA]; rfl
  have hhp : s'.heap = H := by rw [hA]; exact hT
  have hW0 : s.WarmedH s'.vm := by rw [hvm]; exact State.WarmedH.refl s
  have hat' : ∀ w ∈ vx_atS own ic cls names, w.before args s' = true := fun w hw => vx_ot_at hW0 hvm.symm (hgood w (List.mem_cons_of_mem _ (List.mem_cons_of_mem _ hw))) (hat w hw)
  have hk' : (Cond.classLink own ik cls).before args s' = true := vx_ot_at hW0 hvm.symm (hgood _ List.mem_cons_self) hk
  have hini' : (Cond.initialized cls).before args s' = true := vx_ot_at hW0 hvm.symm (hgood _ (List.mem_cons_of_mem _ List.mem_cons_self)) hini
  have hU' : vx_Zq Bundle.tN "UNASSIGNED_STACK" Bundle.steD A s' s'.heap := by rw [hhp]; exact vx_Zq.moved hW0.alike (hU.kept hS.2.1)
  have hN' : vx_Zq Bundle.tN "SUPPRESSED_SENTINEL" Bundle.listD A s' s'.heap := by rw [hhp]; exact vx_Zq.moved hW0.alike (hN.kept hS.2.1)
  have h : ∀ w ∈ Bundle.ownAtoms own ic cls names, w.before args s' = true := vx_own hat' (vx_isRefq hU'.1) (vx_isRefq hN'.1) hU'.2.word hN'.2.word
  have hown' : s'.vm.findClass own = some m.cls := by rw [hvm]; exact hown
  have hins : (Cond.instantiable cls 6).before args s' = true := h _ (by simp [Bundle.ownAtoms])
  obtain ⟨vm₁, cX, kX, hfX, hkX, -, -, X₁, st1⟩ := Y.newCold hexec (own := own) (C := cls) (index := ik) (n := 6) hown' hk' hins hini'
    (g := F0 m pc ls rest) rfl (by rw [hb]; exact d0) (Nat.le_refl _) (Nat.le_refl _)
  generalize hT1 : (T.setVm vm₁).pushCell { cls := cX, slots := kX.instanceTypes.map defaultValue, vm := .none } = T1 at X₁ st1
  have hcat : (Value.ref T.heap.size).category = 1 := rfl
  have hcellA : T1.heap[T.heap.size]? = some (freshCell cX kX) := by rw [← hT1]; exact State.heap_pushCell_size _ _
  have d3' : decode c.code (pc + 3) = .ok (.dup, 1) := by rw [hb]; exact d3
  have d4' : decode c.code (pc + 4) = .ok (.ldc_w is, 3) := by rw [hb]; exact d4
  have hstr' : vk_R own is text sa s' := vk_R.warm hW0 hstr
  obtain ⟨U, hsteps, hrun, hend, hW, hsame, ce, hce, hO⟩ := X₁.ctorThrowS hexec htr (own := own) (cls := cls) (names := names) (ic := ic) hown' hcls hnames h (fun x hx => nomatch hx) hfX hkX hcellA (by rw [hhp, hT]; exact Nat.le_refl _) (msg := .ref sa) rfl
    (g := { method := m, pc := pc + 7, locals := ls, stack := .ref sa :: .ref T.heap.size :: .ref T.heap.size :: rest, locked := none }) rfl hsize rfl rfl (rest := rest) rfl
    (by rw [hb]; exact d7) (by rw [hb]; exact d10) hout hRframes (by simp only [List.map_cons, List.sum_cons, hcat]; omega) hlocks
  obtain ⟨f1, f2⟩ := vx_frame hsame
  rw [hhp] at f1 f2
  have hWs : s.WarmedH U.vm := State.WarmedH.trans hW0 hW
  have hcl : s.vm.findClass cls = some ce.cls := by
    have h9 := hO.cls
    rw [hvm] at h9
    exact h9
  have hall : s.sameButNew ({ U with vm := s.vm } : State) locs mc ms := by
    subst hA
    obtain ⟨e1, e2⟩ := hsame
    rw [State.setFrames_setFrames] at e1
    have h2 : (T.setVm s.vm).sameButNew ({ U with vm := s.vm } : State) [] (0 + 1) (0 + 6) := ⟨e1, e2⟩
    have h3 := X.same.trans h2
    rw [List.append_nil] at h3
    exact h3.mono hc hs
  refine ⟨U, ?_, .threw T.heap.size, hrun, hend, Or.inr ⟨T.heap.size, rfl, cls, ce, locs, hx U hWs.alike f1 (fun q hq => f2 q hq (fun z hz => nomatch hz)), hce, hO.vm, hcl, hWs, hall, hf⟩⟩
  refine st1 _ ?_
  show Steps p.tables e below (T1.setTop { method := m, pc := pc + 3, locals := ls, stack := .ref T.heap.size :: rest, locked := none }) _
  jvm_step X₁.here [X₁.here.top, hexec, d3', Value.category]
  exact X₁.ldcStringW hexec (own := own) (text := text) (index := is) (a := sa) hown' hstr'.1 hstr'.2
    (g := { method := m, pc := pc + 4, locals := ls, stack := .ref T.heap.size :: .ref T.heap.size :: rest, locked := none }) rfl d4' _ hsteps
end Ends
section Bodies
variable {l : Launch}
theorem vx_ofW {y : MethodName} {ws ws' : List Cond} {rm : Room} {Pc : Array Value → State → Prop} {Qc : Array Value → State → Outcome → State → Prop} {XC : String → State → State → Prop} {mc ms : Nat} {free : Addr → Prop} {cc : ByteArray} {maxL : Nat} {ret : Option FieldType}
    (hy : plainName y.cls = true) (hw : ws = Cond.code y cc maxL ret :: ws')
    (body : ∀ p e s m args below meth c s₁, BodyLoose p l y (headSpec ws rm) cc maxL ret e s m args below meth c s₁ → c.maxLocals = maxL → (∀ x ∈ c.exceptionTable.toList, False) → Pc args s →
      W p l e (headSpec ws rm).room s m args below meth c s.heap [] 0 0 (vx_MQ below Qc XC args s mc ms free) (entryFrame m args maxL)) : vx_Met l y ws rm Pc Qc XC mc ms free := by
  refine MetFree.of_bodyS (code := cc) (maxLocals := maxL) (ret := ret) hy ?_ ?_
  · intro args s m h hn
    obtain ⟨meth, c, h1, h2, h3, h4, h5, h6, -, -⟩ := Cond.code_spec hn (atoms_spec (ws := ws) h _ (by rw [hw]; exact List.mem_cons_self))
    exact ⟨meth, c, h1, h2, h3, h4, h5, h6⟩
  · intro p e s m args below meth c s₁ B hml hP _
    have hh0 : s₁.heap = s.heap := by rw [B.state]; rfl
    have ht : ∀ x ∈ c.exceptionTable.toList, False := by
      obtain ⟨meth9, c9, h1, h2, -, -, -, -, h7, -⟩ := Cond.code_spec B.named (atoms_spec (ws := ws) B.pre _ (by rw [hw]; exact List.mem_cons_self))
      cases Option.some.inj (h1.symm.trans B.method)
      cases Option.some.inj (h2.symm.trans (Stand.of_body B).code)
      intro x hx
      rw [Array.isEmpty_iff.mp h7] at hx
      cases hx
    obtain ⟨t, a1, o, b1, b2, b3⟩ := body p e s m args below meth c s₁ B hml ht hP s₁ hh0 (Stand.of_body B)
    exact ⟨t, o, a1, b1, b2, b3⟩
/-- the table of a body with handlers -/
theorem vx_table {p : Program} {x y : MethodName} {S : Spec} {cc bytes : ByteArray} {maxL maxL' : Nat} {ret ret' : Option FieldType} {e : Env} {s s₁ : State} {m : MethodId} {args : Array Value} {below : List Frame} {meth : Method} {c : Code} {hh : List (Nat × Nat × Nat × Nat)}
    (B : BodyLoose p l y S cc maxL ret e s m args below meth c s₁) (h : (Cond.codeWith y bytes maxL' ret' hh).before args s = true) : c.exceptionTable.toList = tableOf hh := by
  obtain ⟨m9, meth9, c9, hn9, h1, h2, -, -, h6, -⟩ := Cond.codeWith_spec h
  cases Option.some.inj (hn9.symm.trans B.named)
  cases Option.some.inj (h1.symm.trans B.method)
  cases Option.some.inj (h2.symm.trans (Stand.of_body B).code)
  rw [← h6, table_eq]
end Bodies
end VXA
/-! ===== END ===== -/
/-! ===== BEGIN a static call of a method with an exception table ===== -/
section VXS
variable {p : Program} {l : Launch} {e : Env} {R : Room} {s : State} {m : MethodId} {args : Array Value} {below : List Frame} {meth : Method} {c : Code} {T : State} {H : Heap} {locs : List Loc} {cells slots : Nat}
abbrev vx_CSW (R : Room) (s : State) (args : Array Value) (own : String) (index : Nat) (y : MethodName) (bytes : ByteArray) (maxL : Nat) (ret : Option FieldType) (hh : List (Nat × Nat × Nat × Nat)) (ws : List Cond) (rm : Room) (mc ms n : Nat) : Prop :=
  (rm.cells = mc ∧ rm.slots = ms ∧ rm.frames + 1 ≤ R.frames ∧ 8 + (maxL + 11) + rm.locals ≤ R.locals ∧ (∀ w ∈ ws, ∀ (a' : Array Value) (U : State), s.WarmedH U.vm → w.before a' U = true) ∧ Cond.codeWith y bytes maxL ret hh ∈ ws) ∧
  (Cond.codeWith y bytes maxL ret hh).before args s = true ∧ (Cond.initialized y.cls).before args s = true ∧ (y.cls ≠ "java/lang/invoke/MethodHandle" ∧ y.cls ≠ "java/lang/invoke/VarHandle") ∧
  (∀ sig, parseMethodDescriptor y.desc = some sig → n = sig.parameters.length) ∧ (Cond.methodLink own index y).before args s = true ∧ (Cond.static y).before args s = true
theorem vx_cwSW {own : String} {index maxL mc ms : Nat} {y : MethodName} {bytes : ByteArray} {ret : Option FieldType} {hh : List (Nat × Nat × Nat × Nat)} {Ts ws ws' : List Cond} {rm : Room} (n : Nat) (ht : ∀ w ∈ Ts, w.before args s = true) (hT : GoodIn Ts (va_wsS own index y ws)) (hw : ws = Cond.codeWith y bytes maxL ret hh :: ws') (hrc : rm.cells = mc) (hrs : rm.slots = ms)
    (hd : y.cls ≠ "java/lang/invoke/MethodHandle" ∧ y.cls ≠ "java/lang/invoke/VarHandle" ∧ (parseMethodDescriptor y.desc).map (fun d => d.parameters.length) = some n) (hR : rm.frames + 1 ≤ R.frames ∧ 8 + (maxL + 11) + rm.locals ≤ R.locals) :
    vx_CSW R s args own index y bytes maxL ret hh ws rm mc ms n := by
  have ok : ∀ w ∈ va_wsS own index y ws, w.before args s = true := fun w h => ht w (hT w h).1
  have hG : GoodIn Ts ws := fun w h => hT w (by unfold va_wsS; exact List.mem_append_right _ h)
  have hc : Cond.codeWith y bytes maxL ret hh ∈ ws := by rw [hw]; exact List.mem_cons_self
  refine ⟨⟨hrc, hrs, hR.1, hR.2, pay_in ht hG, hc⟩, ht _ (hG _ hc).1, ok _ (by simp [va_wsS]), ⟨hd.1, hd.2.1⟩, fun sig h => ?_, ok _ (by simp [va_wsS]), ok _ (by simp [va_wsS])⟩
  have h2 := hd.2.2
  rw [h] at h2
  exact (Option.some.inj h2).symm
theorem vx_callSW (X : Stand p l e R s m args below meth c T locs cells slots) (hexec : p.tables.exec = Jvm.exec) {own : String} {index : Nat} {y : MethodName} {bytes : ByteArray} {maxL : Nat} {ret : Option FieldType} {hh : List (Nat × Nat × Nat × Nat)}
    (hown : s.vm.findClass own = some m.cls) (hlink : (Cond.methodLink own index y).before args s = true) (hstat : (Cond.static y).before args s = true) (hinit : (Cond.initialized y.cls).before args s = true)
    (hcode : (Cond.codeWith y bytes maxL ret hh).before args s = true) (hy : y.cls ≠ "java/lang/invoke/MethodHandle" ∧ y.cls ≠ "java/lang/invoke/VarHandle")
    {W9 : Nat} {Pre : Pt → Array Value → Prop} {Post : Pt → Array Value → Option Value → Pt → Prop} (hK : Back l R p e below s args y 3 W9 Pre Post)
    {g : JFrame} (hg : g.method = m) (hsize : g.locals.size = c.maxLocals) {argsL rest : List Value} (hlen : ∀ sig, parseMethodDescriptor y.desc = some sig → argsL.length = sig.parameters.length)
    (hstack : g.stack = argsL.reverse ++ rest) (hW : 2 * g.monitorRoom + (rest.map fun v => v.category).sum ≤ W9) (hdg : decode c.code g.pc = .ok (.invokestatic index, 3))
    (hpre : ∀ vm₁, s.WarmedH vm₁ → Pre ⟨T.setVm vm₁, locs, cells, slots⟩ argsL.toArray) :
    ∃ (v : Option Value) (vm₁ : Vm) (B : Pt), s.WarmedH vm₁ ∧ Stand p l e R s m args below meth c B.U B.locs B.cells B.slots ∧ Post ⟨T.setVm vm₁, locs, cells, slots⟩ argsL.toArray v B ∧
      ∀ target, Steps p.tables e below (B.U.setTop { g with pc := g.pc + 3, stack := v.toList ++ rest }) target → Steps p.tables e below (T.setTop g) target := by
  obtain ⟨mk, methM, cM, hnamed, hmethM, -, -, -, -, -, -, hsigM⟩ := Cond.codeWith_spec hcode
  have hstatic : methM.isStatic = true := Cond.static_spec hnamed hmethM hstat
  obtain ⟨kP, hkP, -⟩ := className_of_methodNamed hnamed
  have hinitP : kP.init = .initialized := Cond.initialized_spec (findClass_of_methodNamed hnamed) hkP hinit
  obtain ⟨vm₁, X₁, hstep₁⟩ := X.invokestatic hexec hown hlink hnamed hmethM hstatic hkP hinitP hy (g := g) hg (argsL := argsL) (rest := rest) (hlen _ hsigM) hstack hdg
  obtain ⟨v, B, X', hpost, hsteps⟩ := hK m meth c ⟨T.setVm vm₁, locs, cells, slots⟩ { g with stack := rest } (.invokestatic index) mk argsL.toArray X₁ hg hsize hdg hW (X₁.named hnamed) (hpre vm₁ X₁.warmed)
  exact ⟨v, vm₁, B, X₁.warmed, X', hpost, fun target h => hstep₁ _ fun acts => by rw [doInvoke_state]; exact hsteps.trans h⟩
theorem vx_runSW {y : MethodName} {bytes cc : ByteArray} {maxL nL mc ms n index : Nat} {ret : Option FieldType} {hh : List (Nat × Nat × Nat × Nat)} {ws : List Cond} {rm : Room} {Pc : Array Value → State → Prop} {Qc : Array Value → State → Outcome → State → Prop} {free : Addr → Prop} {Ts : List Cond} {own : String} {As rest : List Value} {g : JFrame}
    (S : CallFix p m c cc nL s args Ts own) (hM : Met l y ws rm Pc Qc mc ms free) (cw : vx_CSW R s args own index y bytes maxL ret hh ws rm mc ms n) (hp : PreS s H Pc As)
    (hg : g.method = m) (hn : As.length = n) (hsize : g.locals.size = nL) (hstack : g.stack = As.reverse ++ rest) (hW : 2 * g.monitorRoom + (rest.map fun v => v.category).sum ≤ 8) (hdg : decode cc g.pc = .ok (.invokestatic index, 3)) (hf : cells + mc ≤ R.cells ∧ slots + ms ≤ R.slots) :
    va_Run p l e R s m args below meth c H locs cells slots mc ms g rest (Qc As.toArray) (free) := by
  obtain ⟨⟨hrc, hrs, hfr, hlo, hws, hcw⟩, hcode, hini, hy, hlen, hl, hstt⟩ := cw
  have hK : Back l R p e below s args y 3 8 (PreOf R mc ms Pc) (PostOf Qc mc ms free) := va_backW (hh := hh) (bytes := bytes) (maxL := maxL) (ret := ret) hM hp.1 hrc hrs hfr hlo hws hcw (fun a' U hW => word_at hW (Or.inl (by first | rfl | simp [Cond.onTables, Cond.keeps, Cond.steady])) hini)
  obtain ⟨hx, hb, hml, ho, -⟩ := S
  intro T hT X
  obtain ⟨v, vm₁, ⟨U', l2, c2, s2⟩, hW₁, X', ⟨g', mk, t, L, e1, e2, hq, h1, hL, h2, h3⟩, st⟩ := vx_callSW X hx (hh := hh) (bytes := bytes) (maxL := maxL) (ret := ret) ho hl hstt hini hcode hy hK hg (hsize.trans hml.symm) (argsL := As) (rest := rest) (fun sig h => hn.trans (hlen sig h)) hstack hW (by rw [hb]; exact hdg)
    (fun vm₁ hW₁ => ⟨hf.1, hf.2, hp.2 (T.setVm vm₁) hT hW₁⟩)
  dsimp only [Pt.U, Pt.locs, Pt.cells, Pt.slots] at X' e1 e2 h1 h2 h3 st
  subst h1; subst h2; subst h3
  exact ⟨v, (T.setVm vm₁).calling g' mk As.toArray, t, U', L, hT, X', hL, e1, e2, hq, st⟩
/-- not caught here, past rows that name other classes: it goes on to the caller -/
theorem vx_outP {p : Program} {l : Launch} {e : Env} {R : Room} {s : State} {m : MethodId} {args : Array Value} {below : List Frame} {meth : Method} {c : Code} {H : Heap} {locs : List Loc} {cells slots : Nat} {free : Addr → Prop} {ls : Array Slot} {rest : List Value} {Qc : Array Value → State → Outcome → State → Prop} {XC : String → State → State → Prop}
    {pc : Nat} {own E : String} {ce : Cell} {q : Addr} {mc ms : Nat} (hown : s.vm.findClass own = some m.cls) (hlocks : meth.locks = false)
    (hpass : ∀ z ∈ c.exceptionTable.toList, covers z pc = false ∨ (z.catchType ≠ 0 ∧ ∃ nm : String, (Cond.classLink own z.catchType nm).before args s = true ∧ va_Nc E nm s)) (hcell : H[q]? = some ce) (hv : ce.vm = .none) (hcl : s.vm.findClass E = some ce.cls)
    (hx : ∀ t : State, t.heap = H → s.vm.Alike t.vm → XC E s t) (hf : ∀ z ∈ locs, free z.base) (hc : cells ≤ mc) (hs : slots ≤ ms) :
    vx_W p l e R s m args below meth c H locs cells slots (vx_MQ below Qc XC args s mc ms free) (F0 m pc ls rest) q := by
  intro T hT X
  have hpl : e.platform.magicAccessors = ({} : Platform).magicAccessors := by rw [X.admits.platform]
  obtain ⟨vm', hW', X', st⟩ := X.outThrough hlocks q (g := F0 m pc ls rest) rfl rfl rfl (cell := ce) (by rw [hT]; exact hcell) (by rw [hv]; rfl)
    (by obtain ⟨k9, h9, -⟩ := Vm.findClass_spec hcl; exact ⟨k9, h9⟩) (fun z hz => by
      rcases hpass z hz with h | ⟨hz0, nm, hl1, hn1⟩
      · exact Or.inl h
      · obtain ⟨c6, hc6, hcl6⟩ := Cond.classLink_spec hown hl1 e.platform hpl
        obtain ⟨a8, b8, h1, h2, h3⟩ := hn1
        cases Option.some.inj (h1.symm.trans hcl)
        cases Option.some.inj (h2.symm.trans hc6)
        exact Or.inr ⟨hz0, _, hcl6, h3⟩)
  obtain ⟨g₀, hfr⟩ := X'.frames_eq
  have hcell9 : ((T.setVm vm').setFrames (.throwing q :: below)).heap[q]? = some ce := by
    show T.heap[q]? = some ce
    rw [hT]; exact hcell
  have hend : Ended ((T.setVm vm').setFrames (.throwing q :: below)) below (.threw q) := State.frames_setFrames _ (State.cur_lt_of_frames hfr)
  refine ⟨(T.setVm vm').setFrames (.throwing q :: below), ?_, .threw q, X'.here.running, hend, Or.inr ⟨q, rfl, E, ce, locs, hx _ hT (X'.ends _).1.alike, hcell9, hv, hcl, (X'.ends _).1, (X'.ends _).2.mono hc hs, hf⟩⟩
  rw [X.pushThrowing_eq]
  exact st
/-- a thing of a world lies in the heap -/
theorem vx_lt {D : va_G} {cl : List vw_C} {ws : va_W} {H1 : Heap} (h : va_P D cl ws H1) {k : Nat} {q : Nat × va_E} (hk : ws[k]? = some q) : q.1 < H1.size := (h k q hk).lt
end VXS
/-! ===== END ===== -/
/-! ===== BEGIN methods with a table of their own: called by a name, returning or throwing ===== -/
section VXH
/-! vx_backW, vx_callVX, vx_callSX, vx_callVW, vx_runVW, vx_runVX, vx_runSX, vx_ofWH follow the same proofs as their sisters above (Free/Laws.lean, Shelf42/LK1.lean); vx_outP calls Shelf42/NT130.lean (outThrough). -/
section
variable {l : Launch} {R : Room} {p : Program} {e : Env} {below : List Frame} {s : State} {sargs : Array Value} {y : MethodName} {len W9 : Nat}
theorem vx_backW {ws : List Cond} {rm : Room} {Pc : Array Value → State → Prop} {Qc : Array Value → State → Outcome → State → Prop} {XC : String → State → State → Prop} {mc ms : Nat} {free : Addr → Prop} {bytes : ByteArray} {maxL : Nat} {ret : Option FieldType} {hh : List (Nat × Nat × Nat × Nat)}
    (hM : vx_Met l y ws rm Pc Qc XC mc ms free) (hblind : FrameBlind Pc) (hrc : rm.cells = mc) (hrs : rm.slots = ms)
    (hframes : rm.frames + 1 ≤ R.frames) (hlocals : W9 + (maxL + 11) + rm.locals ≤ R.locals)
    (hws : ∀ w ∈ ws, ∀ a' U, s.WarmedH U.vm → w.before a' U = true) (hcode : Cond.codeWith y bytes maxL ret hh ∈ ws) (hinit : ∀ a' U, s.WarmedH U.vm → (Cond.initialized y.cls).before a' U = true) :
    vx_Back l R p e below s sargs y len W9 (PreOf R mc ms Pc) (PostOf Qc mc ms free) (vx_Post XC mc ms free) := by
  intro m meth c A g ig mk a X hg hsize hdg hW hn hp
  have h1 : (headSpec ws rm).pre.before a A.U = true := atoms_intro fun w hw => hws w hw _ _ X.warmed
  have h2 : (Cond.codeWith y bytes maxL ret hh).before a A.U = true := hws _ hcode _ _ X.warmed
  have h3 : (Cond.initialized y.cls).before a A.U = true := hinit _ _ X.warmed
  have h4 : A.cells + (headSpec ws rm).room.cells ≤ R.cells := by rw [show (headSpec ws rm).room.cells = mc from hrc]; exact hp.1
  have h5 : A.slots + (headSpec ws rm).room.slots ≤ R.slots := by rw [show (headSpec ws rm).room.slots = ms from hrs]; exact hp.2.1
  have hPc : Pc a (A.U.calling g mk a) := hblind _ _ _ _ hp.2.2
  obtain ⟨U, Ls, c0, s0⟩ := A
  dsimp only [Pt.U, Pt.locs, Pt.cells, Pt.slots] at h1 h2 h3 h4 h5 X hn hPc ⊢
  obtain ⟨m9, methY, cY, hn9, hmY, hcY, -, hlY, -⟩ := Cond.codeWith_spec h2
  cases Option.some.inj (hn9.symm.trans hn)
  obtain ⟨kY, hkY, -⟩ := className_of_methodNamed hn
  have hinitY : kY.init = .initialized := Cond.initialized_spec (findClass_of_methodNamed hn) hkY h3
  have h : At U g.method c below := by rw [hg]; exact X.here
  have hlocals9 : W9 + (maxL + 11) + (headSpec ws rm).room.locals ≤ R.locals := hlocals
  have happ : (headSpec ws rm).appliesLoose y e.platform (U.calling g mk a) = true :=
    Spec.appliesLoose_calling (g := g) h hdg hn hkY hinitY
      (X.room_calling (g := g) (R' := (headSpec ws rm).room) hsize hmY hcY hframes (by rw [hlY]; omega) h4 h5) h1
  obtain ⟨mid, hmid⟩ := h.above
  have hfr : (U.setTop g).frames = (.java g :: mid) ++ below := by rw [State.frames_setTop' g h.top, hmid]; rfl
  obtain ⟨o, s₂, hsteps, -, hend, hq⟩ := Steps.callFree hM p X.admits X.cas X.clock (acts := []) hfr happ hPc trivial
  have hq' : vx_Q Qc XC mc ms free a (U.calling g mk a) o s₂ := hq
  rw [State.frames_setTop' g h.top] at hend
  obtain ⟨g₀, hg0⟩ := Option.isSome_iff_exists.mp h.top
  obtain ⟨r, hr⟩ := State.topJava?_eq_some.mp hg0
  have hr' : (({ U with heap := s₂.heap, slotsUsed := s₂.slotsUsed } : State).setVm s₂.vm).frames = .java g₀ :: r := hr
  rcases hq' with ⟨hqc, L, hfe, hL⟩ | ⟨q, rfl, E, ce, L, hx, hce, hcv, hcl, hW₂, hsm, hL⟩
  · obtain ⟨⟨v, rfl⟩, hW₂, e2, q2, q3, q4, q5, q6⟩ := id hfe
    have e3 : s₂ = ({ (U.calling g mk a).setFrames s₂.frames with heap := s₂.heap, slotsUsed := s₂.slotsUsed } : State).setVm s₂.vm := by
      have : s₂ = ({ s₂ with vm := (U.calling g mk a).vm } : State).setVm s₂.vm := rfl
      rw [e2] at this
      exact this
    obtain ⟨c₂, i₂, len₂, hc₂, hd₂, hf₂⟩ := hend
    have hW' : U.WarmedH s₂.vm := hW₂
    have hcc : c₂ = c := by
      have h1 : s₂.code? g.method = U.code? g.method := by
        rw [State.code?_eq, State.code?_eq, hW'.alike.method?]
      exact Option.some.inj (hc₂.symm.trans (h1.trans h.code))
    subst hcc
    have hlen : len₂ = len := by rw [hdg] at hd₂; cases hd₂; rfl
    subst hlen
    have hs₂ : s₂ = (({ U with heap := s₂.heap, slotsUsed := s₂.slotsUsed } : State).setVm s₂.vm).setTop { g with pc := g.pc + len₂, stack := v.toList ++ g.stack } := by
      refine e3.trans ?_
      rw [hf₂, State.calling_eq h.top, State.setFrames_setFrames, State.setTop_of_frames _ hr', hr]
      rfl
    have hsame : U.sameButNew ({ U with heap := s₂.heap, slotsUsed := s₂.slotsUsed } : State) L mc ms := by
      refine ⟨?_, q2, q3, q4, q5, q6⟩
      obtain ⟨t, ht, -⟩ := State.frames_cons hr
      show ({ U with heap := s₂.heap, slotsUsed := s₂.slotsUsed } : State) = { U.setFrames U.frames with heap := s₂.heap, slotsUsed := s₂.slotsUsed }
      rw [State.setFrames_self ht]
    subst hg
    refine Or.inl ⟨v, ⟨(({ U with heap := s₂.heap, slotsUsed := s₂.slotsUsed } : State).setVm s₂.vm), Ls ++ L, c0 + mc, s0 + ms⟩,
      ⟨X.admits, X.cas, X.clock, X.frames, X.room, X.hears, X.method, X.code, (X.here.setHeapUsed s₂.heap s₂.slotsUsed).setVm hW'.alike, X.tail, State.WarmedH.trans X.warmed hW', X.limits, X.bytes, X.same.trans (hsame.setVm s.vm)⟩,
      ⟨g, mk, s₂, L, rfl, rfl, hqc, rfl, hL, rfl, rfl⟩, ?_⟩
    show Steps p.tables e below _ ((({ U with heap := s₂.heap, slotsUsed := s₂.slotsUsed } : State).setVm s₂.vm).setTop { g with pc := g.pc + len₂, stack := v.toList ++ g.stack })
    rw [← hs₂]
    exact hsteps
  · obtain ⟨e2, q2, q3, q4, q5, q6⟩ := id hsm
    have e3 : s₂ = ({ (U.calling g mk a).setFrames s₂.frames with heap := s₂.heap, slotsUsed := s₂.slotsUsed } : State).setVm s₂.vm := by
      have : s₂ = ({ s₂ with vm := (U.calling g mk a).vm } : State).setVm s₂.vm := rfl
      rw [e2] at this
      exact this
    have hf₂ : s₂.frames = .throwing q :: .java g :: U.frames.tail := hend
    have hW' : U.WarmedH s₂.vm := hW₂
    have hs₂ : s₂ = ((({ U with heap := s₂.heap, slotsUsed := s₂.slotsUsed } : State).setVm s₂.vm).setTop g).pushFrame (.throwing q) := by
      refine e3.trans ?_
      rw [hf₂, State.calling_eq h.top, State.setFrames_setFrames, State.pushFrame, State.frames_setTop _ hr', State.setTop_of_frames _ hr', State.setFrames_setFrames, hr]
      rfl
    have hsame : U.sameButNew ({ U with heap := s₂.heap, slotsUsed := s₂.slotsUsed } : State) L mc ms := by
      refine ⟨?_, q2, q3, q4, q5, q6⟩
      obtain ⟨t, ht, -⟩ := State.frames_cons hr
      show ({ U with heap := s₂.heap, slotsUsed := s₂.slotsUsed } : State) = { U.setFrames U.frames with heap := s₂.heap, slotsUsed := s₂.slotsUsed }
      rw [State.setFrames_self ht]
    subst hg
    refine Or.inr ⟨q, ⟨(({ U with heap := s₂.heap, slotsUsed := s₂.slotsUsed } : State).setVm s₂.vm), Ls ++ L, c0 + mc, s0 + ms⟩,
      ⟨X.admits, X.cas, X.clock, X.frames, X.room, X.hears, X.method, X.code, (X.here.setHeapUsed s₂.heap s₂.slotsUsed).setVm hW'.alike, X.tail, State.WarmedH.trans X.warmed hW', X.limits, X.bytes, X.same.trans (hsame.setVm s.vm)⟩,
      ⟨g, mk, s₂, L, E, ce, rfl, rfl, hx, hce, hcv, hcl, rfl, hL, rfl, rfl⟩, ?_⟩
    show Steps p.tables e below _ (((({ U with heap := s₂.heap, slotsUsed := s₂.slotsUsed } : State).setVm s₂.vm).setTop g).pushFrame (.throwing q))
    rw [← hs₂]
    exact hsteps
end
variable {p : Program} {l : Launch} {e : Env} {R : Room} {s : State} {m : MethodId} {args : Array Value} {below : List Frame} {meth : Method} {c : Code} {T : State} {H : Heap} {locs : List Loc} {cells slots : Nat}
theorem vx_callVX (X : Stand p l e R s m args below meth c T locs cells slots) (hexec : p.tables.exec = Jvm.exec) {own C : String} {index : Nat} {y : MethodName} {bytes : ByteArray} {maxL : Nat} {ret : Option FieldType} {hh : List (Nat × Nat × Nat × Nat)}
    (hown : s.vm.findClass own = some m.cls) (hlink : (Cond.methodLink own index y).before args s = true) (hinst : (Cond.instanceMethod y).before args s = true) (hsel : (Cond.selects C y y).before args s = true)
    (hcode : (Cond.codeWith y bytes maxL ret hh).before args s = true) (hy : y.cls ≠ "java/lang/invoke/MethodHandle" ∧ y.cls ≠ "java/lang/invoke/VarHandle")
    {W9 : Nat} {Pre : Pt → Array Value → Prop} {Post : Pt → Array Value → Option Value → Pt → Prop} {PostX : Pt → Array Value → Addr → Pt → Prop} (hK : vx_Back l R p e below s args y 3 W9 Pre Post PostX)
    {b : Addr} {cellB : Cell} (hcell : T.heap[b]? = some cellB) (hobj : cellB.vm.isStatics = false) (hcls : s.vm.findClass C = some cellB.cls)
    {g : JFrame} (hg : g.method = m) (hsize : g.locals.size = c.maxLocals) {argsL rest : List Value} (hlen : ∀ sig, parseMethodDescriptor y.desc = some sig → argsL.length = sig.parameters.length)
    (hstack : g.stack = argsL.reverse ++ .ref b :: rest) (hW : 2 * g.monitorRoom + (rest.map fun v => v.category).sum ≤ W9) (hdg : decode c.code g.pc = .ok (.invokevirtual index, 3))
    (hpre : ∀ vm₁, s.WarmedH vm₁ → Pre ⟨T.setVm vm₁, locs, cells, slots⟩ (Value.ref b :: argsL).toArray) :
    (∃ (v : Option Value) (vm₁ : Vm) (B : Pt), s.WarmedH vm₁ ∧ Stand p l e R s m args below meth c B.U B.locs B.cells B.slots ∧ Post ⟨T.setVm vm₁, locs, cells, slots⟩ (Value.ref b :: argsL).toArray v B ∧
      ∀ target, Steps p.tables e below (B.U.setTop { g with pc := g.pc + 3, stack := v.toList ++ rest }) target → Steps p.tables e below (T.setTop g) target) ∨
    (∃ (q : Addr) (vm₁ : Vm) (B : Pt), s.WarmedH vm₁ ∧ Stand p l e R s m args below meth c B.U B.locs B.cells B.slots ∧ PostX ⟨T.setVm vm₁, locs, cells, slots⟩ (Value.ref b :: argsL).toArray q B ∧
      Steps p.tables e below (T.setTop g) ((B.U.setTop { g with stack := rest }).pushFrame (.throwing q))) := by
  obtain ⟨mk, methM, hnamed, hmethM, hstM, habM⟩ := Cond.instanceMethod_spec hinst
  obtain ⟨m8, methM', cM, hn8, hmethM', -, -, -, -, -, -, hsigM⟩ := Cond.codeWith_spec hcode
  cases Option.some.inj (hn8.symm.trans hnamed)
  cases hmethM.symm.trans hmethM'
  obtain ⟨c2, r2, m2, q1, q2, q3, q4, kP, hkP, hkPi⟩ := Cond.selects_spec hsel
  cases hcls.symm.trans q1
  cases (State.methodFound?_of_named hnamed hy).symm.trans q2
  cases hnamed.symm.trans q3
  have hselP : selectMethod e.platform s.vm cellB.cls mk = .method mk := by rw [Launch.admits_selectMethod X.admits]; exact q4
  obtain ⟨vm₁, X₁, hstep₁⟩ := X.invokevirtual hexec hown hlink hnamed hmethM hstM hkP hkPi hy (a := b) (cell := cellB) hcell
    (fun z h => by rw [h] at hobj; cases hobj) hselP hmethM habM hkP hkPi (g := g) hg (argsL := argsL) (rest := rest) (hlen _ hsigM) hstack hdg
  rcases hK m meth c ⟨T.setVm vm₁, locs, cells, slots⟩ { g with stack := rest } (.invokevirtual index) mk (Value.ref b :: argsL).toArray X₁ hg hsize hdg hW (X₁.named hnamed) (hpre vm₁ X₁.warmed) with ⟨v, B, X', hpost, hsteps⟩ | ⟨q, B, X', hpost, hsteps⟩
  · exact Or.inl ⟨v, vm₁, B, X₁.warmed, X', hpost, fun target h => hstep₁ _ fun acts => by rw [doInvoke_state]; exact hsteps.trans h⟩
  · exact Or.inr ⟨q, vm₁, B, X₁.warmed, X', hpost, hstep₁ _ fun acts => by rw [doInvoke_state]; exact hsteps⟩
theorem vx_callSX (X : Stand p l e R s m args below meth c T locs cells slots) (hexec : p.tables.exec = Jvm.exec) {own : String} {index : Nat} {y : MethodName} {bytes : ByteArray} {maxL : Nat} {ret : Option FieldType} {hh : List (Nat × Nat × Nat × Nat)}
    (hown : s.vm.findClass own = some m.cls) (hlink : (Cond.methodLink own index y).before args s = true) (hstat : (Cond.static y).before args s = true) (hinit : (Cond.initialized y.cls).before args s = true)
    (hcode : (Cond.codeWith y bytes maxL ret hh).before args s = true) (hy : y.cls ≠ "java/lang/invoke/MethodHandle" ∧ y.cls ≠ "java/lang/invoke/VarHandle")
    {W9 : Nat} {Pre : Pt → Array Value → Prop} {Post : Pt → Array Value → Option Value → Pt → Prop} {PostX : Pt → Array Value → Addr → Pt → Prop} (hK : vx_Back l R p e below s args y 3 W9 Pre Post PostX)
    {g : JFrame} (hg : g.method = m) (hsize : g.locals.size = c.maxLocals) {argsL rest : List Value} (hlen : ∀ sig, parseMethodDescriptor y.desc = some sig → argsL.length = sig.parameters.length)
    (hstack : g.stack = argsL.reverse ++ rest) (hW : 2 * g.monitorRoom + (rest.map fun v => v.category).sum ≤ W9) (hdg : decode c.code g.pc = .ok (.invokestatic index, 3))
    (hpre : ∀ vm₁, s.WarmedH vm₁ → Pre ⟨T.setVm vm₁, locs, cells, slots⟩ argsL.toArray) :
    (∃ (v : Option Value) (vm₁ : Vm) (B : Pt), s.WarmedH vm₁ ∧ Stand p l e R s m args below meth c B.U B.locs B.cells B.slots ∧ Post ⟨T.setVm vm₁, locs, cells, slots⟩ argsL.toArray v B ∧
      ∀ target, Steps p.tables e below (B.U.setTop { g with pc := g.pc + 3, stack := v.toList ++ rest }) target → Steps p.tables e below (T.setTop g) target) ∨
    (∃ (q : Addr) (vm₁ : Vm) (B : Pt), s.WarmedH vm₁ ∧ Stand p l e R s m args below meth c B.U B.locs B.cells B.slots ∧ PostX ⟨T.setVm vm₁, locs, cells, slots⟩ argsL.toArray q B ∧
      Steps p.tables e below (T.setTop g) ((B.U.setTop { g with stack := rest }).pushFrame (.throwing q))) := by
  obtain ⟨mk, methM, cM, hnamed, hmethM, -, -, -, -, -, -, hsigM⟩ := Cond.codeWith_spec hcode
  have hstatic : methM.isStatic = true := Cond.static_spec hnamed hmethM hstat
  obtain ⟨kP, hkP, -⟩ := className_of_methodNamed hnamed
  have hinitP : kP.init = .initialized := Cond.initialized_spec (findClass_of_methodNamed hnamed) hkP hinit
  obtain ⟨vm₁, X₁, hstep₁⟩ := X.invokestatic hexec hown hlink hnamed hmethM hstatic hkP hinitP hy (g := g) hg (argsL := argsL) (rest := rest) (hlen _ hsigM) hstack hdg
  rcases hK m meth c ⟨T.setVm vm₁, locs, cells, slots⟩ { g with stack := rest } (.invokestatic index) mk argsL.toArray X₁ hg hsize hdg hW (X₁.named hnamed) (hpre vm₁ X₁.warmed) with ⟨v, B, X', hpost, hsteps⟩ | ⟨q, B, X', hpost, hsteps⟩
  · exact Or.inl ⟨v, vm₁, B, X₁.warmed, X', hpost, fun target h => hstep₁ _ fun acts => by rw [doInvoke_state]; exact hsteps.trans h⟩
  · exact Or.inr ⟨q, vm₁, B, X₁.warmed, X', hpost, hstep₁ _ fun acts => by rw [doInvoke_state]; exact hsteps⟩
theorem vx_callVW (X : Stand p l e R s m args below meth c T locs cells slots) (hexec : p.tables.exec = Jvm.exec) {own C : String} {index : Nat} {y : MethodName} {bytes : ByteArray} {maxL : Nat} {ret : Option FieldType} {hh : List (Nat × Nat × Nat × Nat)}
    (hown : s.vm.findClass own = some m.cls) (hlink : (Cond.methodLink own index y).before args s = true) (hinst : (Cond.instanceMethod y).before args s = true) (hsel : (Cond.selects C y y).before args s = true)
    (hcode : (Cond.codeWith y bytes maxL ret hh).before args s = true) (hy : y.cls ≠ "java/lang/invoke/MethodHandle" ∧ y.cls ≠ "java/lang/invoke/VarHandle")
    {W9 : Nat} {Pre : Pt → Array Value → Prop} {Post : Pt → Array Value → Option Value → Pt → Prop} (hK : Back l R p e below s args y 3 W9 Pre Post)
    {b : Addr} {cellB : Cell} (hcell : T.heap[b]? = some cellB) (hobj : cellB.vm.isStatics = false) (hcls : s.vm.findClass C = some cellB.cls)
    {g : JFrame} (hg : g.method = m) (hsize : g.locals.size = c.maxLocals) {argsL rest : List Value} (hlen : ∀ sig, parseMethodDescriptor y.desc = some sig → argsL.length = sig.parameters.length)
    (hstack : g.stack = argsL.reverse ++ .ref b :: rest) (hW : 2 * g.monitorRoom + (rest.map fun v => v.category).sum ≤ W9) (hdg : decode c.code g.pc = .ok (.invokevirtual index, 3))
    (hpre : ∀ vm₁, s.WarmedH vm₁ → Pre ⟨T.setVm vm₁, locs, cells, slots⟩ (Value.ref b :: argsL).toArray) :
    ∃ (v : Option Value) (vm₁ : Vm) (B : Pt), s.WarmedH vm₁ ∧ Stand p l e R s m args below meth c B.U B.locs B.cells B.slots ∧ Post ⟨T.setVm vm₁, locs, cells, slots⟩ (Value.ref b :: argsL).toArray v B ∧
      ∀ target, Steps p.tables e below (B.U.setTop { g with pc := g.pc + 3, stack := v.toList ++ rest }) target → Steps p.tables e below (T.setTop g) target := by
  obtain ⟨mk, methM, hnamed, hmethM, hstM, habM⟩ := Cond.instanceMethod_spec hinst
  obtain ⟨m8, methM', cM, hn8, hmethM', -, -, -, -, -, -, hsigM⟩ := Cond.codeWith_spec hcode
  cases Option.some.inj (hn8.symm.trans hnamed)
  cases hmethM.symm.trans hmethM'
  obtain ⟨c2, r2, m2, q1, q2, q3, q4, kP, hkP, hkPi⟩ := Cond.selects_spec hsel
  cases hcls.symm.trans q1
  cases (State.methodFound?_of_named hnamed hy).symm.trans q2
  cases hnamed.symm.trans q3
  have hselP : selectMethod e.platform s.vm cellB.cls mk = .method mk := by rw [Launch.admits_selectMethod X.admits]; exact q4
  obtain ⟨vm₁, X₁, hstep₁⟩ := X.invokevirtual hexec hown hlink hnamed hmethM hstM hkP hkPi hy (a := b) (cell := cellB) hcell
    (fun z h => by rw [h] at hobj; cases hobj) hselP hmethM habM hkP hkPi (g := g) hg (argsL := argsL) (rest := rest) (hlen _ hsigM) hstack hdg
  obtain ⟨v, B, X', hpost, hsteps⟩ := hK m meth c ⟨T.setVm vm₁, locs, cells, slots⟩ { g with stack := rest } (.invokevirtual index) mk (Value.ref b :: argsL).toArray X₁ hg hsize hdg hW (X₁.named hnamed) (hpre vm₁ X₁.warmed)
  exact ⟨v, vm₁, B, X₁.warmed, X', hpost, fun target h => hstep₁ _ fun acts => by rw [doInvoke_state]; exact hsteps.trans h⟩
abbrev vx_CVW (R : Room) (s : State) (args : Array Value) (own C : String) (index : Nat) (y : MethodName) (bytes : ByteArray) (maxL : Nat) (ret : Option FieldType) (hh : List (Nat × Nat × Nat × Nat)) (ws : List Cond) (rm : Room) (mc ms n : Nat) : Prop :=
  (rm.cells = mc ∧ rm.slots = ms ∧ rm.frames + 1 ≤ R.frames ∧ 8 + (maxL + 11) + rm.locals ≤ R.locals ∧ (∀ w ∈ ws, ∀ (a' : Array Value) (U : State), s.WarmedH U.vm → w.before a' U = true) ∧ Cond.codeWith y bytes maxL ret hh ∈ ws) ∧
  (Cond.codeWith y bytes maxL ret hh).before args s = true ∧ (Cond.initialized y.cls).before args s = true ∧ (y.cls ≠ "java/lang/invoke/MethodHandle" ∧ y.cls ≠ "java/lang/invoke/VarHandle") ∧
  (∀ sig, parseMethodDescriptor y.desc = some sig → n = sig.parameters.length) ∧ (Cond.methodLink own index y).before args s = true ∧ (Cond.instanceMethod y).before args s = true ∧ (Cond.selects C y y).before args s = true
theorem vx_cwVW {own C : String} {index maxL mc ms : Nat} {y : MethodName} {bytes : ByteArray} {ret : Option FieldType} {hh : List (Nat × Nat × Nat × Nat)} {Ts ws ws' : List Cond} {rm : Room} (n : Nat) (ht : ∀ w ∈ Ts, w.before args s = true) (hT : GoodIn Ts (wsV own index C y ws)) (hw : ws = Cond.codeWith y bytes maxL ret hh :: ws') (hrc : rm.cells = mc) (hrs : rm.slots = ms)
    (hd : y.cls = C ∧ y.cls ≠ "java/lang/invoke/MethodHandle" ∧ y.cls ≠ "java/lang/invoke/VarHandle" ∧ (parseMethodDescriptor y.desc).map (fun d => d.parameters.length) = some n) (hR : rm.frames + 1 ≤ R.frames ∧ 8 + (maxL + 11) + rm.locals ≤ R.locals) :
    vx_CVW R s args own C index y bytes maxL ret hh ws rm mc ms n := by
  obtain ⟨hC, hd⟩ := hd
  subst hC
  have ok : ∀ w ∈ wsV own index y.cls y ws, w.before args s = true := fun w h => ht w (hT w h).1
  have hG : GoodIn Ts ws := fun w h => hT w (by unfold wsV; exact List.mem_append_right _ h)
  have hc : Cond.codeWith y bytes maxL ret hh ∈ ws := by rw [hw]; exact List.mem_cons_self
  refine ⟨⟨hrc, hrs, hR.1, hR.2, pay_in ht hG, hc⟩, ht _ (hG _ hc).1, ok _ (by simp [wsV]), ⟨hd.1, hd.2.1⟩, fun sig h => ?_, ok _ (by simp [wsV]), ok _ (by simp [wsV]), ok _ (by simp [wsV])⟩
  have h2 := hd.2.2
  rw [h] at h2
  exact (Option.some.inj h2).symm
theorem vx_runVW {y : MethodName} {bytes cc : ByteArray} {maxL nL mc ms n index : Nat} {ret : Option FieldType} {hh : List (Nat × Nat × Nat × Nat)} {ws : List Cond} {rm : Room} {Pc : Array Value → State → Prop} {Qc : Array Value → State → Outcome → State → Prop} {free : Addr → Prop} {Ts : List Cond} {own C : String} {b : Addr} {As rest : List Value} {g : JFrame}
    (S : CallFix p m c cc nL s args Ts own) (hM : Met l y ws rm Pc Qc mc ms free) (cw : vx_CVW R s args own C index y bytes maxL ret hh ws rm mc ms n) (hp : PreV s H C b Pc As)
    (hg : g.method = m) (hn : As.length = n) (hsize : g.locals.size = nL) (hstack : g.stack = As.reverse ++ .ref b :: rest) (hW : 2 * g.monitorRoom + (rest.map fun v => v.category).sum ≤ 8) (hdg : decode cc g.pc = .ok (.invokevirtual index, 3)) (hf : cells + mc ≤ R.cells ∧ slots + ms ≤ R.slots) :
    va_Run p l e R s m args below meth c H locs cells slots mc ms g rest (Qc (Value.ref b :: As).toArray) free := by
  obtain ⟨⟨hrc, hrs, hfr, hlo, hws, hcw⟩, hcode, hini, hy, hlen, hl, hin, hse⟩ := cw
  have hK : Back l R p e below s args y 3 8 (PreOf R mc ms Pc) (PostOf Qc mc ms free) := va_backW (hh := hh) (bytes := bytes) (maxL := maxL) (ret := ret) hM hp.1 hrc hrs hfr hlo hws hcw (fun a' U hW => word_at hW (Or.inl (by first | rfl | simp [Cond.onTables, Cond.keeps, Cond.steady])) hini)
  obtain ⟨hx, hb, hml, ho, -⟩ := S
  obtain ⟨-, ⟨cellB, hcB, hoB, hclB⟩, hPc⟩ := hp
  intro T hT X
  obtain ⟨v, vm₁, ⟨U', l2, c2, s2⟩, hW₁, X', ⟨g', mk, t, L, e1, e2, hq, h1, hL, h2, h3⟩, st⟩ := vx_callVW X hx (C := C) (hh := hh) (bytes := bytes) (maxL := maxL) (ret := ret) ho hl hin hse hcode hy hK (by rw [hT]; exact hcB) hoB hclB hg (hsize.trans hml.symm) (argsL := As) (rest := rest) (fun sig h => hn.trans (hlen sig h)) hstack hW (by rw [hb]; exact hdg)
    (fun vm₁ hW₁ => ⟨hf.1, hf.2, hPc (T.setVm vm₁) hT hW₁⟩)
  dsimp only [Pt.U, Pt.locs, Pt.cells, Pt.slots] at X' e1 e2 h1 h2 h3 st
  subst h1; subst h2; subst h3
  exact ⟨v, (T.setVm vm₁).calling g' mk (Value.ref b :: As).toArray, t, U', L, hT, X', hL, e1, e2, hq, st⟩
section
variable {y : MethodName} {bytes cc : ByteArray} {maxL nL mc ms n index : Nat} {ret : Option FieldType} {ws : List Cond} {rm : Room} {Pc : Array Value → State → Prop} {Qc : Array Value → State → Outcome → State → Prop} {XC : String → State → State → Prop} {free : Addr → Prop} {Ts : List Cond} {own C : String} {b : Addr} {As rest : List Value} {g : JFrame}
theorem vx_runVX {hh : List (Nat × Nat × Nat × Nat)} (S : CallFix p m c cc nL s args Ts own) (hM : vx_Met l y ws rm Pc Qc XC mc ms free) (cw : vx_CVW R s args own C index y bytes maxL ret hh ws rm mc ms n) (hp : PreV s H C b Pc As)
    (hg : g.method = m) (hn : As.length = n) (hsize : g.locals.size = nL) (hstack : g.stack = As.reverse ++ .ref b :: rest) (hW : 2 * g.monitorRoom + (rest.map fun v => v.category).sum ≤ 8) (hdg : decode cc g.pc = .ok (.invokevirtual index, 3)) (hf : cells + mc ≤ R.cells ∧ slots + ms ≤ R.slots) :
    vx_Run p l e R s m args below meth c H locs cells slots mc ms g rest (Qc (Value.ref b :: As).toArray) XC free := by
  obtain ⟨⟨hrc, hrs, hfr, hlo, hws, hcw⟩, hcode, hini, hy, hlen, hl, hin, hse⟩ := cw
  have hK : vx_Back l R p e below s args y 3 8 (PreOf R mc ms Pc) (PostOf Qc mc ms free) (vx_Post XC mc ms free) := vx_backW (hh := hh) (bytes := bytes) (maxL := maxL) (ret := ret) hM hp.1 hrc hrs hfr hlo hws hcw (fun a' U hW => word_at hW (Or.inl (by first | rfl | simp [Cond.onTables, Cond.keeps, Cond.steady])) hini)
  obtain ⟨hx, hb, hml, ho, -⟩ := S
  obtain ⟨-, ⟨cellB, hcB, hoB, hclB⟩, hPc⟩ := hp
  intro T hT X
  rcases vx_callVX X hx (C := C) (hh := hh) (bytes := bytes) (maxL := maxL) (ret := ret) ho hl hin hse hcode hy hK (by rw [hT]; exact hcB) hoB hclB hg (hsize.trans hml.symm) (argsL := As) (rest := rest) (fun sig h => hn.trans (hlen sig h)) hstack hW (by rw [hb]; exact hdg)
    (fun vm₁ hW₁ => ⟨hf.1, hf.2, hPc (T.setVm vm₁) hT hW₁⟩) with ⟨v, vm₁, ⟨U', l2, c2, s2⟩, hW₁, X', ⟨g', mk, t, L, e1, e2, hq, h1, hL, h2, h3⟩, st⟩ | ⟨q, vm₁, ⟨U', l2, c2, s2⟩, hW₁, X', ⟨g', mk, t, L, E, ce, e1, e2, hq, hce, hcv, hcl, h1, hL, h2, h3⟩, st⟩
  · dsimp only [Pt.U, Pt.locs, Pt.cells, Pt.slots] at X' e1 e2 h1 h2 h3 st
    subst h1; subst h2; subst h3
    exact Or.inl ⟨v, (T.setVm vm₁).calling g' mk (Value.ref b :: As).toArray, t, U', L, hT, X', hL, e1, e2, hq, st⟩
  · dsimp only [Pt.U, Pt.locs, Pt.cells, Pt.slots] at X' e1 e2 h1 h2 h3 st hcl
    subst h1; subst h2; subst h3
    exact Or.inr ⟨q, (T.setVm vm₁).calling g' mk (Value.ref b :: As).toArray, t, U', L, E, ce, hT, X', hL, e1, e2, hq, hce, hcv, vx_cls hW₁ hcl, st⟩
theorem vx_runSX {hh : List (Nat × Nat × Nat × Nat)} (S : CallFix p m c cc nL s args Ts own) (hM : vx_Met l y ws rm Pc Qc XC mc ms free) (cw : vx_CSW R s args own index y bytes maxL ret hh ws rm mc ms n) (hp : PreS s H Pc As)
    (hg : g.method = m) (hn : As.length = n) (hsize : g.locals.size = nL) (hstack : g.stack = As.reverse ++ rest) (hW : 2 * g.monitorRoom + (rest.map fun v => v.category).sum ≤ 8) (hdg : decode cc g.pc = .ok (.invokestatic index, 3)) (hf : cells + mc ≤ R.cells ∧ slots + ms ≤ R.slots) :
    vx_Run p l e R s m args below meth c H locs cells slots mc ms g rest (Qc As.toArray) XC free := by
  obtain ⟨⟨hrc, hrs, hfr, hlo, hws, hcw⟩, hcode, hini, hy, hlen, hl, hstt⟩ := cw
  have hK : vx_Back l R p e below s args y 3 8 (PreOf R mc ms Pc) (PostOf Qc mc ms free) (vx_Post XC mc ms free) := vx_backW (hh := hh) (bytes := bytes) (maxL := maxL) (ret := ret) hM hp.1 hrc hrs hfr hlo hws hcw (fun a' U hW => word_at hW (Or.inl (by first | rfl | simp [Cond.onTables, Cond.keeps, Cond.steady])) hini)
  obtain ⟨hx, hb, hml, ho, -⟩ := S
  intro T hT X
  rcases vx_callSX X hx (hh := hh) (bytes := bytes) (maxL := maxL) (ret := ret) ho hl hstt hini hcode hy hK hg (hsize.trans hml.symm) (argsL := As) (rest := rest) (fun sig h => hn.trans (hlen sig h)) hstack hW (by rw [hb]; exact hdg)
    (fun vm₁ hW₁ => ⟨hf.1, hf.2, hp.2 (T.setVm vm₁) hT hW₁⟩) with ⟨v, vm₁, ⟨U', l2, c2, s2⟩, hW₁, X', ⟨g', mk, t, L, e1, e2, hq, h1, hL, h2, h3⟩, st⟩ | ⟨q, vm₁, ⟨U', l2, c2, s2⟩, hW₁, X', ⟨g', mk, t, L, E, ce, e1, e2, hq, hce, hcv, hcl, h1, hL, h2, h3⟩, st⟩
  · dsimp only [Pt.U, Pt.locs, Pt.cells, Pt.slots] at X' e1 e2 h1 h2 h3 st
    subst h1; subst h2; subst h3
    exact Or.inl ⟨v, (T.setVm vm₁).calling g' mk As.toArray, t, U', L, hT, X', hL, e1, e2, hq, st⟩
  · dsimp only [Pt.U, Pt.locs, Pt.cells, Pt.slots] at X' e1 e2 h1 h2 h3 st hcl
    subst h1; subst h2; subst h3
    exact Or.inr ⟨q, (T.setVm vm₁).calling g' mk As.toArray, t, U', L, E, ce, hT, X', hL, e1, e2, hq, hce, hcv, vx_cls hW₁ hcl, st⟩
end
end VXH
theorem vx_ofWH {l : Launch} {y : MethodName} {ws ws' : List Cond} {rm : Room} {Pc : Array Value → State → Prop} {Qc : Array Value → State → Outcome → State → Prop} {XC : String → State → State → Prop} {mc ms : Nat} {free : Addr → Prop} {cc : ByteArray} {maxL : Nat} {ret : Option FieldType} {hh : List (Nat × Nat × Nat × Nat)}
    (hy : plainName y.cls = true) (hw : ws = Cond.codeWith y cc maxL ret hh :: ws')
    (body : ∀ p e s m args below meth c s₁, BodyLoose p l y (headSpec ws rm) cc maxL ret e s m args below meth c s₁ → c.maxLocals = maxL → Pc args s →
      W p l e (headSpec ws rm).room s m args below meth c s.heap [] 0 0 (vx_MQ below Qc XC args s mc ms free) (entryFrame m args maxL)) : vx_Met l y ws rm Pc Qc XC mc ms free := by
  refine MetFree.of_bodyS (code := cc) (maxLocals := maxL) (ret := ret) hy ?_ ?_
  · intro args s m h hn
    obtain ⟨m9, meth, c, hn9, h1, h2, h3, h4, -, h5, h6, -⟩ := Cond.codeWith_spec (atoms_spec (ws := ws) h _ (by rw [hw]; exact List.mem_cons_self))
    cases hn.symm.trans hn9
    exact ⟨meth, c, h1, h2, h3, h4, h5, h6⟩
  · intro p e s m args below meth c s₁ B hml hP _
    have hh0 : s₁.heap = s.heap := by rw [B.state]; rfl
    obtain ⟨t, a1, o, b1, b2, b3⟩ := body p e s m args below meth c s₁ B hml hP s₁ hh0 (Stand.of_body B)
    exact ⟨t, o, a1, b1, b2, b3⟩
/-! ===== END ===== -/
end
section
/-- the tables' words that a call hands on -/
def Wl : List Cond := lw_tbl.filter goodWord
theorem wl_good : Wl.all goodWord = true := List.all_eq_true.mpr (fun _ h => (List.mem_filter.mp h).2)
theorem wl_in : ∀ w ∈ Wl, w ∈ lw_tbl := fun _ h => (List.mem_filter.mp h).1
theorem tm0 {i : Nat} {w : Cond} (h : (k2_sels lw_privs)[i]? = some w) (g : goodWord w = true) : w ∈ Wl := List.mem_filter.mpr ⟨List.mem_append_left _ (List.mem_of_getElem? h), g⟩
theorem tm1 {i : Nat} {w : Cond} (h : tables_1_1[i]? = some w) (g : goodWord w = true) : w ∈ Wl := List.mem_filter.mpr ⟨List.mem_append_right _ (List.mem_append_left _ (List.mem_of_getElem? h)), g⟩
theorem tm2 {i : Nat} {w : Cond} (h : tables_1_2[i]? = some w) (g : goodWord w = true) : w ∈ Wl := List.mem_filter.mpr ⟨List.mem_append_right _ (List.mem_append_right _ (List.mem_append_left _ (List.mem_of_getElem? h))), g⟩
theorem tm3 {i : Nat} {w : Cond} (h : tables_1_3[i]? = some w) (g : goodWord w = true) : w ∈ Wl := List.mem_filter.mpr ⟨List.mem_append_right _ (List.mem_append_right _ (List.mem_append_right _ (List.mem_append_left _ (List.mem_of_getElem? h)))), g⟩
theorem tm4 {i : Nat} {w : Cond} (h : tables_1_4[i]? = some w) (g : goodWord w = true) : w ∈ Wl := List.mem_filter.mpr ⟨List.mem_append_right _ (List.mem_append_right _ (List.mem_append_right _ (List.mem_append_right _ (List.mem_of_getElem? h)))), g⟩
def TS : u_T := fun k => match k with
  | 0 => ("SendBest", "unitCount", "I", false)
  | 1 => ("SendBest", "skillsOf", "[I", true)
  | 2 => ("SendBest", "isBroken", "[Z", true)
  | 3 => ("SendBest", "stays", "[Z", true)
  | 4 => ("SendBest", "needOf", "[I", true)
  | 5 => ("SendBest", "secondsOf", "[[I", true)
  | 6 => ("SendBest", "incidentCount", "I", false)
  | 7 => ("SendBest", "rankOf", "[I", true)
  | 8 => ("SendBest", "isOpen", "[Z", true)
  | 9 => ("SendBest", "needCount", "I", false)
  | 10 => ("SendBest", "incidentOf", "[I", true)
  | 11 => ("SendBest", "skillOf", "[I", true)
  | 12 => ("SendBest", "unitOf", "[I", true)
  | 13 => ("SendBest", "limitOf", "[I", true)
  | 14 => ("SendBest", "reserveUnits", "I", false)
  | 15 => ("SendBest", "reserveRank", "I", false)
  | _ => ("SendBest", "pairing", "LSendBest$Pairing;", true)
def ftS : Nat → FieldType := fun k => match k with
  | 0 => .int
  | 1 => .array .int
  | 2 => .array .boolean
  | 3 => .array .boolean
  | 4 => .array .int
  | 5 => .array (.array .int)
  | 6 => .int
  | 7 => .array .int
  | 8 => .array .boolean
  | 9 => .int
  | 10 => .array .int
  | 11 => .array .int
  | 12 => .array .int
  | 13 => .array .int
  | 14 => .int
  | 15 => .int
  | _ => .object "SendBest$Pairing"
theorem nmS : ∀ a, a < 17 → ∀ b, b < 17 → a ≠ b → (TS a).2.1 ≠ (TS b).2.1 := by decide +kernel
theorem ftS_ok : ∀ k, k < 17 → parseFieldDescriptor (TS k).2.2.1 = some (ftS k) := by decide +kernel
theorem inS : ∀ w ∈ u_ws "SendBest" TS 17, w ∈ Wl := by
  intro w h
  obtain ⟨k, hk, rfl⟩ := List.mem_map.mp h
  have hk := List.mem_range.mp hk
  match k, hk with
  | 0, _ => exact (tm1 (i := 99) rfl rfl)
  | 1, _ => exact (tm1 (i := 101) rfl rfl)
  | 2, _ => exact (tm1 (i := 103) rfl rfl)
  | 3, _ => exact (tm1 (i := 105) rfl rfl)
  | 4, _ => exact (tm1 (i := 107) rfl rfl)
  | 5, _ => exact (tm1 (i := 109) rfl rfl)
  | 6, _ => exact (tm1 (i := 111) rfl rfl)
  | 7, _ => exact (tm1 (i := 113) rfl rfl)
  | 8, _ => exact (tm1 (i := 115) rfl rfl)
  | 9, _ => exact (tm1 (i := 117) rfl rfl)
  | 10, _ => exact (tm1 (i := 119) rfl rfl)
  | 11, _ => exact (tm1 (i := 121) rfl rfl)
  | 12, _ => exact (tm1 (i := 123) rfl rfl)
  | 13, _ => exact (tm1 (i := 125) rfl rfl)
  | 14, _ => exact (tm1 (i := 127) rfl rfl)
  | 15, _ => exact (tm1 (i := 129) rfl rfl)
  | 16, _ => exact (tm1 (i := 131) rfl rfl)
  | k + 17, hk => exact absurd hk (by omega)
def TP : u_T := fun k => match k with
  | 0 => ("SendBest$Pairing", "rowCount", "I", false)
  | 1 => ("SendBest$Pairing", "unboundCount", "I", false)
  | 2 => ("SendBest$Pairing", "need", "[I", true)
  | 3 => ("SendBest$Pairing", "cost", "[[J", true)
  | 4 => ("SendBest$Pairing", "tie", "[[J", true)
  | 5 => ("SendBest$Pairing", "unitAt", "[I", true)
  | 6 => ("SendBest$Pairing", "rowAt", "[I", true)
  | 7 => ("SendBest$Pairing", "other", "[I", true)
  | 8 => ("SendBest$Pairing", "isFresh", "[Z", true)
  | 9 => ("SendBest$Pairing", "rowCost", "[J", true)
  | 10 => ("SendBest$Pairing", "rowTie", "[J", true)
  | 11 => ("SendBest$Pairing", "cameFrom", "[I", true)
  | 12 => ("SendBest$Pairing", "unitCost", "[J", true)
  | _ => ("SendBest$Pairing", "unitTie", "[J", true)
def ftP : Nat → FieldType := fun k => match k with
  | 0 => .int
  | 1 => .int
  | 2 => .array .int
  | 3 => .array (.array .long)
  | 4 => .array (.array .long)
  | 5 => .array .int
  | 6 => .array .int
  | 7 => .array .int
  | 8 => .array .boolean
  | 9 => .array .long
  | 10 => .array .long
  | 11 => .array .int
  | 12 => .array .long
  | _ => .array .long
theorem nmP : ∀ a, a < 14 → ∀ b, b < 14 → a ≠ b → (TP a).2.1 ≠ (TP b).2.1 := by decide +kernel
theorem ftP_ok : ∀ k, k < 14 → parseFieldDescriptor (TP k).2.2.1 = some (ftP k) := by decide +kernel
theorem inP : ∀ w ∈ u_ws "SendBest$Pairing" TP 14, w ∈ Wl := by
  intro w h
  obtain ⟨k, hk, rfl⟩ := List.mem_map.mp h
  have hk := List.mem_range.mp hk
  match k, hk with
  | 0, _ => exact (tm1 (i := 47) rfl rfl)
  | 1, _ => exact (tm1 (i := 49) rfl rfl)
  | 2, _ => exact (tm1 (i := 51) rfl rfl)
  | 3, _ => exact (tm1 (i := 53) rfl rfl)
  | 4, _ => exact (tm1 (i := 55) rfl rfl)
  | 5, _ => exact (tm1 (i := 57) rfl rfl)
  | 6, _ => exact (tm1 (i := 59) rfl rfl)
  | 7, _ => exact (tm1 (i := 61) rfl rfl)
  | 8, _ => exact (tm1 (i := 63) rfl rfl)
  | 9, _ => exact (tm1 (i := 65) rfl rfl)
  | 10, _ => exact (tm1 (i := 67) rfl rfl)
  | 11, _ => exact (tm1 (i := 69) rfl rfl)
  | 12, _ => exact (tm1 (i := 71) rfl rfl)
  | 13, _ => exact (tm1 (i := 73) rfl rfl)
  | k + 14, hk => exact absurd hk (by omega)
def TM : u_T := fun k => match k with
  | 0 => ("SendBestModel", "thrown", "I", false)
  | 1 => ("SendBestModel", "units", "I", false)
  | 2 => ("SendBestModel", "skills", "[I", true)
  | 3 => ("SendBestModel", "broken", "[Z", true)
  | 4 => ("SendBestModel", "seconds", "[I", true)
  | 5 => ("SendBestModel", "incidents", "I", false)
  | 6 => ("SendBestModel", "rank", "[I", true)
  | 7 => ("SendBestModel", "closed", "[Z", true)
  | 8 => ("SendBestModel", "needs", "I", false)
  | 9 => ("SendBestModel", "incidentOf", "[I", true)
  | 10 => ("SendBestModel", "skillOf", "[I", true)
  | 11 => ("SendBestModel", "filled", "[I", true)
  | 12 => ("SendBestModel", "stays", "[Z", true)
  | 13 => ("SendBestModel", "limit", "[I", true)
  | 14 => ("SendBestModel", "reserve", "I", false)
  | 15 => ("SendBestModel", "below", "I", false)
  | 16 => ("SendBestModel", "row", "[I", true)
  | 17 => ("SendBestModel", "rows", "I", false)
  | _ => ("SendBestModel", "least", "[J", true)
def ftM : Nat → FieldType := fun k => match k with
  | 0 => .int
  | 1 => .int
  | 2 => .array .int
  | 3 => .array .boolean
  | 4 => .array .int
  | 5 => .int
  | 6 => .array .int
  | 7 => .array .boolean
  | 8 => .int
  | 9 => .array .int
  | 10 => .array .int
  | 11 => .array .int
  | 12 => .array .boolean
  | 13 => .array .int
  | 14 => .int
  | 15 => .int
  | 16 => .array .int
  | 17 => .int
  | _ => .array .long
theorem nmM : ∀ a, a < 19 → ∀ b, b < 19 → a ≠ b → (TM a).2.1 ≠ (TM b).2.1 := by decide +kernel
theorem ftM_ok : ∀ k, k < 19 → parseFieldDescriptor (TM k).2.2.1 = some (ftM k) := by decide +kernel
theorem inM : ∀ w ∈ u_ws "SendBestModel" TM 19, w ∈ Wl := by
  intro w h
  obtain ⟨k, hk, rfl⟩ := List.mem_map.mp h
  have hk := List.mem_range.mp hk
  match k, hk with
  | 0, _ => exact (tm3 (i := 122) rfl rfl)
  | 1, _ => exact (tm3 (i := 124) rfl rfl)
  | 2, _ => exact (tm3 (i := 126) rfl rfl)
  | 3, _ => exact (tm3 (i := 128) rfl rfl)
  | 4, _ => exact (tm3 (i := 130) rfl rfl)
  | 5, _ => exact (tm3 (i := 132) rfl rfl)
  | 6, _ => exact (tm3 (i := 134) rfl rfl)
  | 7, _ => exact (tm3 (i := 136) rfl rfl)
  | 8, _ => exact (tm3 (i := 138) rfl rfl)
  | 9, _ => exact (tm3 (i := 140) rfl rfl)
  | 10, _ => exact (tm3 (i := 142) rfl rfl)
  | 11, _ => exact (tm3 (i := 144) rfl rfl)
  | 12, _ => exact (tm3 (i := 146) rfl rfl)
  | 13, _ => exact (tm3 (i := 148) rfl rfl)
  | 14, _ => exact (tm3 (i := 150) rfl rfl)
  | 15, _ => exact (tm3 (i := 152) rfl rfl)
  | 16, _ => exact (tm3 (i := 154) rfl rfl)
  | 17, _ => exact (tm3 (i := 156) rfl rfl)
  | 18, _ => exact (tm3 (i := 158) rfl rfl)
  | k + 19, hk => exact absurd hk (by omega)
abbrev vwCl : List vw_C := [("SendBest$Pairing", TP, 14), ("SendBest", TS, 17), ("SendBestModel", TM, 19)]
abbrev cS_init : ByteArray := prog_1_method_1_code
def yS_init : MethodName := ⟨"SendBest", "<init>", "()V"⟩
abbrev cS_unit : ByteArray := prog_1_method_2_code
def yS_unit : MethodName := ⟨"SendBest", "unit", "(I)I"⟩
abbrev cS_incident : ByteArray := prog_1_method_3_code
def yS_incident : MethodName := ⟨"SendBest", "incident", "(I)I"⟩
abbrev cS_rank : ByteArray := prog_1_method_4_code
def yS_rank : MethodName := ⟨"SendBest", "rank", "(II)V"⟩
abbrev cS_need : ByteArray := prog_1_method_5_code
def yS_need : MethodName := ⟨"SendBest", "need", "(III)I"⟩
abbrev cS_seconds : ByteArray := prog_1_method_6_code
def yS_seconds : MethodName := ⟨"SendBest", "seconds", "(III)V"⟩
abbrev cS_limit : ByteArray := prog_1_method_7_code
def yS_limit : MethodName := ⟨"SendBest", "limit", "(II)V"⟩
abbrev cS_reserve : ByteArray := prog_1_method_8_code
def yS_reserve : MethodName := ⟨"SendBest", "reserve", "(II)V"⟩
abbrev cS_broken : ByteArray := prog_1_method_9_code
def yS_broken : MethodName := ⟨"SendBest", "broken", "(IZ)V"⟩
abbrev cS_send : ByteArray := prog_1_method_10_code
def yS_send : MethodName := ⟨"SendBest", "send", "(I)I"⟩
abbrev cS_stay : ByteArray := prog_1_method_11_code
def yS_stay : MethodName := ⟨"SendBest", "stay", "(IZ)V"⟩
abbrev cS_recall : ByteArray := prog_1_method_12_code
def yS_recall : MethodName := ⟨"SendBest", "recall", "(I)V"⟩
abbrev cS_close : ByteArray := prog_1_method_13_code
def yS_close : MethodName := ⟨"SendBest", "close", "(I)V"⟩
abbrev cS_needAt : ByteArray := prog_1_method_14_code
def yS_needAt : MethodName := ⟨"SendBest", "needAt", "(II)I"⟩
abbrev cS_fills : ByteArray := prog_1_method_15_code
def yS_fills : MethodName := ⟨"SendBest", "fills", "(I)I"⟩
abbrev cS_sum : ByteArray := prog_1_method_16_code
def yS_sum : MethodName := ⟨"SendBest", "sum", "(I)I"⟩
abbrev cS_alternative : ByteArray := prog_1_method_17_code
def yS_alternative : MethodName := ⟨"SendBest", "alternative", "(I)I"⟩
abbrev cS_never : ByteArray := prog_1_method_18_code
def yS_never : MethodName := ⟨"SendBest", "never", "(I)I"⟩
abbrev cS_checkUnit : ByteArray := prog_1_method_19_code
def yS_checkUnit : MethodName := ⟨"SendBest", "checkUnit", "(I)V"⟩
abbrev cS_checkIncident : ByteArray := prog_1_method_20_code
def yS_checkIncident : MethodName := ⟨"SendBest", "checkIncident", "(I)V"⟩
abbrev cS_checkNeed : ByteArray := prog_1_method_21_code
def yS_checkNeed : MethodName := ⟨"SendBest", "checkNeed", "(I)V"⟩
abbrev cS_checkSkill : ByteArray := prog_1_method_22_code
def yS_checkSkill : MethodName := ⟨"SendBest", "checkSkill", "(I)V"⟩
abbrev cS_checkRank : ByteArray := prog_1_method_23_code
def yS_checkRank : MethodName := ⟨"SendBest", "checkRank", "(I)V"⟩
abbrev cS_checkSeconds : ByteArray := prog_1_method_24_code
def yS_checkSeconds : MethodName := ⟨"SendBest", "checkSeconds", "(I)V"⟩
abbrev cS_checkOpen : ByteArray := prog_1_method_25_code
def yS_checkOpen : MethodName := ⟨"SendBest", "checkOpen", "(I)V"⟩
abbrev cS_checkSent : ByteArray := prog_1_method_26_code
def yS_checkSent : MethodName := ⟨"SendBest", "checkSent", "(I)V"⟩
abbrev cS_isOpenNeed : ByteArray := prog_1_method_27_code
def yS_isOpenNeed : MethodName := ⟨"SendBest", "isOpenNeed", "(I)Z"⟩
abbrev cS_rankOfNeed : ByteArray := prog_1_method_28_code
def yS_rankOfNeed : MethodName := ⟨"SendBest", "rankOfNeed", "(I)I"⟩
abbrev cS_secondsTo : ByteArray := prog_1_method_29_code
def yS_secondsTo : MethodName := ⟨"SendBest", "secondsTo", "(II)I"⟩
abbrev cS_canFill : ByteArray := prog_1_method_30_code
def yS_canFill : MethodName := ⟨"SendBest", "canFill", "(II)Z"⟩
abbrev cS_anyCanFill : ByteArray := prog_1_method_31_code
def yS_anyCanFill : MethodName := ⟨"SendBest", "anyCanFill", "(I)Z"⟩
abbrev cS_isFixed : ByteArray := prog_1_method_32_code
def yS_isFixed : MethodName := ⟨"SendBest", "isFixed", "(I)Z"⟩
abbrev cS_hasFixedUnit : ByteArray := prog_1_method_33_code
def yS_hasFixedUnit : MethodName := ⟨"SendBest", "hasFixedUnit", "(I)Z"⟩
abbrev cS_ranksLacking : ByteArray := prog_1_method_34_code
def yS_ranksLacking : MethodName := ⟨"SendBest", "ranksLacking", "(I)I"⟩
abbrev cS_weightedSeconds : ByteArray := prog_1_method_35_code
def yS_weightedSeconds : MethodName := ⟨"SendBest", "weightedSeconds", "(I)I"⟩
abbrev cS_countFilled : ByteArray := prog_1_method_36_code
def yS_countFilled : MethodName := ⟨"SendBest", "countFilled", "()I"⟩
abbrev cS_free : ByteArray := prog_1_method_37_code
def yS_free : MethodName := ⟨"SendBest", "free", "(I)V"⟩
abbrev cS_layOutNeeds : ByteArray := prog_1_method_38_code
def yS_layOutNeeds : MethodName := ⟨"SendBest", "layOutNeeds", "()V"⟩
abbrev cS_addNeeds : ByteArray := prog_1_method_39_code
def yS_addNeeds : MethodName := ⟨"SendBest", "addNeeds", "(Z)V"⟩
abbrev cS_addNeed : ByteArray := prog_1_method_40_code
def yS_addNeed : MethodName := ⟨"SendBest", "addNeed", "(I)V"⟩
abbrev cS_spareUnits : ByteArray := prog_1_method_41_code
def yS_spareUnits : MethodName := ⟨"SendBest", "spareUnits", "()I"⟩
abbrev cS_presentStays : ByteArray := prog_1_method_42_code
def yS_presentStays : MethodName := ⟨"SendBest", "presentStays", "(II)Z"⟩
abbrev cS_takeBest : ByteArray := prog_1_method_43_code
def yS_takeBest : MethodName := ⟨"SendBest", "takeBest", "()V"⟩
abbrev cP_init : ByteArray := prog_2_method_1_code
def yP_init : MethodName := ⟨"SendBest$Pairing", "<init>", "()V"⟩
abbrev cP_clear : ByteArray := prog_2_method_2_code
def yP_clear : MethodName := ⟨"SendBest$Pairing", "clear", "()V"⟩
abbrev cP_addRow : ByteArray := prog_2_method_3_code
def yP_addRow : MethodName := ⟨"SendBest$Pairing", "addRow", "(I)I"⟩
abbrev cP_endUnbound : ByteArray := prog_2_method_4_code
def yP_endUnbound : MethodName := ⟨"SendBest$Pairing", "endUnbound", "()V"⟩
abbrev cP_allow : ByteArray := prog_2_method_5_code
def yP_allow : MethodName := ⟨"SendBest$Pairing", "allow", "(IIII)V"⟩
abbrev cP_rows : ByteArray := prog_2_method_6_code
def yP_rows : MethodName := ⟨"SendBest$Pairing", "rows", "()I"⟩
abbrev cP_needOfRow : ByteArray := prog_2_method_7_code
def yP_needOfRow : MethodName := ⟨"SendBest$Pairing", "needOfRow", "(I)I"⟩
abbrev cP_bestUnit : ByteArray := prog_2_method_8_code
def yP_bestUnit : MethodName := ⟨"SendBest$Pairing", "bestUnit", "(I)I"⟩
abbrev cP_setPresent : ByteArray := prog_2_method_9_code
def yP_setPresent : MethodName := ⟨"SendBest$Pairing", "setPresent", "(II)V"⟩
abbrev cP_presentIsPlan : ByteArray := prog_2_method_10_code
def yP_presentIsPlan : MethodName := ⟨"SendBest$Pairing", "presentIsPlan", "(I)Z"⟩
abbrev cP_savedByBest : ByteArray := prog_2_method_11_code
def yP_savedByBest : MethodName := ⟨"SendBest$Pairing", "savedByBest", "()J"⟩
abbrev cP_findBest : ByteArray := prog_2_method_12_code
def yP_findBest : MethodName := ⟨"SendBest$Pairing", "findBest", "(I)V"⟩
abbrev cP_total : ByteArray := prog_2_method_13_code
def yP_total : MethodName := ⟨"SendBest$Pairing", "total", "([[J[I)J"⟩
abbrev cP_isLess : ByteArray := prog_2_method_14_code
def yP_isLess : MethodName := ⟨"SendBest$Pairing", "isLess", "(JJJJ)Z"⟩
abbrev cP_pair : ByteArray := prog_2_method_15_code
def yP_pair : MethodName := ⟨"SendBest$Pairing", "pair", "(II)V"⟩
abbrev cP_findPaths : ByteArray := prog_2_method_16_code
def yP_findPaths : MethodName := ⟨"SendBest$Pairing", "findPaths", "(I)V"⟩
abbrev cP_spread : ByteArray := prog_2_method_17_code
def yP_spread : MethodName := ⟨"SendBest$Pairing", "spread", "(I)V"⟩
abbrev cP_reach : ByteArray := prog_2_method_18_code
def yP_reach : MethodName := ⟨"SendBest$Pairing", "reach", "(II)V"⟩
abbrev cP_cheapestEnd : ByteArray := prog_2_method_19_code
def yP_cheapestEnd : MethodName := ⟨"SendBest$Pairing", "cheapestEnd", "()I"⟩
abbrev cP_turnPath : ByteArray := prog_2_method_20_code
def yP_turnPath : MethodName := ⟨"SendBest$Pairing", "turnPath", "(I)V"⟩
abbrev cM_init : ByteArray := prog_4_method_1_code
def yM_init : MethodName := ⟨"SendBestModel", "<init>", "()V"⟩
abbrev cM_thrown : ByteArray := prog_4_method_2_code
def yM_thrown : MethodName := ⟨"SendBestModel", "thrown", "()I"⟩
abbrev cM_throwing : ByteArray := prog_4_method_3_code
def yM_throwing : MethodName := ⟨"SendBestModel", "throwing", "(ZZZZ)Z"⟩
abbrev cM_in : ByteArray := prog_4_method_4_code
def yM_in : MethodName := ⟨"SendBestModel", "in", "(III)Z"⟩
abbrev cM_isUnit : ByteArray := prog_4_method_5_code
def yM_isUnit : MethodName := ⟨"SendBestModel", "isUnit", "(I)Z"⟩
abbrev cM_isIncident : ByteArray := prog_4_method_6_code
def yM_isIncident : MethodName := ⟨"SendBestModel", "isIncident", "(I)Z"⟩
abbrev cM_unit : ByteArray := prog_4_method_7_code
def yM_unit : MethodName := ⟨"SendBestModel", "unit", "(I)I"⟩
abbrev cM_incident : ByteArray := prog_4_method_8_code
def yM_incident : MethodName := ⟨"SendBestModel", "incident", "(I)I"⟩
abbrev cM_rank : ByteArray := prog_4_method_9_code
def yM_rank : MethodName := ⟨"SendBestModel", "rank", "(II)V"⟩
abbrev cM_need : ByteArray := prog_4_method_10_code
def yM_need : MethodName := ⟨"SendBestModel", "need", "(III)I"⟩
abbrev cM_seconds : ByteArray := prog_4_method_11_code
def yM_seconds : MethodName := ⟨"SendBestModel", "seconds", "(III)V"⟩
abbrev cM_limit : ByteArray := prog_4_method_12_code
def yM_limit : MethodName := ⟨"SendBestModel", "limit", "(II)V"⟩
abbrev cM_reserve : ByteArray := prog_4_method_13_code
def yM_reserve : MethodName := ⟨"SendBestModel", "reserve", "(II)V"⟩
abbrev cM_needOf : ByteArray := prog_4_method_14_code
def yM_needOf : MethodName := ⟨"SendBestModel", "needOf", "(I)I"⟩
abbrev cM_leave : ByteArray := prog_4_method_15_code
def yM_leave : MethodName := ⟨"SendBestModel", "leave", "(I)V"⟩
abbrev cM_broken : ByteArray := prog_4_method_16_code
def yM_broken : MethodName := ⟨"SendBestModel", "broken", "(IZ)V"⟩
abbrev cM_isOpen : ByteArray := prog_4_method_17_code
def yM_isOpen : MethodName := ⟨"SendBestModel", "isOpen", "(I)Z"⟩
abbrev cM_canFill : ByteArray := prog_4_method_18_code
def yM_canFill : MethodName := ⟨"SendBestModel", "canFill", "(II)Z"⟩
abbrev cM_isFixed : ByteArray := prog_4_method_19_code
def yM_isFixed : MethodName := ⟨"SendBestModel", "isFixed", "(I)Z"⟩
abbrev cM_rankOf : ByteArray := prog_4_method_20_code
def yM_rankOf : MethodName := ⟨"SendBestModel", "rankOf", "(I)I"⟩
abbrev cM_most : ByteArray := prog_4_method_21_code
def yM_most : MethodName := ⟨"SendBestModel", "most", "()I"⟩
abbrev cM_fixedUnits : ByteArray := prog_4_method_22_code
def yM_fixedUnits : MethodName := ⟨"SendBestModel", "fixedUnits", "()I"⟩
abbrev cM_ones : ByteArray := prog_4_method_23_code
def yM_ones : MethodName := ⟨"SendBestModel", "ones", "(I)I"⟩
abbrev cM_gather : ByteArray := prog_4_method_24_code
def yM_gather : MethodName := ⟨"SendBestModel", "gather", "()V"⟩
abbrev cM_may : ByteArray := prog_4_method_25_code
def yM_may : MethodName := ⟨"SendBestModel", "may", "(III)Z"⟩
abbrev cM_with : ByteArray := prog_4_method_26_code
def yM_with : MethodName := ⟨"SendBestModel", "with", "(III)J"⟩
abbrev cM_without : ByteArray := prog_4_method_27_code
def yM_without : MethodName := ⟨"SendBestModel", "without", "(II)J"⟩
abbrev cM_reckon : ByteArray := prog_4_method_28_code
def yM_reckon : MethodName := ⟨"SendBestModel", "reckon", "()V"⟩
abbrev cM_present : ByteArray := prog_4_method_29_code
def yM_present : MethodName := ⟨"SendBestModel", "present", "()J"⟩
abbrev cM_send : ByteArray := prog_4_method_30_code
def yM_send : MethodName := ⟨"SendBestModel", "send", "(I)I"⟩
abbrev cM_stay : ByteArray := prog_4_method_31_code
def yM_stay : MethodName := ⟨"SendBestModel", "stay", "(IZ)V"⟩
abbrev cM_recall : ByteArray := prog_4_method_32_code
def yM_recall : MethodName := ⟨"SendBestModel", "recall", "(I)V"⟩
abbrev cM_close : ByteArray := prog_4_method_33_code
def yM_close : MethodName := ⟨"SendBestModel", "close", "(I)V"⟩
abbrev cM_needAt : ByteArray := prog_4_method_34_code
def yM_needAt : MethodName := ⟨"SendBestModel", "needAt", "(II)I"⟩
abbrev cM_fills : ByteArray := prog_4_method_35_code
def yM_fills : MethodName := ⟨"SendBestModel", "fills", "(I)I"⟩
abbrev cM_sum : ByteArray := prog_4_method_36_code
def yM_sum : MethodName := ⟨"SendBestModel", "sum", "(I)I"⟩
abbrev cM_alternative : ByteArray := prog_4_method_37_code
def yM_alternative : MethodName := ⟨"SendBestModel", "alternative", "(I)I"⟩
abbrev cM_never : ByteArray := prog_4_method_38_code
def yM_never : MethodName := ⟨"SendBestModel", "never", "(I)I"⟩
end
section
/-! A layer over the kit's worlds: a world whose cells have numbers 0 .. N-1; the cell j lies at the address 'ad j' and holds what the layout kf says of it: out of int fields f, arrays of ints a, arrays of longs b (both by the cell's number). Contracts whose ends are any predicates (po: what it answers and the new state; px: the class that it throws and the new state). -/
theorem vpin_lt {i : Int32} {n : Nat} (h : vp_in i n) : i.toNatClampNeg < n := Nat.lt_of_not_le (fun q => h (Or.inr q))
/-- a boolean -/
def zb (v : Int32) : Prop := narrow .boolean (.int v) = .int v
abbrev wF : Type := Nat → Int32
abbrev wA : Type := Nat → Nat → Int32
abbrev wB : Type := Nat → Nat → Int64
abbrev wL : Type := (Nat → Nat) → (Nat → ClassId) → wF → wA → wB → Nat → va_E
def wg (ad : Nat → Nat) (k : Nat → va_E) (N : Nat) : va_W := (List.range N).map (fun j => (ad j, k j))
theorem wg_len {ad : Nat → Nat} {k : Nat → va_E} {N : Nat} : (wg ad k N).length = N := by simp [wg]
theorem wg_get {ad : Nat → Nat} {k : Nat → va_E} {N j : Nat} (h : j < N) : (wg ad k N)[j]? = some (ad j, k j) := by
  unfold wg
  rw [List.getElem?_map, List.getElem?_range h]
  rfl
theorem wg_set {ad : Nat → Nat} {k : Nat → va_E} {N j : Nat} {e : va_E} (h : j < N) : (wg ad k N).set j (ad j, e) = wg ad (va_up k j e) N := by
  refine List.ext_getElem? (fun i => ?_)
  rw [List.getElem?_set]
  by_cases e1 : j = i
  · subst e1
    rw [if_pos rfl, if_pos (by rw [wg_len]; exact h), wg_get h, va_up_self]
  · rw [if_neg e1]
    by_cases hi : i < N
    · rw [wg_get hi, wg_get hi, va_up_ne _ _ (fun q => e1 q.symm)]
    · rw [List.getElem?_eq_none (by rw [wg_len]; omega), List.getElem?_eq_none (by rw [wg_len]; omega)]
def ww (N : Nat) (kf : wL) (ad : Nat → Nat) (ca : Nat → ClassId) (f : wF) (a : wA) (b : wB) : va_W := wg ad (kf ad ca f a b) N
def wd (N : Nat) (kf : wL) (D : va_G) (cl : List vw_C) (ad : Nat → Nat) (ca : Nat → ClassId) (A : Nat → Prop) (s : State) (H : Heap) (locs : List Loc) (f : wF) (a : wA) (b : wB) : Prop :=
  va_P D cl (ww N kf ad ca f a b) H ∧ va_D A (ww N kf ad ca f a b) ∧ va_S A s.heap H locs
/-- what a throw needs: two statics of Throwable, where the texts lie, and words that a call doesn't hand on by itself -/
def thI (X : String) : MethodName := ⟨X, "<init>", "(Ljava/lang/String;)V"⟩
abbrev thX : List String := ["java/lang/IllegalArgumentException", "java/lang/IndexOutOfBoundsException", "java/lang/IllegalStateException", "java/lang/UnsupportedOperationException"]
abbrev thD : List Cond := ["java/lang/RuntimeException", "java/lang/Exception", "java/lang/Throwable"].map (fun X => Cond.declares (thI X))
abbrev thC : List Cond := thX.map (fun X => Cond.castable X X)
def th (tx : List (String × Nat × String)) (sa : Nat → Nat) (A : Nat → Prop) (U : State) (H : Heap) : Prop :=
  vx_Zq Bundle.tN "UNASSIGNED_STACK" Bundle.steD A U H ∧ vx_Zq Bundle.tN "SUPPRESSED_SENTINEL" Bundle.listD A U H ∧ (∀ (k : Nat) (q : String × Nat × String), tx[k]? = some q → vk_R q.1 q.2.1 q.2.2 (sa k) U) ∧ (∀ w ∈ thD, va_Nw w U) ∧ (∀ w ∈ thC, va_Nw w U)
theorem thD_warm {s U : State} (hW : s.WarmedH U.vm) (h : ∀ w ∈ thD, va_Nw w s) : ∀ w ∈ thD, va_Nw w U := by
  intro w hw
  obtain ⟨X, -, rfl⟩ := List.mem_map.mp hw
  exact va_Nw.warmD hW (h _ hw)
theorem thC_warm {s U : State} (hW : s.WarmedH U.vm) (h : ∀ w ∈ thC, va_Nw w s) : ∀ w ∈ thC, va_Nw w U := by
  intro w hw
  obtain ⟨X, -, rfl⟩ := List.mem_map.mp hw
  exact va_Nw.warmC hW (h _ hw)
theorem th_use {s : State} {args : Array Value} (h1 : ∀ w ∈ thD, va_Nw w s) (h2 : ∀ w ∈ thC, va_Nw w s) : ∀ w ∈ thC ++ thD, w.before args s = true := by
  intro w hw
  rcases List.mem_append.mp hw with q | q
  · obtain ⟨X, -, rfl⟩ := List.mem_map.mp q
    exact va_Nw.use rfl (h2 _ q)
  · obtain ⟨X, -, rfl⟩ := List.mem_map.mp q
    exact va_Nw.use rfl (h1 _ q)
theorem th.blind {tx : List (String × Nat × String)} {sa : Nat → Nat} {A : Nat → Prop} {U : State} {g : JFrame} {mk : MethodId} {a : Array Value} (h : th tx sa A U U.heap) : th tx sa A (U.calling g mk a) (U.calling g mk a).heap :=
  ⟨vx_Zq.moved (u := U) (U := U.calling g mk a) (Vm.Alike.refl U.vm) h.1, vx_Zq.moved (u := U) (U := U.calling g mk a) (Vm.Alike.refl U.vm) h.2.1, fun k q hk => vk_R.warm (State.WarmedH.refl U) (h.2.2.1 k q hk), thD_warm (State.WarmedH.refl U) h.2.2.2.1, thC_warm (State.WarmedH.refl U) h.2.2.2.2⟩
theorem th.call {tx : List (String × Nat × String)} {sa : Nat → Nat} {A B : Nat → Prop} {s U : State} {H : Heap} (h : th tx sa A s s.heap) (hU : U.heap = H) (hW : s.WarmedH U.vm) (hq : ∀ a : Nat, a < s.heap.size → ¬ A a → H[a]? = s.heap[a]?) (hAB : ∀ q, B q → A q) : th tx sa B U U.heap := by
  refine ⟨?_, ?_, fun k q hk => vk_R.warm hW (h.2.2.1 k q hk), thD_warm hW h.2.2.2.1, thC_warm hW h.2.2.2.2⟩
  · rw [hU]; exact vx_Zq.moved hW.alike ((h.1.kept hq).narrow hAB)
  · rw [hU]; exact vx_Zq.moved hW.alike ((h.2.1.kept hq).narrow hAB)
/-- what holds all through a method's body -/
def cx (Wl : List Cond) (tys : List (ClassId × FieldType)) (tx : List (String × Nat × String)) (D : va_G) (cl : List vw_C) (sa : Nat → Nat) (A : Nat → Prop) (p : Program) (l : Launch) (s : State) (m : MethodId) (args : Array Value) (meth : Method) (c : Code) (cc : ByteArray) (nL : Nat) (own : String) : Prop :=
  p.tables.exec = Jvm.exec ∧ c.code = cc ∧ c.maxLocals = nL ∧ s.vm.findClass own = some m.cls ∧ (∀ w ∈ Wl, w.before args s = true) ∧ va_K D cl tys s ∧ (∀ q, s.heap.size ≤ q → A q) ∧ th tx sa A s s.heap ∧ meth.locks = false ∧ l.stackTraces = false ∧ (∀ x ∈ c.exceptionTable.toList, False)
def sPre (N : Nat) (kf : wL) (tys : List (ClassId × FieldType)) (tx : List (String × Nat × String)) (D : va_G) (cl : List vw_C) (ad : Nat → Nat) (ca : Nat → ClassId) (sa : Nat → Nat) (sz : Nat) (f : wF) (a : wA) (b : wB) (U : State) : Prop :=
  U.heap.size = sz ∧ va_P D cl (ww N kf ad ca f a b) U.heap ∧ va_K D cl tys U ∧ va_D (fun _ => True) (ww N kf ad ca f a b) ∧ th tx sa (va_A (ww N kf ad ca f a b) sz) U U.heap
def sPost (N : Nat) (kf : wL) (D : va_G) (cl : List vw_C) (ad : Nat → Nat) (ca : Nat → ClassId) (A : Nat → Prop) (u : wF × wA × wB) (t : State) : Prop :=
  va_P D cl (ww N kf ad ca u.1 u.2.1 u.2.2) t.heap ∧ va_D A (ww N kf ad ca u.1 u.2.1 u.2.2)
abbrev sX (N : Nat) (kf : wL) (D : va_G) (cl : List vw_C) (ad : Nat → Nat) (ca : Nat → ClassId) (A : Nat → Prop) (px : String → wF → wA → wB → Prop) : String → State → State → Prop :=
  vx_X (fun _ : wF × wA × wB => True) (fun E u t => px E u.1 u.2.1 u.2.2 ∧ sPost N kf D cl ad ca A u t) A
/-- contracts: of methods that answer an int (a boolean, too), a long, nothing -/
def mI (N : Nat) (kf : wL) (tys : List (ClassId × FieldType)) (tx : List (String × Nat × String)) (D : va_G) (cl : List vw_C) (l : Launch) (y : MethodName) (ws : List Cond) (rm : Room) (av : List Value) (ad : Nat → Nat) (ca : Nat → ClassId) (sa : Nat → Nat) (sz : Nat) (f : wF) (a : wA) (b : wB) (po : Int32 → wF → wA → wB → Prop) (px : String → wF → wA → wB → Prop) (mc ms : Nat) : Prop :=
  vx_Met l y ws rm (va_Pc av (sPre N kf tys tx D cl ad ca sa sz f a b)) (va_Qi (fun r (u : wF × wA × wB) => po r u.1 u.2.1 u.2.2) (sPost N kf D cl ad ca (va_A (ww N kf ad ca f a b) sz)) (va_A (ww N kf ad ca f a b) sz)) (sX N kf D cl ad ca (va_A (ww N kf ad ca f a b) sz) px) mc ms (va_A (ww N kf ad ca f a b) sz)
def mL (N : Nat) (kf : wL) (tys : List (ClassId × FieldType)) (tx : List (String × Nat × String)) (D : va_G) (cl : List vw_C) (l : Launch) (y : MethodName) (ws : List Cond) (rm : Room) (av : List Value) (ad : Nat → Nat) (ca : Nat → ClassId) (sa : Nat → Nat) (sz : Nat) (f : wF) (a : wA) (b : wB) (po : Int64 → wF → wA → wB → Prop) (px : String → wF → wA → wB → Prop) (mc ms : Nat) : Prop :=
  vx_Met l y ws rm (va_Pc av (sPre N kf tys tx D cl ad ca sa sz f a b)) (va_Ql (fun r (u : wF × wA × wB) => po r u.1 u.2.1 u.2.2) (sPost N kf D cl ad ca (va_A (ww N kf ad ca f a b) sz)) (va_A (ww N kf ad ca f a b) sz)) (sX N kf D cl ad ca (va_A (ww N kf ad ca f a b) sz) px) mc ms (va_A (ww N kf ad ca f a b) sz)
def mV (N : Nat) (kf : wL) (tys : List (ClassId × FieldType)) (tx : List (String × Nat × String)) (D : va_G) (cl : List vw_C) (l : Launch) (y : MethodName) (ws : List Cond) (rm : Room) (av : List Value) (ad : Nat → Nat) (ca : Nat → ClassId) (sa : Nat → Nat) (sz : Nat) (f : wF) (a : wA) (b : wB) (po : wF → wA → wB → Prop) (px : String → wF → wA → wB → Prop) (mc ms : Nat) : Prop :=
  vx_Met l y ws rm (va_Pc av (sPre N kf tys tx D cl ad ca sa sz f a b)) (va_Qv (fun (u : wF × wA × wB) => po u.1 u.2.1 u.2.2) (sPost N kf D cl ad ca (va_A (ww N kf ad ca f a b) sz)) (va_A (ww N kf ad ca f a b) sz)) (sX N kf D cl ad ca (va_A (ww N kf ad ca f a b) sz) px) mc ms (va_A (ww N kf ad ca f a b) sz)
theorem wfree {A : Nat → Prop} {ws : va_W} {H0 H : Heap} {locs : List Loc} (hD : va_D A ws) (hS : va_S A H0 H locs) (hA : ∀ q, H0.size ≤ q → A q) : ∀ q, va_A ws H.size q → A q := by
  intro q h
  rcases h with ⟨k, e, h⟩ | h
  · exact hD.2 k (q, e) h
  · exact hA q (Nat.le_trans hS.1 h)
theorem sPre.blind {N : Nat} {kf : wL} {tys : List (ClassId × FieldType)} {tx : List (String × Nat × String)} {D : va_G} {cl : List vw_C} {ad : Nat → Nat} {ca : Nat → ClassId} {sa : Nat → Nat} {sz : Nat} {f : wF} {a : wA} {b : wB} {av : List Value} : FrameBlind (va_Pc av (sPre N kf tys tx D cl ad ca sa sz f a b)) := by
  intro v U g mk h
  obtain ⟨h0, h1, h2, h3, h4, h5⟩ := h
  exact ⟨h0, h1, h2, va_K.moved (u := U) (U := U.calling g mk v) (Vm.Alike.refl U.vm) h3, h4, th.blind h5⟩
theorem good_in {Wl pre : List Cond} {cn : Cond} (hg : Wl.all goodWord = true) (hp : ∀ w ∈ pre, w ∈ Wl) (hn : cn ∈ Wl) : GoodIn Wl (pre ++ cn :: Wl) := by
  have h : ∀ w ∈ Wl, w ∈ Wl ∧ ((w.onTables && w.keeps) = true ∨ ∃ ty, w = .arrayClass ty) := fun w hw => ⟨hw, good_of_word (List.all_eq_true.mp hg w hw)⟩
  intro w hw
  rcases List.mem_append.mp hw with q | q
  · exact h w (hp w q)
  · rcases List.mem_cons.mp q with q | q
    · exact h w (by rw [q]; exact hn)
    · exact h w q
section LAYER
variable {N : Nat} {kf : wL} {Wl : List Cond} {tys : List (ClassId × FieldType)} {tx : List (String × Nat × String)} {D : va_G} {cl : List vw_C} {sa : Nat → Nat} {A : Nat → Prop} {ad : Nat → Nat} {ca : Nat → ClassId}
variable {p : Program} {l : Launch} {e : Env} {R : Room} {s : State} {m : MethodId} {args : Array Value} {below : List Frame} {meth : Method} {c : Code} {cc : ByteArray} {nL : Nat} {own : String} {H : Heap} {locs : List Loc} {cells slots : Nat} {Q : State → Prop} {pc : Nat} {ls : Array Slot} {rest st0 : List Value} {f : wF} {a : wA} {b : wB}
theorem pre_of (X : cx Wl tys tx D cl sa A p l s m args meth c cc nL own) (K : wd N kf D cl ad ca A s H locs f a b) (av : List Value) : ∀ U : State, U.heap = H → s.WarmedH U.vm → va_Pc av (sPre N kf tys tx D cl ad ca sa H.size f a b) av.toArray U := by
  intro U hU hW
  obtain ⟨hx, hb, hml, hown, hts, hK, hA, hth, hlk, hl, hex⟩ := X
  obtain ⟨hP, hD, hS⟩ := K
  exact ⟨rfl, by rw [hU], by rw [hU]; exact hP, va_K.moved hW.alike hK, hD.weaken (fun _ _ _ _ => trivial), th.call hth hU hW hS.2.1 (wfree hD hS hA)⟩
theorem back_of_call (X : cx Wl tys tx D cl sa A p l s m args meth c cc nL own) (K : wd N kf D cl ad ca A s H locs f a b) {u : wF × wA × wB} {t : State} {H1 : Heap} {locs1 : List Loc} (ht : t.heap = H1) (hB : sPost N kf D cl ad ca (va_A (ww N kf ad ca f a b) H.size) u t) (hS1 : va_S A s.heap H1 locs1) : wd N kf D cl ad ca A s H1 locs1 u.1 u.2.1 u.2.2 := by
  obtain ⟨hx, hb, hml, hown, hts, hK, hA, hth, hlk, hl, hex⟩ := X
  obtain ⟨hP, hD, hS⟩ := K
  obtain ⟨h1, h2⟩ := hB
  rw [ht] at h1
  exact ⟨h1, h2.weaken (fun _ q _ h => wfree hD hS hA q.1 h), hS1⟩
theorem gcI (X : cx Wl tys tx D cl sa A p l s m args meth c cc nL own) (K : wd N kf D cl ad ca A s H locs f a b) {y : MethodName} {bytes : ByteArray} {maxL n0 mc ms o ci index n1 : Nat} {ret : Option FieldType} {rm : Room} {C : String} {T : u_T} {As fs : List Value} {po : Int32 → wF → wA → wB → Prop} {px : String → wF → wA → wB → Prop}
    (hM : mI N kf tys tx D cl l y (Cond.code y bytes maxL ret :: Wl) rm (Value.ref (ad o) :: As) ad ca sa H.size f a b po px mc ms) (ho : o < N) (hko : kf ad ca f a b o = .inr (ci, fs)) (hci : cl[ci]? = some (C, T, n1))
    (hg : Wl.all goodWord = true) (w1 : Cond.methodLink own index y ∈ Wl) (w2 : Cond.instanceMethod y ∈ Wl) (w3 : Cond.selects C y y ∈ Wl) (w4 : Cond.initialized C ∈ Wl) (w5 : Cond.code y bytes maxL ret ∈ Wl)
    (hd : y.cls = C ∧ y.cls ≠ "java/lang/invoke/MethodHandle" ∧ y.cls ≠ "java/lang/invoke/VarHandle" ∧ (parseMethodDescriptor y.desc).map (fun d => d.parameters.length) = some n0) (hrc : rm.cells = mc) (hrs : rm.slots = ms) (hR : rm.frames + 1 ≤ R.frames ∧ 8 + (maxL + 11) + rm.locals ≤ R.locals)
    (hn : As.length = n0) (hsz : ls.size = nL) (hst : st0 = As.reverse ++ Value.ref (ad o) :: rest) (hW : (rest.map fun v => v.category).sum ≤ 8) (hdg : decode cc pc = .ok (.invokevirtual index, 3)) (hf : cells + mc ≤ R.cells ∧ slots + ms ≤ R.slots)
    (kx : ∀ (E : String) (ce : Cell) (q9 : Addr) (f1 : wF) (a1 : wA) (b1 : wB) (H1 : Heap) (locs1 : List Loc), px E f1 a1 b1 → wd N kf D cl ad ca A s H1 locs1 f1 a1 b1 → H1[q9]? = some ce → ce.vm = .none → s.vm.findClass E = some ce.cls → vx_W p l e R s m args below meth c H1 locs1 (cells + mc) (slots + ms) Q (F0 m pc ls rest) q9)
    (kk : ∀ (r : Int32) (f1 : wF) (a1 : wA) (b1 : wB) (H1 : Heap) (locs1 : List Loc), po r f1 a1 b1 → wd N kf D cl ad ca A s H1 locs1 f1 a1 b1 → W p l e R s m args below meth c H1 locs1 (cells + mc) (slots + ms) Q (F0 m (pc + 3) ls (.int r :: rest))) : W p l e R s m args below meth c H locs cells slots Q (F0 m pc ls st0) := by
  obtain ⟨hx, hb, hml, hown, hts, hK, hA, hth, hlk, hl, hex⟩ := id X
  obtain ⟨hP, hD, hS⟩ := id K
  have hF := wfree hD hS hA
  have hrv : ∃ cellB : Cell, H[ad o]? = some cellB ∧ cellB.vm.isStatics = false ∧ s.vm.findClass C = some cellB.cls := va_recv hK hP (ci := ci) (q0 := o) hci ((wg_get ho).trans (by rw [hko]))
  have hT : GoodIn Wl (wsV own index C y (Cond.code y bytes maxL ret :: Wl)) := good_in hg (fun w hw => by
    simp only [List.mem_cons, List.not_mem_nil, or_false] at hw
    rcases hw with q | q | q | q
    · rw [q]; exact w1
    · rw [q]; exact w2
    · rw [q]; exact w3
    · rw [q]; exact w4) w5
  exact vx_calli (vx_runV (As := As) (rest := rest) ⟨hx, hb, hml, hown, hts⟩ hM (cwV n0 hts hT rfl hrc hrs hd hR) ⟨sPre.blind, hrv, pre_of X K _⟩ rfl hn hsz hst (lv_room hW) hdg hf) hS (fun q _ h => hF q h) hF (fun q _ h => hF q h)
    (fun E ce q9 u t H1 locs1 ht hvm _ hB hz hk hS1 hce hv hcl => kx E ce q9 u.1 u.2.1 u.2.2 H1 locs1 hB.1 (back_of_call X K ht hB.2 hS1) hce hv hcl)
    (fun r_ u t H1 locs1 ht hvm hw hB hz hk hS1 => kk r_ u.1 u.2.1 u.2.2 H1 locs1 hw (back_of_call X K ht hB hS1))
theorem gcSI (X : cx Wl tys tx D cl sa A p l s m args meth c cc nL own) (K : wd N kf D cl ad ca A s H locs f a b) {y : MethodName} {bytes : ByteArray} {maxL n0 mc ms index : Nat} {ret : Option FieldType} {rm : Room} {As : List Value} {po : Int32 → wF → wA → wB → Prop} {px : String → wF → wA → wB → Prop}
    (hM : mI N kf tys tx D cl l y (Cond.code y bytes maxL ret :: Wl) rm As ad ca sa H.size f a b po px mc ms)
    (hg : Wl.all goodWord = true) (w1 : Cond.methodLink own index y ∈ Wl) (w2 : Cond.static y ∈ Wl) (w4 : Cond.initialized y.cls ∈ Wl) (w5 : Cond.code y bytes maxL ret ∈ Wl)
    (hd : y.cls ≠ "java/lang/invoke/MethodHandle" ∧ y.cls ≠ "java/lang/invoke/VarHandle" ∧ (parseMethodDescriptor y.desc).map (fun d => d.parameters.length) = some n0) (hrc : rm.cells = mc) (hrs : rm.slots = ms) (hR : rm.frames + 1 ≤ R.frames ∧ 8 + (maxL + 11) + rm.locals ≤ R.locals)
    (hn : As.length = n0) (hsz : ls.size = nL) (hst : st0 = As.reverse ++ rest) (hW : (rest.map fun v => v.category).sum ≤ 8) (hdg : decode cc pc = .ok (.invokestatic index, 3)) (hf : cells + mc ≤ R.cells ∧ slots + ms ≤ R.slots)
    (kx : ∀ (E : String) (ce : Cell) (q9 : Addr) (f1 : wF) (a1 : wA) (b1 : wB) (H1 : Heap) (locs1 : List Loc), px E f1 a1 b1 → wd N kf D cl ad ca A s H1 locs1 f1 a1 b1 → H1[q9]? = some ce → ce.vm = .none → s.vm.findClass E = some ce.cls → vx_W p l e R s m args below meth c H1 locs1 (cells + mc) (slots + ms) Q (F0 m pc ls rest) q9)
    (kk : ∀ (r : Int32) (f1 : wF) (a1 : wA) (b1 : wB) (H1 : Heap) (locs1 : List Loc), po r f1 a1 b1 → wd N kf D cl ad ca A s H1 locs1 f1 a1 b1 → W p l e R s m args below meth c H1 locs1 (cells + mc) (slots + ms) Q (F0 m (pc + 3) ls (.int r :: rest))) : W p l e R s m args below meth c H locs cells slots Q (F0 m pc ls st0) := by
  obtain ⟨hx, hb, hml, hown, hts, hK, hA, hth, hlk, hl, hex⟩ := id X
  obtain ⟨hP, hD, hS⟩ := id K
  have hF := wfree hD hS hA
  have hT : GoodIn Wl (va_wsS own index y (Cond.code y bytes maxL ret :: Wl)) := good_in hg (fun w hw => by
    simp only [List.mem_cons, List.not_mem_nil, or_false] at hw
    rcases hw with q | q | q
    · rw [q]; exact w1
    · rw [q]; exact w2
    · rw [q]; exact w4) w5
  exact vx_calli (vx_runS (As := As) (rest := rest) ⟨hx, hb, hml, hown, hts⟩ hM (va_cwS n0 hts hT rfl hrc hrs hd hR) ⟨sPre.blind, pre_of X K _⟩ rfl hn hsz hst (lv_room hW) hdg hf) hS (fun q _ h => hF q h) hF (fun q _ h => hF q h)
    (fun E ce q9 u t H1 locs1 ht hvm _ hB hz hk hS1 hce hv hcl => kx E ce q9 u.1 u.2.1 u.2.2 H1 locs1 hB.1 (back_of_call X K ht hB.2 hS1) hce hv hcl)
    (fun r_ u t H1 locs1 ht hvm hw hB hz hk hS1 => kk r_ u.1 u.2.1 u.2.2 H1 locs1 hw (back_of_call X K ht hB hS1))
theorem gcL (X : cx Wl tys tx D cl sa A p l s m args meth c cc nL own) (K : wd N kf D cl ad ca A s H locs f a b) {y : MethodName} {bytes : ByteArray} {maxL n0 mc ms o ci index n1 : Nat} {ret : Option FieldType} {rm : Room} {C : String} {T : u_T} {As fs : List Value} {po : Int64 → wF → wA → wB → Prop} {px : String → wF → wA → wB → Prop}
    (hM : mL N kf tys tx D cl l y (Cond.code y bytes maxL ret :: Wl) rm (Value.ref (ad o) :: As) ad ca sa H.size f a b po px mc ms) (ho : o < N) (hko : kf ad ca f a b o = .inr (ci, fs)) (hci : cl[ci]? = some (C, T, n1))
    (hg : Wl.all goodWord = true) (w1 : Cond.methodLink own index y ∈ Wl) (w2 : Cond.instanceMethod y ∈ Wl) (w3 : Cond.selects C y y ∈ Wl) (w4 : Cond.initialized C ∈ Wl) (w5 : Cond.code y bytes maxL ret ∈ Wl)
    (hd : y.cls = C ∧ y.cls ≠ "java/lang/invoke/MethodHandle" ∧ y.cls ≠ "java/lang/invoke/VarHandle" ∧ (parseMethodDescriptor y.desc).map (fun d => d.parameters.length) = some n0) (hrc : rm.cells = mc) (hrs : rm.slots = ms) (hR : rm.frames + 1 ≤ R.frames ∧ 8 + (maxL + 11) + rm.locals ≤ R.locals)
    (hn : As.length = n0) (hsz : ls.size = nL) (hst : st0 = As.reverse ++ Value.ref (ad o) :: rest) (hW : (rest.map fun v => v.category).sum ≤ 8) (hdg : decode cc pc = .ok (.invokevirtual index, 3)) (hf : cells + mc ≤ R.cells ∧ slots + ms ≤ R.slots)
    (kx : ∀ (E : String) (ce : Cell) (q9 : Addr) (f1 : wF) (a1 : wA) (b1 : wB) (H1 : Heap) (locs1 : List Loc), px E f1 a1 b1 → wd N kf D cl ad ca A s H1 locs1 f1 a1 b1 → H1[q9]? = some ce → ce.vm = .none → s.vm.findClass E = some ce.cls → vx_W p l e R s m args below meth c H1 locs1 (cells + mc) (slots + ms) Q (F0 m pc ls rest) q9)
    (kk : ∀ (r : Int64) (f1 : wF) (a1 : wA) (b1 : wB) (H1 : Heap) (locs1 : List Loc), po r f1 a1 b1 → wd N kf D cl ad ca A s H1 locs1 f1 a1 b1 → W p l e R s m args below meth c H1 locs1 (cells + mc) (slots + ms) Q (F0 m (pc + 3) ls (.long r :: rest))) : W p l e R s m args below meth c H locs cells slots Q (F0 m pc ls st0) := by
  obtain ⟨hx, hb, hml, hown, hts, hK, hA, hth, hlk, hl, hex⟩ := id X
  obtain ⟨hP, hD, hS⟩ := id K
  have hF := wfree hD hS hA
  have hrv : ∃ cellB : Cell, H[ad o]? = some cellB ∧ cellB.vm.isStatics = false ∧ s.vm.findClass C = some cellB.cls := va_recv hK hP (ci := ci) (q0 := o) hci ((wg_get ho).trans (by rw [hko]))
  have hT : GoodIn Wl (wsV own index C y (Cond.code y bytes maxL ret :: Wl)) := good_in hg (fun w hw => by
    simp only [List.mem_cons, List.not_mem_nil, or_false] at hw
    rcases hw with q | q | q | q
    · rw [q]; exact w1
    · rw [q]; exact w2
    · rw [q]; exact w3
    · rw [q]; exact w4) w5
  exact vx_calll (vx_runV (As := As) (rest := rest) ⟨hx, hb, hml, hown, hts⟩ hM (cwV n0 hts hT rfl hrc hrs hd hR) ⟨sPre.blind, hrv, pre_of X K _⟩ rfl hn hsz hst (lv_room hW) hdg hf) hS (fun q _ h => hF q h) hF (fun q _ h => hF q h)
    (fun E ce q9 u t H1 locs1 ht hvm _ hB hz hk hS1 hce hv hcl => kx E ce q9 u.1 u.2.1 u.2.2 H1 locs1 hB.1 (back_of_call X K ht hB.2 hS1) hce hv hcl)
    (fun r_ u t H1 locs1 ht hvm hw hB hz hk hS1 => kk r_ u.1 u.2.1 u.2.2 H1 locs1 hw (back_of_call X K ht hB hS1))
theorem gcSL (X : cx Wl tys tx D cl sa A p l s m args meth c cc nL own) (K : wd N kf D cl ad ca A s H locs f a b) {y : MethodName} {bytes : ByteArray} {maxL n0 mc ms index : Nat} {ret : Option FieldType} {rm : Room} {As : List Value} {po : Int64 → wF → wA → wB → Prop} {px : String → wF → wA → wB → Prop}
    (hM : mL N kf tys tx D cl l y (Cond.code y bytes maxL ret :: Wl) rm As ad ca sa H.size f a b po px mc ms)
    (hg : Wl.all goodWord = true) (w1 : Cond.methodLink own index y ∈ Wl) (w2 : Cond.static y ∈ Wl) (w4 : Cond.initialized y.cls ∈ Wl) (w5 : Cond.code y bytes maxL ret ∈ Wl)
    (hd : y.cls ≠ "java/lang/invoke/MethodHandle" ∧ y.cls ≠ "java/lang/invoke/VarHandle" ∧ (parseMethodDescriptor y.desc).map (fun d => d.parameters.length) = some n0) (hrc : rm.cells = mc) (hrs : rm.slots = ms) (hR : rm.frames + 1 ≤ R.frames ∧ 8 + (maxL + 11) + rm.locals ≤ R.locals)
    (hn : As.length = n0) (hsz : ls.size = nL) (hst : st0 = As.reverse ++ rest) (hW : (rest.map fun v => v.category).sum ≤ 8) (hdg : decode cc pc = .ok (.invokestatic index, 3)) (hf : cells + mc ≤ R.cells ∧ slots + ms ≤ R.slots)
    (kx : ∀ (E : String) (ce : Cell) (q9 : Addr) (f1 : wF) (a1 : wA) (b1 : wB) (H1 : Heap) (locs1 : List Loc), px E f1 a1 b1 → wd N kf D cl ad ca A s H1 locs1 f1 a1 b1 → H1[q9]? = some ce → ce.vm = .none → s.vm.findClass E = some ce.cls → vx_W p l e R s m args below meth c H1 locs1 (cells + mc) (slots + ms) Q (F0 m pc ls rest) q9)
    (kk : ∀ (r : Int64) (f1 : wF) (a1 : wA) (b1 : wB) (H1 : Heap) (locs1 : List Loc), po r f1 a1 b1 → wd N kf D cl ad ca A s H1 locs1 f1 a1 b1 → W p l e R s m args below meth c H1 locs1 (cells + mc) (slots + ms) Q (F0 m (pc + 3) ls (.long r :: rest))) : W p l e R s m args below meth c H locs cells slots Q (F0 m pc ls st0) := by
  obtain ⟨hx, hb, hml, hown, hts, hK, hA, hth, hlk, hl, hex⟩ := id X
  obtain ⟨hP, hD, hS⟩ := id K
  have hF := wfree hD hS hA
  have hT : GoodIn Wl (va_wsS own index y (Cond.code y bytes maxL ret :: Wl)) := good_in hg (fun w hw => by
    simp only [List.mem_cons, List.not_mem_nil, or_false] at hw
    rcases hw with q | q | q
    · rw [q]; exact w1
    · rw [q]; exact w2
    · rw [q]; exact w4) w5
  exact vx_calll (vx_runS (As := As) (rest := rest) ⟨hx, hb, hml, hown, hts⟩ hM (va_cwS n0 hts hT rfl hrc hrs hd hR) ⟨sPre.blind, pre_of X K _⟩ rfl hn hsz hst (lv_room hW) hdg hf) hS (fun q _ h => hF q h) hF (fun q _ h => hF q h)
    (fun E ce q9 u t H1 locs1 ht hvm _ hB hz hk hS1 hce hv hcl => kx E ce q9 u.1 u.2.1 u.2.2 H1 locs1 hB.1 (back_of_call X K ht hB.2 hS1) hce hv hcl)
    (fun r_ u t H1 locs1 ht hvm hw hB hz hk hS1 => kk r_ u.1 u.2.1 u.2.2 H1 locs1 hw (back_of_call X K ht hB hS1))
theorem gcV (X : cx Wl tys tx D cl sa A p l s m args meth c cc nL own) (K : wd N kf D cl ad ca A s H locs f a b) {y : MethodName} {bytes : ByteArray} {maxL n0 mc ms o ci index n1 : Nat} {ret : Option FieldType} {rm : Room} {C : String} {T : u_T} {As fs : List Value} {po : wF → wA → wB → Prop} {px : String → wF → wA → wB → Prop}
    (hM : mV N kf tys tx D cl l y (Cond.code y bytes maxL ret :: Wl) rm (Value.ref (ad o) :: As) ad ca sa H.size f a b po px mc ms) (ho : o < N) (hko : kf ad ca f a b o = .inr (ci, fs)) (hci : cl[ci]? = some (C, T, n1))
    (hg : Wl.all goodWord = true) (w1 : Cond.methodLink own index y ∈ Wl) (w2 : Cond.instanceMethod y ∈ Wl) (w3 : Cond.selects C y y ∈ Wl) (w4 : Cond.initialized C ∈ Wl) (w5 : Cond.code y bytes maxL ret ∈ Wl)
    (hd : y.cls = C ∧ y.cls ≠ "java/lang/invoke/MethodHandle" ∧ y.cls ≠ "java/lang/invoke/VarHandle" ∧ (parseMethodDescriptor y.desc).map (fun d => d.parameters.length) = some n0) (hrc : rm.cells = mc) (hrs : rm.slots = ms) (hR : rm.frames + 1 ≤ R.frames ∧ 8 + (maxL + 11) + rm.locals ≤ R.locals)
    (hn : As.length = n0) (hsz : ls.size = nL) (hst : st0 = As.reverse ++ Value.ref (ad o) :: rest) (hW : (rest.map fun v => v.category).sum ≤ 8) (hdg : decode cc pc = .ok (.invokevirtual index, 3)) (hf : cells + mc ≤ R.cells ∧ slots + ms ≤ R.slots)
    (kx : ∀ (E : String) (ce : Cell) (q9 : Addr) (f1 : wF) (a1 : wA) (b1 : wB) (H1 : Heap) (locs1 : List Loc), px E f1 a1 b1 → wd N kf D cl ad ca A s H1 locs1 f1 a1 b1 → H1[q9]? = some ce → ce.vm = .none → s.vm.findClass E = some ce.cls → vx_W p l e R s m args below meth c H1 locs1 (cells + mc) (slots + ms) Q (F0 m pc ls rest) q9)
    (kk : ∀ (f1 : wF) (a1 : wA) (b1 : wB) (H1 : Heap) (locs1 : List Loc), po f1 a1 b1 → wd N kf D cl ad ca A s H1 locs1 f1 a1 b1 → W p l e R s m args below meth c H1 locs1 (cells + mc) (slots + ms) Q (F0 m (pc + 3) ls rest)) : W p l e R s m args below meth c H locs cells slots Q (F0 m pc ls st0) := by
  obtain ⟨hx, hb, hml, hown, hts, hK, hA, hth, hlk, hl, hex⟩ := id X
  obtain ⟨hP, hD, hS⟩ := id K
  have hF := wfree hD hS hA
  have hrv : ∃ cellB : Cell, H[ad o]? = some cellB ∧ cellB.vm.isStatics = false ∧ s.vm.findClass C = some cellB.cls := va_recv hK hP (ci := ci) (q0 := o) hci ((wg_get ho).trans (by rw [hko]))
  have hT : GoodIn Wl (wsV own index C y (Cond.code y bytes maxL ret :: Wl)) := good_in hg (fun w hw => by
    simp only [List.mem_cons, List.not_mem_nil, or_false] at hw
    rcases hw with q | q | q | q
    · rw [q]; exact w1
    · rw [q]; exact w2
    · rw [q]; exact w3
    · rw [q]; exact w4) w5
  exact vx_callv (vx_runV (As := As) (rest := rest) ⟨hx, hb, hml, hown, hts⟩ hM (cwV n0 hts hT rfl hrc hrs hd hR) ⟨sPre.blind, hrv, pre_of X K _⟩ rfl hn hsz hst (lv_room hW) hdg hf) hS (fun q _ h => hF q h) hF (fun q _ h => hF q h)
    (fun E ce q9 u t H1 locs1 ht hvm _ hB hz hk hS1 hce hv hcl => kx E ce q9 u.1 u.2.1 u.2.2 H1 locs1 hB.1 (back_of_call X K ht hB.2 hS1) hce hv hcl)
    (fun u t H1 locs1 ht hvm hw hB hz hk hS1 => kk u.1 u.2.1 u.2.2 H1 locs1 hw (back_of_call X K ht hB hS1))
theorem gcSV (X : cx Wl tys tx D cl sa A p l s m args meth c cc nL own) (K : wd N kf D cl ad ca A s H locs f a b) {y : MethodName} {bytes : ByteArray} {maxL n0 mc ms index : Nat} {ret : Option FieldType} {rm : Room} {As : List Value} {po : wF → wA → wB → Prop} {px : String → wF → wA → wB → Prop}
    (hM : mV N kf tys tx D cl l y (Cond.code y bytes maxL ret :: Wl) rm As ad ca sa H.size f a b po px mc ms)
    (hg : Wl.all goodWord = true) (w1 : Cond.methodLink own index y ∈ Wl) (w2 : Cond.static y ∈ Wl) (w4 : Cond.initialized y.cls ∈ Wl) (w5 : Cond.code y bytes maxL ret ∈ Wl)
    (hd : y.cls ≠ "java/lang/invoke/MethodHandle" ∧ y.cls ≠ "java/lang/invoke/VarHandle" ∧ (parseMethodDescriptor y.desc).map (fun d => d.parameters.length) = some n0) (hrc : rm.cells = mc) (hrs : rm.slots = ms) (hR : rm.frames + 1 ≤ R.frames ∧ 8 + (maxL + 11) + rm.locals ≤ R.locals)
    (hn : As.length = n0) (hsz : ls.size = nL) (hst : st0 = As.reverse ++ rest) (hW : (rest.map fun v => v.category).sum ≤ 8) (hdg : decode cc pc = .ok (.invokestatic index, 3)) (hf : cells + mc ≤ R.cells ∧ slots + ms ≤ R.slots)
    (kx : ∀ (E : String) (ce : Cell) (q9 : Addr) (f1 : wF) (a1 : wA) (b1 : wB) (H1 : Heap) (locs1 : List Loc), px E f1 a1 b1 → wd N kf D cl ad ca A s H1 locs1 f1 a1 b1 → H1[q9]? = some ce → ce.vm = .none → s.vm.findClass E = some ce.cls → vx_W p l e R s m args below meth c H1 locs1 (cells + mc) (slots + ms) Q (F0 m pc ls rest) q9)
    (kk : ∀ (f1 : wF) (a1 : wA) (b1 : wB) (H1 : Heap) (locs1 : List Loc), po f1 a1 b1 → wd N kf D cl ad ca A s H1 locs1 f1 a1 b1 → W p l e R s m args below meth c H1 locs1 (cells + mc) (slots + ms) Q (F0 m (pc + 3) ls rest)) : W p l e R s m args below meth c H locs cells slots Q (F0 m pc ls st0) := by
  obtain ⟨hx, hb, hml, hown, hts, hK, hA, hth, hlk, hl, hex⟩ := id X
  obtain ⟨hP, hD, hS⟩ := id K
  have hF := wfree hD hS hA
  have hT : GoodIn Wl (va_wsS own index y (Cond.code y bytes maxL ret :: Wl)) := good_in hg (fun w hw => by
    simp only [List.mem_cons, List.not_mem_nil, or_false] at hw
    rcases hw with q | q | q
    · rw [q]; exact w1
    · rw [q]; exact w2
    · rw [q]; exact w4) w5
  exact vx_callv (vx_runS (As := As) (rest := rest) ⟨hx, hb, hml, hown, hts⟩ hM (va_cwS n0 hts hT rfl hrc hrs hd hR) ⟨sPre.blind, pre_of X K _⟩ rfl hn hsz hst (lv_room hW) hdg hf) hS (fun q _ h => hF q h) hF (fun q _ h => hF q h)
    (fun E ce q9 u t H1 locs1 ht hvm _ hB hz hk hS1 hce hv hcl => kx E ce q9 u.1 u.2.1 u.2.2 H1 locs1 hB.1 (back_of_call X K ht hB.2 hS1) hce hv hcl)
    (fun u t H1 locs1 ht hvm hw hB hz hk hS1 => kk u.1 u.2.1 u.2.2 H1 locs1 hw (back_of_call X K ht hB hS1))
theorem ofI {y : MethodName} {maxL mc ms sz : Nat} {ret : Option FieldType} {rm : Room} {av : List Value} {po : Int32 → wF → wA → wB → Prop} {px : String → wF → wA → wB → Prop} (hy : plainName y.cls = true) (hl : l.stackTraces = false) (hlen : (lg_sl av).length ≤ maxL)
    (body : ∀ (p : Program) (e : Env) (s : State) (m : MethodId) (below : List Frame) (meth : Method) (c : Code) (ls : Array Slot), cx Wl tys tx D cl sa (va_A (ww N kf ad ca f a b) sz) p l s m av.toArray meth c cc maxL y.cls → meth.sig.returnType = ret → wd N kf D cl ad ca (va_A (ww N kf ad ca f a b) sz) s s.heap [] f a b → lv_has ls maxL (lv_args 0 av) →
      W p l e rm s m av.toArray below meth c s.heap [] 0 0 (vx_MQ below (va_Qi (fun r (u : wF × wA × wB) => po r u.1 u.2.1 u.2.2) (sPost N kf D cl ad ca (va_A (ww N kf ad ca f a b) sz)) (va_A (ww N kf ad ca f a b) sz)) (sX N kf D cl ad ca (va_A (ww N kf ad ca f a b) sz) px) av.toArray s mc ms (va_A (ww N kf ad ca f a b) sz)) (F0 m 0 ls [])) : mI N kf tys tx D cl l y (Cond.code y cc maxL ret :: Wl) rm av ad ca sa sz f a b po px mc ms := by
  refine vx_ofW (cc := cc) (maxL := maxL) (ret := ret) hy rfl ?_
  intro p e s m args below meth c s₁ B hml hex hv
  obtain ⟨rfl, hsz, hP, hK, hD0, hth⟩ := hv
  have hts := atoms_spec (ws := Cond.code y cc maxL ret :: Wl) B.pre
  have hl1 := lv_entry av (n := maxL) hlen
  rw [lg_entry_eq]
  generalize (lg_sl av ++ List.replicate (maxL - (lg_sl av).length) Slot.unset).toArray = ls at hl1 ⊢
  exact body p e s m below meth c ls ⟨B.exec, B.bytes, hml, findClass_of_methodNamed B.named, fun w hw => hts w (List.mem_cons_of_mem _ hw), hK, fun q h => Or.inr (by rw [← hsz]; exact h), hth, B.notSynchronized, hl, hex⟩ B.returns ⟨hP, hD0.self, va_S.rf⟩ hl1
theorem ofL {y : MethodName} {maxL mc ms sz : Nat} {ret : Option FieldType} {rm : Room} {av : List Value} {po : Int64 → wF → wA → wB → Prop} {px : String → wF → wA → wB → Prop} (hy : plainName y.cls = true) (hl : l.stackTraces = false) (hlen : (lg_sl av).length ≤ maxL)
    (body : ∀ (p : Program) (e : Env) (s : State) (m : MethodId) (below : List Frame) (meth : Method) (c : Code) (ls : Array Slot), cx Wl tys tx D cl sa (va_A (ww N kf ad ca f a b) sz) p l s m av.toArray meth c cc maxL y.cls → meth.sig.returnType = ret → wd N kf D cl ad ca (va_A (ww N kf ad ca f a b) sz) s s.heap [] f a b → lv_has ls maxL (lv_args 0 av) →
      W p l e rm s m av.toArray below meth c s.heap [] 0 0 (vx_MQ below (va_Ql (fun r (u : wF × wA × wB) => po r u.1 u.2.1 u.2.2) (sPost N kf D cl ad ca (va_A (ww N kf ad ca f a b) sz)) (va_A (ww N kf ad ca f a b) sz)) (sX N kf D cl ad ca (va_A (ww N kf ad ca f a b) sz) px) av.toArray s mc ms (va_A (ww N kf ad ca f a b) sz)) (F0 m 0 ls [])) : mL N kf tys tx D cl l y (Cond.code y cc maxL ret :: Wl) rm av ad ca sa sz f a b po px mc ms := by
  refine vx_ofW (cc := cc) (maxL := maxL) (ret := ret) hy rfl ?_
  intro p e s m args below meth c s₁ B hml hex hv
  obtain ⟨rfl, hsz, hP, hK, hD0, hth⟩ := hv
  have hts := atoms_spec (ws := Cond.code y cc maxL ret :: Wl) B.pre
  have hl1 := lv_entry av (n := maxL) hlen
  rw [lg_entry_eq]
  generalize (lg_sl av ++ List.replicate (maxL - (lg_sl av).length) Slot.unset).toArray = ls at hl1 ⊢
  exact body p e s m below meth c ls ⟨B.exec, B.bytes, hml, findClass_of_methodNamed B.named, fun w hw => hts w (List.mem_cons_of_mem _ hw), hK, fun q h => Or.inr (by rw [← hsz]; exact h), hth, B.notSynchronized, hl, hex⟩ B.returns ⟨hP, hD0.self, va_S.rf⟩ hl1
theorem ofV {y : MethodName} {maxL mc ms sz : Nat} {ret : Option FieldType} {rm : Room} {av : List Value} {po : wF → wA → wB → Prop} {px : String → wF → wA → wB → Prop} (hy : plainName y.cls = true) (hl : l.stackTraces = false) (hlen : (lg_sl av).length ≤ maxL)
    (body : ∀ (p : Program) (e : Env) (s : State) (m : MethodId) (below : List Frame) (meth : Method) (c : Code) (ls : Array Slot), cx Wl tys tx D cl sa (va_A (ww N kf ad ca f a b) sz) p l s m av.toArray meth c cc maxL y.cls → meth.sig.returnType = ret → wd N kf D cl ad ca (va_A (ww N kf ad ca f a b) sz) s s.heap [] f a b → lv_has ls maxL (lv_args 0 av) →
      W p l e rm s m av.toArray below meth c s.heap [] 0 0 (vx_MQ below (va_Qv (fun (u : wF × wA × wB) => po u.1 u.2.1 u.2.2) (sPost N kf D cl ad ca (va_A (ww N kf ad ca f a b) sz)) (va_A (ww N kf ad ca f a b) sz)) (sX N kf D cl ad ca (va_A (ww N kf ad ca f a b) sz) px) av.toArray s mc ms (va_A (ww N kf ad ca f a b) sz)) (F0 m 0 ls [])) : mV N kf tys tx D cl l y (Cond.code y cc maxL ret :: Wl) rm av ad ca sa sz f a b po px mc ms := by
  refine vx_ofW (cc := cc) (maxL := maxL) (ret := ret) hy rfl ?_
  intro p e s m args below meth c s₁ B hml hex hv
  obtain ⟨rfl, hsz, hP, hK, hD0, hth⟩ := hv
  have hts := atoms_spec (ws := Cond.code y cc maxL ret :: Wl) B.pre
  have hl1 := lv_entry av (n := maxL) hlen
  rw [lg_entry_eq]
  generalize (lg_sl av ++ List.replicate (maxL - (lg_sl av).length) Slot.unset).toArray = ls at hl1 ⊢
  exact body p e s m below meth c ls ⟨B.exec, B.bytes, hml, findClass_of_methodNamed B.named, fun w hw => hts w (List.mem_cons_of_mem _ hw), hK, fun q h => Or.inr (by rw [← hsz]; exact h), hth, B.notSynchronized, hl, hex⟩ B.returns ⟨hP, hD0.self, va_S.rf⟩ hl1
theorem endI {ty : FieldType} {rm : Room} {sz mc ms : Nat} {f0 : wF} {a0 : wA} {b0 : wB} {po : Int32 → wF → wA → wB → Prop} {px : String → wF → wA → wB → Prop} {v : Int32} (X : cx Wl tys tx D cl sa (va_A (ww N kf ad ca f0 a0 b0) sz) p l s m args meth c cc nL own) (K : wd N kf D cl ad ca (va_A (ww N kf ad ca f0 a0 b0) sz) s H locs f a b) (hr : meth.sig.returnType = some ty) (hn : narrow ty (.int v) = .int v) (hq : po v f a b) (hc : cells ≤ mc) (hs : slots ≤ ms) (hdg : decode cc pc = .ok (.ireturn, 1)) :
    W p l e rm s m args below meth c H locs cells slots (vx_MQ below (va_Qi (fun r (u : wF × wA × wB) => po r u.1 u.2.1 u.2.2) (sPost N kf D cl ad ca (va_A (ww N kf ad ca f0 a0 b0) sz)) (va_A (ww N kf ad ca f0 a0 b0) sz)) (sX N kf D cl ad ca (va_A (ww N kf ad ca f0 a0 b0) sz) px) args s mc ms (va_A (ww N kf ad ca f0 a0 b0) sz)) (F0 m pc ls [.int v]) := by
  obtain ⟨hx, hb, hml, hown, hts, hK, hA, hth, hlk, hl, hex⟩ := X
  obtain ⟨hP, hD, hS⟩ := K
  refine W.widen (k := mc) (n := ms) hc hs (vx_ret ?_)
  exact W.zret (v := v) hx hb hr hn (fun t ht hW => ⟨⟨v, (f, a, b), rfl, hq, by rw [ht]; exact hP, hD⟩, hS.F ht⟩) hS.2.2 hdg hlk
theorem endL {rm : Room} {sz mc ms : Nat} {f0 : wF} {a0 : wA} {b0 : wB} {po : Int64 → wF → wA → wB → Prop} {px : String → wF → wA → wB → Prop} {v : Int64} (X : cx Wl tys tx D cl sa (va_A (ww N kf ad ca f0 a0 b0) sz) p l s m args meth c cc nL own) (K : wd N kf D cl ad ca (va_A (ww N kf ad ca f0 a0 b0) sz) s H locs f a b) (hr : meth.sig.returnType = some .long) (hq : po v f a b) (hc : cells ≤ mc) (hs : slots ≤ ms) (hdg : decode cc pc = .ok (.lreturn, 1)) :
    W p l e rm s m args below meth c H locs cells slots (vx_MQ below (va_Ql (fun r (u : wF × wA × wB) => po r u.1 u.2.1 u.2.2) (sPost N kf D cl ad ca (va_A (ww N kf ad ca f0 a0 b0) sz)) (va_A (ww N kf ad ca f0 a0 b0) sz)) (sX N kf D cl ad ca (va_A (ww N kf ad ca f0 a0 b0) sz) px) args s mc ms (va_A (ww N kf ad ca f0 a0 b0) sz)) (F0 m pc ls [.long v]) := by
  obtain ⟨hx, hb, hml, hown, hts, hK, hA, hth, hlk, hl, hex⟩ := X
  obtain ⟨hP, hD, hS⟩ := K
  refine W.widen (k := mc) (n := ms) hc hs (vx_ret ?_)
  exact W.lret (v := v) hx hb hr (fun t ht hW => ⟨⟨v, (f, a, b), rfl, hq, by rw [ht]; exact hP, hD⟩, hS.F ht⟩) hS.2.2 hdg hlk
theorem endV {rm : Room} {sz mc ms : Nat} {f0 : wF} {a0 : wA} {b0 : wB} {po : wF → wA → wB → Prop} {px : String → wF → wA → wB → Prop} (X : cx Wl tys tx D cl sa (va_A (ww N kf ad ca f0 a0 b0) sz) p l s m args meth c cc nL own) (K : wd N kf D cl ad ca (va_A (ww N kf ad ca f0 a0 b0) sz) s H locs f a b) (hr : meth.sig.returnType = none) (hq : po f a b) (hc : cells ≤ mc) (hs : slots ≤ ms) (hdg : decode cc pc = .ok (.return_, 1)) :
    W p l e rm s m args below meth c H locs cells slots (vx_MQ below (va_Qv (fun (u : wF × wA × wB) => po u.1 u.2.1 u.2.2) (sPost N kf D cl ad ca (va_A (ww N kf ad ca f0 a0 b0) sz)) (va_A (ww N kf ad ca f0 a0 b0) sz)) (sX N kf D cl ad ca (va_A (ww N kf ad ca f0 a0 b0) sz) px) args s mc ms (va_A (ww N kf ad ca f0 a0 b0) sz)) (F0 m pc ls []) := by
  obtain ⟨hx, hb, hml, hown, hts, hK, hA, hth, hlk, hl, hex⟩ := X
  obtain ⟨hP, hD, hS⟩ := K
  refine W.widen (k := mc) (n := ms) hc hs (vx_ret ?_)
  exact W.vret hx hb hr (fun t ht hW => ⟨⟨(f, a, b), rfl, hq, by rw [ht]; exact hP, hD⟩, hS.F ht⟩) hS.2.2 hdg hlk
/-- an exception of a callee goes on to the caller -/
theorem outX {rm : Room} {sz mc ms : Nat} {f0 : wF} {a0 : wA} {b0 : wB} {Qc : Array Value → State → Outcome → State → Prop} {px : String → wF → wA → wB → Prop} {E : String} {ce : Cell} {q9 : Addr} (X : cx Wl tys tx D cl sa (va_A (ww N kf ad ca f0 a0 b0) sz) p l s m args meth c cc nL own) (K : wd N kf D cl ad ca (va_A (ww N kf ad ca f0 a0 b0) sz) s H locs f a b) (hq : px E f a b) (hce : H[q9]? = some ce) (hv : ce.vm = .none) (hcl : s.vm.findClass E = some ce.cls) (hc : cells ≤ mc) (hs : slots ≤ ms) :
    vx_W p l e rm s m args below meth c H locs cells slots (vx_MQ below Qc (sX N kf D cl ad ca (va_A (ww N kf ad ca f0 a0 b0) sz) px) args s mc ms (va_A (ww N kf ad ca f0 a0 b0) sz)) (F0 m pc ls rest) q9 := by
  obtain ⟨hx, hb, hml, hown, hts, hK, hA, hth, hlk, hl, hex⟩ := X
  obtain ⟨hP, hD, hS⟩ := K
  exact vx_out (E := E) (fun x hx => (hex x hx).elim) hlk hce hv hcl (fun t ht ha => ⟨(f, a, b), trivial, ⟨hq, by rw [ht]; exact hP, hD⟩, hS.F ht⟩) hS.2.2 hc hs
/-- throw new E("text") -/
theorem throwX {rm : Room} {sz mc ms k ik is ic : Nat} {cls text : String} {f0 : wF} {a0 : wA} {b0 : wB} {Qc : Array Value → State → Outcome → State → Prop} {px : String → wF → wA → wB → Prop} {names : List String} (X : cx Wl tys tx D cl sa (va_A (ww N kf ad ca f0 a0 b0) sz) p l s m args meth c cc nL own) (K : wd N kf D cl ad ca (va_A (ww N kf ad ca f0 a0 b0) sz) s H locs f a b) (hq : px cls f a b)
    (hcls : Bundle.fit cls = true) (hnames : ∀ n ∈ names, Bundle.fit n = true) (htx : tx[k]? = some (own, is, text)) (w1 : Cond.classLink own ik cls ∈ Wl) (w2 : Cond.initialized cls ∈ Wl) (hgd : ∀ w ∈ (vx_atS own ic cls names).filter goodWord, w ∈ Wl) (hbd : ∀ w ∈ (vx_atS own ic cls names).filter (fun w => !goodWord w), w ∈ thC ++ thD) (hgood : ∀ w ∈ Cond.classLink own ik cls :: Cond.initialized cls :: vx_atS own ic cls names, vx_ot w = true) (hsz : ls.size = nL)
    (d0 : decode cc pc = .ok (.new ik, 3)) (d3 : decode cc (pc + 3) = .ok (.dup, 1)) (d4 : decode cc (pc + 4) = .ok (.ldc is, 2)) (d6 : decode cc (pc + 6) = .ok (.invokespecial ic, 3)) (d9 : decode cc (pc + 9) = .ok (.athrow, 1))
    (hRf : names.length + 3 < rm.frames) (hRl : (rest.map fun v => v.category).sum + (13 * (names.length + 1) + 43) ≤ rm.locals) (hRc : cells + 1 ≤ rm.cells) (hRs : slots + 6 ≤ rm.slots) (hc : cells + 1 ≤ mc) (hs : slots + 6 ≤ ms) :
    W p l e rm s m args below meth c H locs cells slots (vx_MQ below Qc (sX N kf D cl ad ca (va_A (ww N kf ad ca f0 a0 b0) sz) px) args s mc ms (va_A (ww N kf ad ca f0 a0 b0) sz)) (F0 m pc ls rest) := by
  obtain ⟨hx, hb, hml, hown, hts, hK, hA, hth, hlk, hl, hex⟩ := X
  obtain ⟨hP, hD, hS⟩ := K
  refine vx_throwS hx hb hl (names := names) (A := va_A (ww N kf ad ca f0 a0 b0) sz) hown hcls hnames (hts _ w1) (hts _ w2) (hth.2.2.1 k _ htx) (vx_hat (fun w hw => hts w (hgd w hw)) hbd (th_use hth.2.2.2.1 hth.2.2.2.2)) hgood hth.1 hth.2.1 hS (hsz.trans hml.symm) d0 d3 d4 d6 d9 (fun x hx => (hex x hx).elim) hRf hRl hRc hRs hlk ?_ hS.2.2 hc hs
  intro t ha hle hk
  refine ⟨(f, a, b), trivial, ⟨hq, hP.kept (fun k q hkq => hk q.1 ((hP k q hkq).lt)), hD⟩, Nat.le_trans hS.1 hle, fun q h1 h2 => (hk q (Nat.lt_of_lt_of_le h1 hS.1)).trans (hS.2.1 q h1 h2)⟩
/-- field and array rows, for a layout that says what the cell holds -/
theorem gGet (X : cx Wl tys tx D cl sa A p l s m args meth c cc nL own) (K : wd N kf D cl ad ca A s H locs f a b) {o ci n1 index k : Nat} {C : String} {T : u_T} {fs : List Value} {v : Value} (ho : o < N) (hko : kf ad ca f a b o = .inr (ci, fs)) (hci : cl[ci]? = some (C, T, n1)) (hT : ∀ w ∈ u_ws C T n1, w ∈ Wl) (hk : k < n1) (w1 : Cond.fieldLink own index (T k).1 (T k).2.1 (T k).2.2.1 ∈ Wl) (hv : fs[k]? = some v) (hdg : decode cc pc = .ok (.getfield index, 3))
    (kk : W p l e R s m args below meth c H locs cells slots Q (F0 m (pc + 3) ls (v :: rest))) : W p l e R s m args below meth c H locs cells slots Q (F0 m pc ls (.ref (ad o) :: rest)) := by
  obtain ⟨hx, hb, hml, hown, hts, hK, hA, hth, hlk, hl, hex⟩ := X
  exact va_get (ref := (T k).1) hx hb hts hT hown hK K.1 o ((wg_get ho).trans (by rw [hko])) hci k hk (hts _ w1) (fun _ h9 => h9) hv hdg kk
theorem gPut (X : cx Wl tys tx D cl sa A p l s m args meth c cc nL own) (K : wd N kf D cl ad ca A s H locs f a b) {o ci n1 index k : Nat} {C : String} {T : u_T} {fs : List Value} {v : Value} {ty : FieldType} (ty0 : Nat → FieldType) (hty : ∀ k, k < n1 → parseFieldDescriptor (T k).2.2.1 = some (ty0 k)) (hnm : ∀ a, a < n1 → ∀ b, b < n1 → a ≠ b → (T a).2.1 ≠ (T b).2.1) (ho : o < N) (hko : kf ad ca f a b o = .inr (ci, fs)) (hci : cl[ci]? = some (C, T, n1)) (hT : ∀ w ∈ u_ws C T n1, w ∈ Wl) (hk : k < n1) (w1 : Cond.fieldLink own index (T k).1 (T k).2.1 (T k).2.2.1 ∈ Wl) (hfin : (T k).2.2.2 = false) (hd : parseFieldDescriptor (T k).2.2.1 = some ty) (hn : narrow ty v = v) (hfit : fits ty v = true) (hlen : k < fs.length) (hdg : decode cc pc = .ok (.putfield index, 3)) {f1 : wF} {a1 : wA} {b1 : wB} (hup : va_up (kf ad ca f a b) o (.inr (ci, fs.set k v)) = kf ad ca f1 a1 b1)
    (kk : ∀ (H1 : Heap) (locs1 : List Loc), wd N kf D cl ad ca A s H1 locs1 f1 a1 b1 → W p l e R s m args below meth c H1 locs1 cells slots Q (F0 m (pc + 3) ls rest)) : W p l e R s m args below meth c H locs cells slots Q (F0 m pc ls (v :: .ref (ad o) :: rest)) := by
  obtain ⟨hx, hb, hml, hown, hts, hK, hA, hth, hlk, hl, hex⟩ := X
  refine va_put (ref := (T k).1) hx hb hts hT ty0 hty hnm hown hK K.1 K.2.1 K.2.2 o ((wg_get ho).trans (by rw [hko])) hci k hk (hts _ w1) (fun _ h9 => h9) hfin hd hn hfit hlen hdg (fun H1 locs1 hP1 hD1 hS1 => kk H1 locs1 ?_)
  unfold ww at hP1 hD1
  rw [wg_set ho, hup] at hP1 hD1
  exact ⟨hP1, hD1, hS1⟩
theorem gild (X : cx Wl tys tx D cl sa A p l s m args meth c cc nL own) (K : wd N kf D cl ad ca A s H locs f a b) {o n t0 : Nat} {cA : ClassId} {g : Nat → Int32} (ho : o < N) (hko : kf ad ca f a b o = .inl (cA, n, .inl g)) (ht : tys[t0]? = some (cA, .int)) {i : Int32} (hin : vp_in i n) (hdg : decode cc pc = .ok (.iaload, 1))
    (kk : W p l e R s m args below meth c H locs cells slots Q (F0 m (pc + 1) ls (.int (g i.toNatClampNeg) :: rest))) : W p l e R s m args below meth c H locs cells slots Q (F0 m pc ls (.int i :: .ref (ad o) :: rest)) := by
  obtain ⟨hx, hb, hml, hown, hts, hK, hA, hth, hlk, hl, hex⟩ := X
  exact va_iald hx hb hK K.1 o t0 ((wg_get ho).trans (by rw [hko])) ht hin hdg kk
theorem gzld (X : cx Wl tys tx D cl sa A p l s m args meth c cc nL own) (K : wd N kf D cl ad ca A s H locs f a b) {o n t0 : Nat} {cA : ClassId} {g : Nat → Int32} (ho : o < N) (hko : kf ad ca f a b o = .inl (cA, n, .inl g)) (ht : tys[t0]? = some (cA, .boolean)) {i : Int32} (hin : vp_in i n) (hdg : decode cc pc = .ok (.baload, 1))
    (kk : W p l e R s m args below meth c H locs cells slots Q (F0 m (pc + 1) ls (.int (g i.toNatClampNeg) :: rest))) : W p l e R s m args below meth c H locs cells slots Q (F0 m pc ls (.int i :: .ref (ad o) :: rest)) := by
  obtain ⟨hx, hb, hml, hown, hts, hK, hA, hth, hlk, hl, hex⟩ := X
  exact va_zald hx hb hK K.1 o t0 ((wg_get ho).trans (by rw [hko])) ht hin hdg kk
theorem glld (X : cx Wl tys tx D cl sa A p l s m args meth c cc nL own) (K : wd N kf D cl ad ca A s H locs f a b) {o n t0 : Nat} {cA : ClassId} {g : Nat → Int64} (ho : o < N) (hko : kf ad ca f a b o = .inl (cA, n, .inr (.inl g))) (ht : tys[t0]? = some (cA, .long)) {i : Int32} (hin : vp_in i n) (hdg : decode cc pc = .ok (.laload, 1))
    (kk : W p l e R s m args below meth c H locs cells slots Q (F0 m (pc + 1) ls (.long (g i.toNatClampNeg) :: rest))) : W p l e R s m args below meth c H locs cells slots Q (F0 m pc ls (.int i :: .ref (ad o) :: rest)) := by
  obtain ⟨hx, hb, hml, hown, hts, hK, hA, hth, hlk, hl, hex⟩ := X
  exact va_lald hx hb hK K.1 o t0 ((wg_get ho).trans (by rw [hko])) ht hin hdg kk
theorem gist (X : cx Wl tys tx D cl sa A p l s m args meth c cc nL own) (K : wd N kf D cl ad ca A s H locs f a b) {o n t0 : Nat} {cA : ClassId} {g : Nat → Int32} (ho : o < N) (hko : kf ad ca f a b o = .inl (cA, n, .inl g)) (ht : tys[t0]? = some (cA, .int)) {i : Int32} {x : Int32} (hin : vp_in i n) (hdg : decode cc pc = .ok (.iastore, 1)) {f1 : wF} {a1 : wA} {b1 : wB} (hup : va_up (kf ad ca f a b) o (.inl (cA, n, .inl (upd g i.toNatClampNeg x))) = kf ad ca f1 a1 b1)
    (kk : ∀ (H1 : Heap) (locs1 : List Loc), wd N kf D cl ad ca A s H1 locs1 f1 a1 b1 → W p l e R s m args below meth c H1 locs1 cells slots Q (F0 m (pc + 1) ls rest)) : W p l e R s m args below meth c H locs cells slots Q (F0 m pc ls (.int x :: .int i :: .ref (ad o) :: rest)) := by
  obtain ⟨hx, hb, hml, hown, hts, hK, hA, hth, hlk, hl, hex⟩ := X
  refine va_iast hx hb hK K.1 K.2.1 K.2.2 o t0 ((wg_get ho).trans (by rw [hko])) ht hin hdg (fun H1 locs1 hP1 hD1 hS1 => kk H1 locs1 ?_)
  unfold ww at hP1 hD1
  rw [wg_set ho, hup] at hP1 hD1
  exact ⟨hP1, hD1, hS1⟩
theorem gzst (X : cx Wl tys tx D cl sa A p l s m args meth c cc nL own) (K : wd N kf D cl ad ca A s H locs f a b) {o n t0 : Nat} {cA : ClassId} {g : Nat → Int32} (ho : o < N) (hko : kf ad ca f a b o = .inl (cA, n, .inl g)) (ht : tys[t0]? = some (cA, .boolean)) {i : Int32} {x : Int32} (hin : vp_in i n) (hdg : decode cc pc = .ok (.bastore, 1)) {f1 : wF} {a1 : wA} {b1 : wB} (hup : va_up (kf ad ca f a b) o (.inl (cA, n, .inl (upd g i.toNatClampNeg (vp_nar .boolean x)))) = kf ad ca f1 a1 b1)
    (kk : ∀ (H1 : Heap) (locs1 : List Loc), wd N kf D cl ad ca A s H1 locs1 f1 a1 b1 → W p l e R s m args below meth c H1 locs1 cells slots Q (F0 m (pc + 1) ls rest)) : W p l e R s m args below meth c H locs cells slots Q (F0 m pc ls (.int x :: .int i :: .ref (ad o) :: rest)) := by
  obtain ⟨hx, hb, hml, hown, hts, hK, hA, hth, hlk, hl, hex⟩ := X
  refine va_zast hx hb hK K.1 K.2.1 K.2.2 o t0 ((wg_get ho).trans (by rw [hko])) ht hin hdg (fun H1 locs1 hP1 hD1 hS1 => kk H1 locs1 ?_)
  unfold ww at hP1 hD1
  rw [wg_set ho, hup] at hP1 hD1
  exact ⟨hP1, hD1, hS1⟩
theorem glst (X : cx Wl tys tx D cl sa A p l s m args meth c cc nL own) (K : wd N kf D cl ad ca A s H locs f a b) {o n t0 : Nat} {cA : ClassId} {g : Nat → Int64} (ho : o < N) (hko : kf ad ca f a b o = .inl (cA, n, .inr (.inl g))) (ht : tys[t0]? = some (cA, .long)) {i : Int32} {x : Int64} (hin : vp_in i n) (hdg : decode cc pc = .ok (.lastore, 1)) {f1 : wF} {a1 : wA} {b1 : wB} (hup : va_up (kf ad ca f a b) o (.inl (cA, n, .inr (.inl (vp_updL g i.toNatClampNeg x)))) = kf ad ca f1 a1 b1)
    (kk : ∀ (H1 : Heap) (locs1 : List Loc), wd N kf D cl ad ca A s H1 locs1 f1 a1 b1 → W p l e R s m args below meth c H1 locs1 cells slots Q (F0 m (pc + 1) ls rest)) : W p l e R s m args below meth c H locs cells slots Q (F0 m pc ls (.long x :: .int i :: .ref (ad o) :: rest)) := by
  obtain ⟨hx, hb, hml, hown, hts, hK, hA, hth, hlk, hl, hex⟩ := X
  refine va_last hx hb hK K.1 K.2.1 K.2.2 o t0 ((wg_get ho).trans (by rw [hko])) ht hin hdg (fun H1 locs1 hP1 hD1 hS1 => kk H1 locs1 ?_)
  unfold ww at hP1 hD1
  rw [wg_set ho, hup] at hP1 hD1
  exact ⟨hP1, hD1, hS1⟩
/-- a row of a grid -/
theorem gald (X : cx Wl tys tx D cl sa A p l s m args meth c cc nL own) (K : wd N kf D cl ad ca A s H locs f a b) {o n t0 rb : Nat} {cA : ClassId} {t : FieldType} (ho : o < N) (hko : kf ad ca f a b o = .inl (cA, n, .inr (.inr (.inr (.inr (fun i => if i < n then some (ad (rb + i)) else none)))))) (ht : tys[t0]? = some (cA, .array t)) {i : Int32} (hin : vp_in i n) (hdg : decode cc pc = .ok (.aaload, 1))
    (kk : W p l e R s m args below meth c H locs cells slots Q (F0 m (pc + 1) ls (.ref (ad (rb + i.toNatClampNeg)) :: rest))) : W p l e R s m args below meth c H locs cells slots Q (F0 m pc ls (.int i :: .ref (ad o) :: rest)) := by
  obtain ⟨hx, hb, hml, hown, hts, hK, hA, hth, hlk, hl, hex⟩ := X
  have hlt := vpin_lt hin
  have hc : H[ad o]? = some (vp_cell cA (n, .inr (.inr (.inr (.inr (fun i => if i < n then some (ad (rb + i)) else none)))))) := K.1 o (ad o, .inl (cA, n, .inr (.inr (.inr (.inr (fun i => if i < n then some (ad (rb + i)) else none)))))) ((wg_get ho).trans (by rw [hko]))
  exact W.aald (v := .ref (ad (rb + i.toNatClampNeg))) (ty := .array t) hx hb hc ((hK.2 t0 _ ht).1 n (fun j => va_rf (if j < n then some (ad (rb + j)) else none))) rfl (fun q => by cases q) (by show ¬ (i < 0 ∨ (arrV _ _ _).slots.size ≤ _); rw [arrV_size]; exact hin) (by show (arrV _ _ _).slots[_]? = _; rw [arrV_read _ _ hlt]; show some (va_rf (if i.toNatClampNeg < n then some (ad (rb + i.toNatClampNeg)) else none)) = _; rw [if_pos hlt]; rfl) rfl rfl hdg kk
end LAYER
end
section
abbrev nS : Nat := 57
def kdS (j : Nat) : Nat := ([0, 0, 2, 3, 3, 2, 5, 2, 3, 2, 2, 2, 2, 2, 6, 6, 2, 2, 2, 3, 4, 4, 2, 4, 4, 2, 2, 2, 2, 2, 2, 2, 2, 2, 2, 2, 2, 4, 4, 4, 4, 4, 4, 4, 4, 4, 4, 4, 4, 4, 4, 4, 4, 4, 4, 4, 4] : List Nat).getD j 9
def lnS (j : Nat) : Nat := ([0, 0, 12, 12, 12, 12, 12, 6, 6, 10, 10, 10, 16, 10, 10, 10, 10, 12, 10, 10, 10, 10, 12, 12, 12, 6, 6, 6, 6, 6, 6, 6, 6, 6, 6, 6, 6, 12, 12, 12, 12, 12, 12, 12, 12, 12, 12, 12, 12, 12, 12, 12, 12, 12, 12, 12, 12] : List Nat).getD j 0
def rbS (j : Nat) : Nat := ([0, 0, 0, 0, 0, 0, 25, 0, 0, 0, 0, 0, 0, 0, 37, 47, 0, 0, 0, 0, 0, 0, 0, 0, 0, 0, 0, 0, 0, 0, 0, 0, 0, 0, 0, 0, 0, 0, 0, 0, 0, 0, 0, 0, 0, 0, 0, 0, 0, 0, 0, 0, 0, 0, 0, 0, 0] : List Nat).getD j 0
def tyS (ca : Nat → ClassId) : List (ClassId × FieldType) := [(ca 0, .int), (ca 1, .boolean), (ca 2, .long), (ca 3, .array .int), (ca 4, .array .long)]
def flS_o0 (ad : Nat → Nat) (f : wF) : List Value := [.int (f 0), .ref (ad 2), .ref (ad 3), .ref (ad 4), .ref (ad 5), .ref (ad 6), .int (f 1), .ref (ad 7), .ref (ad 8), .int (f 2), .ref (ad 9), .ref (ad 10), .ref (ad 11), .ref (ad 12), .int (f 3), .int (f 4), .ref (ad 1)]
def flS_o1 (ad : Nat → Nat) (f : wF) : List Value := [.int (f 5), .int (f 6), .ref (ad 13), .ref (ad 14), .ref (ad 15), .ref (ad 16), .ref (ad 17), .ref (ad 18), .ref (ad 19), .ref (ad 20), .ref (ad 21), .ref (ad 22), .ref (ad 23), .ref (ad 24)]
def kS : wL := fun ad ca f a b j => if j = 0 then .inr (1, flS_o0 ad f) else if j = 1 then .inr (0, flS_o1 ad f) else match kdS j with | 2 => .inl (ca 0, lnS j, .inl (a j)) | 3 => .inl (ca 1, lnS j, .inl (a j)) | 4 => .inl (ca 2, lnS j, .inr (.inl (b j))) | 5 => .inl (ca 3, lnS j, .inr (.inr (.inr (.inr (fun i => if i < lnS j then some (ad (rbS j + i)) else none))))) | _ => .inl (ca 4, lnS j, .inr (.inr (.inr (.inr (fun i => if i < lnS j then some (ad (rbS j + i)) else none)))))
theorem kS_2 {ad : Nat → Nat} {ca : Nat → ClassId} {f : wF} {a : wA} {b : wB} {j : Nat} (h0 : j ≠ 0) (h1 : j ≠ 1) (h : kdS j = 2) : kS ad ca f a b j = .inl (ca 0, lnS j, .inl (a j)) := by
  unfold kS
  rw [if_neg h0, if_neg h1, h]
  rfl
theorem kS_3 {ad : Nat → Nat} {ca : Nat → ClassId} {f : wF} {a : wA} {b : wB} {j : Nat} (h0 : j ≠ 0) (h1 : j ≠ 1) (h : kdS j = 3) : kS ad ca f a b j = .inl (ca 1, lnS j, .inl (a j)) := by
  unfold kS
  rw [if_neg h0, if_neg h1, h]
  rfl
theorem kS_4 {ad : Nat → Nat} {ca : Nat → ClassId} {f : wF} {a : wA} {b : wB} {j : Nat} (h0 : j ≠ 0) (h1 : j ≠ 1) (h : kdS j = 4) : kS ad ca f a b j = .inl (ca 2, lnS j, .inr (.inl (b j))) := by
  unfold kS
  rw [if_neg h0, if_neg h1, h]
  rfl
theorem kS_up2 {ad : Nat → Nat} {ca : Nat → ClassId} {f : wF} {a : wA} {b : wB} {j : Nat} {g : Nat → Int32} (h0 : j ≠ 0) (h1 : j ≠ 1) (h : kdS j = 2) : va_up (kS ad ca f a b) j (.inl (ca 0, lnS j, .inl g)) = kS ad ca f (va_up a j g) b := by
  funext i
  by_cases e : i = j
  · subst e
    rw [va_up_self, kS_2 h0 h1 h, va_up_self]
  · rw [va_up_ne _ _ e]
    unfold kS
    rw [va_up_ne _ _ e]
theorem kS_up3 {ad : Nat → Nat} {ca : Nat → ClassId} {f : wF} {a : wA} {b : wB} {j : Nat} {g : Nat → Int32} (h0 : j ≠ 0) (h1 : j ≠ 1) (h : kdS j = 3) : va_up (kS ad ca f a b) j (.inl (ca 1, lnS j, .inl g)) = kS ad ca f (va_up a j g) b := by
  funext i
  by_cases e : i = j
  · subst e
    rw [va_up_self, kS_3 h0 h1 h, va_up_self]
  · rw [va_up_ne _ _ e]
    unfold kS
    rw [va_up_ne _ _ e]
theorem kS_up4 {ad : Nat → Nat} {ca : Nat → ClassId} {f : wF} {a : wA} {b : wB} {j : Nat} {g : Nat → Int64} (h0 : j ≠ 0) (h1 : j ≠ 1) (h : kdS j = 4) : va_up (kS ad ca f a b) j (.inl (ca 2, lnS j, .inr (.inl g))) = kS ad ca f a (va_up b j g) := by
  funext i
  by_cases e : i = j
  · subst e
    rw [va_up_self, kS_4 h0 h1 h, va_up_self]
  · rw [va_up_ne _ _ e]
    unfold kS
    rw [va_up_ne _ _ e]
theorem kS_o0 {ad : Nat → Nat} {ca : Nat → ClassId} {f : wF} {a : wA} {b : wB} : kS ad ca f a b 0 = .inr (1, flS_o0 ad f) := rfl
theorem kS_u0_0 {ad : Nat → Nat} {ca : Nat → ClassId} {f : wF} {a : wA} {b : wB} {x : Int32} : va_up (kS ad ca f a b) 0 (.inr (1, (flS_o0 ad f).set 0 (.int x))) = kS ad ca (va_up f 0 x) a b := by
  funext i
  by_cases e : i = 0
  · subst e
    rw [va_up_self]
    unfold kS
    simp [flS_o0, va_up]
  · rw [va_up_ne _ _ e]
    by_cases e1 : i = 1
    · subst e1
      unfold kS
      simp [flS_o1, va_up]
    unfold kS
    rw [if_neg e, if_neg e1, if_neg e, if_neg e1]
theorem kS_u0_6 {ad : Nat → Nat} {ca : Nat → ClassId} {f : wF} {a : wA} {b : wB} {x : Int32} : va_up (kS ad ca f a b) 0 (.inr (1, (flS_o0 ad f).set 6 (.int x))) = kS ad ca (va_up f 1 x) a b := by
  funext i
  by_cases e : i = 0
  · subst e
    rw [va_up_self]
    unfold kS
    simp [flS_o0, va_up]
  · rw [va_up_ne _ _ e]
    by_cases e1 : i = 1
    · subst e1
      unfold kS
      simp [flS_o1, va_up]
    unfold kS
    rw [if_neg e, if_neg e1, if_neg e, if_neg e1]
theorem kS_u0_9 {ad : Nat → Nat} {ca : Nat → ClassId} {f : wF} {a : wA} {b : wB} {x : Int32} : va_up (kS ad ca f a b) 0 (.inr (1, (flS_o0 ad f).set 9 (.int x))) = kS ad ca (va_up f 2 x) a b := by
  funext i
  by_cases e : i = 0
  · subst e
    rw [va_up_self]
    unfold kS
    simp [flS_o0, va_up]
  · rw [va_up_ne _ _ e]
    by_cases e1 : i = 1
    · subst e1
      unfold kS
      simp [flS_o1, va_up]
    unfold kS
    rw [if_neg e, if_neg e1, if_neg e, if_neg e1]
theorem kS_u0_14 {ad : Nat → Nat} {ca : Nat → ClassId} {f : wF} {a : wA} {b : wB} {x : Int32} : va_up (kS ad ca f a b) 0 (.inr (1, (flS_o0 ad f).set 14 (.int x))) = kS ad ca (va_up f 3 x) a b := by
  funext i
  by_cases e : i = 0
  · subst e
    rw [va_up_self]
    unfold kS
    simp [flS_o0, va_up]
  · rw [va_up_ne _ _ e]
    by_cases e1 : i = 1
    · subst e1
      unfold kS
      simp [flS_o1, va_up]
    unfold kS
    rw [if_neg e, if_neg e1, if_neg e, if_neg e1]
theorem kS_u0_15 {ad : Nat → Nat} {ca : Nat → ClassId} {f : wF} {a : wA} {b : wB} {x : Int32} : va_up (kS ad ca f a b) 0 (.inr (1, (flS_o0 ad f).set 15 (.int x))) = kS ad ca (va_up f 4 x) a b := by
  funext i
  by_cases e : i = 0
  · subst e
    rw [va_up_self]
    unfold kS
    simp [flS_o0, va_up]
  · rw [va_up_ne _ _ e]
    by_cases e1 : i = 1
    · subst e1
      unfold kS
      simp [flS_o1, va_up]
    unfold kS
    rw [if_neg e, if_neg e1, if_neg e, if_neg e1]
theorem kS_o1 {ad : Nat → Nat} {ca : Nat → ClassId} {f : wF} {a : wA} {b : wB} : kS ad ca f a b 1 = .inr (0, flS_o1 ad f) := rfl
theorem kS_u1_0 {ad : Nat → Nat} {ca : Nat → ClassId} {f : wF} {a : wA} {b : wB} {x : Int32} : va_up (kS ad ca f a b) 1 (.inr (0, (flS_o1 ad f).set 0 (.int x))) = kS ad ca (va_up f 5 x) a b := by
  funext i
  by_cases e : i = 1
  · subst e
    rw [va_up_self]
    unfold kS
    simp [flS_o1, va_up]
  · rw [va_up_ne _ _ e]
    by_cases e0 : i = 0
    · subst e0
      unfold kS
      simp [flS_o0, va_up]
    unfold kS
    rw [if_neg e0, if_neg e, if_neg e0, if_neg e]
theorem kS_u1_1 {ad : Nat → Nat} {ca : Nat → ClassId} {f : wF} {a : wA} {b : wB} {x : Int32} : va_up (kS ad ca f a b) 1 (.inr (0, (flS_o1 ad f).set 1 (.int x))) = kS ad ca (va_up f 6 x) a b := by
  funext i
  by_cases e : i = 1
  · subst e
    rw [va_up_self]
    unfold kS
    simp [flS_o1, va_up]
  · rw [va_up_ne _ _ e]
    by_cases e0 : i = 0
    · subst e0
      unfold kS
      simp [flS_o0, va_up]
    unfold kS
    rw [if_neg e0, if_neg e, if_neg e0, if_neg e]
theorem kS_c2 {ad : Nat → Nat} {ca : Nat → ClassId} {f : wF} {a : wA} {b : wB} : kS ad ca f a b 2 = .inl (ca 0, 12, .inl (a 2)) := kS_2 (j := 2) (by decide) (by decide) rfl
theorem kS_p2 {ad : Nat → Nat} {ca : Nat → ClassId} {f : wF} {a : wA} {b : wB} {g : Nat → Int32} : va_up (kS ad ca f a b) 2 (.inl (ca 0, 12, .inl g)) = kS ad ca f (va_up a 2 g) b := kS_up2 (j := 2) (by decide) (by decide) rfl
theorem kS_c3 {ad : Nat → Nat} {ca : Nat → ClassId} {f : wF} {a : wA} {b : wB} : kS ad ca f a b 3 = .inl (ca 1, 12, .inl (a 3)) := kS_3 (j := 3) (by decide) (by decide) rfl
theorem kS_p3 {ad : Nat → Nat} {ca : Nat → ClassId} {f : wF} {a : wA} {b : wB} {g : Nat → Int32} : va_up (kS ad ca f a b) 3 (.inl (ca 1, 12, .inl g)) = kS ad ca f (va_up a 3 g) b := kS_up3 (j := 3) (by decide) (by decide) rfl
theorem kS_c4 {ad : Nat → Nat} {ca : Nat → ClassId} {f : wF} {a : wA} {b : wB} : kS ad ca f a b 4 = .inl (ca 1, 12, .inl (a 4)) := kS_3 (j := 4) (by decide) (by decide) rfl
theorem kS_p4 {ad : Nat → Nat} {ca : Nat → ClassId} {f : wF} {a : wA} {b : wB} {g : Nat → Int32} : va_up (kS ad ca f a b) 4 (.inl (ca 1, 12, .inl g)) = kS ad ca f (va_up a 4 g) b := kS_up3 (j := 4) (by decide) (by decide) rfl
theorem kS_c5 {ad : Nat → Nat} {ca : Nat → ClassId} {f : wF} {a : wA} {b : wB} : kS ad ca f a b 5 = .inl (ca 0, 12, .inl (a 5)) := kS_2 (j := 5) (by decide) (by decide) rfl
theorem kS_p5 {ad : Nat → Nat} {ca : Nat → ClassId} {f : wF} {a : wA} {b : wB} {g : Nat → Int32} : va_up (kS ad ca f a b) 5 (.inl (ca 0, 12, .inl g)) = kS ad ca f (va_up a 5 g) b := kS_up2 (j := 5) (by decide) (by decide) rfl
theorem kS_c7 {ad : Nat → Nat} {ca : Nat → ClassId} {f : wF} {a : wA} {b : wB} : kS ad ca f a b 7 = .inl (ca 0, 6, .inl (a 7)) := kS_2 (j := 7) (by decide) (by decide) rfl
theorem kS_p7 {ad : Nat → Nat} {ca : Nat → ClassId} {f : wF} {a : wA} {b : wB} {g : Nat → Int32} : va_up (kS ad ca f a b) 7 (.inl (ca 0, 6, .inl g)) = kS ad ca f (va_up a 7 g) b := kS_up2 (j := 7) (by decide) (by decide) rfl
theorem kS_c8 {ad : Nat → Nat} {ca : Nat → ClassId} {f : wF} {a : wA} {b : wB} : kS ad ca f a b 8 = .inl (ca 1, 6, .inl (a 8)) := kS_3 (j := 8) (by decide) (by decide) rfl
theorem kS_p8 {ad : Nat → Nat} {ca : Nat → ClassId} {f : wF} {a : wA} {b : wB} {g : Nat → Int32} : va_up (kS ad ca f a b) 8 (.inl (ca 1, 6, .inl g)) = kS ad ca f (va_up a 8 g) b := kS_up3 (j := 8) (by decide) (by decide) rfl
theorem kS_c9 {ad : Nat → Nat} {ca : Nat → ClassId} {f : wF} {a : wA} {b : wB} : kS ad ca f a b 9 = .inl (ca 0, 10, .inl (a 9)) := kS_2 (j := 9) (by decide) (by decide) rfl
theorem kS_p9 {ad : Nat → Nat} {ca : Nat → ClassId} {f : wF} {a : wA} {b : wB} {g : Nat → Int32} : va_up (kS ad ca f a b) 9 (.inl (ca 0, 10, .inl g)) = kS ad ca f (va_up a 9 g) b := kS_up2 (j := 9) (by decide) (by decide) rfl
theorem kS_c10 {ad : Nat → Nat} {ca : Nat → ClassId} {f : wF} {a : wA} {b : wB} : kS ad ca f a b 10 = .inl (ca 0, 10, .inl (a 10)) := kS_2 (j := 10) (by decide) (by decide) rfl
theorem kS_p10 {ad : Nat → Nat} {ca : Nat → ClassId} {f : wF} {a : wA} {b : wB} {g : Nat → Int32} : va_up (kS ad ca f a b) 10 (.inl (ca 0, 10, .inl g)) = kS ad ca f (va_up a 10 g) b := kS_up2 (j := 10) (by decide) (by decide) rfl
theorem kS_c11 {ad : Nat → Nat} {ca : Nat → ClassId} {f : wF} {a : wA} {b : wB} : kS ad ca f a b 11 = .inl (ca 0, 10, .inl (a 11)) := kS_2 (j := 11) (by decide) (by decide) rfl
theorem kS_p11 {ad : Nat → Nat} {ca : Nat → ClassId} {f : wF} {a : wA} {b : wB} {g : Nat → Int32} : va_up (kS ad ca f a b) 11 (.inl (ca 0, 10, .inl g)) = kS ad ca f (va_up a 11 g) b := kS_up2 (j := 11) (by decide) (by decide) rfl
theorem kS_c12 {ad : Nat → Nat} {ca : Nat → ClassId} {f : wF} {a : wA} {b : wB} : kS ad ca f a b 12 = .inl (ca 0, 16, .inl (a 12)) := kS_2 (j := 12) (by decide) (by decide) rfl
theorem kS_p12 {ad : Nat → Nat} {ca : Nat → ClassId} {f : wF} {a : wA} {b : wB} {g : Nat → Int32} : va_up (kS ad ca f a b) 12 (.inl (ca 0, 16, .inl g)) = kS ad ca f (va_up a 12 g) b := kS_up2 (j := 12) (by decide) (by decide) rfl
theorem kS_c13 {ad : Nat → Nat} {ca : Nat → ClassId} {f : wF} {a : wA} {b : wB} : kS ad ca f a b 13 = .inl (ca 0, 10, .inl (a 13)) := kS_2 (j := 13) (by decide) (by decide) rfl
theorem kS_p13 {ad : Nat → Nat} {ca : Nat → ClassId} {f : wF} {a : wA} {b : wB} {g : Nat → Int32} : va_up (kS ad ca f a b) 13 (.inl (ca 0, 10, .inl g)) = kS ad ca f (va_up a 13 g) b := kS_up2 (j := 13) (by decide) (by decide) rfl
theorem kS_c16 {ad : Nat → Nat} {ca : Nat → ClassId} {f : wF} {a : wA} {b : wB} : kS ad ca f a b 16 = .inl (ca 0, 10, .inl (a 16)) := kS_2 (j := 16) (by decide) (by decide) rfl
theorem kS_p16 {ad : Nat → Nat} {ca : Nat → ClassId} {f : wF} {a : wA} {b : wB} {g : Nat → Int32} : va_up (kS ad ca f a b) 16 (.inl (ca 0, 10, .inl g)) = kS ad ca f (va_up a 16 g) b := kS_up2 (j := 16) (by decide) (by decide) rfl
theorem kS_c17 {ad : Nat → Nat} {ca : Nat → ClassId} {f : wF} {a : wA} {b : wB} : kS ad ca f a b 17 = .inl (ca 0, 12, .inl (a 17)) := kS_2 (j := 17) (by decide) (by decide) rfl
theorem kS_p17 {ad : Nat → Nat} {ca : Nat → ClassId} {f : wF} {a : wA} {b : wB} {g : Nat → Int32} : va_up (kS ad ca f a b) 17 (.inl (ca 0, 12, .inl g)) = kS ad ca f (va_up a 17 g) b := kS_up2 (j := 17) (by decide) (by decide) rfl
theorem kS_c18 {ad : Nat → Nat} {ca : Nat → ClassId} {f : wF} {a : wA} {b : wB} : kS ad ca f a b 18 = .inl (ca 0, 10, .inl (a 18)) := kS_2 (j := 18) (by decide) (by decide) rfl
theorem kS_p18 {ad : Nat → Nat} {ca : Nat → ClassId} {f : wF} {a : wA} {b : wB} {g : Nat → Int32} : va_up (kS ad ca f a b) 18 (.inl (ca 0, 10, .inl g)) = kS ad ca f (va_up a 18 g) b := kS_up2 (j := 18) (by decide) (by decide) rfl
theorem kS_c19 {ad : Nat → Nat} {ca : Nat → ClassId} {f : wF} {a : wA} {b : wB} : kS ad ca f a b 19 = .inl (ca 1, 10, .inl (a 19)) := kS_3 (j := 19) (by decide) (by decide) rfl
theorem kS_p19 {ad : Nat → Nat} {ca : Nat → ClassId} {f : wF} {a : wA} {b : wB} {g : Nat → Int32} : va_up (kS ad ca f a b) 19 (.inl (ca 1, 10, .inl g)) = kS ad ca f (va_up a 19 g) b := kS_up3 (j := 19) (by decide) (by decide) rfl
theorem kS_c20 {ad : Nat → Nat} {ca : Nat → ClassId} {f : wF} {a : wA} {b : wB} : kS ad ca f a b 20 = .inl (ca 2, 10, .inr (.inl (b 20))) := kS_4 (j := 20) (by decide) (by decide) rfl
theorem kS_p20 {ad : Nat → Nat} {ca : Nat → ClassId} {f : wF} {a : wA} {b : wB} {g : Nat → Int64} : va_up (kS ad ca f a b) 20 (.inl (ca 2, 10, .inr (.inl g))) = kS ad ca f a (va_up b 20 g) := kS_up4 (j := 20) (by decide) (by decide) rfl
theorem kS_c21 {ad : Nat → Nat} {ca : Nat → ClassId} {f : wF} {a : wA} {b : wB} : kS ad ca f a b 21 = .inl (ca 2, 10, .inr (.inl (b 21))) := kS_4 (j := 21) (by decide) (by decide) rfl
theorem kS_p21 {ad : Nat → Nat} {ca : Nat → ClassId} {f : wF} {a : wA} {b : wB} {g : Nat → Int64} : va_up (kS ad ca f a b) 21 (.inl (ca 2, 10, .inr (.inl g))) = kS ad ca f a (va_up b 21 g) := kS_up4 (j := 21) (by decide) (by decide) rfl
theorem kS_c22 {ad : Nat → Nat} {ca : Nat → ClassId} {f : wF} {a : wA} {b : wB} : kS ad ca f a b 22 = .inl (ca 0, 12, .inl (a 22)) := kS_2 (j := 22) (by decide) (by decide) rfl
theorem kS_p22 {ad : Nat → Nat} {ca : Nat → ClassId} {f : wF} {a : wA} {b : wB} {g : Nat → Int32} : va_up (kS ad ca f a b) 22 (.inl (ca 0, 12, .inl g)) = kS ad ca f (va_up a 22 g) b := kS_up2 (j := 22) (by decide) (by decide) rfl
theorem kS_c23 {ad : Nat → Nat} {ca : Nat → ClassId} {f : wF} {a : wA} {b : wB} : kS ad ca f a b 23 = .inl (ca 2, 12, .inr (.inl (b 23))) := kS_4 (j := 23) (by decide) (by decide) rfl
theorem kS_p23 {ad : Nat → Nat} {ca : Nat → ClassId} {f : wF} {a : wA} {b : wB} {g : Nat → Int64} : va_up (kS ad ca f a b) 23 (.inl (ca 2, 12, .inr (.inl g))) = kS ad ca f a (va_up b 23 g) := kS_up4 (j := 23) (by decide) (by decide) rfl
theorem kS_c24 {ad : Nat → Nat} {ca : Nat → ClassId} {f : wF} {a : wA} {b : wB} : kS ad ca f a b 24 = .inl (ca 2, 12, .inr (.inl (b 24))) := kS_4 (j := 24) (by decide) (by decide) rfl
theorem kS_p24 {ad : Nat → Nat} {ca : Nat → ClassId} {f : wF} {a : wA} {b : wB} {g : Nat → Int64} : va_up (kS ad ca f a b) 24 (.inl (ca 2, 12, .inr (.inl g))) = kS ad ca f a (va_up b 24 g) := kS_up4 (j := 24) (by decide) (by decide) rfl
theorem kS_c6 {ad : Nat → Nat} {ca : Nat → ClassId} {f : wF} {a : wA} {b : wB} : kS ad ca f a b 6 = .inl (ca 3, 12, .inr (.inr (.inr (.inr (fun i => if i < 12 then some (ad (25 + i)) else none))))) := rfl
theorem rS_secondsOf_k : ∀ r, r < 12 → kdS (25 + r) = 2 ∧ lnS (25 + r) = 6 ∧ 25 + r < 57 := by decide
theorem rS_secondsOf_lt {i : Int32} (h : vp_in i 12) : 25 + i.toNatClampNeg < nS := (rS_secondsOf_k _ (vpin_lt h)).2.2
theorem kS_r_secondsOf {ad : Nat → Nat} {ca : Nat → ClassId} {f : wF} {a : wA} {b : wB} {i : Int32} (h : vp_in i 12) : kS ad ca f a b (25 + i.toNatClampNeg) = .inl (ca 0, 6, .inl (a (25 + i.toNatClampNeg))) := by
  obtain ⟨h1, h2, h3⟩ := rS_secondsOf_k _ (vpin_lt h)
  rw [kS_2 (j := 25 + i.toNatClampNeg) (by omega) (by omega) h1, h2]
theorem kS_q_secondsOf {ad : Nat → Nat} {ca : Nat → ClassId} {f : wF} {a : wA} {b : wB} {i : Int32} {g : Nat → Int32} (h : vp_in i 12) : va_up (kS ad ca f a b) (25 + i.toNatClampNeg) (.inl (ca 0, 6, .inl g)) = kS ad ca f (va_up a (25 + i.toNatClampNeg) g) b := by
  obtain ⟨h1, h2, h3⟩ := rS_secondsOf_k _ (vpin_lt h)
  rw [← kS_up2 (j := 25 + i.toNatClampNeg) (g := g) (by omega) (by omega) h1, h2]
theorem kS_c14 {ad : Nat → Nat} {ca : Nat → ClassId} {f : wF} {a : wA} {b : wB} : kS ad ca f a b 14 = .inl (ca 4, 10, .inr (.inr (.inr (.inr (fun i => if i < 10 then some (ad (37 + i)) else none))))) := rfl
theorem rS_cost_k : ∀ r, r < 10 → kdS (37 + r) = 4 ∧ lnS (37 + r) = 12 ∧ 37 + r < 57 := by decide
theorem rS_cost_lt {i : Int32} (h : vp_in i 10) : 37 + i.toNatClampNeg < nS := (rS_cost_k _ (vpin_lt h)).2.2
theorem kS_r_cost {ad : Nat → Nat} {ca : Nat → ClassId} {f : wF} {a : wA} {b : wB} {i : Int32} (h : vp_in i 10) : kS ad ca f a b (37 + i.toNatClampNeg) = .inl (ca 2, 12, .inr (.inl (b (37 + i.toNatClampNeg)))) := by
  obtain ⟨h1, h2, h3⟩ := rS_cost_k _ (vpin_lt h)
  rw [kS_4 (j := 37 + i.toNatClampNeg) (by omega) (by omega) h1, h2]
theorem kS_q_cost {ad : Nat → Nat} {ca : Nat → ClassId} {f : wF} {a : wA} {b : wB} {i : Int32} {g : Nat → Int64} (h : vp_in i 10) : va_up (kS ad ca f a b) (37 + i.toNatClampNeg) (.inl (ca 2, 12, .inr (.inl g))) = kS ad ca f a (va_up b (37 + i.toNatClampNeg) g) := by
  obtain ⟨h1, h2, h3⟩ := rS_cost_k _ (vpin_lt h)
  rw [← kS_up4 (j := 37 + i.toNatClampNeg) (g := g) (by omega) (by omega) h1, h2]
theorem kS_c15 {ad : Nat → Nat} {ca : Nat → ClassId} {f : wF} {a : wA} {b : wB} : kS ad ca f a b 15 = .inl (ca 4, 10, .inr (.inr (.inr (.inr (fun i => if i < 10 then some (ad (47 + i)) else none))))) := rfl
theorem rS_tie_k : ∀ r, r < 10 → kdS (47 + r) = 4 ∧ lnS (47 + r) = 12 ∧ 47 + r < 57 := by decide
theorem rS_tie_lt {i : Int32} (h : vp_in i 10) : 47 + i.toNatClampNeg < nS := (rS_tie_k _ (vpin_lt h)).2.2
theorem kS_r_tie {ad : Nat → Nat} {ca : Nat → ClassId} {f : wF} {a : wA} {b : wB} {i : Int32} (h : vp_in i 10) : kS ad ca f a b (47 + i.toNatClampNeg) = .inl (ca 2, 12, .inr (.inl (b (47 + i.toNatClampNeg)))) := by
  obtain ⟨h1, h2, h3⟩ := rS_tie_k _ (vpin_lt h)
  rw [kS_4 (j := 47 + i.toNatClampNeg) (by omega) (by omega) h1, h2]
theorem kS_q_tie {ad : Nat → Nat} {ca : Nat → ClassId} {f : wF} {a : wA} {b : wB} {i : Int32} {g : Nat → Int64} (h : vp_in i 10) : va_up (kS ad ca f a b) (47 + i.toNatClampNeg) (.inl (ca 2, 12, .inr (.inl g))) = kS ad ca f a (va_up b (47 + i.toNatClampNeg) g) := by
  obtain ⟨h1, h2, h3⟩ := rS_tie_k _ (vpin_lt h)
  rw [← kS_up4 (j := 47 + i.toNatClampNeg) (g := g) (by omega) (by omega) h1, h2]
abbrev nM : Nat := 13
def kdM (j : Nat) : Nat := ([0, 2, 3, 2, 2, 3, 2, 2, 2, 3, 2, 2, 4] : List Nat).getD j 9
def lnM (j : Nat) : Nat := ([0, 12, 12, 72, 6, 6, 10, 10, 10, 10, 16, 10, 45056] : List Nat).getD j 0
def rbM (j : Nat) : Nat := ([0, 0, 0, 0, 0, 0, 0, 0, 0, 0, 0, 0, 0] : List Nat).getD j 0
def tyM (ca : Nat → ClassId) : List (ClassId × FieldType) := [(ca 0, .int), (ca 1, .boolean), (ca 2, .long), (ca 3, .array .int), (ca 4, .array .long)]
def flM_o0 (ad : Nat → Nat) (f : wF) : List Value := [.int (f 0), .int (f 1), .ref (ad 1), .ref (ad 2), .ref (ad 3), .int (f 2), .ref (ad 4), .ref (ad 5), .int (f 3), .ref (ad 6), .ref (ad 7), .ref (ad 8), .ref (ad 9), .ref (ad 10), .int (f 4), .int (f 5), .ref (ad 11), .int (f 6), .ref (ad 12)]
def kM : wL := fun ad ca f a b j => if j = 0 then .inr (2, flM_o0 ad f) else match kdM j with | 2 => .inl (ca 0, lnM j, .inl (a j)) | 3 => .inl (ca 1, lnM j, .inl (a j)) | 4 => .inl (ca 2, lnM j, .inr (.inl (b j))) | 5 => .inl (ca 3, lnM j, .inr (.inr (.inr (.inr (fun i => if i < lnM j then some (ad (rbM j + i)) else none))))) | _ => .inl (ca 4, lnM j, .inr (.inr (.inr (.inr (fun i => if i < lnM j then some (ad (rbM j + i)) else none)))))
theorem kM_2 {ad : Nat → Nat} {ca : Nat → ClassId} {f : wF} {a : wA} {b : wB} {j : Nat} (h0 : j ≠ 0) (h : kdM j = 2) : kM ad ca f a b j = .inl (ca 0, lnM j, .inl (a j)) := by
  unfold kM
  rw [if_neg h0, h]
  rfl
theorem kM_3 {ad : Nat → Nat} {ca : Nat → ClassId} {f : wF} {a : wA} {b : wB} {j : Nat} (h0 : j ≠ 0) (h : kdM j = 3) : kM ad ca f a b j = .inl (ca 1, lnM j, .inl (a j)) := by
  unfold kM
  rw [if_neg h0, h]
  rfl
theorem kM_4 {ad : Nat → Nat} {ca : Nat → ClassId} {f : wF} {a : wA} {b : wB} {j : Nat} (h0 : j ≠ 0) (h : kdM j = 4) : kM ad ca f a b j = .inl (ca 2, lnM j, .inr (.inl (b j))) := by
  unfold kM
  rw [if_neg h0, h]
  rfl
theorem kM_up2 {ad : Nat → Nat} {ca : Nat → ClassId} {f : wF} {a : wA} {b : wB} {j : Nat} {g : Nat → Int32} (h0 : j ≠ 0) (h : kdM j = 2) : va_up (kM ad ca f a b) j (.inl (ca 0, lnM j, .inl g)) = kM ad ca f (va_up a j g) b := by
  funext i
  by_cases e : i = j
  · subst e
    rw [va_up_self, kM_2 h0 h, va_up_self]
  · rw [va_up_ne _ _ e]
    unfold kM
    rw [va_up_ne _ _ e]
theorem kM_up3 {ad : Nat → Nat} {ca : Nat → ClassId} {f : wF} {a : wA} {b : wB} {j : Nat} {g : Nat → Int32} (h0 : j ≠ 0) (h : kdM j = 3) : va_up (kM ad ca f a b) j (.inl (ca 1, lnM j, .inl g)) = kM ad ca f (va_up a j g) b := by
  funext i
  by_cases e : i = j
  · subst e
    rw [va_up_self, kM_3 h0 h, va_up_self]
  · rw [va_up_ne _ _ e]
    unfold kM
    rw [va_up_ne _ _ e]
theorem kM_up4 {ad : Nat → Nat} {ca : Nat → ClassId} {f : wF} {a : wA} {b : wB} {j : Nat} {g : Nat → Int64} (h0 : j ≠ 0) (h : kdM j = 4) : va_up (kM ad ca f a b) j (.inl (ca 2, lnM j, .inr (.inl g))) = kM ad ca f a (va_up b j g) := by
  funext i
  by_cases e : i = j
  · subst e
    rw [va_up_self, kM_4 h0 h, va_up_self]
  · rw [va_up_ne _ _ e]
    unfold kM
    rw [va_up_ne _ _ e]
theorem kM_o0 {ad : Nat → Nat} {ca : Nat → ClassId} {f : wF} {a : wA} {b : wB} : kM ad ca f a b 0 = .inr (2, flM_o0 ad f) := rfl
theorem kM_u0_0 {ad : Nat → Nat} {ca : Nat → ClassId} {f : wF} {a : wA} {b : wB} {x : Int32} : va_up (kM ad ca f a b) 0 (.inr (2, (flM_o0 ad f).set 0 (.int x))) = kM ad ca (va_up f 0 x) a b := by
  funext i
  by_cases e : i = 0
  · subst e
    rw [va_up_self]
    unfold kM
    simp [flM_o0, va_up]
  · rw [va_up_ne _ _ e]
    unfold kM
    rw [if_neg e, if_neg e]
theorem kM_u0_1 {ad : Nat → Nat} {ca : Nat → ClassId} {f : wF} {a : wA} {b : wB} {x : Int32} : va_up (kM ad ca f a b) 0 (.inr (2, (flM_o0 ad f).set 1 (.int x))) = kM ad ca (va_up f 1 x) a b := by
  funext i
  by_cases e : i = 0
  · subst e
    rw [va_up_self]
    unfold kM
    simp [flM_o0, va_up]
  · rw [va_up_ne _ _ e]
    unfold kM
    rw [if_neg e, if_neg e]
theorem kM_u0_5 {ad : Nat → Nat} {ca : Nat → ClassId} {f : wF} {a : wA} {b : wB} {x : Int32} : va_up (kM ad ca f a b) 0 (.inr (2, (flM_o0 ad f).set 5 (.int x))) = kM ad ca (va_up f 2 x) a b := by
  funext i
  by_cases e : i = 0
  · subst e
    rw [va_up_self]
    unfold kM
    simp [flM_o0, va_up]
  · rw [va_up_ne _ _ e]
    unfold kM
    rw [if_neg e, if_neg e]
theorem kM_u0_8 {ad : Nat → Nat} {ca : Nat → ClassId} {f : wF} {a : wA} {b : wB} {x : Int32} : va_up (kM ad ca f a b) 0 (.inr (2, (flM_o0 ad f).set 8 (.int x))) = kM ad ca (va_up f 3 x) a b := by
  funext i
  by_cases e : i = 0
  · subst e
    rw [va_up_self]
    unfold kM
    simp [flM_o0, va_up]
  · rw [va_up_ne _ _ e]
    unfold kM
    rw [if_neg e, if_neg e]
theorem kM_u0_14 {ad : Nat → Nat} {ca : Nat → ClassId} {f : wF} {a : wA} {b : wB} {x : Int32} : va_up (kM ad ca f a b) 0 (.inr (2, (flM_o0 ad f).set 14 (.int x))) = kM ad ca (va_up f 4 x) a b := by
  funext i
  by_cases e : i = 0
  · subst e
    rw [va_up_self]
    unfold kM
    simp [flM_o0, va_up]
  · rw [va_up_ne _ _ e]
    unfold kM
    rw [if_neg e, if_neg e]
theorem kM_u0_15 {ad : Nat → Nat} {ca : Nat → ClassId} {f : wF} {a : wA} {b : wB} {x : Int32} : va_up (kM ad ca f a b) 0 (.inr (2, (flM_o0 ad f).set 15 (.int x))) = kM ad ca (va_up f 5 x) a b := by
  funext i
  by_cases e : i = 0
  · subst e
    rw [va_up_self]
    unfold kM
    simp [flM_o0, va_up]
  · rw [va_up_ne _ _ e]
    unfold kM
    rw [if_neg e, if_neg e]
theorem kM_u0_17 {ad : Nat → Nat} {ca : Nat → ClassId} {f : wF} {a : wA} {b : wB} {x : Int32} : va_up (kM ad ca f a b) 0 (.inr (2, (flM_o0 ad f).set 17 (.int x))) = kM ad ca (va_up f 6 x) a b := by
  funext i
  by_cases e : i = 0
  · subst e
    rw [va_up_self]
    unfold kM
    simp [flM_o0, va_up]
  · rw [va_up_ne _ _ e]
    unfold kM
    rw [if_neg e, if_neg e]
theorem kM_c1 {ad : Nat → Nat} {ca : Nat → ClassId} {f : wF} {a : wA} {b : wB} : kM ad ca f a b 1 = .inl (ca 0, 12, .inl (a 1)) := kM_2 (j := 1) (by decide) rfl
theorem kM_p1 {ad : Nat → Nat} {ca : Nat → ClassId} {f : wF} {a : wA} {b : wB} {g : Nat → Int32} : va_up (kM ad ca f a b) 1 (.inl (ca 0, 12, .inl g)) = kM ad ca f (va_up a 1 g) b := kM_up2 (j := 1) (by decide) rfl
theorem kM_c2 {ad : Nat → Nat} {ca : Nat → ClassId} {f : wF} {a : wA} {b : wB} : kM ad ca f a b 2 = .inl (ca 1, 12, .inl (a 2)) := kM_3 (j := 2) (by decide) rfl
theorem kM_p2 {ad : Nat → Nat} {ca : Nat → ClassId} {f : wF} {a : wA} {b : wB} {g : Nat → Int32} : va_up (kM ad ca f a b) 2 (.inl (ca 1, 12, .inl g)) = kM ad ca f (va_up a 2 g) b := kM_up3 (j := 2) (by decide) rfl
theorem kM_c3 {ad : Nat → Nat} {ca : Nat → ClassId} {f : wF} {a : wA} {b : wB} : kM ad ca f a b 3 = .inl (ca 0, 72, .inl (a 3)) := kM_2 (j := 3) (by decide) rfl
theorem kM_p3 {ad : Nat → Nat} {ca : Nat → ClassId} {f : wF} {a : wA} {b : wB} {g : Nat → Int32} : va_up (kM ad ca f a b) 3 (.inl (ca 0, 72, .inl g)) = kM ad ca f (va_up a 3 g) b := kM_up2 (j := 3) (by decide) rfl
theorem kM_c4 {ad : Nat → Nat} {ca : Nat → ClassId} {f : wF} {a : wA} {b : wB} : kM ad ca f a b 4 = .inl (ca 0, 6, .inl (a 4)) := kM_2 (j := 4) (by decide) rfl
theorem kM_p4 {ad : Nat → Nat} {ca : Nat → ClassId} {f : wF} {a : wA} {b : wB} {g : Nat → Int32} : va_up (kM ad ca f a b) 4 (.inl (ca 0, 6, .inl g)) = kM ad ca f (va_up a 4 g) b := kM_up2 (j := 4) (by decide) rfl
theorem kM_c5 {ad : Nat → Nat} {ca : Nat → ClassId} {f : wF} {a : wA} {b : wB} : kM ad ca f a b 5 = .inl (ca 1, 6, .inl (a 5)) := kM_3 (j := 5) (by decide) rfl
theorem kM_p5 {ad : Nat → Nat} {ca : Nat → ClassId} {f : wF} {a : wA} {b : wB} {g : Nat → Int32} : va_up (kM ad ca f a b) 5 (.inl (ca 1, 6, .inl g)) = kM ad ca f (va_up a 5 g) b := kM_up3 (j := 5) (by decide) rfl
theorem kM_c6 {ad : Nat → Nat} {ca : Nat → ClassId} {f : wF} {a : wA} {b : wB} : kM ad ca f a b 6 = .inl (ca 0, 10, .inl (a 6)) := kM_2 (j := 6) (by decide) rfl
theorem kM_p6 {ad : Nat → Nat} {ca : Nat → ClassId} {f : wF} {a : wA} {b : wB} {g : Nat → Int32} : va_up (kM ad ca f a b) 6 (.inl (ca 0, 10, .inl g)) = kM ad ca f (va_up a 6 g) b := kM_up2 (j := 6) (by decide) rfl
theorem kM_c7 {ad : Nat → Nat} {ca : Nat → ClassId} {f : wF} {a : wA} {b : wB} : kM ad ca f a b 7 = .inl (ca 0, 10, .inl (a 7)) := kM_2 (j := 7) (by decide) rfl
theorem kM_p7 {ad : Nat → Nat} {ca : Nat → ClassId} {f : wF} {a : wA} {b : wB} {g : Nat → Int32} : va_up (kM ad ca f a b) 7 (.inl (ca 0, 10, .inl g)) = kM ad ca f (va_up a 7 g) b := kM_up2 (j := 7) (by decide) rfl
theorem kM_c8 {ad : Nat → Nat} {ca : Nat → ClassId} {f : wF} {a : wA} {b : wB} : kM ad ca f a b 8 = .inl (ca 0, 10, .inl (a 8)) := kM_2 (j := 8) (by decide) rfl
theorem kM_p8 {ad : Nat → Nat} {ca : Nat → ClassId} {f : wF} {a : wA} {b : wB} {g : Nat → Int32} : va_up (kM ad ca f a b) 8 (.inl (ca 0, 10, .inl g)) = kM ad ca f (va_up a 8 g) b := kM_up2 (j := 8) (by decide) rfl
theorem kM_c9 {ad : Nat → Nat} {ca : Nat → ClassId} {f : wF} {a : wA} {b : wB} : kM ad ca f a b 9 = .inl (ca 1, 10, .inl (a 9)) := kM_3 (j := 9) (by decide) rfl
theorem kM_p9 {ad : Nat → Nat} {ca : Nat → ClassId} {f : wF} {a : wA} {b : wB} {g : Nat → Int32} : va_up (kM ad ca f a b) 9 (.inl (ca 1, 10, .inl g)) = kM ad ca f (va_up a 9 g) b := kM_up3 (j := 9) (by decide) rfl
theorem kM_c10 {ad : Nat → Nat} {ca : Nat → ClassId} {f : wF} {a : wA} {b : wB} : kM ad ca f a b 10 = .inl (ca 0, 16, .inl (a 10)) := kM_2 (j := 10) (by decide) rfl
theorem kM_p10 {ad : Nat → Nat} {ca : Nat → ClassId} {f : wF} {a : wA} {b : wB} {g : Nat → Int32} : va_up (kM ad ca f a b) 10 (.inl (ca 0, 16, .inl g)) = kM ad ca f (va_up a 10 g) b := kM_up2 (j := 10) (by decide) rfl
theorem kM_c11 {ad : Nat → Nat} {ca : Nat → ClassId} {f : wF} {a : wA} {b : wB} : kM ad ca f a b 11 = .inl (ca 0, 10, .inl (a 11)) := kM_2 (j := 11) (by decide) rfl
theorem kM_p11 {ad : Nat → Nat} {ca : Nat → ClassId} {f : wF} {a : wA} {b : wB} {g : Nat → Int32} : va_up (kM ad ca f a b) 11 (.inl (ca 0, 10, .inl g)) = kM ad ca f (va_up a 11 g) b := kM_up2 (j := 11) (by decide) rfl
theorem kM_c12 {ad : Nat → Nat} {ca : Nat → ClassId} {f : wF} {a : wA} {b : wB} : kM ad ca f a b 12 = .inl (ca 2, 45056, .inr (.inl (b 12))) := kM_4 (j := 12) (by decide) rfl
theorem kM_p12 {ad : Nat → Nat} {ca : Nat → ClassId} {f : wF} {a : wA} {b : wB} {g : Nat → Int64} : va_up (kM ad ca f a b) 12 (.inl (ca 2, 45056, .inr (.inl g))) = kM ad ca f a (va_up b 12 g) := kM_up4 (j := 12) (by decide) rfl
abbrev tS_o0 : Nat → FieldType := ftS
theorem tS_o0_ok : ∀ k, k < 17 → parseFieldDescriptor (TS k).2.2.1 = some (tS_o0 k) := ftS_ok
theorem nS_o0 : ∀ a, a < 17 → ∀ b, b < 17 → a ≠ b → (TS a).2.1 ≠ (TS b).2.1 := nmS
theorem inS_o0 : ∀ w ∈ u_ws "SendBest" TS 17, w ∈ Wl := inS
abbrev tS_o1 : Nat → FieldType := ftP
theorem tS_o1_ok : ∀ k, k < 14 → parseFieldDescriptor (TP k).2.2.1 = some (tS_o1 k) := ftP_ok
theorem nS_o1 : ∀ a, a < 14 → ∀ b, b < 14 → a ≠ b → (TP a).2.1 ≠ (TP b).2.1 := nmP
theorem inS_o1 : ∀ w ∈ u_ws "SendBest$Pairing" TP 14, w ∈ Wl := inP
abbrev tM_o0 : Nat → FieldType := ftM
theorem tM_o0_ok : ∀ k, k < 19 → parseFieldDescriptor (TM k).2.2.1 = some (tM_o0 k) := ftM_ok
theorem nM_o0 : ∀ a, a < 19 → ∀ b, b < 19 → a ≠ b → (TM a).2.1 ≠ (TM b).2.1 := nmM
theorem inM_o0 : ∀ w ∈ u_ws "SendBestModel" TM 19, w ∈ Wl := inM
def txS : List (String × Nat × String) := [("SendBest", 69, "skills have bits 0 to 15"), ("SendBest", 79, "no room for a unit"), ("SendBest", 197, "a rank is 1 to 9"), ("SendBest", 89, "no room for an incident"), ("SendBest", 191, "no such incident"), ("SendBest", 202, "the incident is closed"), ("SendBest", 195, "no such skill"), ("SendBest", 100, "so many needs are 0 to 10"), ("SendBest", 105, "no room for the needs"), ("SendBest", 189, "no such unit"), ("SendBest", 200, "seconds are 0 to 99999, or -1 for none"), ("SendBest", 115, "a reserve\'s rank is 1 to 10"), ("SendBest", 113, "a reserve has 0 to 12 units"), ("SendBest", 119, "the unit is so"), ("SendBest", 126, "saved seconds are 0 to 1000000"), ("SendBest", 204, "the unit fills no need"), ("SendBest", 193, "no such need"), ("SendBest", 166, "of a need 0 to 3 can be asked"), ("SendBest", 169, "there are the sums 0 and 1"), ("SendBest", 184, "needs are counted from 0 on")]
def txM : List (String × Nat × String) := []
theorem xg_S_71 : ∀ w ∈ (vx_atS "SendBest" 71 "java/lang/IndexOutOfBoundsException" ["java/lang/RuntimeException", "java/lang/Exception"]).filter goodWord, w ∈ Wl := fun w h => List.mem_filter.mpr ⟨(by decide +kernel : ∀ w ∈ (vx_atS "SendBest" 71 "java/lang/IndexOutOfBoundsException" ["java/lang/RuntimeException", "java/lang/Exception"]).filter goodWord, w ∈ lw_tbl) w h, (List.mem_filter.mp h).2⟩
theorem xb_S_71 : ∀ w ∈ (vx_atS "SendBest" 71 "java/lang/IndexOutOfBoundsException" ["java/lang/RuntimeException", "java/lang/Exception"]).filter (fun w => !goodWord w), w ∈ thC ++ thD := by decide +kernel
theorem xo_S_71_67 : ∀ w ∈ Cond.classLink "SendBest" 67 "java/lang/IndexOutOfBoundsException" :: Cond.initialized "java/lang/IndexOutOfBoundsException" :: vx_atS "SendBest" 71 "java/lang/IndexOutOfBoundsException" ["java/lang/RuntimeException", "java/lang/Exception"], vx_ot w = true := by decide +kernel
theorem xg_S_81 : ∀ w ∈ (vx_atS "SendBest" 81 "java/lang/UnsupportedOperationException" ["java/lang/RuntimeException", "java/lang/Exception"]).filter goodWord, w ∈ Wl := fun w h => List.mem_filter.mpr ⟨(by decide +kernel : ∀ w ∈ (vx_atS "SendBest" 81 "java/lang/UnsupportedOperationException" ["java/lang/RuntimeException", "java/lang/Exception"]).filter goodWord, w ∈ lw_tbl) w h, (List.mem_filter.mp h).2⟩
theorem xb_S_81 : ∀ w ∈ (vx_atS "SendBest" 81 "java/lang/UnsupportedOperationException" ["java/lang/RuntimeException", "java/lang/Exception"]).filter (fun w => !goodWord w), w ∈ thC ++ thD := by decide +kernel
theorem xo_S_81_77 : ∀ w ∈ Cond.classLink "SendBest" 77 "java/lang/UnsupportedOperationException" :: Cond.initialized "java/lang/UnsupportedOperationException" :: vx_atS "SendBest" 81 "java/lang/UnsupportedOperationException" ["java/lang/RuntimeException", "java/lang/Exception"], vx_ot w = true := by decide +kernel
theorem xg_S_168 : ∀ w ∈ (vx_atS "SendBest" 168 "java/lang/IllegalArgumentException" ["java/lang/RuntimeException", "java/lang/Exception"]).filter goodWord, w ∈ Wl := fun w h => List.mem_filter.mpr ⟨(by decide +kernel : ∀ w ∈ (vx_atS "SendBest" 168 "java/lang/IllegalArgumentException" ["java/lang/RuntimeException", "java/lang/Exception"]).filter goodWord, w ∈ lw_tbl) w h, (List.mem_filter.mp h).2⟩
theorem xb_S_168 : ∀ w ∈ (vx_atS "SendBest" 168 "java/lang/IllegalArgumentException" ["java/lang/RuntimeException", "java/lang/Exception"]).filter (fun w => !goodWord w), w ∈ thC ++ thD := by decide +kernel
theorem xo_S_168_164 : ∀ w ∈ Cond.classLink "SendBest" 164 "java/lang/IllegalArgumentException" :: Cond.initialized "java/lang/IllegalArgumentException" :: vx_atS "SendBest" 168 "java/lang/IllegalArgumentException" ["java/lang/RuntimeException", "java/lang/Exception"], vx_ot w = true := by decide +kernel
theorem xg_S_121 : ∀ w ∈ (vx_atS "SendBest" 121 "java/lang/IllegalStateException" ["java/lang/RuntimeException", "java/lang/Exception"]).filter goodWord, w ∈ Wl := fun w h => List.mem_filter.mpr ⟨(by decide +kernel : ∀ w ∈ (vx_atS "SendBest" 121 "java/lang/IllegalStateException" ["java/lang/RuntimeException", "java/lang/Exception"]).filter goodWord, w ∈ lw_tbl) w h, (List.mem_filter.mp h).2⟩
theorem xb_S_121 : ∀ w ∈ (vx_atS "SendBest" 121 "java/lang/IllegalStateException" ["java/lang/RuntimeException", "java/lang/Exception"]).filter (fun w => !goodWord w), w ∈ thC ++ thD := by decide +kernel
theorem xo_S_121_117 : ∀ w ∈ Cond.classLink "SendBest" 117 "java/lang/IllegalStateException" :: Cond.initialized "java/lang/IllegalStateException" :: vx_atS "SendBest" 121 "java/lang/IllegalStateException" ["java/lang/RuntimeException", "java/lang/Exception"], vx_ot w = true := by decide +kernel
end
section
def wp_S_unit_10 (po : Int32 → wF → wA → wB → Prop) (px : String → wF → wA → wB → Prop)  (f : wF) (a : wA) (b : wB) : Prop := px "java/lang/IndexOutOfBoundsException" f a b
def wp_S_unit (po : Int32 → wF → wA → wB → Prop) (px : String → wF → wA → wB → Prop) (x1 : Int32) (f : wF) (a : wA) (b : wB) : Prop := (x1 < 0 → (wp_S_unit_10 po px f a b)) ∧ (¬ x1 < 0 → ((x1 < (65536 : Int32) → (((f 0) < (12 : Int32) → (vp_in (f 0) 12 ∧ (po (((va_up f 0 ((f 0) + (1 : Int32))) 0) - (1 : Int32)) (va_up f 0 ((f 0) + (1 : Int32))) (va_up a 2 (upd (a 2) (f 0).toNatClampNeg x1)) b))) ∧ (¬ (f 0) < (12 : Int32) → (px "java/lang/UnsupportedOperationException" f a b)))) ∧ (¬ x1 < (65536 : Int32) → (wp_S_unit_10 po px f a b))))
def wp_S_checkRank_11 (po : wF → wA → wB → Prop) (px : String → wF → wA → wB → Prop)  (f : wF) (a : wA) (b : wB) : Prop := px "java/lang/IndexOutOfBoundsException" f a b
def wp_S_checkRank (po : wF → wA → wB → Prop) (px : String → wF → wA → wB → Prop) (x0 : Int32) (f : wF) (a : wA) (b : wB) : Prop := (x0 < (1 : Int32) → (wp_S_checkRank_11 po px f a b)) ∧ (¬ x0 < (1 : Int32) → ((x0 ≤ (9 : Int32) → (po f a b)) ∧ (¬ x0 ≤ (9 : Int32) → (wp_S_checkRank_11 po px f a b))))
def wp_S_incident (po : Int32 → wF → wA → wB → Prop) (px : String → wF → wA → wB → Prop) (x1 : Int32) (f : wF) (a : wA) (b : wB) : Prop := wp_S_checkRank (fun f1 a1 b1 => ((f1 1) < (6 : Int32) → (vp_in (f1 1) 6 ∧ vp_in (f1 1) 6 ∧ (po (((va_up f1 1 ((f1 1) + (1 : Int32))) 1) - (1 : Int32)) (va_up f1 1 ((f1 1) + (1 : Int32))) (va_up (va_up a1 7 (upd (a1 7) (f1 1).toNatClampNeg x1)) 8 (upd ((va_up a1 7 (upd (a1 7) (f1 1).toNatClampNeg x1)) 8) (f1 1).toNatClampNeg (vp_nar .boolean (1 : Int32)))) b1))) ∧ (¬ (f1 1) < (6 : Int32) → (px "java/lang/UnsupportedOperationException" f1 a1 b1))) px x1 f a b
def wp_S_checkIncident_12 (po : wF → wA → wB → Prop) (px : String → wF → wA → wB → Prop)  (f : wF) (a : wA) (b : wB) : Prop := px "java/lang/IllegalArgumentException" f a b
def wp_S_checkIncident (po : wF → wA → wB → Prop) (px : String → wF → wA → wB → Prop) (x1 : Int32) (f : wF) (a : wA) (b : wB) : Prop := (x1 < 0 → (wp_S_checkIncident_12 po px f a b)) ∧ (¬ x1 < 0 → ((x1 < (f 1) → (po f a b)) ∧ (¬ x1 < (f 1) → (wp_S_checkIncident_12 po px f a b))))
def wp_S_checkOpen (po : wF → wA → wB → Prop) (px : String → wF → wA → wB → Prop) (x1 : Int32) (f : wF) (a : wA) (b : wB) : Prop := vp_in x1 6 ∧ ((¬ (a 8 x1.toNatClampNeg) = 0 → (po f a b)) ∧ ((a 8 x1.toNatClampNeg) = 0 → (px "java/lang/IllegalStateException" f a b)))
def wp_S_rank (po : wF → wA → wB → Prop) (px : String → wF → wA → wB → Prop) (x1 : Int32) (x2 : Int32) (f : wF) (a : wA) (b : wB) : Prop := wp_S_checkIncident (fun f2 a2 b2 => wp_S_checkRank (fun f6 a6 b6 => wp_S_checkOpen (fun f11 a11 b11 => vp_in x1 6 ∧ (po f11 (va_up a11 7 (upd (a11 7) x1.toNatClampNeg x2)) b11)) px x1 f6 a6 b6) px x2 f2 a2 b2) px x1 f a b
def wp_S_checkSkill_10 (po : wF → wA → wB → Prop) (px : String → wF → wA → wB → Prop)  (f : wF) (a : wA) (b : wB) : Prop := px "java/lang/IllegalArgumentException" f a b
def wp_S_checkSkill (po : wF → wA → wB → Prop) (px : String → wF → wA → wB → Prop) (x0 : Int32) (f : wF) (a : wA) (b : wB) : Prop := (x0 < 0 → (wp_S_checkSkill_10 po px f a b)) ∧ (¬ x0 < 0 → ((x0 < (16 : Int32) → (po f a b)) ∧ (¬ x0 < (16 : Int32) → (wp_S_checkSkill_10 po px f a b))))
def wp_S_need_58 (po : Int32 → wF → wA → wB → Prop) (px : String → wF → wA → wB → Prop) : Nat → Int32 → Int32 → Int32 → Int32 → wF → wA → wB → Prop
  | 0 => fun _ _ _ _ _ _ _ => False
  | n + 1 => fun x1 x2 x3 x4 f a b => (x3 ≤ x4 → (po (f 2) f a b)) ∧ (¬ x3 ≤ x4 → (vp_in (f 2) 10 ∧ vp_in (f 2) 10 ∧ (wp_S_need_58 po px n x1 x2 x3 (x4 + (1 : Int32)) (va_up f 2 ((f 2) + (1 : Int32))) (va_up (va_up a 9 (upd (a 9) (f 2).toNatClampNeg x1)) 10 (upd ((va_up a 9 (upd (a 9) (f 2).toNatClampNeg x1)) 10) (f 2).toNatClampNeg x2)) b)))
def wp_S_need_19 (po : Int32 → wF → wA → wB → Prop) (px : String → wF → wA → wB → Prop)  (f : wF) (a : wA) (b : wB) : Prop := px "java/lang/IndexOutOfBoundsException" f a b
def wp_S_need (po : Int32 → wF → wA → wB → Prop) (px : String → wF → wA → wB → Prop) (x1 : Int32) (x2 : Int32) (x3 : Int32) (f : wF) (a : wA) (b : wB) : Prop := wp_S_checkIncident (fun f2 a2 b2 => wp_S_checkSkill (fun f6 a6 b6 => (x3 < 0 → (wp_S_need_19 po px f6 a6 b6)) ∧ (¬ x3 < 0 → ((x3 ≤ (10 : Int32) → (wp_S_checkOpen (fun f31 a31 b31 => (((f31 2) + x3) ≤ (10 : Int32) → (∃ n9, wp_S_need_58 po px n9 x1 x2 x3 (0 : Int32) f31 a31 b31)) ∧ (¬ ((f31 2) + x3) ≤ (10 : Int32) → (px "java/lang/UnsupportedOperationException" f31 a31 b31))) px x1 f6 a6 b6)) ∧ (¬ x3 ≤ (10 : Int32) → (wp_S_need_19 po px f6 a6 b6))))) px x2 f2 a2 b2) px x1 f a b
def wp_S_checkUnit_12 (po : wF → wA → wB → Prop) (px : String → wF → wA → wB → Prop)  (f : wF) (a : wA) (b : wB) : Prop := px "java/lang/IllegalArgumentException" f a b
def wp_S_checkUnit (po : wF → wA → wB → Prop) (px : String → wF → wA → wB → Prop) (x1 : Int32) (f : wF) (a : wA) (b : wB) : Prop := (x1 < 0 → (wp_S_checkUnit_12 po px f a b)) ∧ (¬ x1 < 0 → ((x1 < (f 0) → (po f a b)) ∧ (¬ x1 < (f 0) → (wp_S_checkUnit_12 po px f a b))))
def wp_S_checkSeconds_11 (po : wF → wA → wB → Prop) (px : String → wF → wA → wB → Prop)  (f : wF) (a : wA) (b : wB) : Prop := px "java/lang/IndexOutOfBoundsException" f a b
def wp_S_checkSeconds (po : wF → wA → wB → Prop) (px : String → wF → wA → wB → Prop) (x0 : Int32) (f : wF) (a : wA) (b : wB) : Prop := (x0 < (-1 : Int32) → (wp_S_checkSeconds_11 po px f a b)) ∧ (¬ x0 < (-1 : Int32) → ((x0 ≤ (99999 : Int32) → (po f a b)) ∧ (¬ x0 ≤ (99999 : Int32) → (wp_S_checkSeconds_11 po px f a b))))
def wp_S_seconds (po : wF → wA → wB → Prop) (px : String → wF → wA → wB → Prop) (x1 : Int32) (x2 : Int32) (x3 : Int32) (f : wF) (a : wA) (b : wB) : Prop := wp_S_checkUnit (fun f2 a2 b2 => wp_S_checkIncident (fun f7 a7 b7 => wp_S_checkSeconds (fun f11 a11 b11 => vp_in x1 12 ∧ vp_in x2 6 ∧ (po f11 (va_up a11 (25 + x1.toNatClampNeg) (upd (a11 (25 + x1.toNatClampNeg)) x2.toNatClampNeg x3)) b11)) px x3 f7 a7 b7) px x2 f2 a2 b2) px x1 f a b
def wp_S_limit (po : wF → wA → wB → Prop) (px : String → wF → wA → wB → Prop) (x1 : Int32) (x2 : Int32) (f : wF) (a : wA) (b : wB) : Prop := wp_S_checkSkill (fun f1 a1 b1 => wp_S_checkSeconds (fun f5 a5 b5 => vp_in x1 16 ∧ (po f5 (va_up a5 12 (upd (a5 12) x1.toNatClampNeg x2)) b5)) px x2 f1 a1 b1) px x1 f a b
def wp_S_reserve_31 (po : wF → wA → wB → Prop) (px : String → wF → wA → wB → Prop)  (f : wF) (a : wA) (b : wB) : Prop := px "java/lang/IndexOutOfBoundsException" f a b
def wp_S_reserve_10 (po : wF → wA → wB → Prop) (px : String → wF → wA → wB → Prop)  (f : wF) (a : wA) (b : wB) : Prop := px "java/lang/IndexOutOfBoundsException" f a b
def wp_S_reserve (po : wF → wA → wB → Prop) (px : String → wF → wA → wB → Prop) (x1 : Int32) (x2 : Int32) (f : wF) (a : wA) (b : wB) : Prop := (x1 < 0 → (wp_S_reserve_10 po px f a b)) ∧ (¬ x1 < 0 → ((x1 ≤ (12 : Int32) → ((x2 < (1 : Int32) → (wp_S_reserve_31 po px f a b)) ∧ (¬ x2 < (1 : Int32) → ((x2 ≤ (10 : Int32) → (po (va_up (va_up f 3 x1) 4 x2) a b)) ∧ (¬ x2 ≤ (10 : Int32) → (wp_S_reserve_31 po px f a b)))))) ∧ (¬ x1 ≤ (12 : Int32) → (wp_S_reserve_10 po px f a b))))
def wp_S_free_22 (po : wF → wA → wB → Prop) (x1 : Int32) (f : wF) (a : wA) (b : wB) : Prop := vp_in x1 12 ∧ vp_in x1 12 ∧ (po f (va_up (va_up a 5 (upd (a 5) x1.toNatClampNeg (-1 : Int32))) 4 (upd ((va_up a 5 (upd (a 5) x1.toNatClampNeg (-1 : Int32))) 4) x1.toNatClampNeg (vp_nar .boolean (0 : Int32)))) b)
def wp_S_free (po : wF → wA → wB → Prop) (x1 : Int32) (f : wF) (a : wA) (b : wB) : Prop := vp_in x1 12 ∧ (((a 5 x1.toNatClampNeg) = (-1 : Int32) → (wp_S_free_22 po x1 f a b)) ∧ (¬ (a 5 x1.toNatClampNeg) = (-1 : Int32) → (vp_in x1 12 ∧ vp_in (a 5 x1.toNatClampNeg) 10 ∧ (wp_S_free_22 po x1 f (va_up a 11 (upd (a 11) (a 5 x1.toNatClampNeg).toNatClampNeg (-1 : Int32))) b))))
def wp_S_broken_41 (po : wF → wA → wB → Prop) (px : String → wF → wA → wB → Prop)  (f : wF) (a : wA) (b : wB) : Prop := po f a b
def wp_S_broken (po : wF → wA → wB → Prop) (px : String → wF → wA → wB → Prop) (x1 : Int32) (x2 : Int32) (f : wF) (a : wA) (b : wB) : Prop := wp_S_checkUnit (fun f2 a2 b2 => vp_in x1 12 ∧ ((¬ (a2 3 x1.toNatClampNeg) = x2 → (vp_in x1 12 ∧ ((x2 = 0 → (wp_S_broken_41 po px f2 (va_up a2 3 (upd (a2 3) x1.toNatClampNeg (vp_nar .boolean x2))) b2)) ∧ (¬ x2 = 0 → (wp_S_free (fun f38 a38 b38 => wp_S_broken_41 po px f38 a38 b38) x1 f2 (va_up a2 3 (upd (a2 3) x1.toNatClampNeg (vp_nar .boolean x2))) b2))))) ∧ ((a2 3 x1.toNatClampNeg) = x2 → (px "java/lang/IllegalStateException" f2 a2 b2)))) px x1 f a b
def wp_P_clear_12 (po : wF → wA → wB → Prop) : Nat → Int32 → wF → wA → wB → Prop
  | 0 => fun _ _ _ _ => False
  | n + 1 => fun x1 f a b => ((10 : Int32) ≤ x1 → (po f a b)) ∧ (¬ (10 : Int32) ≤ x1 → (vp_in x1 10 ∧ (wp_P_clear_12 po n (x1 + (1 : Int32)) f a (va_up b (37 + x1.toNatClampNeg) (fun _ => (0 : Int64))))))
def wp_P_clear (po : wF → wA → wB → Prop)  (f : wF) (a : wA) (b : wB) : Prop := ∃ n9, wp_P_clear_12 po n9 (0 : Int32) (va_up (va_up f 5 (0 : Int32)) 6 (0 : Int32)) a b
def wp_S_isOpenNeed (po : Int32 → wF → wA → wB → Prop) (x1 : Int32) (f : wF) (a : wA) (b : wB) : Prop := vp_in x1 10 ∧ vp_in (a 9 x1.toNatClampNeg) 6 ∧ (zb (a 8 (a 9 x1.toNatClampNeg).toNatClampNeg) ∧ po (a 8 (a 9 x1.toNatClampNeg).toNatClampNeg) f a b)
def wp_S_secondsTo (po : Int32 → wF → wA → wB → Prop) (x1 : Int32) (x2 : Int32) (f : wF) (a : wA) (b : wB) : Prop := vp_in x1 12 ∧ vp_in x2 10 ∧ vp_in (a 9 x2.toNatClampNeg) 6 ∧ (po (a (25 + x1.toNatClampNeg) (a 9 x2.toNatClampNeg).toNatClampNeg) f a b)
def wp_S_canFill_71 (po : Int32 → wF → wA → wB → Prop) (k0 : Int32) (f : wF) (a : wA) (b : wB) : Prop := zb k0 ∧ po k0 f a b
def wp_S_canFill_70 (po : Int32 → wF → wA → wB → Prop)  (f : wF) (a : wA) (b : wB) : Prop := wp_S_canFill_71 po (0 : Int32) f a b
def wp_S_canFill_66 (po : Int32 → wF → wA → wB → Prop)  (f : wF) (a : wA) (b : wB) : Prop := wp_S_canFill_71 po (1 : Int32) f a b
def wp_S_canFill_29 (po : Int32 → wF → wA → wB → Prop)  (f : wF) (a : wA) (b : wB) : Prop := zb (0 : Int32) ∧ po (0 : Int32) f a b
def wp_S_canFill (po : Int32 → wF → wA → wB → Prop) (x1 : Int32) (x2 : Int32) (f : wF) (a : wA) (b : wB) : Prop := vp_in x2 10 ∧ vp_in x1 12 ∧ ((¬ (a 3 x1.toNatClampNeg) = 0 → (wp_S_canFill_29 po f a b)) ∧ ((a 3 x1.toNatClampNeg) = 0 → (vp_in x1 12 ∧ ((¬ (((a 2 x1.toNatClampNeg) >>> ((a 10 x2.toNatClampNeg) &&& 31)) &&& (1 : Int32)) = 0 → (wp_S_secondsTo (fun r34 f34 a34 b34 => (r34 = (-1 : Int32) → (wp_S_canFill_70 po f34 a34 b34)) ∧ (¬ r34 = (-1 : Int32) → (vp_in (a 10 x2.toNatClampNeg) 16 ∧ (((a34 12 (a 10 x2.toNatClampNeg).toNatClampNeg) = (-1 : Int32) → (wp_S_canFill_66 po f34 a34 b34)) ∧ (¬ (a34 12 (a 10 x2.toNatClampNeg).toNatClampNeg) = (-1 : Int32) → (vp_in (a 10 x2.toNatClampNeg) 16 ∧ (((a34 12 (a 10 x2.toNatClampNeg).toNatClampNeg) < r34 → (wp_S_canFill_70 po f34 a34 b34)) ∧ (¬ (a34 12 (a 10 x2.toNatClampNeg).toNatClampNeg) < r34 → (wp_S_canFill_66 po f34 a34 b34))))))))) x1 x2 f a b)) ∧ ((((a 2 x1.toNatClampNeg) >>> ((a 10 x2.toNatClampNeg) &&& 31)) &&& (1 : Int32)) = 0 → (wp_S_canFill_29 po f a b))))))
def wp_S_isFixed_38 (po : Int32 → wF → wA → wB → Prop) (k0 : Int32) (f : wF) (a : wA) (b : wB) : Prop := zb k0 ∧ po k0 f a b
def wp_S_isFixed_37 (po : Int32 → wF → wA → wB → Prop)  (f : wF) (a : wA) (b : wB) : Prop := wp_S_isFixed_38 po (0 : Int32) f a b
def wp_S_isFixed (po : Int32 → wF → wA → wB → Prop) (x1 : Int32) (f : wF) (a : wA) (b : wB) : Prop := vp_in x1 12 ∧ (((a 4 x1.toNatClampNeg) = 0 → (wp_S_isFixed_37 po f a b)) ∧ (¬ (a 4 x1.toNatClampNeg) = 0 → (vp_in x1 12 ∧ (((a 5 x1.toNatClampNeg) = (-1 : Int32) → (wp_S_isFixed_37 po f a b)) ∧ (¬ (a 5 x1.toNatClampNeg) = (-1 : Int32) → (vp_in x1 12 ∧ (wp_S_canFill (fun r27 f27 a27 b27 => (r27 = 0 → (wp_S_isFixed_37 po f27 a27 b27)) ∧ (¬ r27 = 0 → (wp_S_isFixed_38 po (1 : Int32) f27 a27 b27))) x1 (a 5 x1.toNatClampNeg) f a b)))))))
def wp_S_hasFixedUnit_28 (po : Int32 → wF → wA → wB → Prop) (k0 : Int32) (f : wF) (a : wA) (b : wB) : Prop := zb k0 ∧ po k0 f a b
def wp_S_hasFixedUnit_27 (po : Int32 → wF → wA → wB → Prop)  (f : wF) (a : wA) (b : wB) : Prop := wp_S_hasFixedUnit_28 po (0 : Int32) f a b
def wp_S_hasFixedUnit (po : Int32 → wF → wA → wB → Prop) (x1 : Int32) (f : wF) (a : wA) (b : wB) : Prop := vp_in x1 10 ∧ (((a 11 x1.toNatClampNeg) = (-1 : Int32) → (wp_S_hasFixedUnit_27 po f a b)) ∧ (¬ (a 11 x1.toNatClampNeg) = (-1 : Int32) → (vp_in x1 10 ∧ (wp_S_isFixed (fun r17 f17 a17 b17 => (r17 = 0 → (wp_S_hasFixedUnit_27 po f17 a17 b17)) ∧ (¬ r17 = 0 → (wp_S_hasFixedUnit_28 po (1 : Int32) f17 a17 b17))) (a 11 x1.toNatClampNeg) f a b))))
def wp_S_rankOfNeed (po : Int32 → wF → wA → wB → Prop) (x1 : Int32) (f : wF) (a : wA) (b : wB) : Prop := vp_in x1 10 ∧ vp_in (a 9 x1.toNatClampNeg) 6 ∧ (po (a 7 (a 9 x1.toNatClampNeg).toNatClampNeg) f a b)
def wp_P_addRow (po : Int32 → wF → wA → wB → Prop) (x1 : Int32) (f : wF) (a : wA) (b : wB) : Prop := vp_in (f 5) 10 ∧ (po (((va_up f 5 ((f 5) + (1 : Int32))) 5) - (1 : Int32)) (va_up f 5 ((f 5) + (1 : Int32))) (va_up a 13 (upd (a 13) (f 5).toNatClampNeg x1)) b)
def wp_P_allow (po : wF → wA → wB → Prop) (x1 : Int32) (x2 : Int32) (x3 : Int32) (x4 : Int32) (f : wF) (a : wA) (b : wB) : Prop := vp_in x1 10 ∧ vp_in x2 12 ∧ (po f a (va_up b (37 + x1.toNatClampNeg) (vp_updL (b (37 + x1.toNatClampNeg)) x2.toNatClampNeg (x3.toInt64 * (x4.toInt64 - (100000000 : Int64))))))
def wp_S_addNeed_56 (po : wF → wA → wB → Prop) (J11 : Int32 → Int32 → Int32 → wF → wA → wB → Prop) (x1 : Int32) (x2 : Int32) (x3 : Int32) (f : wF) (a : wA) (b : wB) : Prop := J11 x1 x2 (x3 + (1 : Int32)) f a b
def wp_S_addNeed_11 (po : wF → wA → wB → Prop) : Nat → Int32 → Int32 → Int32 → wF → wA → wB → Prop
  | 0 => fun _ _ _ _ _ _ => False
  | n + 1 => fun x1 x2 x3 f a b => ((f 0) ≤ x3 → (po f a b)) ∧ (¬ (f 0) ≤ x3 → (wp_S_isFixed (fun r21 f21 a21 b21 => (¬ r21 = 0 → (wp_S_addNeed_56 po (wp_S_addNeed_11 po n) x1 x2 x3 f21 a21 b21)) ∧ (r21 = 0 → (wp_S_canFill (fun r30 f30 a30 b30 => (r30 = 0 → (wp_S_addNeed_56 po (wp_S_addNeed_11 po n) x1 x2 x3 f30 a30 b30)) ∧ (¬ r30 = 0 → (wp_S_rankOfNeed (fun r44 f44 a44 b44 => wp_S_secondsTo (fun r50 f50 a50 b50 => wp_P_allow (fun f53 a53 b53 => wp_S_addNeed_56 po (wp_S_addNeed_11 po n) x1 x2 x3 f53 a53 b53) x2 x3 r44 r50 f50 a50 b50) x3 x1 f44 a44 b44) x1 f30 a30 b30))) x3 x1 f21 a21 b21))) x3 f a b))
def wp_S_addNeed (po : wF → wA → wB → Prop) (x1 : Int32) (f : wF) (a : wA) (b : wB) : Prop := wp_P_addRow (fun r5 f5 a5 b5 => ∃ n9, wp_S_addNeed_11 po n9 x1 r5 (0 : Int32) f5 a5 b5) x1 f a b
def wp_S_addNeeds_52 (po : wF → wA → wB → Prop) (J2 : Int32 → Int32 → wF → wA → wB → Prop) (x1 : Int32) (x2 : Int32) (f : wF) (a : wA) (b : wB) : Prop := J2 x1 (x2 + (1 : Int32)) f a b
def wp_S_addNeeds_43 (po : wF → wA → wB → Prop) (J2 : Int32 → Int32 → wF → wA → wB → Prop) (k0 : Int32) (x1 : Int32) (x2 : Int32) (f : wF) (a : wA) (b : wB) : Prop := (¬ k0 = x1 → (wp_S_addNeeds_52 po J2 x1 x2 f a b)) ∧ (k0 = x1 → (wp_S_addNeed (fun f49 a49 b49 => wp_S_addNeeds_52 po J2 x1 x2 f49 a49 b49) x2 f a b))
def wp_S_addNeeds_2 (po : wF → wA → wB → Prop) : Nat → Int32 → Int32 → wF → wA → wB → Prop
  | 0 => fun _ _ _ _ _ => False
  | n + 1 => fun x1 x2 f a b => ((f 2) ≤ x2 → (po f a b)) ∧ (¬ (f 2) ≤ x2 → (wp_S_isOpenNeed (fun r12 f12 a12 b12 => (r12 = 0 → (wp_S_addNeeds_52 po (wp_S_addNeeds_2 po n) x1 x2 f12 a12 b12)) ∧ (¬ r12 = 0 → (wp_S_hasFixedUnit (fun r20 f20 a20 b20 => (¬ r20 = 0 → (wp_S_addNeeds_52 po (wp_S_addNeeds_2 po n) x1 x2 f20 a20 b20)) ∧ (r20 = 0 → (wp_S_rankOfNeed (fun r28 f28 a28 b28 => (r28 < (f28 4) → (wp_S_addNeeds_43 po (wp_S_addNeeds_2 po n) (0 : Int32) x1 x2 f28 a28 b28)) ∧ (¬ r28 < (f28 4) → (wp_S_addNeeds_43 po (wp_S_addNeeds_2 po n) (1 : Int32) x1 x2 f28 a28 b28))) x2 f20 a20 b20))) x2 f12 a12 b12))) x2 f a b))
def wp_S_addNeeds (po : wF → wA → wB → Prop) (x1 : Int32) (f : wF) (a : wA) (b : wB) : Prop := ∃ n9, wp_S_addNeeds_2 po n9 x1 (0 : Int32) f a b
def wp_P_endUnbound (po : wF → wA → wB → Prop)  (f : wF) (a : wA) (b : wB) : Prop := po (va_up f 6 (f 5)) a b
def wp_S_layOutNeeds (po : wF → wA → wB → Prop)  (f : wF) (a : wA) (b : wB) : Prop := wp_P_clear (fun f4 a4 b4 => wp_S_addNeeds (fun f9 a9 b9 => wp_P_endUnbound (fun f16 a16 b16 => wp_S_addNeeds (fun f21 a21 b21 => po f21 a21 b21) (0 : Int32) f16 a16 b16) f9 a9 b9) (1 : Int32) f4 a4 b4) f a b
def wp_S_spareUnits_36 (po : Int32 → wF → wA → wB → Prop) (J8 : Int32 → Int32 → wF → wA → wB → Prop) (x1 : Int32) (x2 : Int32) (f : wF) (a : wA) (b : wB) : Prop := J8 x1 (x2 + (1 : Int32)) f a b
def wp_S_spareUnits_8 (po : Int32 → wF → wA → wB → Prop) : Nat → Int32 → Int32 → wF → wA → wB → Prop
  | 0 => fun _ _ _ _ _ => False
  | n + 1 => fun x1 x2 f a b => ((f 0) ≤ x2 → (po x1 f a b)) ∧ (¬ (f 0) ≤ x2 → (vp_in x2 12 ∧ ((¬ (a 3 x2.toNatClampNeg) = 0 → (wp_S_spareUnits_36 po (wp_S_spareUnits_8 po n) x1 x2 f a b)) ∧ ((a 3 x2.toNatClampNeg) = 0 → (wp_S_isFixed (fun r27 f27 a27 b27 => (¬ r27 = 0 → (wp_S_spareUnits_36 po (wp_S_spareUnits_8 po n) x1 x2 f27 a27 b27)) ∧ (r27 = 0 → (wp_S_spareUnits_36 po (wp_S_spareUnits_8 po n) (x1 + (1 : Int32)) x2 f27 a27 b27))) x2 f a b)))))
def wp_S_spareUnits (po : Int32 → wF → wA → wB → Prop)  (f : wF) (a : wA) (b : wB) : Prop := ∃ n9, wp_S_spareUnits_8 po n9 (-(f 3)) (0 : Int32) f a b
def wp_P_isLess_26 (po : Int32 → wF → wA → wB → Prop) (k0 : Int32) (f : wF) (a : wA) (b : wB) : Prop := zb k0 ∧ po k0 f a b
def wp_P_isLess_25 (po : Int32 → wF → wA → wB → Prop)  (f : wF) (a : wA) (b : wB) : Prop := wp_P_isLess_26 po (0 : Int32) f a b
def wp_P_isLess_21 (po : Int32 → wF → wA → wB → Prop)  (f : wF) (a : wA) (b : wB) : Prop := wp_P_isLess_26 po (1 : Int32) f a b
def wp_P_isLess (po : Int32 → wF → wA → wB → Prop) (x0 : Int64) (x2 : Int64) (x4 : Int64) (x6 : Int64) (f : wF) (a : wA) (b : wB) : Prop := ((lg_cmp x0 x4) < 0 → (wp_P_isLess_21 po f a b)) ∧ (¬ (lg_cmp x0 x4) < 0 → ((¬ (lg_cmp x0 x4) = 0 → (wp_P_isLess_25 po f a b)) ∧ ((lg_cmp x0 x4) = 0 → ((0 ≤ (lg_cmp x2 x6) → (wp_P_isLess_25 po f a b)) ∧ (¬ 0 ≤ (lg_cmp x2 x6) → (wp_P_isLess_21 po f a b))))))
def wp_P_reach_146 (po : wF → wA → wB → Prop)  (f : wF) (a : wA) (b : wB) : Prop := po f a b
def wp_P_reach_65 (po : wF → wA → wB → Prop) (x1 : Int32) (x2 : Int32) (x3 : Int64) (x5 : Int64) (f : wF) (a : wA) (b : wB) : Prop := vp_in x1 12 ∧ vp_in x1 12 ∧ vp_in x1 12 ∧ vp_in x1 12 ∧ ((((va_up a 22 (upd (a 22) x1.toNatClampNeg x2)) 17 x1.toNatClampNeg) = (-1 : Int32) → (wp_P_reach_146 po f (va_up a 22 (upd (a 22) x1.toNatClampNeg x2)) (va_up (va_up b 23 (vp_updL (b 23) x1.toNatClampNeg x3)) 24 (vp_updL ((va_up b 23 (vp_updL (b 23) x1.toNatClampNeg x3)) 24) x1.toNatClampNeg x5)))) ∧ (¬ ((va_up a 22 (upd (a 22) x1.toNatClampNeg x2)) 17 x1.toNatClampNeg) = (-1 : Int32) → (vp_in ((va_up a 22 (upd (a 22) x1.toNatClampNeg x2)) 17 x1.toNatClampNeg) 10 ∧ vp_in x1 12 ∧ vp_in ((va_up a 22 (upd (a 22) x1.toNatClampNeg x2)) 17 x1.toNatClampNeg) 10 ∧ vp_in ((va_up a 22 (upd (a 22) x1.toNatClampNeg x2)) 17 x1.toNatClampNeg) 10 ∧ vp_in x1 12 ∧ vp_in ((va_up a 22 (upd (a 22) x1.toNatClampNeg x2)) 17 x1.toNatClampNeg) 10 ∧ vp_in ((va_up a 22 (upd (a 22) x1.toNatClampNeg x2)) 17 x1.toNatClampNeg) 10 ∧ (wp_P_reach_146 po f (va_up (va_up a 22 (upd (a 22) x1.toNatClampNeg x2)) 19 (upd ((va_up a 22 (upd (a 22) x1.toNatClampNeg x2)) 19) ((va_up a 22 (upd (a 22) x1.toNatClampNeg x2)) 17 x1.toNatClampNeg).toNatClampNeg (vp_nar .boolean (1 : Int32)))) (va_up (va_up (va_up (va_up b 23 (vp_updL (b 23) x1.toNatClampNeg x3)) 24 (vp_updL ((va_up b 23 (vp_updL (b 23) x1.toNatClampNeg x3)) 24) x1.toNatClampNeg x5)) 20 (vp_updL ((va_up (va_up b 23 (vp_updL (b 23) x1.toNatClampNeg x3)) 24 (vp_updL ((va_up b 23 (vp_updL (b 23) x1.toNatClampNeg x3)) 24) x1.toNatClampNeg x5)) 20) ((va_up a 22 (upd (a 22) x1.toNatClampNeg x2)) 17 x1.toNatClampNeg).toNatClampNeg (x3 - ((va_up (va_up b 23 (vp_updL (b 23) x1.toNatClampNeg x3)) 24 (vp_updL ((va_up b 23 (vp_updL (b 23) x1.toNatClampNeg x3)) 24) x1.toNatClampNeg x5)) (37 + ((va_up a 22 (upd (a 22) x1.toNatClampNeg x2)) 17 x1.toNatClampNeg).toNatClampNeg) x1.toNatClampNeg)))) 21 (vp_updL ((va_up (va_up (va_up b 23 (vp_updL (b 23) x1.toNatClampNeg x3)) 24 (vp_updL ((va_up b 23 (vp_updL (b 23) x1.toNatClampNeg x3)) 24) x1.toNatClampNeg x5)) 20 (vp_updL ((va_up (va_up b 23 (vp_updL (b 23) x1.toNatClampNeg x3)) 24 (vp_updL ((va_up b 23 (vp_updL (b 23) x1.toNatClampNeg x3)) 24) x1.toNatClampNeg x5)) 20) ((va_up a 22 (upd (a 22) x1.toNatClampNeg x2)) 17 x1.toNatClampNeg).toNatClampNeg (x3 - ((va_up (va_up b 23 (vp_updL (b 23) x1.toNatClampNeg x3)) 24 (vp_updL ((va_up b 23 (vp_updL (b 23) x1.toNatClampNeg x3)) 24) x1.toNatClampNeg x5)) (37 + ((va_up a 22 (upd (a 22) x1.toNatClampNeg x2)) 17 x1.toNatClampNeg).toNatClampNeg) x1.toNatClampNeg)))) 21) ((va_up a 22 (upd (a 22) x1.toNatClampNeg x2)) 17 x1.toNatClampNeg).toNatClampNeg (x5 - ((va_up (va_up (va_up b 23 (vp_updL (b 23) x1.toNatClampNeg x3)) 24 (vp_updL ((va_up b 23 (vp_updL (b 23) x1.toNatClampNeg x3)) 24) x1.toNatClampNeg x5)) 20 (vp_updL ((va_up (va_up b 23 (vp_updL (b 23) x1.toNatClampNeg x3)) 24 (vp_updL ((va_up b 23 (vp_updL (b 23) x1.toNatClampNeg x3)) 24) x1.toNatClampNeg x5)) 20) ((va_up a 22 (upd (a 22) x1.toNatClampNeg x2)) 17 x1.toNatClampNeg).toNatClampNeg (x3 - ((va_up (va_up b 23 (vp_updL (b 23) x1.toNatClampNeg x3)) 24 (vp_updL ((va_up b 23 (vp_updL (b 23) x1.toNatClampNeg x3)) 24) x1.toNatClampNeg x5)) (37 + ((va_up a 22 (upd (a 22) x1.toNatClampNeg x2)) 17 x1.toNatClampNeg).toNatClampNeg) x1.toNatClampNeg)))) (47 + ((va_up a 22 (upd (a 22) x1.toNatClampNeg x2)) 17 x1.toNatClampNeg).toNatClampNeg) x1.toNatClampNeg))))))))
def wp_P_reach (po : wF → wA → wB → Prop) (x1 : Int32) (x2 : Int32) (f : wF) (a : wA) (b : wB) : Prop := vp_in x2 10 ∧ vp_in x2 10 ∧ vp_in x1 12 ∧ vp_in x2 10 ∧ vp_in x2 10 ∧ vp_in x1 12 ∧ vp_in x1 12 ∧ (((a 22 x1.toNatClampNeg) = (-1 : Int32) → (wp_P_reach_65 po x1 x2 ((b 20 x2.toNatClampNeg) + (b (37 + x2.toNatClampNeg) x1.toNatClampNeg)) ((b 21 x2.toNatClampNeg) + (b (47 + x2.toNatClampNeg) x1.toNatClampNeg)) f a b)) ∧ (¬ (a 22 x1.toNatClampNeg) = (-1 : Int32) → (vp_in x1 12 ∧ vp_in x1 12 ∧ (wp_P_isLess (fun r58 f58 a58 b58 => (¬ r58 = 0 → (wp_P_reach_65 po x1 x2 ((b 20 x2.toNatClampNeg) + (b (37 + x2.toNatClampNeg) x1.toNatClampNeg)) ((b 21 x2.toNatClampNeg) + (b (47 + x2.toNatClampNeg) x1.toNatClampNeg)) f58 a58 b58)) ∧ (r58 = 0 → (po f58 a58 b58))) ((b 20 x2.toNatClampNeg) + (b (37 + x2.toNatClampNeg) x1.toNatClampNeg)) ((b 21 x2.toNatClampNeg) + (b (47 + x2.toNatClampNeg) x1.toNatClampNeg)) (b 23 x1.toNatClampNeg) (b 24 x1.toNatClampNeg) f a b))))
def wp_P_spread_37 (po : wF → wA → wB → Prop) (J2 : Int32 → Int32 → wF → wA → wB → Prop) (x1 : Int32) (x2 : Int32) (f : wF) (a : wA) (b : wB) : Prop := J2 x1 (x2 + (1 : Int32)) f a b
def wp_P_spread_2 (po : wF → wA → wB → Prop) : Nat → Int32 → Int32 → wF → wA → wB → Prop
  | 0 => fun _ _ _ _ _ => False
  | n + 1 => fun x1 x2 f a b => ((12 : Int32) ≤ x2 → (po f a b)) ∧ (¬ (12 : Int32) ≤ x2 → (vp_in x1 10 ∧ vp_in x2 12 ∧ (((lg_cmp (b (37 + x1.toNatClampNeg) x2.toNatClampNeg) (0 : Int64)) = 0 → (wp_P_spread_37 po (wp_P_spread_2 po n) x1 x2 f a b)) ∧ (¬ (lg_cmp (b (37 + x1.toNatClampNeg) x2.toNatClampNeg) (0 : Int64)) = 0 → (vp_in x1 10 ∧ (((a 16 x1.toNatClampNeg) = x2 → (wp_P_spread_37 po (wp_P_spread_2 po n) x1 x2 f a b)) ∧ (¬ (a 16 x1.toNatClampNeg) = x2 → (wp_P_reach (fun f34 a34 b34 => wp_P_spread_37 po (wp_P_spread_2 po n) x1 x2 f34 a34 b34) x2 x1 f a b))))))))
def wp_P_spread (po : wF → wA → wB → Prop) (x1 : Int32) (f : wF) (a : wA) (b : wB) : Prop := ∃ n9, wp_P_spread_2 po n9 x1 (0 : Int32) f a b
def wp_P_findPaths_118 (po : wF → wA → wB → Prop)  (f : wF) (a : wA) (b : wB) : Prop := po f a b
def wp_P_findPaths_106 (po : wF → wA → wB → Prop) (J60 : Int32 → Int32 → Int32 → wF → wA → wB → Prop) (J74 : Int32 → Int32 → Int32 → Int32 → wF → wA → wB → Prop) (x1 : Int32) (x2 : Int32) (x3 : Int32) (x4 : Int32) (f : wF) (a : wA) (b : wB) : Prop := J74 x1 x2 x3 (x4 + (1 : Int32)) f a b
def wp_P_findPaths_74 (po : wF → wA → wB → Prop) (J60 : Int32 → Int32 → Int32 → wF → wA → wB → Prop) : Nat → Int32 → Int32 → Int32 → Int32 → wF → wA → wB → Prop
  | 0 => fun _ _ _ _ _ _ _ => False
  | n + 1 => fun x1 x2 x3 x4 f a b => (x1 ≤ x4 → (J60 x1 x2 (x3 + (1 : Int32)) f a b)) ∧ (¬ x1 ≤ x4 → (vp_in x4 10 ∧ (((a 19 x4.toNatClampNeg) = 0 → (wp_P_findPaths_106 po J60 (wp_P_findPaths_74 po J60 n) x1 x2 x3 x4 f a b)) ∧ (¬ (a 19 x4.toNatClampNeg) = 0 → (vp_in x4 10 ∧ (wp_P_spread (fun f101 a101 b101 => wp_P_findPaths_106 po J60 (wp_P_findPaths_74 po J60 n) x1 (1 : Int32) x3 x4 f101 a101 b101) x4 f (va_up a 19 (upd (a 19) x4.toNatClampNeg (vp_nar .boolean (0 : Int32)))) b))))))
def wp_P_findPaths_60 (po : wF → wA → wB → Prop) : Nat → Int32 → Int32 → Int32 → wF → wA → wB → Prop
  | 0 => fun _ _ _ _ _ _ => False
  | n + 1 => fun x1 x2 x3 f a b => (x1 ≤ x3 → (wp_P_findPaths_118 po f a b)) ∧ (¬ x1 ≤ x3 → ((x2 = 0 → (wp_P_findPaths_118 po f a b)) ∧ (¬ x2 = 0 → (∃ n9, wp_P_findPaths_74 po (wp_P_findPaths_60 po n) n9 x1 (0 : Int32) x3 (0 : Int32) f a b))))
def wp_P_findPaths_35 (po : wF → wA → wB → Prop) (J10 : Int32 → Int32 → wF → wA → wB → Prop) (k0 : Int32) (k1 : Int32) (x1 : Int32) (x2 : Int32) (f : wF) (a : wA) (b : wB) : Prop := vp_in k1 10 ∧ vp_in x2 10 ∧ vp_in x2 10 ∧ (J10 x1 (x2 + (1 : Int32)) f (va_up a 19 (upd (a 19) k1.toNatClampNeg (vp_nar .boolean k0))) (va_up (va_up b 20 (vp_updL (b 20) x2.toNatClampNeg (0 : Int64))) 21 (vp_updL ((va_up b 20 (vp_updL (b 20) x2.toNatClampNeg (0 : Int64))) 21) x2.toNatClampNeg (0 : Int64))))
def wp_P_findPaths_10 (po : wF → wA → wB → Prop) : Nat → Int32 → Int32 → wF → wA → wB → Prop
  | 0 => fun _ _ _ _ _ => False
  | n + 1 => fun x1 x2 f a b => (x1 ≤ x2 → (∃ n9, wp_P_findPaths_60 po n9 x1 (1 : Int32) (0 : Int32) f a b)) ∧ (¬ x1 ≤ x2 → (vp_in x2 10 ∧ ((¬ (a 16 x2.toNatClampNeg) = (-1 : Int32) → (wp_P_findPaths_35 po (wp_P_findPaths_10 po n) (0 : Int32) x2 x1 x2 f a b)) ∧ ((a 16 x2.toNatClampNeg) = (-1 : Int32) → (wp_P_findPaths_35 po (wp_P_findPaths_10 po n) (1 : Int32) x2 x1 x2 f a b)))))
def wp_P_findPaths (po : wF → wA → wB → Prop) (x1 : Int32) (f : wF) (a : wA) (b : wB) : Prop := ∃ n9, wp_P_findPaths_10 po n9 x1 (0 : Int32) f (va_up a 22 (fun _ => (-1 : Int32))) b
def wp_P_cheapestEnd_67 (po : Int32 → wF → wA → wB → Prop) (J4 : Int32 → Int32 → wF → wA → wB → Prop) (x1 : Int32) (x2 : Int32) (f : wF) (a : wA) (b : wB) : Prop := J4 x1 (x2 + (1 : Int32)) f a b
def wp_P_cheapestEnd_65 (po : Int32 → wF → wA → wB → Prop) (J4 : Int32 → Int32 → wF → wA → wB → Prop) (x2 : Int32) (f : wF) (a : wA) (b : wB) : Prop := wp_P_cheapestEnd_67 po J4 x2 x2 f a b
def wp_P_cheapestEnd_4 (po : Int32 → wF → wA → wB → Prop) : Nat → Int32 → Int32 → wF → wA → wB → Prop
  | 0 => fun _ _ _ _ _ => False
  | n + 1 => fun x1 x2 f a b => ((12 : Int32) ≤ x2 → (po x1 f a b)) ∧ (¬ (12 : Int32) ≤ x2 → (vp_in x2 12 ∧ ((¬ (a 17 x2.toNatClampNeg) = (-1 : Int32) → (wp_P_cheapestEnd_67 po (wp_P_cheapestEnd_4 po n) x1 x2 f a b)) ∧ ((a 17 x2.toNatClampNeg) = (-1 : Int32) → (vp_in x2 12 ∧ (((a 22 x2.toNatClampNeg) = (-1 : Int32) → (wp_P_cheapestEnd_67 po (wp_P_cheapestEnd_4 po n) x1 x2 f a b)) ∧ (¬ (a 22 x2.toNatClampNeg) = (-1 : Int32) → ((x1 = (-1 : Int32) → (wp_P_cheapestEnd_65 po (wp_P_cheapestEnd_4 po n) x2 f a b)) ∧ (¬ x1 = (-1 : Int32) → (vp_in x2 12 ∧ vp_in x2 12 ∧ vp_in x1 12 ∧ vp_in x1 12 ∧ (wp_P_isLess (fun r59 f59 a59 b59 => (r59 = 0 → (wp_P_cheapestEnd_67 po (wp_P_cheapestEnd_4 po n) x1 x2 f59 a59 b59)) ∧ (¬ r59 = 0 → (wp_P_cheapestEnd_65 po (wp_P_cheapestEnd_4 po n) x2 f59 a59 b59))) (b 23 x2.toNatClampNeg) (b 24 x2.toNatClampNeg) (b 23 x1.toNatClampNeg) (b 24 x1.toNatClampNeg) f a b)))))))))))
def wp_P_cheapestEnd (po : Int32 → wF → wA → wB → Prop)  (f : wF) (a : wA) (b : wB) : Prop := ∃ n9, wp_P_cheapestEnd_4 po n9 (-1 : Int32) (0 : Int32) f a b
def wp_P_turnPath_64 (po : wF → wA → wB → Prop)  (f : wF) (a : wA) (b : wB) : Prop := po f a b
def wp_P_turnPath_4 (po : wF → wA → wB → Prop) : Nat → Int32 → Int32 → wF → wA → wB → Prop
  | 0 => fun _ _ _ _ _ => False
  | n + 1 => fun x2 x3 f a b => ((10 : Int32) ≤ x3 → (wp_P_turnPath_64 po f a b)) ∧ (¬ (10 : Int32) ≤ x3 → ((x2 = (-1 : Int32) → (wp_P_turnPath_64 po f a b)) ∧ (¬ x2 = (-1 : Int32) → (vp_in x2 12 ∧ ((¬ (a 22 x2.toNatClampNeg) = (-1 : Int32) → (vp_in (a 22 x2.toNatClampNeg) 10 ∧ vp_in (a 22 x2.toNatClampNeg) 10 ∧ vp_in x2 12 ∧ (wp_P_turnPath_4 po n (a 16 (a 22 x2.toNatClampNeg).toNatClampNeg) (x3 + (1 : Int32)) f (va_up (va_up a 16 (upd (a 16) (a 22 x2.toNatClampNeg).toNatClampNeg x2)) 17 (upd ((va_up a 16 (upd (a 16) (a 22 x2.toNatClampNeg).toNatClampNeg x2)) 17) x2.toNatClampNeg (a 22 x2.toNatClampNeg))) b))) ∧ ((a 22 x2.toNatClampNeg) = (-1 : Int32) → (po f a b)))))))
def wp_P_turnPath (po : wF → wA → wB → Prop) (x1 : Int32) (f : wF) (a : wA) (b : wB) : Prop := ∃ n9, wp_P_turnPath_4 po n9 x1 (0 : Int32) f a b
def wp_P_pair_58 (po : wF → wA → wB → Prop)  (f : wF) (a : wA) (b : wB) : Prop := po f a b
def wp_P_pair_18 (po : wF → wA → wB → Prop) : Nat → Int32 → Int32 → Int32 → wF → wA → wB → Prop
  | 0 => fun _ _ _ _ _ _ => False
  | n + 1 => fun x1 x2 x3 f a b => (x1 ≤ x3 → (wp_P_pair_58 po f a b)) ∧ (¬ x1 ≤ x3 → ((x2 ≤ x3 → (wp_P_pair_58 po f a b)) ∧ (¬ x2 ≤ x3 → (wp_P_findPaths (fun f30 a30 b30 => wp_P_cheapestEnd (fun r34 f34 a34 b34 => (¬ r34 = (-1 : Int32) → (wp_P_turnPath (fun f49 a49 b49 => wp_P_pair_18 po n x1 x2 (x3 + (1 : Int32)) f49 a49 b49) r34 f34 a34 b34)) ∧ (r34 = (-1 : Int32) → (po f34 a34 b34))) f30 a30 b30) x1 f a b))))
def wp_P_pair (po : wF → wA → wB → Prop) (x1 : Int32) (x2 : Int32) (f : wF) (a : wA) (b : wB) : Prop := ∃ n9, wp_P_pair_18 po n9 x1 x2 (0 : Int32) f (va_up (va_up a 16 (fun _ => (-1 : Int32))) 17 (fun _ => (-1 : Int32))) b
def wp_P_total_14_18_34 (po : Int64 → wF → wA → wB → Prop) (J5 : Int64 → Int32 → wF → wA → wB → Prop) (x3 : Int64) (x5 : Int32) (f : wF) (a : wA) (b : wB) : Prop := J5 x3 (x5 + (1 : Int32)) f a b
def wp_P_total_14_18_5 (po : Int64 → wF → wA → wB → Prop) : Nat → Int64 → Int32 → wF → wA → wB → Prop
  | 0 => fun _ _ _ _ _ => False
  | n + 1 => fun x3 x5 f a b => ((f 5) ≤ x5 → (po x3 f a b)) ∧ (¬ (f 5) ≤ x5 → (vp_in x5 10 ∧ (((a 18 x5.toNatClampNeg) = (-1 : Int32) → (wp_P_total_14_18_34 po (wp_P_total_14_18_5 po n) x3 x5 f a b)) ∧ (¬ (a 18 x5.toNatClampNeg) = (-1 : Int32) → (vp_in x5 10 ∧ vp_in x5 10 ∧ vp_in (a 18 x5.toNatClampNeg) 12 ∧ (wp_P_total_14_18_34 po (wp_P_total_14_18_5 po n) (x3 + (b (37 + x5.toNatClampNeg) (a 18 x5.toNatClampNeg).toNatClampNeg)) x5 f a b))))))
def wp_P_total_14_18 (po : Int64 → wF → wA → wB → Prop)  (f : wF) (a : wA) (b : wB) : Prop := ∃ n9, wp_P_total_14_18_5 po n9 (0 : Int64) (0 : Int32) f a b
def wp_P_total_15_18_34 (po : Int64 → wF → wA → wB → Prop) (J5 : Int64 → Int32 → wF → wA → wB → Prop) (x3 : Int64) (x5 : Int32) (f : wF) (a : wA) (b : wB) : Prop := J5 x3 (x5 + (1 : Int32)) f a b
def wp_P_total_15_18_5 (po : Int64 → wF → wA → wB → Prop) : Nat → Int64 → Int32 → wF → wA → wB → Prop
  | 0 => fun _ _ _ _ _ => False
  | n + 1 => fun x3 x5 f a b => ((f 5) ≤ x5 → (po x3 f a b)) ∧ (¬ (f 5) ≤ x5 → (vp_in x5 10 ∧ (((a 18 x5.toNatClampNeg) = (-1 : Int32) → (wp_P_total_15_18_34 po (wp_P_total_15_18_5 po n) x3 x5 f a b)) ∧ (¬ (a 18 x5.toNatClampNeg) = (-1 : Int32) → (vp_in x5 10 ∧ vp_in x5 10 ∧ vp_in (a 18 x5.toNatClampNeg) 12 ∧ (wp_P_total_15_18_34 po (wp_P_total_15_18_5 po n) (x3 + (b (47 + x5.toNatClampNeg) (a 18 x5.toNatClampNeg).toNatClampNeg)) x5 f a b))))))
def wp_P_total_15_18 (po : Int64 → wF → wA → wB → Prop)  (f : wF) (a : wA) (b : wB) : Prop := ∃ n9, wp_P_total_15_18_5 po n9 (0 : Int64) (0 : Int32) f a b
def wp_P_total_14_16_34 (po : Int64 → wF → wA → wB → Prop) (J5 : Int64 → Int32 → wF → wA → wB → Prop) (x3 : Int64) (x5 : Int32) (f : wF) (a : wA) (b : wB) : Prop := J5 x3 (x5 + (1 : Int32)) f a b
def wp_P_total_14_16_5 (po : Int64 → wF → wA → wB → Prop) : Nat → Int64 → Int32 → wF → wA → wB → Prop
  | 0 => fun _ _ _ _ _ => False
  | n + 1 => fun x3 x5 f a b => ((f 5) ≤ x5 → (po x3 f a b)) ∧ (¬ (f 5) ≤ x5 → (vp_in x5 10 ∧ (((a 16 x5.toNatClampNeg) = (-1 : Int32) → (wp_P_total_14_16_34 po (wp_P_total_14_16_5 po n) x3 x5 f a b)) ∧ (¬ (a 16 x5.toNatClampNeg) = (-1 : Int32) → (vp_in x5 10 ∧ vp_in x5 10 ∧ vp_in (a 16 x5.toNatClampNeg) 12 ∧ (wp_P_total_14_16_34 po (wp_P_total_14_16_5 po n) (x3 + (b (37 + x5.toNatClampNeg) (a 16 x5.toNatClampNeg).toNatClampNeg)) x5 f a b))))))
def wp_P_total_14_16 (po : Int64 → wF → wA → wB → Prop)  (f : wF) (a : wA) (b : wB) : Prop := ∃ n9, wp_P_total_14_16_5 po n9 (0 : Int64) (0 : Int32) f a b
def wp_P_total_15_16_34 (po : Int64 → wF → wA → wB → Prop) (J5 : Int64 → Int32 → wF → wA → wB → Prop) (x3 : Int64) (x5 : Int32) (f : wF) (a : wA) (b : wB) : Prop := J5 x3 (x5 + (1 : Int32)) f a b
def wp_P_total_15_16_5 (po : Int64 → wF → wA → wB → Prop) : Nat → Int64 → Int32 → wF → wA → wB → Prop
  | 0 => fun _ _ _ _ _ => False
  | n + 1 => fun x3 x5 f a b => ((f 5) ≤ x5 → (po x3 f a b)) ∧ (¬ (f 5) ≤ x5 → (vp_in x5 10 ∧ (((a 16 x5.toNatClampNeg) = (-1 : Int32) → (wp_P_total_15_16_34 po (wp_P_total_15_16_5 po n) x3 x5 f a b)) ∧ (¬ (a 16 x5.toNatClampNeg) = (-1 : Int32) → (vp_in x5 10 ∧ vp_in x5 10 ∧ vp_in (a 16 x5.toNatClampNeg) 12 ∧ (wp_P_total_15_16_34 po (wp_P_total_15_16_5 po n) (x3 + (b (47 + x5.toNatClampNeg) (a 16 x5.toNatClampNeg).toNatClampNeg)) x5 f a b))))))
def wp_P_total_15_16 (po : Int64 → wF → wA → wB → Prop)  (f : wF) (a : wA) (b : wB) : Prop := ∃ n9, wp_P_total_15_16_5 po n9 (0 : Int64) (0 : Int32) f a b
def wp_P_findBest_114 (po : wF → wA → wB → Prop)  (f : wF) (a : wA) (b : wB) : Prop := po f a b
def wp_P_findBest (po : wF → wA → wB → Prop) (x1 : Int32) (f : wF) (a : wA) (b : wB) : Prop := wp_P_pair (fun f6 a6 b6 => (x1 < (f6 6) → (wp_P_pair (fun f42 a42 b42 => wp_P_total_14_18 (fun r54 f54 a54 b54 => wp_P_total_15_18 (fun r66 f66 a66 b66 => wp_P_total_14_16 (fun r78 f78 a78 b78 => wp_P_total_15_16 (fun r90 f90 a90 b90 => wp_P_isLess (fun r93 f93 a93 b93 => (r93 = 0 → (wp_P_findBest_114 po f93 a93 b93)) ∧ (¬ r93 = 0 → (wp_P_findBest_114 po f93 (va_up a93 16 (va_cpy (a93 18) (a93 16) (0 : Int32).toNatClampNeg (0 : Int32).toNatClampNeg (10 : Int32).toNatClampNeg)) b93))) r54 r66 r78 r90 f90 a90 b90) f78 a78 b78) f66 a66 b66) f54 a54 b54) f42 a42 b42) (f6 6) (f6 6) f6 (va_up a6 18 (va_cpy (a6 16) (a6 18) (0 : Int32).toNatClampNeg (0 : Int32).toNatClampNeg (10 : Int32).toNatClampNeg)) b6)) ∧ (¬ x1 < (f6 6) → (po f6 a6 b6))) (f 5) x1 f a b
def wp_P_rows (po : Int32 → wF → wA → wB → Prop)  (f : wF) (a : wA) (b : wB) : Prop := po (f 5) f a b
def wp_P_presentIsPlan_88 (po : Int32 → wF → wA → wB → Prop) (k0 : Int32) (f : wF) (a : wA) (b : wB) : Prop := zb k0 ∧ po k0 f a b
def wp_P_presentIsPlan_83 (po : Int32 → wF → wA → wB → Prop)  (f : wF) (a : wA) (b : wB) : Prop := wp_P_presentIsPlan_88 po (1 : Int32) f a b
def wp_P_presentIsPlan_68 (po : Int32 → wF → wA → wB → Prop) (J7 : Int32 → Int32 → Int32 → Int32 → wF → wA → wB → Prop) (x1 : Int32) (x2 : Int32) (x3 : Int32) (x4 : Int32) (f : wF) (a : wA) (b : wB) : Prop := J7 x1 x2 x3 (x4 + (1 : Int32)) f a b
def wp_P_presentIsPlan_66 (po : Int32 → wF → wA → wB → Prop) (J7 : Int32 → Int32 → Int32 → Int32 → wF → wA → wB → Prop) (k0 : Int32) (k1 : Int32) (x1 : Int32) (x2 : Int32) (x4 : Int32) (f : wF) (a : wA) (b : wB) : Prop := wp_P_presentIsPlan_68 po J7 x1 x2 (k1 + k0) x4 f a b
def wp_P_presentIsPlan_7 (po : Int32 → wF → wA → wB → Prop) : Nat → Int32 → Int32 → Int32 → Int32 → wF → wA → wB → Prop
  | 0 => fun _ _ _ _ _ _ _ => False
  | n + 1 => fun x1 x2 x3 x4 f a b => ((f 5) ≤ x4 → ((x3 = 0 → (wp_P_presentIsPlan_83 po f a b)) ∧ (¬ x3 = 0 → ((x1 < x2 → (wp_P_presentIsPlan_88 po (0 : Int32) f a b)) ∧ (¬ x1 < x2 → (wp_P_presentIsPlan_83 po f a b)))))) ∧ (¬ (f 5) ≤ x4 → (vp_in x4 10 ∧ (((a 18 x4.toNatClampNeg) = (-1 : Int32) → (wp_P_presentIsPlan_68 po (wp_P_presentIsPlan_7 po n) x1 x2 x3 x4 f a b)) ∧ (¬ (a 18 x4.toNatClampNeg) = (-1 : Int32) → (vp_in x4 10 ∧ vp_in (a 18 x4.toNatClampNeg) 12 ∧ ((¬ (lg_cmp (b (37 + x4.toNatClampNeg) (a 18 x4.toNatClampNeg).toNatClampNeg) (0 : Int64)) = 0 → ((x4 < (f 6) → (wp_P_presentIsPlan_66 po (wp_P_presentIsPlan_7 po n) (0 : Int32) x3 x1 (x2 + (1 : Int32)) x4 f a b)) ∧ (¬ x4 < (f 6) → (wp_P_presentIsPlan_66 po (wp_P_presentIsPlan_7 po n) (1 : Int32) x3 x1 (x2 + (1 : Int32)) x4 f a b)))) ∧ ((lg_cmp (b (37 + x4.toNatClampNeg) (a 18 x4.toNatClampNeg).toNatClampNeg) (0 : Int64)) = 0 → (zb (0 : Int32) ∧ po (0 : Int32) f a b))))))))
def wp_P_presentIsPlan (po : Int32 → wF → wA → wB → Prop) (x1 : Int32) (f : wF) (a : wA) (b : wB) : Prop := ∃ n9, wp_P_presentIsPlan_7 po n9 x1 (0 : Int32) (0 : Int32) (0 : Int32) f a b
def wp_P_savedByBest (po : Int64 → wF → wA → wB → Prop)  (f : wF) (a : wA) (b : wB) : Prop := wp_P_total_14_18 (fun r9 f9 a9 b9 => wp_P_total_14_16 (fun r21 f21 a21 b21 => po (r9 - r21) f21 a21 b21) f9 a9 b9) f a b
def wp_P_needOfRow (po : Int32 → wF → wA → wB → Prop) (x1 : Int32) (f : wF) (a : wA) (b : wB) : Prop := vp_in x1 10 ∧ (po (a 13 x1.toNatClampNeg) f a b)
def wp_P_setPresent (po : wF → wA → wB → Prop) (x1 : Int32) (x2 : Int32) (f : wF) (a : wA) (b : wB) : Prop := vp_in x1 10 ∧ (po f (va_up a 18 (upd (a 18) x1.toNatClampNeg x2)) b)
def wp_S_presentStays_69 (po : Int32 → wF → wA → wB → Prop) (k0 : Int32) (f : wF) (a : wA) (b : wB) : Prop := zb k0 ∧ po k0 f a b
def wp_S_presentStays_68 (po : Int32 → wF → wA → wB → Prop)  (f : wF) (a : wA) (b : wB) : Prop := wp_S_presentStays_69 po (0 : Int32) f a b
def wp_S_presentStays_2 (po : Int32 → wF → wA → wB → Prop) : Nat → Int32 → Int32 → Int32 → wF → wA → wB → Prop
  | 0 => fun _ _ _ _ _ _ => False
  | n + 1 => fun x1 x2 x3 f a b => wp_P_rows (fun r7 f7 a7 b7 => (r7 ≤ x3 → (wp_P_presentIsPlan (fun r45 f45 a45 b45 => (r45 = 0 → (wp_S_presentStays_68 po f45 a45 b45)) ∧ (¬ r45 = 0 → (wp_P_savedByBest (fun r55 f55 a55 b55 => (0 ≤ (lg_cmp r55 x2.toInt64) → (wp_S_presentStays_68 po f55 a55 b55)) ∧ (¬ 0 ≤ (lg_cmp r55 x2.toInt64) → (wp_S_presentStays_69 po (1 : Int32) f55 a55 b55))) f45 a45 b45))) x1 f7 a7 b7)) ∧ (¬ r7 ≤ x3 → (wp_P_needOfRow (fun r27 f27 a27 b27 => vp_in r27 10 ∧ (wp_P_setPresent (fun f31 a31 b31 => wp_S_presentStays_2 po n x1 x2 (x3 + (1 : Int32)) f31 a31 b31) x3 (a27 11 r27.toNatClampNeg) f27 a27 b27)) x3 f7 a7 b7))) f a b
def wp_S_presentStays (po : Int32 → wF → wA → wB → Prop) (x1 : Int32) (x2 : Int32) (f : wF) (a : wA) (b : wB) : Prop := ∃ n9, wp_S_presentStays_2 po n9 x1 x2 (0 : Int32) f a b
def wp_S_countFilled_25 (po : Int32 → wF → wA → wB → Prop) (J4 : Int32 → Int32 → wF → wA → wB → Prop) (x1 : Int32) (x2 : Int32) (f : wF) (a : wA) (b : wB) : Prop := J4 x1 (x2 + (1 : Int32)) f a b
def wp_S_countFilled_4 (po : Int32 → wF → wA → wB → Prop) : Nat → Int32 → Int32 → wF → wA → wB → Prop
  | 0 => fun _ _ _ _ _ => False
  | n + 1 => fun x1 x2 f a b => ((f 2) ≤ x2 → (po x1 f a b)) ∧ (¬ (f 2) ≤ x2 → (vp_in x2 10 ∧ (((a 11 x2.toNatClampNeg) = (-1 : Int32) → (wp_S_countFilled_25 po (wp_S_countFilled_4 po n) x1 x2 f a b)) ∧ (¬ (a 11 x2.toNatClampNeg) = (-1 : Int32) → (wp_S_countFilled_25 po (wp_S_countFilled_4 po n) (x1 + (1 : Int32)) x2 f a b)))))
def wp_S_countFilled (po : Int32 → wF → wA → wB → Prop)  (f : wF) (a : wA) (b : wB) : Prop := ∃ n9, wp_S_countFilled_4 po n9 (0 : Int32) (0 : Int32) f a b
def wp_P_bestUnit (po : Int32 → wF → wA → wB → Prop) (x1 : Int32) (f : wF) (a : wA) (b : wB) : Prop := vp_in x1 10 ∧ (po (a 16 x1.toNatClampNeg) f a b)
def wp_S_takeBest_98 (po : wF → wA → wB → Prop) (J45 : Int32 → wF → wA → wB → Prop) (x1 : Int32) (f : wF) (a : wA) (b : wB) : Prop := J45 (x1 + (1 : Int32)) f a b
def wp_S_takeBest_45 (po : wF → wA → wB → Prop) : Nat → Int32 → wF → wA → wB → Prop
  | 0 => fun _ _ _ _ => False
  | n + 1 => fun x1 f a b => wp_P_rows (fun r50 f50 a50 b50 => (r50 ≤ x1 → (po f50 a50 b50)) ∧ (¬ r50 ≤ x1 → (wp_P_bestUnit (fun r61 f61 a61 b61 => (r61 = (-1 : Int32) → (wp_S_takeBest_98 po (wp_S_takeBest_45 po n) x1 f61 a61 b61)) ∧ (¬ r61 = (-1 : Int32) → (wp_P_needOfRow (fun r79 f79 a79 b79 => vp_in r79 10 ∧ (wp_P_needOfRow (fun r94 f94 a94 b94 => vp_in r61 12 ∧ (wp_S_takeBest_98 po (wp_S_takeBest_45 po n) x1 f94 (va_up a94 5 (upd (a94 5) r61.toNatClampNeg r94)) b94)) x1 f79 (va_up a79 11 (upd (a79 11) r79.toNatClampNeg r61)) b79)) x1 f61 a61 b61))) x1 f50 a50 b50))) f a b
def wp_S_takeBest_37 (po : wF → wA → wB → Prop) (J2 : Int32 → wF → wA → wB → Prop) (x1 : Int32) (f : wF) (a : wA) (b : wB) : Prop := J2 (x1 + (1 : Int32)) f a b
def wp_S_takeBest_2 (po : wF → wA → wB → Prop) : Nat → Int32 → wF → wA → wB → Prop
  | 0 => fun _ _ _ _ => False
  | n + 1 => fun x1 f a b => wp_P_rows (fun r7 f7 a7 b7 => (r7 ≤ x1 → (∃ n9, wp_S_takeBest_45 po n9 (0 : Int32) f7 a7 b7)) ∧ (¬ r7 ≤ x1 → (wp_P_needOfRow (fun r22 f22 a22 b22 => vp_in r22 10 ∧ (((a22 11 r22.toNatClampNeg) = (-1 : Int32) → (wp_S_takeBest_37 po (wp_S_takeBest_2 po n) x1 f22 a22 b22)) ∧ (¬ (a22 11 r22.toNatClampNeg) = (-1 : Int32) → (wp_S_free (fun f34 a34 b34 => wp_S_takeBest_37 po (wp_S_takeBest_2 po n) x1 f34 a34 b34) (a22 11 r22.toNatClampNeg) f22 a22 b22)))) x1 f7 a7 b7))) f a b
def wp_S_takeBest (po : wF → wA → wB → Prop)  (f : wF) (a : wA) (b : wB) : Prop := ∃ n9, wp_S_takeBest_2 po n9 (0 : Int32) f a b
def wp_S_send_54 (po : Int32 → wF → wA → wB → Prop) (px : String → wF → wA → wB → Prop)  (f : wF) (a : wA) (b : wB) : Prop := wp_S_countFilled (fun r55 f55 a55 b55 => po r55 f55 a55 b55) f a b
def wp_S_send_10 (po : Int32 → wF → wA → wB → Prop) (px : String → wF → wA → wB → Prop)  (f : wF) (a : wA) (b : wB) : Prop := px "java/lang/IndexOutOfBoundsException" f a b
def wp_S_send (po : Int32 → wF → wA → wB → Prop) (px : String → wF → wA → wB → Prop) (x1 : Int32) (f : wF) (a : wA) (b : wB) : Prop := (x1 < 0 → (wp_S_send_10 po px f a b)) ∧ (¬ x1 < 0 → ((x1 ≤ (1000000 : Int32) → (wp_S_layOutNeeds (fun f21 a21 b21 => wp_S_spareUnits (fun r25 f25 a25 b25 => wp_P_findBest (fun f34 a34 b34 => wp_S_presentStays (fun r44 f44 a44 b44 => (¬ r44 = 0 → (wp_S_send_54 po px f44 a44 b44)) ∧ (r44 = 0 → (wp_S_takeBest (fun f51 a51 b51 => wp_S_send_54 po px f51 a51 b51) f44 a44 b44))) r25 (if x1 < (1 : Int32) then (1 : Int32) else x1) f34 a34 b34) r25 f25 a25 b25) f21 a21 b21) f a b)) ∧ (¬ x1 ≤ (1000000 : Int32) → (wp_S_send_10 po px f a b))))
def wp_S_checkSent (po : wF → wA → wB → Prop) (px : String → wF → wA → wB → Prop) (x1 : Int32) (f : wF) (a : wA) (b : wB) : Prop := vp_in x1 12 ∧ ((¬ (a 5 x1.toNatClampNeg) = (-1 : Int32) → (po f a b)) ∧ ((a 5 x1.toNatClampNeg) = (-1 : Int32) → (px "java/lang/IllegalStateException" f a b)))
def wp_S_stay (po : wF → wA → wB → Prop) (px : String → wF → wA → wB → Prop) (x1 : Int32) (x2 : Int32) (f : wF) (a : wA) (b : wB) : Prop := wp_S_checkUnit (fun f2 a2 b2 => wp_S_checkSent (fun f7 a7 b7 => vp_in x1 12 ∧ ((¬ (a7 4 x1.toNatClampNeg) = x2 → (vp_in x1 12 ∧ (po f7 (va_up a7 4 (upd (a7 4) x1.toNatClampNeg (vp_nar .boolean x2))) b7))) ∧ ((a7 4 x1.toNatClampNeg) = x2 → (px "java/lang/IllegalStateException" f7 a7 b7)))) px x1 f2 a2 b2) px x1 f a b
def wp_S_recall (po : wF → wA → wB → Prop) (px : String → wF → wA → wB → Prop) (x1 : Int32) (f : wF) (a : wA) (b : wB) : Prop := wp_S_checkUnit (fun f2 a2 b2 => wp_S_checkSent (fun f7 a7 b7 => wp_S_free (fun f12 a12 b12 => po f12 a12 b12) x1 f7 a7 b7) px x1 f2 a2 b2) px x1 f a b
def wp_S_close_57 (po : wF → wA → wB → Prop) (px : String → wF → wA → wB → Prop) (J19 : Int32 → Int32 → wF → wA → wB → Prop) (x1 : Int32) (x2 : Int32) (f : wF) (a : wA) (b : wB) : Prop := J19 x1 (x2 + (1 : Int32)) f a b
def wp_S_close_19 (po : wF → wA → wB → Prop) (px : String → wF → wA → wB → Prop) : Nat → Int32 → Int32 → wF → wA → wB → Prop
  | 0 => fun _ _ _ _ _ => False
  | n + 1 => fun x1 x2 f a b => ((f 2) ≤ x2 → (po f a b)) ∧ (¬ (f 2) ≤ x2 → (vp_in x2 10 ∧ ((¬ (a 9 x2.toNatClampNeg) = x1 → (wp_S_close_57 po px (wp_S_close_19 po px n) x1 x2 f a b)) ∧ ((a 9 x2.toNatClampNeg) = x1 → (vp_in x2 10 ∧ (((a 11 x2.toNatClampNeg) = (-1 : Int32) → (wp_S_close_57 po px (wp_S_close_19 po px n) x1 x2 f a b)) ∧ (¬ (a 11 x2.toNatClampNeg) = (-1 : Int32) → (vp_in x2 10 ∧ (wp_S_free (fun f54 a54 b54 => wp_S_close_57 po px (wp_S_close_19 po px n) x1 x2 f54 a54 b54) (a 11 x2.toNatClampNeg) f a b)))))))))
def wp_S_close (po : wF → wA → wB → Prop) (px : String → wF → wA → wB → Prop) (x1 : Int32) (f : wF) (a : wA) (b : wB) : Prop := wp_S_checkIncident (fun f2 a2 b2 => wp_S_checkOpen (fun f7 a7 b7 => vp_in x1 6 ∧ (∃ n9, wp_S_close_19 po px n9 x1 (0 : Int32) f7 (va_up a7 8 (upd (a7 8) x1.toNatClampNeg (vp_nar .boolean (0 : Int32)))) b7)) px x1 f2 a2 b2) px x1 f a b
def wp_S_checkNeed_12 (po : wF → wA → wB → Prop) (px : String → wF → wA → wB → Prop)  (f : wF) (a : wA) (b : wB) : Prop := px "java/lang/IllegalArgumentException" f a b
def wp_S_checkNeed (po : wF → wA → wB → Prop) (px : String → wF → wA → wB → Prop) (x1 : Int32) (f : wF) (a : wA) (b : wB) : Prop := (x1 < 0 → (wp_S_checkNeed_12 po px f a b)) ∧ (¬ x1 < 0 → ((x1 < (f 2) → (po f a b)) ∧ (¬ x1 < (f 2) → (wp_S_checkNeed_12 po px f a b))))
def wp_S_needAt_70 (po : Int32 → wF → wA → wB → Prop) (px : String → wF → wA → wB → Prop) (k0 : Int32) (f : wF) (a : wA) (b : wB) : Prop := po k0 f a b
def wp_S_needAt (po : Int32 → wF → wA → wB → Prop) (px : String → wF → wA → wB → Prop) (x1 : Int32) (x2 : Int32) (f : wF) (a : wA) (b : wB) : Prop := wp_S_checkNeed (fun f2 a2 b2 => (x2 = (0) → (vp_in x1 10 ∧ (po (a2 9 x1.toNatClampNeg) f2 a2 b2))) ∧ (x2 = (1) → (vp_in x1 10 ∧ (po (a2 10 x1.toNatClampNeg) f2 a2 b2))) ∧ (x2 = (2) → (vp_in x1 10 ∧ (po (a2 11 x1.toNatClampNeg) f2 a2 b2))) ∧ (x2 = (3) → (wp_S_isOpenNeed (fun r59 f59 a59 b59 => (r59 = 0 → (wp_S_needAt_70 po px (0 : Int32) f59 a59 b59)) ∧ (¬ r59 = 0 → (wp_S_needAt_70 po px (1 : Int32) f59 a59 b59))) x1 f2 a2 b2)) ∧ (¬ x2 = (0) → ¬ x2 = (1) → ¬ x2 = (2) → ¬ x2 = (3) → (px "java/lang/IllegalArgumentException" f2 a2 b2))) px x1 f a b
def wp_S_fills (po : Int32 → wF → wA → wB → Prop) (px : String → wF → wA → wB → Prop) (x1 : Int32) (f : wF) (a : wA) (b : wB) : Prop := wp_S_checkUnit (fun f2 a2 b2 => vp_in x1 12 ∧ (po (a2 5 x1.toNatClampNeg) f2 a2 b2)) px x1 f a b
def wp_S_weightedSeconds_35 (po : Int32 → wF → wA → wB → Prop) (k0 : Int32) (f : wF) (a : wA) (b : wB) : Prop := po k0 f a b
def wp_S_weightedSeconds (po : Int32 → wF → wA → wB → Prop) (x1 : Int32) (f : wF) (a : wA) (b : wB) : Prop := vp_in x1 10 ∧ ((¬ (a 11 x1.toNatClampNeg) = (-1 : Int32) → (wp_S_rankOfNeed (fun r16 f16 a16 b16 => vp_in x1 10 ∧ (wp_S_secondsTo (fun r27 f27 a27 b27 => wp_S_weightedSeconds_35 po (r16 * (if r27 < (0 : Int32) then (0 : Int32) else r27)) f27 a27 b27) (a16 11 x1.toNatClampNeg) x1 f16 a16 b16)) x1 f a b)) ∧ ((a 11 x1.toNatClampNeg) = (-1 : Int32) → (wp_S_weightedSeconds_35 po (0 : Int32) f a b)))
def wp_S_ranksLacking_19 (po : Int32 → wF → wA → wB → Prop) (k0 : Int32) (f : wF) (a : wA) (b : wB) : Prop := po k0 f a b
def wp_S_ranksLacking (po : Int32 → wF → wA → wB → Prop) (x1 : Int32) (f : wF) (a : wA) (b : wB) : Prop := vp_in x1 10 ∧ ((¬ (a 11 x1.toNatClampNeg) = (-1 : Int32) → (wp_S_ranksLacking_19 po (0 : Int32) f a b)) ∧ ((a 11 x1.toNatClampNeg) = (-1 : Int32) → (wp_S_rankOfNeed (fun r12 f12 a12 b12 => wp_S_ranksLacking_19 po r12 f12 a12 b12) x1 f a b)))
def wp_S_sum_59 (po : Int32 → wF → wA → wB → Prop) (px : String → wF → wA → wB → Prop) (J23 : Int32 → Int32 → Int32 → wF → wA → wB → Prop) (x1 : Int32) (x2 : Int32) (x3 : Int32) (f : wF) (a : wA) (b : wB) : Prop := J23 x1 x2 (x3 + (1 : Int32)) f a b
def wp_S_sum_57 (po : Int32 → wF → wA → wB → Prop) (px : String → wF → wA → wB → Prop) (J23 : Int32 → Int32 → Int32 → wF → wA → wB → Prop) (k0 : Int32) (k1 : Int32) (x1 : Int32) (x3 : Int32) (f : wF) (a : wA) (b : wB) : Prop := wp_S_sum_59 po px J23 x1 (k1 + k0) x3 f a b
def wp_S_sum_23 (po : Int32 → wF → wA → wB → Prop) (px : String → wF → wA → wB → Prop) : Nat → Int32 → Int32 → Int32 → wF → wA → wB → Prop
  | 0 => fun _ _ _ _ _ _ => False
  | n + 1 => fun x1 x2 x3 f a b => ((f 2) ≤ x3 → (po x2 f a b)) ∧ (¬ (f 2) ≤ x3 → (wp_S_isOpenNeed (fun r33 f33 a33 b33 => (r33 = 0 → (wp_S_sum_59 po px (wp_S_sum_23 po px n) x1 x2 x3 f33 a33 b33)) ∧ (¬ r33 = 0 → ((¬ x1 = 0 → (wp_S_weightedSeconds (fun r54 f54 a54 b54 => wp_S_sum_57 po px (wp_S_sum_23 po px n) r54 x2 x1 x3 f54 a54 b54) x3 f33 a33 b33)) ∧ (x1 = 0 → (wp_S_ranksLacking (fun r46 f46 a46 b46 => wp_S_sum_57 po px (wp_S_sum_23 po px n) r46 x2 x1 x3 f46 a46 b46) x3 f33 a33 b33))))) x3 f a b))
def wp_S_sum_19 (po : Int32 → wF → wA → wB → Prop) (px : String → wF → wA → wB → Prop) (x1 : Int32) (f : wF) (a : wA) (b : wB) : Prop := ∃ n9, wp_S_sum_23 po px n9 x1 (0 : Int32) (0 : Int32) f a b
def wp_S_sum (po : Int32 → wF → wA → wB → Prop) (px : String → wF → wA → wB → Prop) (x1 : Int32) (f : wF) (a : wA) (b : wB) : Prop := (x1 = 0 → (wp_S_sum_19 po px x1 f a b)) ∧ (¬ x1 = 0 → ((x1 = (1 : Int32) → (wp_S_sum_19 po px x1 f a b)) ∧ (¬ x1 = (1 : Int32) → (px "java/lang/IllegalArgumentException" f a b))))
def wp_S_alternative_68 (po : Int32 → wF → wA → wB → Prop) (px : String → wF → wA → wB → Prop) (J19 : Int32 → Int32 → Int32 → wF → wA → wB → Prop) (x1 : Int32) (x2 : Int32) (x3 : Int32) (f : wF) (a : wA) (b : wB) : Prop := J19 x1 x2 (x3 + (1 : Int32)) f a b
def wp_S_alternative_66 (po : Int32 → wF → wA → wB → Prop) (px : String → wF → wA → wB → Prop) (J19 : Int32 → Int32 → Int32 → wF → wA → wB → Prop) (x1 : Int32) (x3 : Int32) (f : wF) (a : wA) (b : wB) : Prop := wp_S_alternative_68 po px J19 x1 x3 x3 f a b
def wp_S_alternative_19 (po : Int32 → wF → wA → wB → Prop) (px : String → wF → wA → wB → Prop) : Nat → Int32 → Int32 → Int32 → wF → wA → wB → Prop
  | 0 => fun _ _ _ _ _ _ => False
  | n + 1 => fun x1 x2 x3 f a b => ((f 0) ≤ x3 → (po x2 f a b)) ∧ (¬ (f 0) ≤ x3 → (vp_in x3 12 ∧ ((¬ (a 5 x3.toNatClampNeg) = (-1 : Int32) → (wp_S_alternative_68 po px (wp_S_alternative_19 po px n) x1 x2 x3 f a b)) ∧ ((a 5 x3.toNatClampNeg) = (-1 : Int32) → (wp_S_canFill (fun r40 f40 a40 b40 => (r40 = 0 → (wp_S_alternative_68 po px (wp_S_alternative_19 po px n) x1 x2 x3 f40 a40 b40)) ∧ (¬ r40 = 0 → ((x2 = (-1 : Int32) → (wp_S_alternative_66 po px (wp_S_alternative_19 po px n) x1 x3 f40 a40 b40)) ∧ (¬ x2 = (-1 : Int32) → (wp_S_secondsTo (fun r54 f54 a54 b54 => wp_S_secondsTo (fun r60 f60 a60 b60 => (r60 ≤ r54 → (wp_S_alternative_68 po px (wp_S_alternative_19 po px n) x1 x2 x3 f60 a60 b60)) ∧ (¬ r60 ≤ r54 → (wp_S_alternative_66 po px (wp_S_alternative_19 po px n) x1 x3 f60 a60 b60))) x2 x1 f54 a54 b54) x3 x1 f40 a40 b40))))) x3 x1 f a b)))))
def wp_S_alternative (po : Int32 → wF → wA → wB → Prop) (px : String → wF → wA → wB → Prop) (x1 : Int32) (f : wF) (a : wA) (b : wB) : Prop := wp_S_checkNeed (fun f2 a2 b2 => vp_in x1 10 ∧ (wp_S_checkOpen (fun f12 a12 b12 => ∃ n9, wp_S_alternative_19 po px n9 x1 (-1 : Int32) (0 : Int32) f12 a12 b12) px (a2 9 x1.toNatClampNeg) f2 a2 b2)) px x1 f a b
def wp_S_anyCanFill_2 (po : Int32 → wF → wA → wB → Prop) : Nat → Int32 → Int32 → wF → wA → wB → Prop
  | 0 => fun _ _ _ _ _ => False
  | n + 1 => fun x1 x2 f a b => ((f 0) ≤ x2 → (zb (0 : Int32) ∧ po (0 : Int32) f a b)) ∧ (¬ (f 0) ≤ x2 → (wp_S_canFill (fun r13 f13 a13 b13 => (r13 = 0 → (wp_S_anyCanFill_2 po n x1 (x2 + (1 : Int32)) f13 a13 b13)) ∧ (¬ r13 = 0 → (zb (1 : Int32) ∧ po (1 : Int32) f13 a13 b13))) x2 x1 f a b))
def wp_S_anyCanFill (po : Int32 → wF → wA → wB → Prop) (x1 : Int32) (f : wF) (a : wA) (b : wB) : Prop := ∃ n9, wp_S_anyCanFill_2 po n9 x1 (0 : Int32) f a b
def wp_S_never_52 (po : Int32 → wF → wA → wB → Prop) (px : String → wF → wA → wB → Prop) (J18 : Int32 → Int32 → Int32 → wF → wA → wB → Prop) (x1 : Int32) (x2 : Int32) (x3 : Int32) (f : wF) (a : wA) (b : wB) : Prop := J18 x1 x2 (x3 + (1 : Int32)) f a b
def wp_S_never_18 (po : Int32 → wF → wA → wB → Prop) (px : String → wF → wA → wB → Prop) : Nat → Int32 → Int32 → Int32 → wF → wA → wB → Prop
  | 0 => fun _ _ _ _ _ _ => False
  | n + 1 => fun x1 x2 x3 f a b => ((f 2) ≤ x3 → (po (-1 : Int32) f a b)) ∧ (¬ (f 2) ≤ x3 → (wp_S_isOpenNeed (fun r28 f28 a28 b28 => (r28 = 0 → (wp_S_never_52 po px (wp_S_never_18 po px n) x1 x2 x3 f28 a28 b28)) ∧ (¬ r28 = 0 → (wp_S_anyCanFill (fun r36 f36 a36 b36 => (¬ r36 = 0 → (wp_S_never_52 po px (wp_S_never_18 po px n) x1 x2 x3 f36 a36 b36)) ∧ (r36 = 0 → ((¬ x2 = x1 → (wp_S_never_52 po px (wp_S_never_18 po px n) x1 (x2 + (1 : Int32)) x3 f36 a36 b36)) ∧ (x2 = x1 → (po x3 f36 a36 b36))))) x3 f28 a28 b28))) x3 f a b))
def wp_S_never (po : Int32 → wF → wA → wB → Prop) (px : String → wF → wA → wB → Prop) (x1 : Int32) (f : wF) (a : wA) (b : wB) : Prop := (0 ≤ x1 → (∃ n9, wp_S_never_18 po px n9 x1 (0 : Int32) (0 : Int32) f a b)) ∧ (¬ 0 ≤ x1 → (px "java/lang/IndexOutOfBoundsException" f a b))
def wp_M_thrown (po : Int32 → wF → wA → wB → Prop)  (f : wF) (a : wA) (b : wB) : Prop := po (f 0) f a b
def wp_M_throwing_50 (po : Int32 → wF → wA → wB → Prop) (k0 : Int32) (f : wF) (a : wA) (b : wB) : Prop := zb k0 ∧ po k0 f a b
def wp_M_throwing_35 (po : Int32 → wF → wA → wB → Prop) (k0 : Int32) (f : wF) (a : wA) (b : wB) : Prop := (((va_up f 0 k0) 0) ≤ 0 → (wp_M_throwing_50 po (0 : Int32) (va_up f 0 k0) a b)) ∧ (¬ ((va_up f 0 k0) 0) ≤ 0 → (wp_M_throwing_50 po (1 : Int32) (va_up f 0 k0) a b))
def wp_M_throwing (po : Int32 → wF → wA → wB → Prop) (x1 : Int32) (x2 : Int32) (x3 : Int32) (x4 : Int32) (f : wF) (a : wA) (b : wB) : Prop := (x1 = 0 → ((x2 = 0 → ((x3 = 0 → ((x4 = 0 → (wp_M_throwing_35 po (0 : Int32) f a b)) ∧ (¬ x4 = 0 → (wp_M_throwing_35 po (4 : Int32) f a b)))) ∧ (¬ x3 = 0 → (wp_M_throwing_35 po (3 : Int32) f a b)))) ∧ (¬ x2 = 0 → (wp_M_throwing_35 po (2 : Int32) f a b)))) ∧ (¬ x1 = 0 → (wp_M_throwing_35 po (1 : Int32) f a b))
def wp_M_in_15 (po : Int32 → wF → wA → wB → Prop) (k0 : Int32) (f : wF) (a : wA) (b : wB) : Prop := zb k0 ∧ po k0 f a b
def wp_M_in_14 (po : Int32 → wF → wA → wB → Prop)  (f : wF) (a : wA) (b : wB) : Prop := wp_M_in_15 po (0 : Int32) f a b
def wp_M_in (po : Int32 → wF → wA → wB → Prop) (x0 : Int32) (x1 : Int32) (x2 : Int32) (f : wF) (a : wA) (b : wB) : Prop := (x0 < x1 → (wp_M_in_14 po f a b)) ∧ (¬ x0 < x1 → ((x2 < x0 → (wp_M_in_14 po f a b)) ∧ (¬ x2 < x0 → (wp_M_in_15 po (1 : Int32) f a b))))
def wp_M_isUnit (po : Int32 → wF → wA → wB → Prop) (x1 : Int32) (f : wF) (a : wA) (b : wB) : Prop := wp_M_in (fun r8 f8 a8 b8 => zb r8 ∧ po r8 f8 a8 b8) x1 (0 : Int32) ((f 1) - (1 : Int32)) f a b
def wp_M_isIncident (po : Int32 → wF → wA → wB → Prop) (x1 : Int32) (f : wF) (a : wA) (b : wB) : Prop := wp_M_in (fun r8 f8 a8 b8 => zb r8 ∧ po r8 f8 a8 b8) x1 (0 : Int32) ((f 2) - (1 : Int32)) f a b
def wp_M_unit_30 (po : Int32 → wF → wA → wB → Prop) (k0 : Int32) (k1 : Int32) (x1 : Int32) (f : wF) (a : wA) (b : wB) : Prop := wp_M_throwing (fun r32 f32 a32 b32 => (r32 = 0 → (vp_in (f32 1) 12 ∧ (po (((va_up f32 1 ((f32 1) + (1 : Int32))) 1) - (1 : Int32)) (va_up f32 1 ((f32 1) + (1 : Int32))) (va_up a32 1 (upd (a32 1) (f32 1).toNatClampNeg x1)) b32))) ∧ (¬ r32 = 0 → (po (0 : Int32) f32 a32 b32))) k1 k0 (0 : Int32) (0 : Int32) f a b
def wp_M_unit_16 (po : Int32 → wF → wA → wB → Prop) (k0 : Int32) (x1 : Int32) (f : wF) (a : wA) (b : wB) : Prop := (¬ (f 1) = (12 : Int32) → (wp_M_unit_30 po (0 : Int32) k0 x1 f a b)) ∧ ((f 1) = (12 : Int32) → (wp_M_unit_30 po (1 : Int32) k0 x1 f a b))
def wp_M_unit (po : Int32 → wF → wA → wB → Prop) (x1 : Int32) (f : wF) (a : wA) (b : wB) : Prop := wp_M_in (fun r5 f5 a5 b5 => (¬ r5 = 0 → (wp_M_unit_16 po (0 : Int32) x1 f5 a5 b5)) ∧ (r5 = 0 → (wp_M_unit_16 po (1 : Int32) x1 f5 a5 b5))) x1 (0 : Int32) (65535 : Int32) f a b
def wp_M_incident_30 (po : Int32 → wF → wA → wB → Prop) (k0 : Int32) (k1 : Int32) (x1 : Int32) (f : wF) (a : wA) (b : wB) : Prop := wp_M_throwing (fun r32 f32 a32 b32 => (r32 = 0 → (vp_in (f32 2) 6 ∧ (po (((va_up f32 2 ((f32 2) + (1 : Int32))) 2) - (1 : Int32)) (va_up f32 2 ((f32 2) + (1 : Int32))) (va_up a32 4 (upd (a32 4) (f32 2).toNatClampNeg x1)) b32))) ∧ (¬ r32 = 0 → (po (0 : Int32) f32 a32 b32))) k1 k0 (0 : Int32) (0 : Int32) f a b
def wp_M_incident_16 (po : Int32 → wF → wA → wB → Prop) (k0 : Int32) (x1 : Int32) (f : wF) (a : wA) (b : wB) : Prop := (¬ (f 2) = (6 : Int32) → (wp_M_incident_30 po (0 : Int32) k0 x1 f a b)) ∧ ((f 2) = (6 : Int32) → (wp_M_incident_30 po (1 : Int32) k0 x1 f a b))
def wp_M_incident (po : Int32 → wF → wA → wB → Prop) (x1 : Int32) (f : wF) (a : wA) (b : wB) : Prop := wp_M_in (fun r5 f5 a5 b5 => (¬ r5 = 0 → (wp_M_incident_16 po (0 : Int32) x1 f5 a5 b5)) ∧ (r5 = 0 → (wp_M_incident_16 po (1 : Int32) x1 f5 a5 b5))) x1 (1 : Int32) (9 : Int32) f a b
def wp_M_rank_49 (po : wF → wA → wB → Prop) (k0 : Int32) (k1 : Int32) (k2 : Int32) (x1 : Int32) (x2 : Int32) (f : wF) (a : wA) (b : wB) : Prop := wp_M_throwing (fun r50 f50 a50 b50 => (r50 = 0 → (vp_in x1 6 ∧ (po f50 (va_up a50 4 (upd (a50 4) x1.toNatClampNeg x2)) b50))) ∧ (¬ r50 = 0 → (po f50 a50 b50))) k2 k1 k0 (0 : Int32) f a b
def wp_M_rank_48 (po : wF → wA → wB → Prop) (k0 : Int32) (k1 : Int32) (x1 : Int32) (x2 : Int32) (f : wF) (a : wA) (b : wB) : Prop := wp_M_rank_49 po (0 : Int32) k0 k1 x1 x2 f a b
def wp_M_rank_31 (po : wF → wA → wB → Prop) (k0 : Int32) (k1 : Int32) (x1 : Int32) (x2 : Int32) (x3 : Int32) (f : wF) (a : wA) (b : wB) : Prop := (¬ x3 = 0 → (wp_M_rank_48 po k0 k1 x1 x2 f a b)) ∧ (x3 = 0 → (vp_in x1 6 ∧ (((a 5 x1.toNatClampNeg) = 0 → (wp_M_rank_48 po k0 k1 x1 x2 f a b)) ∧ (¬ (a 5 x1.toNatClampNeg) = 0 → (wp_M_rank_49 po (1 : Int32) k0 k1 x1 x2 f a b)))))
def wp_M_rank_13 (po : wF → wA → wB → Prop) (k0 : Int32) (x1 : Int32) (x2 : Int32) (f : wF) (a : wA) (b : wB) : Prop := wp_M_in (fun r20 f20 a20 b20 => (¬ r20 = 0 → (wp_M_rank_31 po (0 : Int32) k0 x1 x2 k0 f20 a20 b20)) ∧ (r20 = 0 → (wp_M_rank_31 po (1 : Int32) k0 x1 x2 k0 f20 a20 b20))) x2 (1 : Int32) (9 : Int32) f a b
def wp_M_rank (po : wF → wA → wB → Prop) (x1 : Int32) (x2 : Int32) (f : wF) (a : wA) (b : wB) : Prop := wp_M_isIncident (fun r2 f2 a2 b2 => (¬ r2 = 0 → (wp_M_rank_13 po (0 : Int32) x1 x2 f2 a2 b2)) ∧ (r2 = 0 → (wp_M_rank_13 po (1 : Int32) x1 x2 f2 a2 b2))) x1 f a b
def wp_M_need_98 (po : Int32 → wF → wA → wB → Prop) : Nat → Int32 → Int32 → Int32 → Int32 → wF → wA → wB → Prop
  | 0 => fun _ _ _ _ _ _ _ => False
  | n + 1 => fun x1 x2 x3 x6 f a b => (x3 ≤ x6 → (po (f 3) f a b)) ∧ (¬ x3 ≤ x6 → (vp_in (f 3) 10 ∧ vp_in (f 3) 10 ∧ vp_in (f 3) 10 ∧ vp_in (f 3) 10 ∧ (wp_M_need_98 po n x1 x2 x3 (x6 + (1 : Int32)) (va_up f 3 ((f 3) + (1 : Int32))) (va_up (va_up (va_up (va_up a 6 (upd (a 6) (f 3).toNatClampNeg x1)) 7 (upd ((va_up a 6 (upd (a 6) (f 3).toNatClampNeg x1)) 7) (f 3).toNatClampNeg x2)) 8 (upd ((va_up (va_up a 6 (upd (a 6) (f 3).toNatClampNeg x1)) 7 (upd ((va_up a 6 (upd (a 6) (f 3).toNatClampNeg x1)) 7) (f 3).toNatClampNeg x2)) 8) (f 3).toNatClampNeg (-1 : Int32))) 9 (upd ((va_up (va_up (va_up a 6 (upd (a 6) (f 3).toNatClampNeg x1)) 7 (upd ((va_up a 6 (upd (a 6) (f 3).toNatClampNeg x1)) 7) (f 3).toNatClampNeg x2)) 8 (upd ((va_up (va_up a 6 (upd (a 6) (f 3).toNatClampNeg x1)) 7 (upd ((va_up a 6 (upd (a 6) (f 3).toNatClampNeg x1)) 7) (f 3).toNatClampNeg x2)) 8) (f 3).toNatClampNeg (-1 : Int32))) 9) (f 3).toNatClampNeg (vp_nar .boolean (0 : Int32)))) b)))
def wp_M_need_87 (po : Int32 → wF → wA → wB → Prop) (k0 : Int32) (k1 : Int32) (k2 : Int32) (k3 : Int32) (x1 : Int32) (x2 : Int32) (x3 : Int32) (f : wF) (a : wA) (b : wB) : Prop := wp_M_throwing (fun r87 f87 a87 b87 => (r87 = 0 → (∃ n9, wp_M_need_98 po n9 x1 x2 x3 (0 : Int32) f87 a87 b87)) ∧ (¬ r87 = 0 → (po (0 : Int32) f87 a87 b87))) k3 k2 k1 k0 f a b
def wp_M_need_86 (po : Int32 → wF → wA → wB → Prop) (k0 : Int32) (k1 : Int32) (k2 : Int32) (x1 : Int32) (x2 : Int32) (x3 : Int32) (f : wF) (a : wA) (b : wB) : Prop := wp_M_need_87 po (0 : Int32) k0 k1 k2 x1 x2 x3 f a b
def wp_M_need_66 (po : Int32 → wF → wA → wB → Prop) (k0 : Int32) (k1 : Int32) (k2 : Int32) (x1 : Int32) (x2 : Int32) (x3 : Int32) (x5 : Int32) (f : wF) (a : wA) (b : wB) : Prop := (¬ x5 = 0 → (wp_M_need_86 po k0 k1 k2 x1 x2 x3 f a b)) ∧ (x5 = 0 → ((((f 3) + x3) ≤ (10 : Int32) → (wp_M_need_86 po k0 k1 k2 x1 x2 x3 f a b)) ∧ (¬ ((f 3) + x3) ≤ (10 : Int32) → (wp_M_need_87 po (1 : Int32) k0 k1 k2 x1 x2 x3 f a b))))
def wp_M_need_65 (po : Int32 → wF → wA → wB → Prop) (k0 : Int32) (k1 : Int32) (x1 : Int32) (x2 : Int32) (x3 : Int32) (x5 : Int32) (f : wF) (a : wA) (b : wB) : Prop := wp_M_need_66 po (0 : Int32) k0 k1 x1 x2 x3 x5 f a b
def wp_M_need_40 (po : Int32 → wF → wA → wB → Prop) (k0 : Int32) (x1 : Int32) (x2 : Int32) (x3 : Int32) (x4 : Int32) (f : wF) (a : wA) (b : wB) : Prop := (¬ x4 = 0 → (wp_M_need_65 po k0 x4 x1 x2 x3 k0 f a b)) ∧ (x4 = 0 → (vp_in x1 6 ∧ (((a 5 x1.toNatClampNeg) = 0 → (wp_M_need_65 po k0 x4 x1 x2 x3 k0 f a b)) ∧ (¬ (a 5 x1.toNatClampNeg) = 0 → (wp_M_need_66 po (1 : Int32) k0 x4 x1 x2 x3 k0 f a b)))))
def wp_M_need_23 (po : Int32 → wF → wA → wB → Prop) (k0 : Int32) (x1 : Int32) (x2 : Int32) (x3 : Int32) (f : wF) (a : wA) (b : wB) : Prop := wp_M_in (fun r29 f29 a29 b29 => (¬ r29 = 0 → (wp_M_need_40 po (0 : Int32) x1 x2 x3 k0 f29 a29 b29)) ∧ (r29 = 0 → (wp_M_need_40 po (1 : Int32) x1 x2 x3 k0 f29 a29 b29))) x3 (0 : Int32) (10 : Int32) f a b
def wp_M_need_18 (po : Int32 → wF → wA → wB → Prop) (x1 : Int32) (x2 : Int32) (x3 : Int32) (f : wF) (a : wA) (b : wB) : Prop := wp_M_need_23 po (1 : Int32) x1 x2 x3 f a b
def wp_M_need (po : Int32 → wF → wA → wB → Prop) (x1 : Int32) (x2 : Int32) (x3 : Int32) (f : wF) (a : wA) (b : wB) : Prop := wp_M_isIncident (fun r2 f2 a2 b2 => (r2 = 0 → (wp_M_need_18 po x1 x2 x3 f2 a2 b2)) ∧ (¬ r2 = 0 → (wp_M_in (fun r12 f12 a12 b12 => (¬ r12 = 0 → (wp_M_need_23 po (0 : Int32) x1 x2 x3 f12 a12 b12)) ∧ (r12 = 0 → (wp_M_need_18 po x1 x2 x3 f12 a12 b12))) x2 (0 : Int32) (15 : Int32) f2 a2 b2))) x1 f a b
def wp_M_seconds_37 (po : wF → wA → wB → Prop) (k0 : Int32) (k1 : Int32) (x1 : Int32) (x2 : Int32) (x3 : Int32) (f : wF) (a : wA) (b : wB) : Prop := wp_M_throwing (fun r39 f39 a39 b39 => (r39 = 0 → (vp_in (((6 : Int32) * x1) + x2) 72 ∧ (po f39 (va_up a39 3 (upd (a39 3) (((6 : Int32) * x1) + x2).toNatClampNeg x3)) b39))) ∧ (¬ r39 = 0 → (po f39 a39 b39))) k1 k0 (0 : Int32) (0 : Int32) f a b
def wp_M_seconds_22 (po : wF → wA → wB → Prop) (k0 : Int32) (x1 : Int32) (x2 : Int32) (x3 : Int32) (f : wF) (a : wA) (b : wB) : Prop := wp_M_in (fun r26 f26 a26 b26 => (¬ r26 = 0 → (wp_M_seconds_37 po (0 : Int32) k0 x1 x2 x3 f26 a26 b26)) ∧ (r26 = 0 → (wp_M_seconds_37 po (1 : Int32) k0 x1 x2 x3 f26 a26 b26))) x3 (-1 : Int32) (99999 : Int32) f a b
def wp_M_seconds_17 (po : wF → wA → wB → Prop) (x1 : Int32) (x2 : Int32) (x3 : Int32) (f : wF) (a : wA) (b : wB) : Prop := wp_M_seconds_22 po (1 : Int32) x1 x2 x3 f a b
def wp_M_seconds (po : wF → wA → wB → Prop) (x1 : Int32) (x2 : Int32) (x3 : Int32) (f : wF) (a : wA) (b : wB) : Prop := wp_M_isUnit (fun r3 f3 a3 b3 => (r3 = 0 → (wp_M_seconds_17 po x1 x2 x3 f3 a3 b3)) ∧ (¬ r3 = 0 → (wp_M_isIncident (fun r11 f11 a11 b11 => (¬ r11 = 0 → (wp_M_seconds_22 po (0 : Int32) x1 x2 x3 f11 a11 b11)) ∧ (r11 = 0 → (wp_M_seconds_17 po x1 x2 x3 f11 a11 b11))) x2 f3 a3 b3))) x1 f a b
def wp_M_limit_31 (po : wF → wA → wB → Prop) (k0 : Int32) (k1 : Int32) (x1 : Int32) (x2 : Int32) (f : wF) (a : wA) (b : wB) : Prop := wp_M_throwing (fun r33 f33 a33 b33 => (r33 = 0 → (vp_in x1 16 ∧ (po f33 (va_up a33 10 (upd (a33 10) x1.toNatClampNeg x2)) b33))) ∧ (¬ r33 = 0 → (po f33 a33 b33))) k1 k0 (0 : Int32) (0 : Int32) f a b
def wp_M_limit_16 (po : wF → wA → wB → Prop) (k0 : Int32) (x1 : Int32) (x2 : Int32) (f : wF) (a : wA) (b : wB) : Prop := wp_M_in (fun r20 f20 a20 b20 => (¬ r20 = 0 → (wp_M_limit_31 po (0 : Int32) k0 x1 x2 f20 a20 b20)) ∧ (r20 = 0 → (wp_M_limit_31 po (1 : Int32) k0 x1 x2 f20 a20 b20))) x2 (-1 : Int32) (99999 : Int32) f a b
def wp_M_limit (po : wF → wA → wB → Prop) (x1 : Int32) (x2 : Int32) (f : wF) (a : wA) (b : wB) : Prop := wp_M_in (fun r5 f5 a5 b5 => (¬ r5 = 0 → (wp_M_limit_16 po (0 : Int32) x1 x2 f5 a5 b5)) ∧ (r5 = 0 → (wp_M_limit_16 po (1 : Int32) x1 x2 f5 a5 b5))) x1 (0 : Int32) (15 : Int32) f a b
def wp_M_reserve_26 (po : wF → wA → wB → Prop) (k0 : Int32) (x1 : Int32) (x2 : Int32) (f : wF) (a : wA) (b : wB) : Prop := wp_M_throwing (fun r29 f29 a29 b29 => (r29 = 0 → (po (va_up (va_up f29 4 x1) 5 x2) a29 b29)) ∧ (¬ r29 = 0 → (po f29 a29 b29))) k0 (0 : Int32) (0 : Int32) (0 : Int32) f a b
def wp_M_reserve_21 (po : wF → wA → wB → Prop) (x1 : Int32) (x2 : Int32) (f : wF) (a : wA) (b : wB) : Prop := wp_M_reserve_26 po (1 : Int32) x1 x2 f a b
def wp_M_reserve (po : wF → wA → wB → Prop) (x1 : Int32) (x2 : Int32) (f : wF) (a : wA) (b : wB) : Prop := wp_M_in (fun r5 f5 a5 b5 => (r5 = 0 → (wp_M_reserve_21 po x1 x2 f5 a5 b5)) ∧ (¬ r5 = 0 → (wp_M_in (fun r15 f15 a15 b15 => (¬ r15 = 0 → (wp_M_reserve_26 po (0 : Int32) x1 x2 f15 a15 b15)) ∧ (r15 = 0 → (wp_M_reserve_21 po x1 x2 f15 a15 b15))) x2 (1 : Int32) (10 : Int32) f5 a5 b5))) x1 (0 : Int32) (12 : Int32) f a b
def wp_M_needOf_27 (po : Int32 → wF → wA → wB → Prop) (J4 : Int32 → Int32 → Int32 → wF → wA → wB → Prop) (k0 : Int32) (x1 : Int32) (x3 : Int32) (f : wF) (a : wA) (b : wB) : Prop := J4 x1 k0 (x3 + (1 : Int32)) f a b
def wp_M_needOf_4 (po : Int32 → wF → wA → wB → Prop) : Nat → Int32 → Int32 → Int32 → wF → wA → wB → Prop
  | 0 => fun _ _ _ _ _ _ => False
  | n + 1 => fun x1 x2 x3 f a b => ((f 3) ≤ x3 → (po x2 f a b)) ∧ (¬ (f 3) ≤ x3 → (vp_in x3 10 ∧ ((¬ (a 8 x3.toNatClampNeg) = x1 → (wp_M_needOf_27 po (wp_M_needOf_4 po n) x2 x1 x3 f a b)) ∧ ((a 8 x3.toNatClampNeg) = x1 → (wp_M_needOf_27 po (wp_M_needOf_4 po n) x3 x1 x3 f a b)))))
def wp_M_needOf (po : Int32 → wF → wA → wB → Prop) (x1 : Int32) (f : wF) (a : wA) (b : wB) : Prop := ∃ n9, wp_M_needOf_4 po n9 x1 (-1 : Int32) (0 : Int32) f a b
def wp_M_leave (po : wF → wA → wB → Prop) (x1 : Int32) (f : wF) (a : wA) (b : wB) : Prop := vp_in x1 10 ∧ vp_in x1 10 ∧ (po f (va_up (va_up a 8 (upd (a 8) x1.toNatClampNeg (-1 : Int32))) 9 (upd ((va_up a 8 (upd (a 8) x1.toNatClampNeg (-1 : Int32))) 9) x1.toNatClampNeg (vp_nar .boolean (0 : Int32)))) b)
def wp_M_broken_76 (po : wF → wA → wB → Prop)  (f : wF) (a : wA) (b : wB) : Prop := po f a b
def wp_M_broken_43 (po : wF → wA → wB → Prop) (k0 : Int32) (k1 : Int32) (x1 : Int32) (x2 : Int32) (f : wF) (a : wA) (b : wB) : Prop := wp_M_throwing (fun r45 f45 a45 b45 => (r45 = 0 → (vp_in x1 12 ∧ (wp_M_needOf (fun r61 f61 a61 b61 => (r61 < 0 → (wp_M_broken_76 po f61 a61 b61)) ∧ (¬ r61 < 0 → (wp_M_needOf (fun r70 f70 a70 b70 => wp_M_leave (fun f73 a73 b73 => wp_M_broken_76 po f73 a73 b73) r70 f70 a70 b70) x1 f61 a61 b61))) x1 f45 (va_up a45 2 (upd (a45 2) x1.toNatClampNeg (vp_nar .boolean x2))) b45))) ∧ (¬ r45 = 0 → (po f45 a45 b45))) k1 k0 (0 : Int32) (0 : Int32) f a b
def wp_M_broken_42 (po : wF → wA → wB → Prop) (k0 : Int32) (x1 : Int32) (x2 : Int32) (f : wF) (a : wA) (b : wB) : Prop := wp_M_broken_43 po (0 : Int32) k0 x1 x2 f a b
def wp_M_broken_33 (po : wF → wA → wB → Prop) (k0 : Int32) (k2 : Int32) (x1 : Int32) (x2 : Int32) (f : wF) (a : wA) (b : wB) : Prop := vp_in k0 12 ∧ ((¬ (a 2 k0.toNatClampNeg) = x2 → (wp_M_broken_42 po k2 x1 x2 f a b)) ∧ ((a 2 k0.toNatClampNeg) = x2 → (wp_M_broken_43 po (1 : Int32) k2 x1 x2 f a b)))
def wp_M_broken_13 (po : wF → wA → wB → Prop) (k0 : Int32) (x1 : Int32) (x2 : Int32) (f : wF) (a : wA) (b : wB) : Prop := (¬ k0 = 0 → (wp_M_broken_42 po k0 x1 x2 f a b)) ∧ (k0 = 0 → ((k0 = 0 → (wp_M_broken_33 po x1 k0 x1 x2 f a b)) ∧ (¬ k0 = 0 → (wp_M_broken_33 po (0 : Int32) k0 x1 x2 f a b))))
def wp_M_broken (po : wF → wA → wB → Prop) (x1 : Int32) (x2 : Int32) (f : wF) (a : wA) (b : wB) : Prop := wp_M_isUnit (fun r2 f2 a2 b2 => (¬ r2 = 0 → (wp_M_broken_13 po (0 : Int32) x1 x2 f2 a2 b2)) ∧ (r2 = 0 → (wp_M_broken_13 po (1 : Int32) x1 x2 f2 a2 b2))) x1 f a b
def wp_M_isOpen_19 (po : Int32 → wF → wA → wB → Prop) (k0 : Int32) (f : wF) (a : wA) (b : wB) : Prop := zb k0 ∧ po k0 f a b
def wp_M_isOpen (po : Int32 → wF → wA → wB → Prop) (x1 : Int32) (f : wF) (a : wA) (b : wB) : Prop := vp_in x1 10 ∧ vp_in (a 6 x1.toNatClampNeg) 6 ∧ ((¬ (a 5 (a 6 x1.toNatClampNeg).toNatClampNeg) = 0 → (wp_M_isOpen_19 po (0 : Int32) f a b)) ∧ ((a 5 (a 6 x1.toNatClampNeg).toNatClampNeg) = 0 → (wp_M_isOpen_19 po (1 : Int32) f a b)))
def wp_M_canFill_78 (po : Int32 → wF → wA → wB → Prop) (k0 : Int32) (f : wF) (a : wA) (b : wB) : Prop := zb k0 ∧ po k0 f a b
def wp_M_canFill_77 (po : Int32 → wF → wA → wB → Prop)  (f : wF) (a : wA) (b : wB) : Prop := wp_M_canFill_78 po (0 : Int32) f a b
def wp_M_canFill_73 (po : Int32 → wF → wA → wB → Prop)  (f : wF) (a : wA) (b : wB) : Prop := wp_M_canFill_78 po (1 : Int32) f a b
def wp_M_canFill (po : Int32 → wF → wA → wB → Prop) (x1 : Int32) (x2 : Int32) (f : wF) (a : wA) (b : wB) : Prop := vp_in x2 10 ∧ vp_in (((6 : Int32) * x1) + (a 6 x2.toNatClampNeg)) 72 ∧ vp_in x2 10 ∧ vp_in (a 7 x2.toNatClampNeg) 16 ∧ vp_in x1 12 ∧ ((¬ (a 2 x1.toNatClampNeg) = 0 → (wp_M_canFill_77 po f a b)) ∧ ((a 2 x1.toNatClampNeg) = 0 → (vp_in x1 12 ∧ vp_in x2 10 ∧ ((¬ (((a 1 x1.toNatClampNeg) >>> ((a 7 x2.toNatClampNeg) &&& 31)) &&& (1 : Int32)) = (1 : Int32) → (wp_M_canFill_77 po f a b)) ∧ ((((a 1 x1.toNatClampNeg) >>> ((a 7 x2.toNatClampNeg) &&& 31)) &&& (1 : Int32)) = (1 : Int32) → (((a 3 (((6 : Int32) * x1) + (a 6 x2.toNatClampNeg)).toNatClampNeg) < 0 → (wp_M_canFill_77 po f a b)) ∧ (¬ (a 3 (((6 : Int32) * x1) + (a 6 x2.toNatClampNeg)).toNatClampNeg) < 0 → (((a 10 (a 7 x2.toNatClampNeg).toNatClampNeg) < 0 → (wp_M_canFill_73 po f a b)) ∧ (¬ (a 10 (a 7 x2.toNatClampNeg).toNatClampNeg) < 0 → (((a 10 (a 7 x2.toNatClampNeg).toNatClampNeg) < (a 3 (((6 : Int32) * x1) + (a 6 x2.toNatClampNeg)).toNatClampNeg) → (wp_M_canFill_77 po f a b)) ∧ (¬ (a 10 (a 7 x2.toNatClampNeg).toNatClampNeg) < (a 3 (((6 : Int32) * x1) + (a 6 x2.toNatClampNeg)).toNatClampNeg) → (wp_M_canFill_73 po f a b))))))))))))
def wp_M_isFixed_45 (po : Int32 → wF → wA → wB → Prop) (k0 : Int32) (f : wF) (a : wA) (b : wB) : Prop := zb k0 ∧ po k0 f a b
def wp_M_isFixed_44 (po : Int32 → wF → wA → wB → Prop)  (f : wF) (a : wA) (b : wB) : Prop := wp_M_isFixed_45 po (0 : Int32) f a b
def wp_M_isFixed (po : Int32 → wF → wA → wB → Prop) (x1 : Int32) (f : wF) (a : wA) (b : wB) : Prop := wp_M_isOpen (fun r2 f2 a2 b2 => (r2 = 0 → (wp_M_isFixed_44 po f2 a2 b2)) ∧ (¬ r2 = 0 → (vp_in x1 10 ∧ (((a2 8 x1.toNatClampNeg) < 0 → (wp_M_isFixed_44 po f2 a2 b2)) ∧ (¬ (a2 8 x1.toNatClampNeg) < 0 → (vp_in x1 10 ∧ (((a2 9 x1.toNatClampNeg) = 0 → (wp_M_isFixed_44 po f2 a2 b2)) ∧ (¬ (a2 9 x1.toNatClampNeg) = 0 → (vp_in x1 10 ∧ (wp_M_canFill (fun r34 f34 a34 b34 => (r34 = 0 → (wp_M_isFixed_44 po f34 a34 b34)) ∧ (¬ r34 = 0 → (wp_M_isFixed_45 po (1 : Int32) f34 a34 b34))) (a2 8 x1.toNatClampNeg) x1 f2 a2 b2)))))))))) x1 f a b
def wp_M_rankOf (po : Int32 → wF → wA → wB → Prop) (x1 : Int32) (f : wF) (a : wA) (b : wB) : Prop := vp_in x1 10 ∧ vp_in (a 6 x1.toNatClampNeg) 6 ∧ (po (a 4 (a 6 x1.toNatClampNeg).toNatClampNeg) f a b)
def wp_M_most_31 (po : Int32 → wF → wA → wB → Prop) (J8 : Int32 → Int32 → wF → wA → wB → Prop) (k0 : Int32) (k1 : Int32) (x2 : Int32) (f : wF) (a : wA) (b : wB) : Prop := J8 (k1 + k0) (x2 + (1 : Int32)) f a b
def wp_M_most_8 (po : Int32 → wF → wA → wB → Prop) : Nat → Int32 → Int32 → wF → wA → wB → Prop
  | 0 => fun _ _ _ _ _ => False
  | n + 1 => fun x1 x2 f a b => ((f 1) ≤ x2 → (po x1 f a b)) ∧ (¬ (f 1) ≤ x2 → (vp_in x2 12 ∧ (((a 2 x2.toNatClampNeg) = 0 → (wp_M_most_31 po (wp_M_most_8 po n) (1 : Int32) x1 x2 f a b)) ∧ (¬ (a 2 x2.toNatClampNeg) = 0 → (wp_M_most_31 po (wp_M_most_8 po n) (0 : Int32) x1 x2 f a b)))))
def wp_M_most (po : Int32 → wF → wA → wB → Prop)  (f : wF) (a : wA) (b : wB) : Prop := ∃ n9, wp_M_most_8 po n9 (-(f 4)) (0 : Int32) f a b
def wp_M_fixedUnits_31 (po : Int32 → wF → wA → wB → Prop) (J4 : Int32 → Int32 → wF → wA → wB → Prop) (x1 : Int32) (x2 : Int32) (f : wF) (a : wA) (b : wB) : Prop := J4 x1 (x2 + (1 : Int32)) f a b
def wp_M_fixedUnits_4 (po : Int32 → wF → wA → wB → Prop) : Nat → Int32 → Int32 → wF → wA → wB → Prop
  | 0 => fun _ _ _ _ _ => False
  | n + 1 => fun x1 x2 f a b => ((f 3) ≤ x2 → (po x1 f a b)) ∧ (¬ (f 3) ≤ x2 → (wp_M_isFixed (fun r14 f14 a14 b14 => (r14 = 0 → (wp_M_fixedUnits_31 po (wp_M_fixedUnits_4 po n) x1 x2 f14 a14 b14)) ∧ (¬ r14 = 0 → (vp_in x2 10 ∧ (wp_M_fixedUnits_31 po (wp_M_fixedUnits_4 po n) (x1 ||| ((1 : Int32) <<< ((a14 8 x2.toNatClampNeg) &&& 31))) x2 f14 a14 b14)))) x2 f a b))
def wp_M_fixedUnits (po : Int32 → wF → wA → wB → Prop)  (f : wF) (a : wA) (b : wB) : Prop := ∃ n9, wp_M_fixedUnits_4 po n9 (0 : Int32) (0 : Int32) f a b
def wp_M_ones_4 (po : Int32 → wF → wA → wB → Prop) : Nat → Int32 → Int32 → Int32 → wF → wA → wB → Prop
  | 0 => fun _ _ _ _ _ _ => False
  | n + 1 => fun x0 x1 x2 f a b => ((12 : Int32) ≤ x2 → (po x1 f a b)) ∧ (¬ (12 : Int32) ≤ x2 → (wp_M_ones_4 po n x0 (x1 + ((x0 >>> (x2 &&& 31)) &&& (1 : Int32))) (x2 + (1 : Int32)) f a b))
def wp_M_ones (po : Int32 → wF → wA → wB → Prop) (x0 : Int32) (f : wF) (a : wA) (b : wB) : Prop := ∃ n9, wp_M_ones_4 po n9 x0 (0 : Int32) (0 : Int32) f a b
def wp_M_gather_89 (po : wF → wA → wB → Prop) (J7 : Int32 → wF → wA → wB → Prop) (J14 : Int32 → Int32 → wF → wA → wB → Prop) (x1 : Int32) (x2 : Int32) (f : wF) (a : wA) (b : wB) : Prop := J14 x1 (x2 + (1 : Int32)) f a b
def wp_M_gather_66 (po : wF → wA → wB → Prop) (J7 : Int32 → wF → wA → wB → Prop) (J14 : Int32 → Int32 → wF → wA → wB → Prop) (k0 : Int32) (k1 : Int32) (x1 : Int32) (x2 : Int32) (f : wF) (a : wA) (b : wB) : Prop := (¬ k1 = k0 → (wp_M_gather_89 po J7 J14 x1 x2 f a b)) ∧ (k1 = k0 → (vp_in (f 6) 10 ∧ (wp_M_gather_89 po J7 J14 x1 x2 (va_up f 6 ((f 6) + (1 : Int32))) (va_up a 11 (upd (a 11) (f 6).toNatClampNeg x2)) b)))
def wp_M_gather_39 (po : wF → wA → wB → Prop) (J7 : Int32 → wF → wA → wB → Prop) (J14 : Int32 → Int32 → wF → wA → wB → Prop) (k0 : Int32) (x1 : Int32) (x2 : Int32) (f : wF) (a : wA) (b : wB) : Prop := wp_M_isOpen (fun r42 f42 a42 b42 => (r42 = 0 → (wp_M_gather_89 po J7 J14 x1 x2 f42 a42 b42)) ∧ (¬ r42 = 0 → (wp_M_isFixed (fun r50 f50 a50 b50 => (¬ r50 = 0 → (wp_M_gather_89 po J7 J14 x1 x2 f50 a50 b50)) ∧ (r50 = 0 → ((¬ x1 = 0 → (wp_M_gather_66 po J7 J14 (0 : Int32) k0 x1 x2 f50 a50 b50)) ∧ (x1 = 0 → (wp_M_gather_66 po J7 J14 (1 : Int32) k0 x1 x2 f50 a50 b50))))) x2 f42 a42 b42))) x2 f a b
def wp_M_gather_14 (po : wF → wA → wB → Prop) (J7 : Int32 → wF → wA → wB → Prop) : Nat → Int32 → Int32 → wF → wA → wB → Prop
  | 0 => fun _ _ _ _ _ => False
  | n + 1 => fun x1 x2 f a b => ((f 3) ≤ x2 → (J7 (x1 + (1 : Int32)) f a b)) ∧ (¬ (f 3) ≤ x2 → (wp_M_rankOf (fun r24 f24 a24 b24 => (r24 < (f24 5) → (wp_M_gather_39 po J7 (wp_M_gather_14 po J7 n) (0 : Int32) x1 x2 f24 a24 b24)) ∧ (¬ r24 < (f24 5) → (wp_M_gather_39 po J7 (wp_M_gather_14 po J7 n) (1 : Int32) x1 x2 f24 a24 b24))) x2 f a b))
def wp_M_gather_7 (po : wF → wA → wB → Prop) : Nat → Int32 → wF → wA → wB → Prop
  | 0 => fun _ _ _ _ => False
  | n + 1 => fun x1 f a b => ((2 : Int32) ≤ x1 → (po f a b)) ∧ (¬ (2 : Int32) ≤ x1 → (∃ n9, wp_M_gather_14 po (wp_M_gather_7 po n) n9 x1 (0 : Int32) f a b))
def wp_M_gather (po : wF → wA → wB → Prop)  (f : wF) (a : wA) (b : wB) : Prop := ∃ n9, wp_M_gather_7 po n9 (0 : Int32) (va_up f 6 (0 : Int32)) a b
def wp_M_may_50 (po : Int32 → wF → wA → wB → Prop) (k0 : Int32) (f : wF) (a : wA) (b : wB) : Prop := zb k0 ∧ po k0 f a b
def wp_M_may_45 (po : Int32 → wF → wA → wB → Prop)  (f : wF) (a : wA) (b : wB) : Prop := wp_M_may_50 po (1 : Int32) f a b
def wp_M_may_18 (po : Int32 → wF → wA → wB → Prop)  (f : wF) (a : wA) (b : wB) : Prop := zb (0 : Int32) ∧ po (0 : Int32) f a b
def wp_M_may (po : Int32 → wF → wA → wB → Prop) (x1 : Int32) (x2 : Int32) (x3 : Int32) (f : wF) (a : wA) (b : wB) : Prop := (((x3 >>> (x2 &&& 31)) &&& (1 : Int32)) = (1 : Int32) → (wp_M_may_18 po f a b)) ∧ (¬ ((x3 >>> (x2 &&& 31)) &&& (1 : Int32)) = (1 : Int32) → (wp_M_canFill (fun r12 f12 a12 b12 => (¬ r12 = 0 → (wp_M_rankOf (fun r22 f22 a22 b22 => ((f22 5) ≤ r22 → (wp_M_may_45 po f22 a22 b22)) ∧ (¬ (f22 5) ≤ r22 → (wp_M_ones (fun r33 f33 a33 b33 => wp_M_most (fun r39 f39 a39 b39 => (r39 < (r33 + (1 : Int32)) → (wp_M_may_50 po (0 : Int32) f39 a39 b39)) ∧ (¬ r39 < (r33 + (1 : Int32)) → (wp_M_may_45 po f39 a39 b39))) f33 a33 b33) x3 f22 a22 b22))) x1 f12 a12 b12)) ∧ (r12 = 0 → (wp_M_may_18 po f12 a12 b12))) x2 x1 f a b))
def wp_M_with (po : Int64 → wF → wA → wB → Prop) (x1 : Int32) (x2 : Int32) (x3 : Int32) (f : wF) (a : wA) (b : wB) : Prop := vp_in x1 10 ∧ (wp_M_rankOf (fun r11 f11 a11 b11 => vp_in (a 11 x1.toNatClampNeg) 10 ∧ vp_in (((6 : Int32) * x2) + (a11 6 (a 11 x1.toNatClampNeg).toNatClampNeg)) 72 ∧ vp_in (((4096 : Int32) * (x1 + (1 : Int32))) + (x3 ||| ((1 : Int32) <<< (x2 &&& 31)))) 45056 ∧ (po ((r11.toInt64 * ((a11 3 (((6 : Int32) * x2) + (a11 6 (a 11 x1.toNatClampNeg).toNatClampNeg)).toNatClampNeg).toInt64)) + (b11 12 (((4096 : Int32) * (x1 + (1 : Int32))) + (x3 ||| ((1 : Int32) <<< (x2 &&& 31)))).toNatClampNeg)) f11 a11 b11)) (a 11 x1.toNatClampNeg) f a b)
def wp_M_without (po : Int64 → wF → wA → wB → Prop) (x1 : Int32) (x2 : Int32) (f : wF) (a : wA) (b : wB) : Prop := vp_in x1 10 ∧ (wp_M_rankOf (fun r10 f10 a10 b10 => vp_in (((4096 : Int32) * (x1 + (1 : Int32))) + x2) 45056 ∧ (po (((1000000000000 : Int64) * r10.toInt64) + (b10 12 (((4096 : Int32) * (x1 + (1 : Int32))) + x2).toNatClampNeg)) f10 a10 b10)) (a 11 x1.toNatClampNeg) f a b)
def wp_M_reckon_117 (po : wF → wA → wB → Prop) (J42 : Int32 → wF → wA → wB → Prop) (J48 : Int32 → Int32 → wF → wA → wB → Prop) (J65 : Int32 → Int32 → Int64 → Int32 → wF → wA → wB → Prop) (k0 : Int64) (x1 : Int32) (x2 : Int32) (x5 : Int32) (f : wF) (a : wA) (b : wB) : Prop := J65 x1 x2 k0 (x5 + (1 : Int32)) f a b
def wp_M_reckon_102 (po : wF → wA → wB → Prop) (J42 : Int32 → wF → wA → wB → Prop) (J48 : Int32 → Int32 → wF → wA → wB → Prop) (J65 : Int32 → Int32 → Int64 → Int32 → wF → wA → wB → Prop) (k0 : Int64) (x1 : Int32) (x2 : Int32) (x3 : Int64) (x5 : Int32) (f : wF) (a : wA) (b : wB) : Prop := (0 ≤ (lg_cmp k0 x3) → (wp_M_reckon_117 po J42 J48 J65 x3 x1 x2 x5 f a b)) ∧ (¬ 0 ≤ (lg_cmp k0 x3) → (wp_M_reckon_117 po J42 J48 J65 k0 x1 x2 x5 f a b))
def wp_M_reckon_65 (po : wF → wA → wB → Prop) (J42 : Int32 → wF → wA → wB → Prop) (J48 : Int32 → Int32 → wF → wA → wB → Prop) : Nat → Int32 → Int32 → Int64 → Int32 → wF → wA → wB → Prop
  | 0 => fun _ _ _ _ _ _ _ => False
  | n + 1 => fun x1 x2 x3 x5 f a b => ((f 1) ≤ x5 → (vp_in (((4096 : Int32) * x1) + x2) 45056 ∧ (J48 x1 (x2 + (1 : Int32)) f a (va_up b 12 (vp_updL (b 12) (((4096 : Int32) * x1) + x2).toNatClampNeg x3))))) ∧ (¬ (f 1) ≤ x5 → (vp_in x1 10 ∧ (wp_M_may (fun r84 f84 a84 b84 => (r84 = 0 → (wp_M_reckon_102 po J42 J48 (wp_M_reckon_65 po J42 J48 n) x3 x1 x2 x3 x5 f84 a84 b84)) ∧ (¬ r84 = 0 → (wp_M_with (fun r95 f95 a95 b95 => wp_M_reckon_102 po J42 J48 (wp_M_reckon_65 po J42 J48 n) r95 x1 x2 x3 x5 f95 a95 b95) x1 x5 x2 f84 a84 b84))) (a 11 x1.toNatClampNeg) x5 x2 f a b)))
def wp_M_reckon_48 (po : wF → wA → wB → Prop) (J42 : Int32 → wF → wA → wB → Prop) : Nat → Int32 → Int32 → wF → wA → wB → Prop
  | 0 => fun _ _ _ _ _ => False
  | n + 1 => fun x1 x2 f a b => ((4096 : Int32) ≤ x2 → (J42 (x1 + (-1 : Int32)) f a b)) ∧ (¬ (4096 : Int32) ≤ x2 → (wp_M_without (fun r58 f58 a58 b58 => ∃ n9, wp_M_reckon_65 po J42 (wp_M_reckon_48 po J42 n) n9 x1 x2 r58 (0 : Int32) f58 a58 b58) x1 x2 f a b))
def wp_M_reckon_42 (po : wF → wA → wB → Prop) : Nat → Int32 → wF → wA → wB → Prop
  | 0 => fun _ _ _ _ => False
  | n + 1 => fun x1 f a b => (x1 < 0 → (po f a b)) ∧ (¬ x1 < 0 → (∃ n9, wp_M_reckon_48 po (wp_M_reckon_42 po n) n9 x1 (0 : Int32) f a b))
def wp_M_reckon_6 (po : wF → wA → wB → Prop) : Nat → Int32 → wF → wA → wB → Prop
  | 0 => fun _ _ _ _ => False
  | n + 1 => fun x1 f a b => ((4096 : Int32) ≤ x1 → (∃ n9, wp_M_reckon_42 po n9 ((f 6) - (1 : Int32)) f a b)) ∧ (¬ (4096 : Int32) ≤ x1 → (vp_in (((4096 : Int32) * (f 6)) + x1) 45056 ∧ (wp_M_reckon_6 po n (x1 + (1 : Int32)) f a (va_up b 12 (vp_updL (b 12) (((4096 : Int32) * (f 6)) + x1).toNatClampNeg (0 : Int64))))))
def wp_M_reckon (po : wF → wA → wB → Prop)  (f : wF) (a : wA) (b : wB) : Prop := wp_M_gather (fun f1 a1 b1 => ∃ n9, wp_M_reckon_6 po n9 (0 : Int32) f1 a1 b1) f a b
def wp_M_present_121 (po : Int64 → wF → wA → wB → Prop) (J10 : Int64 → Int32 → Int32 → wF → wA → wB → Prop) (k0 : Int64) (k1 : Int64) (x3 : Int32) (x4 : Int32) (f : wF) (a : wA) (b : wB) : Prop := J10 (k1 + k0) x3 (x4 + (1 : Int32)) f a b
def wp_M_present_72 (po : Int64 → wF → wA → wB → Prop) (J10 : Int64 → Int32 → Int32 → wF → wA → wB → Prop) (k0 : Int32) (k1 : Int32) (x1 : Int64) (x4 : Int32) (x5 : Int32) (x6 : Int32) (f : wF) (a : wA) (b : wB) : Prop := (x6 < 0 → (wp_M_rankOf (fun r116 f116 a116 b116 => wp_M_present_121 po J10 ((1000000000000 : Int64) * r116.toInt64) x1 (k1 ||| k0) x4 f116 a116 b116) x5 f a b)) ∧ (¬ x6 < 0 → (wp_M_rankOf (fun r83 f83 a83 b83 => vp_in x5 10 ∧ vp_in (((6 : Int32) * x6) + (a83 6 x5.toNatClampNeg)) 72 ∧ (wp_M_present_121 po J10 (r83.toInt64 * ((a83 3 (((6 : Int32) * x6) + (a83 6 x5.toNatClampNeg)).toNatClampNeg).toInt64)) x1 (k1 ||| k0) x4 f83 a83 b83)) x5 f a b))
def wp_M_present_58 (po : Int64 → wF → wA → wB → Prop) (J10 : Int64 → Int32 → Int32 → wF → wA → wB → Prop) (x1 : Int64) (x3 : Int32) (x4 : Int32) (x5 : Int32) (x6 : Int32) (f : wF) (a : wA) (b : wB) : Prop := (x6 < 0 → (wp_M_present_72 po J10 (0 : Int32) x3 x1 x4 x5 x6 f a b)) ∧ (¬ x6 < 0 → (wp_M_present_72 po J10 ((1 : Int32) <<< (x6 &&& 31)) x3 x1 x4 x5 x6 f a b))
def wp_M_present_10 (po : Int64 → wF → wA → wB → Prop) : Nat → Int64 → Int32 → Int32 → wF → wA → wB → Prop
  | 0 => fun _ _ _ _ _ _ => False
  | n + 1 => fun x1 x3 x4 f a b => ((f 6) ≤ x4 → (po x1 f a b)) ∧ (¬ (f 6) ≤ x4 → (vp_in x4 10 ∧ vp_in (a 11 x4.toNatClampNeg) 10 ∧ (((a 8 (a 11 x4.toNatClampNeg).toNatClampNeg) < 0 → (wp_M_present_58 po (wp_M_present_10 po n) x1 x3 x4 (a 11 x4.toNatClampNeg) (a 8 (a 11 x4.toNatClampNeg).toNatClampNeg) f a b)) ∧ (¬ (a 8 (a 11 x4.toNatClampNeg).toNatClampNeg) < 0 → (wp_M_may (fun r48 f48 a48 b48 => (¬ r48 = 0 → (wp_M_present_58 po (wp_M_present_10 po n) x1 x3 x4 (a 11 x4.toNatClampNeg) (a 8 (a 11 x4.toNatClampNeg).toNatClampNeg) f48 a48 b48)) ∧ (r48 = 0 → (po (-1 : Int64) f48 a48 b48))) (a 11 x4.toNatClampNeg) (a 8 (a 11 x4.toNatClampNeg).toNatClampNeg) x3 f a b)))))
def wp_M_present (po : Int64 → wF → wA → wB → Prop)  (f : wF) (a : wA) (b : wB) : Prop := wp_M_fixedUnits (fun r3 f3 a3 b3 => ∃ n9, wp_M_present_10 po n9 (0 : Int64) r3 (0 : Int32) f3 a3 b3) f a b
def wp_M_send_293 (po : Int32 → wF → wA → wB → Prop) (J258 : Int32 → Int32 → wF → wA → wB → Prop) (k0 : Int32) (k1 : Int32) (x9 : Int32) (f : wF) (a : wA) (b : wB) : Prop := J258 (k1 + k0) (x9 + (1 : Int32)) f a b
def wp_M_send_292 (po : Int32 → wF → wA → wB → Prop) (J258 : Int32 → Int32 → wF → wA → wB → Prop) (k0 : Int32) (x9 : Int32) (f : wF) (a : wA) (b : wB) : Prop := wp_M_send_293 po J258 (0 : Int32) k0 x9 f a b
def wp_M_send_258 (po : Int32 → wF → wA → wB → Prop) : Nat → Int32 → Int32 → wF → wA → wB → Prop
  | 0 => fun _ _ _ _ _ => False
  | n + 1 => fun x8 x9 f a b => ((f 3) ≤ x9 → (po x8 f a b)) ∧ (¬ (f 3) ≤ x9 → (wp_M_isOpen (fun r272 f272 a272 b272 => (r272 = 0 → (wp_M_send_292 po (wp_M_send_258 po n) x8 x9 f272 a272 b272)) ∧ (¬ r272 = 0 → (vp_in x9 10 ∧ (((a272 8 x9.toNatClampNeg) < 0 → (wp_M_send_292 po (wp_M_send_258 po n) x8 x9 f272 a272 b272)) ∧ (¬ (a272 8 x9.toNatClampNeg) < 0 → (wp_M_send_293 po (wp_M_send_258 po n) (1 : Int32) x8 x9 f272 a272 b272)))))) x9 f a b))
def wp_M_send_252 (po : Int32 → wF → wA → wB → Prop)  (f : wF) (a : wA) (b : wB) : Prop := ∃ n9, wp_M_send_258 po n9 (0 : Int32) (0 : Int32) f a b
def wp_M_send_244 (po : Int32 → wF → wA → wB → Prop) (J100 : Int32 → Int32 → Int32 → wF → wA → wB → Prop) (k0 : Int32) (k1 : Int32) (x7 : Int32) (x8 : Int32) (f : wF) (a : wA) (b : wB) : Prop := J100 (k1 ||| k0) x7 (x8 + (1 : Int32)) f a b
def wp_M_send_220 (po : Int32 → wF → wA → wB → Prop) (J100 : Int32 → Int32 → Int32 → wF → wA → wB → Prop) (k0 : Int32) (k1 : Int32) (x2 : Int32) (x7 : Int32) (x8 : Int32) (x9 : Int32) (x10 : Int32) (f : wF) (a : wA) (b : wB) : Prop := vp_in k1 10 ∧ vp_in x9 10 ∧ ((x10 < 0 → (wp_M_send_244 po J100 (0 : Int32) x2 x7 x8 f (va_up (va_up a 9 (upd (a 9) k1.toNatClampNeg (vp_nar .boolean k0))) 8 (upd ((va_up a 9 (upd (a 9) k1.toNatClampNeg (vp_nar .boolean k0))) 8) x9.toNatClampNeg x10)) b)) ∧ (¬ x10 < 0 → (wp_M_send_244 po J100 ((1 : Int32) <<< (x10 &&& 31)) x2 x7 x8 f (va_up (va_up a 9 (upd (a 9) k1.toNatClampNeg (vp_nar .boolean k0))) 8 (upd ((va_up a 9 (upd (a 9) k1.toNatClampNeg (vp_nar .boolean k0))) 8) x9.toNatClampNeg x10)) b)))
def wp_M_send_219 (po : Int32 → wF → wA → wB → Prop) (J100 : Int32 → Int32 → Int32 → wF → wA → wB → Prop) (k0 : Int32) (x2 : Int32) (x7 : Int32) (x8 : Int32) (x9 : Int32) (x10 : Int32) (f : wF) (a : wA) (b : wB) : Prop := wp_M_send_220 po J100 (0 : Int32) k0 x2 x7 x8 x9 x10 f a b
def wp_M_send_181 (po : Int32 → wF → wA → wB → Prop) (J100 : Int32 → Int32 → Int32 → wF → wA → wB → Prop) (J134 : Int32 → Int32 → Int32 → Int32 → Int32 → Int32 → wF → wA → wB → Prop) (x2 : Int32) (x7 : Int32) (x8 : Int32) (x9 : Int32) (x10 : Int32) (x11 : Int32) (f : wF) (a : wA) (b : wB) : Prop := J134 x2 x7 x8 x9 x10 (x11 + (-1 : Int32)) f a b
def wp_M_send_134 (po : Int32 → wF → wA → wB → Prop) (J100 : Int32 → Int32 → Int32 → wF → wA → wB → Prop) : Nat → Int32 → Int32 → Int32 → Int32 → Int32 → Int32 → wF → wA → wB → Prop
  | 0 => fun _ _ _ _ _ _ _ _ _ => False
  | n + 1 => fun x2 x7 x8 x9 x10 x11 f a b => (x11 < 0 → (vp_in x9 10 ∧ (((a 9 x9.toNatClampNeg) = 0 → (wp_M_send_219 po J100 x9 x2 x7 x8 x9 x10 f a b)) ∧ (¬ (a 9 x9.toNatClampNeg) = 0 → (vp_in x9 10 ∧ ((¬ (a 8 x9.toNatClampNeg) = x10 → (wp_M_send_219 po J100 x9 x2 x7 x8 x9 x10 f a b)) ∧ ((a 8 x9.toNatClampNeg) = x10 → (wp_M_send_220 po J100 (1 : Int32) x9 x2 x7 x8 x9 x10 f a b)))))))) ∧ (¬ x11 < 0 → (wp_M_may (fun r145 f145 a145 b145 => (r145 = 0 → (wp_M_send_181 po J100 (wp_M_send_134 po J100 n) x2 x7 x8 x9 x10 x11 f145 a145 b145)) ∧ (¬ r145 = 0 → (wp_M_with (fun r157 f157 a157 b157 => vp_in (((4096 : Int32) * x8) + x2) 45056 ∧ ((¬ (lg_cmp r157 (b157 12 (((4096 : Int32) * x8) + x2).toNatClampNeg)) = 0 → (wp_M_send_181 po J100 (wp_M_send_134 po J100 n) x2 x7 x8 x9 x10 x11 f157 a157 b157)) ∧ ((lg_cmp r157 (b157 12 (((4096 : Int32) * x8) + x2).toNatClampNeg)) = 0 → (wp_M_send_181 po J100 (wp_M_send_134 po J100 n) x2 x7 x8 x9 x11 x11 f157 a157 b157)))) x8 x11 x2 f145 a145 b145))) x9 x11 x2 f a b))
def wp_M_send_100 (po : Int32 → wF → wA → wB → Prop) : Nat → Int32 → Int32 → Int32 → wF → wA → wB → Prop
  | 0 => fun _ _ _ _ _ _ => False
  | n + 1 => fun x2 x7 x8 f a b => ((f 6) ≤ x8 → (wp_M_send_252 po f a b)) ∧ (¬ (f 6) ≤ x8 → ((¬ x7 = 0 → (wp_M_send_252 po f a b)) ∧ (x7 = 0 → (vp_in x8 10 ∧ (∃ n9, wp_M_send_134 po (wp_M_send_100 po n) n9 x2 x7 x8 (a 11 x8.toNatClampNeg) (-1 : Int32) ((f 1) - (1 : Int32)) f a b)))))
def wp_M_send_95 (po : Int32 → wF → wA → wB → Prop) (k0 : Int32) (x2 : Int32) (f : wF) (a : wA) (b : wB) : Prop := ∃ n9, wp_M_send_100 po n9 x2 k0 (0 : Int32) f a b
def wp_M_send_94 (po : Int32 → wF → wA → wB → Prop) (x2 : Int32) (f : wF) (a : wA) (b : wB) : Prop := wp_M_send_95 po (0 : Int32) x2 f a b
def wp_M_send_85 (po : Int32 → wF → wA → wB → Prop) (k0 : Int32) (k1 : Int64) (x2 : Int32) (f : wF) (a : wA) (b : wB) : Prop := (0 ≤ (lg_cmp k1 k0.toInt64) → (wp_M_send_94 po x2 f a b)) ∧ (¬ 0 ≤ (lg_cmp k1 k0.toInt64) → (wp_M_send_95 po (1 : Int32) x2 f a b))
def wp_M_send_16 (po : Int32 → wF → wA → wB → Prop) (k0 : Int32) (x1 : Int32) (f : wF) (a : wA) (b : wB) : Prop := wp_M_throwing (fun r19 f19 a19 b19 => (r19 = 0 → (wp_M_reckon (fun f28 a28 b28 => wp_M_fixedUnits (fun r32 f32 a32 b32 => vp_in r32 45056 ∧ (wp_M_present (fun r44 f44 a44 b44 => ((lg_cmp r44 (0 : Int64)) < 0 → (wp_M_send_94 po r32 f44 a44 b44)) ∧ (¬ (lg_cmp r44 (0 : Int64)) < 0 → ((¬ (lg_cmp (r44 / (1000000000000 : Int64)) ((b32 12 r32.toNatClampNeg) / (1000000000000 : Int64))) = 0 → (wp_M_send_94 po r32 f44 a44 b44)) ∧ ((lg_cmp (r44 / (1000000000000 : Int64)) ((b32 12 r32.toNatClampNeg) / (1000000000000 : Int64))) = 0 → (((1 : Int32) ≤ x1 → (wp_M_send_85 po x1 (r44 - (b32 12 r32.toNatClampNeg)) r32 f44 a44 b44)) ∧ (¬ (1 : Int32) ≤ x1 → (wp_M_send_85 po (1 : Int32) (r44 - (b32 12 r32.toNatClampNeg)) r32 f44 a44 b44))))))) f32 a32 b32)) f28 a28 b28) f19 a19 b19)) ∧ (¬ r19 = 0 → (po (0 : Int32) f19 a19 b19))) k0 (0 : Int32) (0 : Int32) (0 : Int32) f a b
def wp_M_send (po : Int32 → wF → wA → wB → Prop) (x1 : Int32) (f : wF) (a : wA) (b : wB) : Prop := wp_M_in (fun r5 f5 a5 b5 => (¬ r5 = 0 → (wp_M_send_16 po (0 : Int32) x1 f5 a5 b5)) ∧ (r5 = 0 → (wp_M_send_16 po (1 : Int32) x1 f5 a5 b5))) x1 (0 : Int32) (1000000 : Int32) f a b
def wp_M_stay_65 (po : wF → wA → wB → Prop) (k0 : Int32) (k1 : Int32) (x2 : Int32) (x4 : Int32) (f : wF) (a : wA) (b : wB) : Prop := wp_M_throwing (fun r67 f67 a67 b67 => (r67 = 0 → (vp_in x4 10 ∧ (po f67 (va_up a67 9 (upd (a67 9) x4.toNatClampNeg (vp_nar .boolean x2))) b67))) ∧ (¬ r67 = 0 → (po f67 a67 b67))) k1 k0 (0 : Int32) (0 : Int32) f a b
def wp_M_stay_64 (po : wF → wA → wB → Prop) (k0 : Int32) (x2 : Int32) (x4 : Int32) (f : wF) (a : wA) (b : wB) : Prop := wp_M_stay_65 po (0 : Int32) k0 x2 x4 f a b
def wp_M_stay_60 (po : wF → wA → wB → Prop) (k0 : Int32) (x2 : Int32) (x4 : Int32) (f : wF) (a : wA) (b : wB) : Prop := wp_M_stay_65 po (1 : Int32) k0 x2 x4 f a b
def wp_M_stay_55 (po : wF → wA → wB → Prop) (k0 : Int32) (k2 : Int32) (x2 : Int32) (x4 : Int32) (f : wF) (a : wA) (b : wB) : Prop := vp_in k0 10 ∧ ((¬ (a 9 k0.toNatClampNeg) = x2 → (wp_M_stay_64 po k2 x2 x4 f a b)) ∧ ((a 9 k0.toNatClampNeg) = x2 → (wp_M_stay_60 po k2 x2 x4 f a b)))
def wp_M_stay_27 (po : wF → wA → wB → Prop) (k0 : Int32) (x2 : Int32) (x3 : Int32) (f : wF) (a : wA) (b : wB) : Prop := (¬ x3 = 0 → (wp_M_stay_64 po x3 x2 k0 f a b)) ∧ (x3 = 0 → ((k0 < 0 → (wp_M_stay_60 po x3 x2 k0 f a b)) ∧ (¬ k0 < 0 → ((0 ≤ k0 → (wp_M_stay_55 po k0 x3 x2 k0 f a b)) ∧ (¬ 0 ≤ k0 → (wp_M_stay_55 po (0 : Int32) x3 x2 k0 f a b))))))
def wp_M_stay_13 (po : wF → wA → wB → Prop) (k0 : Int32) (x1 : Int32) (x2 : Int32) (f : wF) (a : wA) (b : wB) : Prop := (k0 = 0 → (wp_M_needOf (fun r24 f24 a24 b24 => wp_M_stay_27 po r24 x2 k0 f24 a24 b24) x1 f a b)) ∧ (¬ k0 = 0 → (wp_M_stay_27 po (-1 : Int32) x2 k0 f a b))
def wp_M_stay (po : wF → wA → wB → Prop) (x1 : Int32) (x2 : Int32) (f : wF) (a : wA) (b : wB) : Prop := wp_M_isUnit (fun r2 f2 a2 b2 => (¬ r2 = 0 → (wp_M_stay_13 po (0 : Int32) x1 x2 f2 a2 b2)) ∧ (r2 = 0 → (wp_M_stay_13 po (1 : Int32) x1 x2 f2 a2 b2))) x1 f a b
def wp_M_recall_43 (po : wF → wA → wB → Prop) (k0 : Int32) (k1 : Int32) (x3 : Int32) (f : wF) (a : wA) (b : wB) : Prop := wp_M_throwing (fun r45 f45 a45 b45 => (r45 = 0 → (wp_M_leave (fun f54 a54 b54 => po f54 a54 b54) x3 f45 a45 b45)) ∧ (¬ r45 = 0 → (po f45 a45 b45))) k1 k0 (0 : Int32) (0 : Int32) f a b
def wp_M_recall_42 (po : wF → wA → wB → Prop) (k0 : Int32) (x3 : Int32) (f : wF) (a : wA) (b : wB) : Prop := wp_M_recall_43 po (0 : Int32) k0 x3 f a b
def wp_M_recall_27 (po : wF → wA → wB → Prop) (k0 : Int32) (x2 : Int32) (f : wF) (a : wA) (b : wB) : Prop := (¬ x2 = 0 → (wp_M_recall_42 po x2 k0 f a b)) ∧ (x2 = 0 → ((0 ≤ k0 → (wp_M_recall_42 po x2 k0 f a b)) ∧ (¬ 0 ≤ k0 → (wp_M_recall_43 po (1 : Int32) x2 k0 f a b))))
def wp_M_recall_13 (po : wF → wA → wB → Prop) (k0 : Int32) (x1 : Int32) (f : wF) (a : wA) (b : wB) : Prop := (k0 = 0 → (wp_M_needOf (fun r24 f24 a24 b24 => wp_M_recall_27 po r24 k0 f24 a24 b24) x1 f a b)) ∧ (¬ k0 = 0 → (wp_M_recall_27 po (-1 : Int32) k0 f a b))
def wp_M_recall (po : wF → wA → wB → Prop) (x1 : Int32) (f : wF) (a : wA) (b : wB) : Prop := wp_M_isUnit (fun r2 f2 a2 b2 => (¬ r2 = 0 → (wp_M_recall_13 po (0 : Int32) x1 f2 a2 b2)) ∧ (r2 = 0 → (wp_M_recall_13 po (1 : Int32) x1 f2 a2 b2))) x1 f a b
def wp_M_close_75 (po : wF → wA → wB → Prop) (J52 : Int32 → Int32 → wF → wA → wB → Prop) (x1 : Int32) (x3 : Int32) (f : wF) (a : wA) (b : wB) : Prop := J52 x1 (x3 + (1 : Int32)) f a b
def wp_M_close_52 (po : wF → wA → wB → Prop) : Nat → Int32 → Int32 → wF → wA → wB → Prop
  | 0 => fun _ _ _ _ _ => False
  | n + 1 => fun x1 x3 f a b => ((f 3) ≤ x3 → (po f a b)) ∧ (¬ (f 3) ≤ x3 → (vp_in x3 10 ∧ ((¬ (a 6 x3.toNatClampNeg) = x1 → (wp_M_close_75 po (wp_M_close_52 po n) x1 x3 f a b)) ∧ ((a 6 x3.toNatClampNeg) = x1 → (wp_M_leave (fun f72 a72 b72 => wp_M_close_75 po (wp_M_close_52 po n) x1 x3 f72 a72 b72) x3 f a b)))))
def wp_M_close_34 (po : wF → wA → wB → Prop) (k0 : Int32) (k1 : Int32) (x1 : Int32) (f : wF) (a : wA) (b : wB) : Prop := wp_M_throwing (fun r36 f36 a36 b36 => (r36 = 0 → (vp_in x1 6 ∧ (∃ n9, wp_M_close_52 po n9 x1 (0 : Int32) f36 (va_up a36 5 (upd (a36 5) x1.toNatClampNeg (vp_nar .boolean (1 : Int32)))) b36))) ∧ (¬ r36 = 0 → (po f36 a36 b36))) k1 k0 (0 : Int32) (0 : Int32) f a b
def wp_M_close_33 (po : wF → wA → wB → Prop) (k0 : Int32) (x1 : Int32) (f : wF) (a : wA) (b : wB) : Prop := wp_M_close_34 po (0 : Int32) k0 x1 f a b
def wp_M_close_13 (po : wF → wA → wB → Prop) (k0 : Int32) (x1 : Int32) (f : wF) (a : wA) (b : wB) : Prop := (¬ k0 = 0 → (wp_M_close_33 po k0 x1 f a b)) ∧ (k0 = 0 → (vp_in x1 6 ∧ (((a 5 x1.toNatClampNeg) = 0 → (wp_M_close_33 po k0 x1 f a b)) ∧ (¬ (a 5 x1.toNatClampNeg) = 0 → (wp_M_close_34 po (1 : Int32) k0 x1 f a b)))))
def wp_M_close (po : wF → wA → wB → Prop) (x1 : Int32) (f : wF) (a : wA) (b : wB) : Prop := wp_M_isIncident (fun r2 f2 a2 b2 => (¬ r2 = 0 → (wp_M_close_13 po (0 : Int32) x1 f2 a2 b2)) ∧ (r2 = 0 → (wp_M_close_13 po (1 : Int32) x1 f2 a2 b2))) x1 f a b
def wp_M_needAt_94 (po : Int32 → wF → wA → wB → Prop) (k0 : Int32) (f : wF) (a : wA) (b : wB) : Prop := po k0 f a b
def wp_M_needAt_29 (po : Int32 → wF → wA → wB → Prop) (k0 : Int32) (x1 : Int32) (x2 : Int32) (f : wF) (a : wA) (b : wB) : Prop := wp_M_throwing (fun r32 f32 a32 b32 => (r32 = 0 → ((¬ x2 = 0 → ((¬ x2 = (1 : Int32) → ((¬ x2 = (2 : Int32) → (wp_M_isOpen (fun r83 f83 a83 b83 => (r83 = 0 → (wp_M_needAt_94 po (0 : Int32) f83 a83 b83)) ∧ (¬ r83 = 0 → (wp_M_needAt_94 po (1 : Int32) f83 a83 b83))) x1 f32 a32 b32)) ∧ (x2 = (2 : Int32) → (vp_in x1 10 ∧ (wp_M_needAt_94 po (a32 8 x1.toNatClampNeg) f32 a32 b32))))) ∧ (x2 = (1 : Int32) → (vp_in x1 10 ∧ (wp_M_needAt_94 po (a32 7 x1.toNatClampNeg) f32 a32 b32))))) ∧ (x2 = 0 → (vp_in x1 10 ∧ (wp_M_needAt_94 po (a32 6 x1.toNatClampNeg) f32 a32 b32))))) ∧ (¬ r32 = 0 → (po (0 : Int32) f32 a32 b32))) k0 (0 : Int32) (0 : Int32) (0 : Int32) f a b
def wp_M_needAt_24 (po : Int32 → wF → wA → wB → Prop) (x1 : Int32) (x2 : Int32) (f : wF) (a : wA) (b : wB) : Prop := wp_M_needAt_29 po (1 : Int32) x1 x2 f a b
def wp_M_needAt (po : Int32 → wF → wA → wB → Prop) (x1 : Int32) (x2 : Int32) (f : wF) (a : wA) (b : wB) : Prop := wp_M_in (fun r9 f9 a9 b9 => (r9 = 0 → (wp_M_needAt_24 po x1 x2 f9 a9 b9)) ∧ (¬ r9 = 0 → (wp_M_in (fun r18 f18 a18 b18 => (¬ r18 = 0 → (wp_M_needAt_29 po (0 : Int32) x1 x2 f18 a18 b18)) ∧ (r18 = 0 → (wp_M_needAt_24 po x1 x2 f18 a18 b18))) x2 (0 : Int32) (3 : Int32) f9 a9 b9))) x1 (0 : Int32) ((f 3) - (1 : Int32)) f a b
def wp_M_fills_14 (po : Int32 → wF → wA → wB → Prop) (k0 : Int32) (x1 : Int32) (f : wF) (a : wA) (b : wB) : Prop := wp_M_throwing (fun r17 f17 a17 b17 => (r17 = 0 → (wp_M_needOf (fun r27 f27 a27 b27 => po r27 f27 a27 b27) x1 f17 a17 b17)) ∧ (¬ r17 = 0 → (po (0 : Int32) f17 a17 b17))) k0 (0 : Int32) (0 : Int32) (0 : Int32) f a b
def wp_M_fills (po : Int32 → wF → wA → wB → Prop) (x1 : Int32) (f : wF) (a : wA) (b : wB) : Prop := wp_M_isUnit (fun r3 f3 a3 b3 => (¬ r3 = 0 → (wp_M_fills_14 po (0 : Int32) x1 f3 a3 b3)) ∧ (r3 = 0 → (wp_M_fills_14 po (1 : Int32) x1 f3 a3 b3))) x1 f a b
def wp_M_sum_133 (po : Int32 → wF → wA → wB → Prop) (J30 : Int32 → Int32 → Int32 → wF → wA → wB → Prop) (x1 : Int32) (x2 : Int32) (x3 : Int32) (f : wF) (a : wA) (b : wB) : Prop := J30 x1 x2 (x3 + (1 : Int32)) f a b
def wp_M_sum_99 (po : Int32 → wF → wA → wB → Prop) (J30 : Int32 → Int32 → Int32 → wF → wA → wB → Prop) (x1 : Int32) (x2 : Int32) (x3 : Int32) (x4 : Int32) (x5 : Int32) (f : wF) (a : wA) (b : wB) : Prop := wp_M_isOpen (fun r101 f101 a101 b101 => (r101 = 0 → (wp_M_sum_133 po J30 x1 x2 x3 f101 a101 b101)) ∧ (¬ r101 = 0 → ((¬ x1 = (1 : Int32) → (wp_M_sum_133 po J30 x1 x2 x3 f101 a101 b101)) ∧ (x1 = (1 : Int32) → ((x4 < 0 → (wp_M_sum_133 po J30 x1 x2 x3 f101 a101 b101)) ∧ (¬ x4 < 0 → ((x5 ≤ 0 → (wp_M_sum_133 po J30 x1 x2 x3 f101 a101 b101)) ∧ (¬ x5 ≤ 0 → (wp_M_rankOf (fun r125 f125 a125 b125 => wp_M_sum_133 po J30 x1 (x2 + (r125 * x5)) x3 f125 a125 b125) x3 f101 a101 b101))))))))) x3 f a b
def wp_M_sum_72 (po : Int32 → wF → wA → wB → Prop) (J30 : Int32 → Int32 → Int32 → wF → wA → wB → Prop) (k0 : Int32) (x1 : Int32) (x2 : Int32) (x3 : Int32) (x4 : Int32) (f : wF) (a : wA) (b : wB) : Prop := wp_M_isOpen (fun r76 f76 a76 b76 => (r76 = 0 → (wp_M_sum_99 po J30 x1 x2 x3 x4 k0 f76 a76 b76)) ∧ (¬ r76 = 0 → ((¬ x1 = 0 → (wp_M_sum_99 po J30 x1 x2 x3 x4 k0 f76 a76 b76)) ∧ (x1 = 0 → ((0 ≤ x4 → (wp_M_sum_99 po J30 x1 x2 x3 x4 k0 f76 a76 b76)) ∧ (¬ 0 ≤ x4 → (wp_M_rankOf (fun r94 f94 a94 b94 => wp_M_sum_99 po J30 x1 (x2 + r94) x3 x4 k0 f94 a94 b94) x3 f76 a76 b76))))))) x3 f a b
def wp_M_sum_30 (po : Int32 → wF → wA → wB → Prop) : Nat → Int32 → Int32 → Int32 → wF → wA → wB → Prop
  | 0 => fun _ _ _ _ _ _ => False
  | n + 1 => fun x1 x2 x3 f a b => ((f 3) ≤ x3 → (po x2 f a b)) ∧ (¬ (f 3) ≤ x3 → (vp_in x3 10 ∧ (((a 8 x3.toNatClampNeg) < 0 → (wp_M_sum_72 po (wp_M_sum_30 po n) (0 : Int32) x1 x2 x3 (a 8 x3.toNatClampNeg) f a b)) ∧ (¬ (a 8 x3.toNatClampNeg) < 0 → (vp_in x3 10 ∧ vp_in (((6 : Int32) * (a 8 x3.toNatClampNeg)) + (a 6 x3.toNatClampNeg)) 72 ∧ (wp_M_sum_72 po (wp_M_sum_30 po n) (a 3 (((6 : Int32) * (a 8 x3.toNatClampNeg)) + (a 6 x3.toNatClampNeg)).toNatClampNeg) x1 x2 x3 (a 8 x3.toNatClampNeg) f a b))))))
def wp_M_sum_15 (po : Int32 → wF → wA → wB → Prop) (k0 : Int32) (x1 : Int32) (f : wF) (a : wA) (b : wB) : Prop := wp_M_throwing (fun r18 f18 a18 b18 => (r18 = 0 → (∃ n9, wp_M_sum_30 po n9 x1 (0 : Int32) (0 : Int32) f18 a18 b18)) ∧ (¬ r18 = 0 → (po (0 : Int32) f18 a18 b18))) k0 (0 : Int32) (0 : Int32) (0 : Int32) f a b
def wp_M_sum (po : Int32 → wF → wA → wB → Prop) (x1 : Int32) (f : wF) (a : wA) (b : wB) : Prop := wp_M_in (fun r4 f4 a4 b4 => (¬ r4 = 0 → (wp_M_sum_15 po (0 : Int32) x1 f4 a4 b4)) ∧ (r4 = 0 → (wp_M_sum_15 po (1 : Int32) x1 f4 a4 b4))) x1 (0 : Int32) (1 : Int32) f a b
def wp_M_alternative_137 (po : Int32 → wF → wA → wB → Prop) (J54 : Int32 → Int32 → Int32 → wF → wA → wB → Prop) (x1 : Int32) (x3 : Int32) (x4 : Int32) (f : wF) (a : wA) (b : wB) : Prop := J54 x1 x3 (x4 + (1 : Int32)) f a b
def wp_M_alternative_134 (po : Int32 → wF → wA → wB → Prop) (J54 : Int32 → Int32 → Int32 → wF → wA → wB → Prop) (x1 : Int32) (x4 : Int32) (f : wF) (a : wA) (b : wB) : Prop := wp_M_alternative_137 po J54 x1 x4 x4 f a b
def wp_M_alternative_87 (po : Int32 → wF → wA → wB → Prop) (J54 : Int32 → Int32 → Int32 → wF → wA → wB → Prop) (k0 : Int32) (x1 : Int32) (x3 : Int32) (x4 : Int32) (f : wF) (a : wA) (b : wB) : Prop := (k0 = 0 → (wp_M_alternative_137 po J54 x1 x3 x4 f a b)) ∧ (¬ k0 = 0 → ((x3 < 0 → (wp_M_alternative_134 po J54 x1 x4 f a b)) ∧ (¬ x3 < 0 → (vp_in x1 10 ∧ vp_in (((6 : Int32) * x4) + (a 6 x1.toNatClampNeg)) 72 ∧ vp_in x1 10 ∧ vp_in (((6 : Int32) * x3) + (a 6 x1.toNatClampNeg)) 72 ∧ (((a 3 (((6 : Int32) * x3) + (a 6 x1.toNatClampNeg)).toNatClampNeg) ≤ (a 3 (((6 : Int32) * x4) + (a 6 x1.toNatClampNeg)).toNatClampNeg) → (wp_M_alternative_137 po J54 x1 x3 x4 f a b)) ∧ (¬ (a 3 (((6 : Int32) * x3) + (a 6 x1.toNatClampNeg)).toNatClampNeg) ≤ (a 3 (((6 : Int32) * x4) + (a 6 x1.toNatClampNeg)).toNatClampNeg) → (wp_M_alternative_134 po J54 x1 x4 f a b)))))))
def wp_M_alternative_86 (po : Int32 → wF → wA → wB → Prop) (J54 : Int32 → Int32 → Int32 → wF → wA → wB → Prop) (x1 : Int32) (x3 : Int32) (x4 : Int32) (f : wF) (a : wA) (b : wB) : Prop := wp_M_alternative_87 po J54 (0 : Int32) x1 x3 x4 f a b
def wp_M_alternative_54 (po : Int32 → wF → wA → wB → Prop) : Nat → Int32 → Int32 → Int32 → wF → wA → wB → Prop
  | 0 => fun _ _ _ _ _ _ => False
  | n + 1 => fun x1 x3 x4 f a b => ((f 1) ≤ x4 → (po x3 f a b)) ∧ (¬ (f 1) ≤ x4 → (wp_M_canFill (fun r67 f67 a67 b67 => (r67 = 0 → (wp_M_alternative_86 po (wp_M_alternative_54 po n) x1 x3 x4 f67 a67 b67)) ∧ (¬ r67 = 0 → (wp_M_needOf (fun r76 f76 a76 b76 => (0 ≤ r76 → (wp_M_alternative_86 po (wp_M_alternative_54 po n) x1 x3 x4 f76 a76 b76)) ∧ (¬ 0 ≤ r76 → (wp_M_alternative_87 po (wp_M_alternative_54 po n) (1 : Int32) x1 x3 x4 f76 a76 b76))) x4 f67 a67 b67))) x4 x1 f a b))
def wp_M_alternative_39 (po : Int32 → wF → wA → wB → Prop) (k0 : Int32) (k1 : Int32) (x1 : Int32) (f : wF) (a : wA) (b : wB) : Prop := wp_M_throwing (fun r41 f41 a41 b41 => (r41 = 0 → (∃ n9, wp_M_alternative_54 po n9 x1 (-1 : Int32) (0 : Int32) f41 a41 b41)) ∧ (¬ r41 = 0 → (po (0 : Int32) f41 a41 b41))) k1 k0 (0 : Int32) (0 : Int32) f a b
def wp_M_alternative_38 (po : Int32 → wF → wA → wB → Prop) (k0 : Int32) (x1 : Int32) (f : wF) (a : wA) (b : wB) : Prop := wp_M_alternative_39 po (0 : Int32) k0 x1 f a b
def wp_M_alternative_19 (po : Int32 → wF → wA → wB → Prop) (k0 : Int32) (x1 : Int32) (f : wF) (a : wA) (b : wB) : Prop := (¬ k0 = 0 → (wp_M_alternative_38 po k0 x1 f a b)) ∧ (k0 = 0 → (wp_M_isOpen (fun r28 f28 a28 b28 => (¬ r28 = 0 → (wp_M_alternative_38 po k0 x1 f28 a28 b28)) ∧ (r28 = 0 → (wp_M_alternative_39 po (1 : Int32) k0 x1 f28 a28 b28))) x1 f a b))
def wp_M_alternative (po : Int32 → wF → wA → wB → Prop) (x1 : Int32) (f : wF) (a : wA) (b : wB) : Prop := wp_M_in (fun r8 f8 a8 b8 => (¬ r8 = 0 → (wp_M_alternative_19 po (0 : Int32) x1 f8 a8 b8)) ∧ (r8 = 0 → (wp_M_alternative_19 po (1 : Int32) x1 f8 a8 b8))) x1 (0 : Int32) ((f 3) - (1 : Int32)) f a b
def wp_M_never_110 (po : Int32 → wF → wA → wB → Prop) (J25 : Int32 → Int32 → wF → wA → wB → Prop) (k0 : Int32) (k1 : Int32) (x3 : Int32) (f : wF) (a : wA) (b : wB) : Prop := J25 (k1 - k0) (x3 + (1 : Int32)) f a b
def wp_M_never_99 (po : Int32 → wF → wA → wB → Prop) (J25 : Int32 → Int32 → wF → wA → wB → Prop) (x2 : Int32) (x3 : Int32) (x4 : Int32) (f : wF) (a : wA) (b : wB) : Prop := (x4 = 0 → (wp_M_never_110 po J25 (1 : Int32) x2 x3 f a b)) ∧ (¬ x4 = 0 → (wp_M_never_110 po J25 (0 : Int32) x2 x3 f a b))
def wp_M_never_80 (po : Int32 → wF → wA → wB → Prop) (J25 : Int32 → Int32 → wF → wA → wB → Prop) (J51 : Int32 → Int32 → Int32 → Int32 → wF → wA → wB → Prop) (k0 : Int32) (x2 : Int32) (x3 : Int32) (x5 : Int32) (f : wF) (a : wA) (b : wB) : Prop := J51 x2 x3 k0 (x5 + (1 : Int32)) f a b
def wp_M_never_75 (po : Int32 → wF → wA → wB → Prop) (J25 : Int32 → Int32 → wF → wA → wB → Prop) (J51 : Int32 → Int32 → Int32 → Int32 → wF → wA → wB → Prop) (x2 : Int32) (x3 : Int32) (x5 : Int32) (f : wF) (a : wA) (b : wB) : Prop := wp_M_never_80 po J25 J51 (1 : Int32) x2 x3 x5 f a b
def wp_M_never_51 (po : Int32 → wF → wA → wB → Prop) (J25 : Int32 → Int32 → wF → wA → wB → Prop) : Nat → Int32 → Int32 → Int32 → Int32 → wF → wA → wB → Prop
  | 0 => fun _ _ _ _ _ _ _ => False
  | n + 1 => fun x2 x3 x4 x5 f a b => ((f 1) ≤ x5 → ((¬ x4 = 0 → (wp_M_never_99 po J25 x2 x3 x4 f a b)) ∧ (x4 = 0 → ((¬ x2 = 0 → (wp_M_never_99 po J25 x2 x3 x4 f a b)) ∧ (x2 = 0 → (po x3 f a b)))))) ∧ (¬ (f 1) ≤ x5 → ((¬ x4 = 0 → (wp_M_never_75 po J25 (wp_M_never_51 po J25 n) x2 x3 x5 f a b)) ∧ (x4 = 0 → (wp_M_canFill (fun r69 f69 a69 b69 => (r69 = 0 → (wp_M_never_80 po J25 (wp_M_never_51 po J25 n) (0 : Int32) x2 x3 x5 f69 a69 b69)) ∧ (¬ r69 = 0 → (wp_M_never_75 po J25 (wp_M_never_51 po J25 n) x2 x3 x5 f69 a69 b69))) x5 x3 f a b))))
def wp_M_never_46 (po : Int32 → wF → wA → wB → Prop) (J25 : Int32 → Int32 → wF → wA → wB → Prop) (k0 : Int32) (x2 : Int32) (x3 : Int32) (f : wF) (a : wA) (b : wB) : Prop := ∃ n9, wp_M_never_51 po J25 n9 x2 x3 k0 (0 : Int32) f a b
def wp_M_never_25 (po : Int32 → wF → wA → wB → Prop) : Nat → Int32 → Int32 → wF → wA → wB → Prop
  | 0 => fun _ _ _ _ _ => False
  | n + 1 => fun x2 x3 f a b => ((f 3) ≤ x3 → (po (-1 : Int32) f a b)) ∧ (¬ (f 3) ≤ x3 → (wp_M_isOpen (fun r35 f35 a35 b35 => (¬ r35 = 0 → (wp_M_never_46 po (wp_M_never_25 po n) (0 : Int32) x2 x3 f35 a35 b35)) ∧ (r35 = 0 → (wp_M_never_46 po (wp_M_never_25 po n) (1 : Int32) x2 x3 f35 a35 b35))) x3 f a b))
def wp_M_never_10 (po : Int32 → wF → wA → wB → Prop) (k0 : Int32) (x1 : Int32) (f : wF) (a : wA) (b : wB) : Prop := wp_M_throwing (fun r13 f13 a13 b13 => (r13 = 0 → (∃ n9, wp_M_never_25 po n9 x1 (0 : Int32) f13 a13 b13)) ∧ (¬ r13 = 0 → (po (0 : Int32) f13 a13 b13))) k0 (0 : Int32) (0 : Int32) (0 : Int32) f a b
def wp_M_never (po : Int32 → wF → wA → wB → Prop) (x1 : Int32) (f : wF) (a : wA) (b : wB) : Prop := (0 ≤ x1 → (wp_M_never_10 po (0 : Int32) x1 f a b)) ∧ (¬ 0 ≤ x1 → (wp_M_never_10 po (1 : Int32) x1 f a b))
end
section
theorem dS_init_0 : decode cS_init 0 = .ok (.aload_n 0, 1) := by decide +kernel
theorem dS_init_1 : decode cS_init 1 = .ok (.invokespecial 1, 3) := by decide +kernel
theorem dS_init_4 : decode cS_init 4 = .ok (.aload_n 0, 1) := by decide +kernel
theorem dS_init_5 : decode cS_init 5 = .ok (.bipush 12, 2) := by decide +kernel
theorem dS_init_7 : decode cS_init 7 = .ok (.newarray .int, 2) := by decide +kernel
theorem dS_init_9 : decode cS_init 9 = .ok (.putfield 9, 3) := by decide +kernel
theorem dS_init_12 : decode cS_init 12 = .ok (.aload_n 0, 1) := by decide +kernel
theorem dS_init_13 : decode cS_init 13 = .ok (.bipush 12, 2) := by decide +kernel
theorem dS_init_15 : decode cS_init 15 = .ok (.newarray .boolean, 2) := by decide +kernel
theorem dS_init_17 : decode cS_init 17 = .ok (.putfield 13, 3) := by decide +kernel
theorem dS_init_20 : decode cS_init 20 = .ok (.aload_n 0, 1) := by decide +kernel
theorem dS_init_21 : decode cS_init 21 = .ok (.bipush 12, 2) := by decide +kernel
theorem dS_init_23 : decode cS_init 23 = .ok (.newarray .boolean, 2) := by decide +kernel
theorem dS_init_25 : decode cS_init 25 = .ok (.putfield 17, 3) := by decide +kernel
theorem dS_init_28 : decode cS_init 28 = .ok (.aload_n 0, 1) := by decide +kernel
theorem dS_init_29 : decode cS_init 29 = .ok (.bipush 12, 2) := by decide +kernel
theorem dS_init_31 : decode cS_init 31 = .ok (.newarray .int, 2) := by decide +kernel
theorem dS_init_33 : decode cS_init 33 = .ok (.putfield 20, 3) := by decide +kernel
theorem dS_init_36 : decode cS_init 36 = .ok (.aload_n 0, 1) := by decide +kernel
theorem dS_init_37 : decode cS_init 37 = .ok (.bipush 12, 2) := by decide +kernel
theorem dS_init_39 : decode cS_init 39 = .ok (.bipush 6, 2) := by decide +kernel
theorem dS_init_41 : decode cS_init 41 = .ok (.multianewarray 23 2, 4) := by decide +kernel
theorem dS_init_45 : decode cS_init 45 = .ok (.putfield 25, 3) := by decide +kernel
theorem dS_init_48 : decode cS_init 48 = .ok (.aload_n 0, 1) := by decide +kernel
theorem dS_init_49 : decode cS_init 49 = .ok (.bipush 6, 2) := by decide +kernel
theorem dS_init_51 : decode cS_init 51 = .ok (.newarray .int, 2) := by decide +kernel
theorem dS_init_53 : decode cS_init 53 = .ok (.putfield 28, 3) := by decide +kernel
theorem dS_init_56 : decode cS_init 56 = .ok (.aload_n 0, 1) := by decide +kernel
theorem dS_init_57 : decode cS_init 57 = .ok (.bipush 6, 2) := by decide +kernel
theorem dS_init_59 : decode cS_init 59 = .ok (.newarray .boolean, 2) := by decide +kernel
theorem dS_init_61 : decode cS_init 61 = .ok (.putfield 31, 3) := by decide +kernel
theorem dS_init_64 : decode cS_init 64 = .ok (.aload_n 0, 1) := by decide +kernel
theorem dS_init_65 : decode cS_init 65 = .ok (.bipush 10, 2) := by decide +kernel
theorem dS_init_67 : decode cS_init 67 = .ok (.newarray .int, 2) := by decide +kernel
theorem dS_init_69 : decode cS_init 69 = .ok (.putfield 34, 3) := by decide +kernel
theorem dS_init_72 : decode cS_init 72 = .ok (.aload_n 0, 1) := by decide +kernel
theorem dS_init_73 : decode cS_init 73 = .ok (.bipush 10, 2) := by decide +kernel
theorem dS_init_75 : decode cS_init 75 = .ok (.newarray .int, 2) := by decide +kernel
theorem dS_init_77 : decode cS_init 77 = .ok (.putfield 37, 3) := by decide +kernel
theorem dS_init_80 : decode cS_init 80 = .ok (.aload_n 0, 1) := by decide +kernel
theorem dS_init_81 : decode cS_init 81 = .ok (.bipush 10, 2) := by decide +kernel
theorem dS_init_83 : decode cS_init 83 = .ok (.newarray .int, 2) := by decide +kernel
theorem dS_init_85 : decode cS_init 85 = .ok (.putfield 40, 3) := by decide +kernel
theorem dS_init_88 : decode cS_init 88 = .ok (.aload_n 0, 1) := by decide +kernel
theorem dS_init_89 : decode cS_init 89 = .ok (.bipush 16, 2) := by decide +kernel
theorem dS_init_91 : decode cS_init 91 = .ok (.newarray .int, 2) := by decide +kernel
theorem dS_init_93 : decode cS_init 93 = .ok (.putfield 43, 3) := by decide +kernel
theorem dS_init_96 : decode cS_init 96 = .ok (.aload_n 0, 1) := by decide +kernel
theorem dS_init_97 : decode cS_init 97 = .ok (.iconst 0, 1) := by decide +kernel
theorem dS_init_98 : decode cS_init 98 = .ok (.putfield 46, 3) := by decide +kernel
theorem dS_init_101 : decode cS_init 101 = .ok (.aload_n 0, 1) := by decide +kernel
theorem dS_init_102 : decode cS_init 102 = .ok (.bipush 10, 2) := by decide +kernel
theorem dS_init_104 : decode cS_init 104 = .ok (.putfield 50, 3) := by decide +kernel
theorem dS_init_107 : decode cS_init 107 = .ok (.aload_n 0, 1) := by decide +kernel
theorem dS_init_108 : decode cS_init 108 = .ok (.new 53, 3) := by decide +kernel
theorem dS_init_111 : decode cS_init 111 = .ok (.dup, 1) := by decide +kernel
theorem dS_init_112 : decode cS_init 112 = .ok (.invokespecial 55, 3) := by decide +kernel
theorem dS_init_115 : decode cS_init 115 = .ok (.putfield 56, 3) := by decide +kernel
theorem dS_init_118 : decode cS_init 118 = .ok (.aload_n 0, 1) := by decide +kernel
theorem dS_init_119 : decode cS_init 119 = .ok (.getfield 20, 3) := by decide +kernel
theorem dS_init_122 : decode cS_init 122 = .ok (.iconst (-1), 1) := by decide +kernel
theorem dS_init_123 : decode cS_init 123 = .ok (.invokestatic 60, 3) := by decide +kernel
theorem dS_init_126 : decode cS_init 126 = .ok (.aload_n 0, 1) := by decide +kernel
theorem dS_init_127 : decode cS_init 127 = .ok (.getfield 40, 3) := by decide +kernel
theorem dS_init_130 : decode cS_init 130 = .ok (.iconst (-1), 1) := by decide +kernel
theorem dS_init_131 : decode cS_init 131 = .ok (.invokestatic 60, 3) := by decide +kernel
theorem dS_init_134 : decode cS_init 134 = .ok (.aload_n 0, 1) := by decide +kernel
theorem dS_init_135 : decode cS_init 135 = .ok (.getfield 43, 3) := by decide +kernel
theorem dS_init_138 : decode cS_init 138 = .ok (.iconst (-1), 1) := by decide +kernel
theorem dS_init_139 : decode cS_init 139 = .ok (.invokestatic 60, 3) := by decide +kernel
theorem dS_init_142 : decode cS_init 142 = .ok (.iconst 0, 1) := by decide +kernel
theorem dS_init_143 : decode cS_init 143 = .ok (.istore_n 1, 1) := by decide +kernel
theorem dS_init_144 : decode cS_init 144 = .ok (.iload_n 1, 1) := by decide +kernel
theorem dS_init_145 : decode cS_init 145 = .ok (.bipush 12, 2) := by decide +kernel
theorem dS_init_147 : decode cS_init 147 = .ok (.if_icmp .ge 19, 3) := by decide +kernel
theorem dS_init_150 : decode cS_init 150 = .ok (.aload_n 0, 1) := by decide +kernel
theorem dS_init_151 : decode cS_init 151 = .ok (.getfield 25, 3) := by decide +kernel
theorem dS_init_154 : decode cS_init 154 = .ok (.iload_n 1, 1) := by decide +kernel
theorem dS_init_155 : decode cS_init 155 = .ok (.aaload, 1) := by decide +kernel
theorem dS_init_156 : decode cS_init 156 = .ok (.iconst (-1), 1) := by decide +kernel
theorem dS_init_157 : decode cS_init 157 = .ok (.invokestatic 60, 3) := by decide +kernel
theorem dS_init_160 : decode cS_init 160 = .ok (.iinc 1 1, 3) := by decide +kernel
theorem dS_init_163 : decode cS_init 163 = .ok (.goto (-19), 3) := by decide +kernel
theorem dS_init_166 : decode cS_init 166 = .ok (.return_, 1) := by decide +kernel
theorem dS_unit_0 : decode cS_unit 0 = .ok (.iload_n 1, 1) := by decide +kernel
theorem dS_unit_1 : decode cS_unit 1 = .ok (.ifCond .lt 9, 3) := by decide +kernel
theorem dS_unit_4 : decode cS_unit 4 = .ok (.iload_n 1, 1) := by decide +kernel
theorem dS_unit_5 : decode cS_unit 5 = .ok (.ldc 66, 2) := by decide +kernel
theorem dS_unit_7 : decode cS_unit 7 = .ok (.if_icmp .lt 13, 3) := by decide +kernel
theorem dS_unit_10 : decode cS_unit 10 = .ok (.new 67, 3) := by decide +kernel
theorem dS_unit_13 : decode cS_unit 13 = .ok (.dup, 1) := by decide +kernel
theorem dS_unit_14 : decode cS_unit 14 = .ok (.ldc 69, 2) := by decide +kernel
theorem dS_unit_16 : decode cS_unit 16 = .ok (.invokespecial 71, 3) := by decide +kernel
theorem dS_unit_19 : decode cS_unit 19 = .ok (.athrow, 1) := by decide +kernel
theorem dS_unit_20 : decode cS_unit 20 = .ok (.aload_n 0, 1) := by decide +kernel
theorem dS_unit_21 : decode cS_unit 21 = .ok (.getfield 74, 3) := by decide +kernel
theorem dS_unit_24 : decode cS_unit 24 = .ok (.bipush 12, 2) := by decide +kernel
theorem dS_unit_26 : decode cS_unit 26 = .ok (.if_icmp .lt 13, 3) := by decide +kernel
theorem dS_unit_29 : decode cS_unit 29 = .ok (.new 77, 3) := by decide +kernel
theorem dS_unit_32 : decode cS_unit 32 = .ok (.dup, 1) := by decide +kernel
theorem dS_unit_33 : decode cS_unit 33 = .ok (.ldc 79, 2) := by decide +kernel
theorem dS_unit_35 : decode cS_unit 35 = .ok (.invokespecial 81, 3) := by decide +kernel
theorem dS_unit_38 : decode cS_unit 38 = .ok (.athrow, 1) := by decide +kernel
theorem dS_unit_39 : decode cS_unit 39 = .ok (.aload_n 0, 1) := by decide +kernel
theorem dS_unit_40 : decode cS_unit 40 = .ok (.getfield 9, 3) := by decide +kernel
theorem dS_unit_43 : decode cS_unit 43 = .ok (.aload_n 0, 1) := by decide +kernel
theorem dS_unit_44 : decode cS_unit 44 = .ok (.getfield 74, 3) := by decide +kernel
theorem dS_unit_47 : decode cS_unit 47 = .ok (.iload_n 1, 1) := by decide +kernel
theorem dS_unit_48 : decode cS_unit 48 = .ok (.iastore, 1) := by decide +kernel
theorem dS_unit_49 : decode cS_unit 49 = .ok (.aload_n 0, 1) := by decide +kernel
theorem dS_unit_50 : decode cS_unit 50 = .ok (.dup, 1) := by decide +kernel
theorem dS_unit_51 : decode cS_unit 51 = .ok (.getfield 74, 3) := by decide +kernel
theorem dS_unit_54 : decode cS_unit 54 = .ok (.iconst 1, 1) := by decide +kernel
theorem dS_unit_55 : decode cS_unit 55 = .ok (.iadd, 1) := by decide +kernel
theorem dS_unit_56 : decode cS_unit 56 = .ok (.putfield 74, 3) := by decide +kernel
theorem dS_unit_59 : decode cS_unit 59 = .ok (.aload_n 0, 1) := by decide +kernel
theorem dS_unit_60 : decode cS_unit 60 = .ok (.getfield 74, 3) := by decide +kernel
theorem dS_unit_63 : decode cS_unit 63 = .ok (.iconst 1, 1) := by decide +kernel
theorem dS_unit_64 : decode cS_unit 64 = .ok (.isub, 1) := by decide +kernel
theorem dS_unit_65 : decode cS_unit 65 = .ok (.ireturn, 1) := by decide +kernel
theorem dS_incident_0 : decode cS_incident 0 = .ok (.iload_n 1, 1) := by decide +kernel
theorem dS_incident_1 : decode cS_incident 1 = .ok (.invokestatic 82, 3) := by decide +kernel
theorem dS_incident_4 : decode cS_incident 4 = .ok (.aload_n 0, 1) := by decide +kernel
theorem dS_incident_5 : decode cS_incident 5 = .ok (.getfield 86, 3) := by decide +kernel
theorem dS_incident_8 : decode cS_incident 8 = .ok (.bipush 6, 2) := by decide +kernel
theorem dS_incident_10 : decode cS_incident 10 = .ok (.if_icmp .lt 13, 3) := by decide +kernel
theorem dS_incident_13 : decode cS_incident 13 = .ok (.new 77, 3) := by decide +kernel
theorem dS_incident_16 : decode cS_incident 16 = .ok (.dup, 1) := by decide +kernel
theorem dS_incident_17 : decode cS_incident 17 = .ok (.ldc 89, 2) := by decide +kernel
theorem dS_incident_19 : decode cS_incident 19 = .ok (.invokespecial 81, 3) := by decide +kernel
theorem dS_incident_22 : decode cS_incident 22 = .ok (.athrow, 1) := by decide +kernel
theorem dS_incident_23 : decode cS_incident 23 = .ok (.aload_n 0, 1) := by decide +kernel
theorem dS_incident_24 : decode cS_incident 24 = .ok (.getfield 28, 3) := by decide +kernel
theorem dS_incident_27 : decode cS_incident 27 = .ok (.aload_n 0, 1) := by decide +kernel
theorem dS_incident_28 : decode cS_incident 28 = .ok (.getfield 86, 3) := by decide +kernel
theorem dS_incident_31 : decode cS_incident 31 = .ok (.iload_n 1, 1) := by decide +kernel
theorem dS_incident_32 : decode cS_incident 32 = .ok (.iastore, 1) := by decide +kernel
theorem dS_incident_33 : decode cS_incident 33 = .ok (.aload_n 0, 1) := by decide +kernel
theorem dS_incident_34 : decode cS_incident 34 = .ok (.getfield 31, 3) := by decide +kernel
theorem dS_incident_37 : decode cS_incident 37 = .ok (.aload_n 0, 1) := by decide +kernel
theorem dS_incident_38 : decode cS_incident 38 = .ok (.getfield 86, 3) := by decide +kernel
theorem dS_incident_41 : decode cS_incident 41 = .ok (.iconst 1, 1) := by decide +kernel
theorem dS_incident_42 : decode cS_incident 42 = .ok (.bastore, 1) := by decide +kernel
theorem dS_incident_43 : decode cS_incident 43 = .ok (.aload_n 0, 1) := by decide +kernel
theorem dS_incident_44 : decode cS_incident 44 = .ok (.dup, 1) := by decide +kernel
theorem dS_incident_45 : decode cS_incident 45 = .ok (.getfield 86, 3) := by decide +kernel
theorem dS_incident_48 : decode cS_incident 48 = .ok (.iconst 1, 1) := by decide +kernel
theorem dS_incident_49 : decode cS_incident 49 = .ok (.iadd, 1) := by decide +kernel
theorem dS_incident_50 : decode cS_incident 50 = .ok (.putfield 86, 3) := by decide +kernel
theorem dS_incident_53 : decode cS_incident 53 = .ok (.aload_n 0, 1) := by decide +kernel
theorem dS_incident_54 : decode cS_incident 54 = .ok (.getfield 86, 3) := by decide +kernel
theorem dS_incident_57 : decode cS_incident 57 = .ok (.iconst 1, 1) := by decide +kernel
theorem dS_incident_58 : decode cS_incident 58 = .ok (.isub, 1) := by decide +kernel
theorem dS_incident_59 : decode cS_incident 59 = .ok (.ireturn, 1) := by decide +kernel
theorem dS_rank_0 : decode cS_rank 0 = .ok (.aload_n 0, 1) := by decide +kernel
theorem dS_rank_1 : decode cS_rank 1 = .ok (.iload_n 1, 1) := by decide +kernel
theorem dS_rank_2 : decode cS_rank 2 = .ok (.invokevirtual 91, 3) := by decide +kernel
theorem dS_rank_5 : decode cS_rank 5 = .ok (.iload_n 2, 1) := by decide +kernel
theorem dS_rank_6 : decode cS_rank 6 = .ok (.invokestatic 82, 3) := by decide +kernel
theorem dS_rank_9 : decode cS_rank 9 = .ok (.aload_n 0, 1) := by decide +kernel
theorem dS_rank_10 : decode cS_rank 10 = .ok (.iload_n 1, 1) := by decide +kernel
theorem dS_rank_11 : decode cS_rank 11 = .ok (.invokevirtual 94, 3) := by decide +kernel
theorem dS_rank_14 : decode cS_rank 14 = .ok (.aload_n 0, 1) := by decide +kernel
theorem dS_rank_15 : decode cS_rank 15 = .ok (.getfield 28, 3) := by decide +kernel
theorem dS_rank_18 : decode cS_rank 18 = .ok (.iload_n 1, 1) := by decide +kernel
theorem dS_rank_19 : decode cS_rank 19 = .ok (.iload_n 2, 1) := by decide +kernel
theorem dS_rank_20 : decode cS_rank 20 = .ok (.iastore, 1) := by decide +kernel
theorem dS_rank_21 : decode cS_rank 21 = .ok (.return_, 1) := by decide +kernel
theorem dS_need_0 : decode cS_need 0 = .ok (.aload_n 0, 1) := by decide +kernel
theorem dS_need_1 : decode cS_need 1 = .ok (.iload_n 1, 1) := by decide +kernel
theorem dS_need_2 : decode cS_need 2 = .ok (.invokevirtual 91, 3) := by decide +kernel
theorem dS_need_5 : decode cS_need 5 = .ok (.iload_n 2, 1) := by decide +kernel
theorem dS_need_6 : decode cS_need 6 = .ok (.invokestatic 97, 3) := by decide +kernel
theorem dS_need_9 : decode cS_need 9 = .ok (.iload_n 3, 1) := by decide +kernel
theorem dS_need_10 : decode cS_need 10 = .ok (.ifCond .lt 9, 3) := by decide +kernel
theorem dS_need_13 : decode cS_need 13 = .ok (.iload_n 3, 1) := by decide +kernel
theorem dS_need_14 : decode cS_need 14 = .ok (.bipush 10, 2) := by decide +kernel
theorem dS_need_16 : decode cS_need 16 = .ok (.if_icmp .le 13, 3) := by decide +kernel
theorem dS_need_19 : decode cS_need 19 = .ok (.new 67, 3) := by decide +kernel
theorem dS_need_22 : decode cS_need 22 = .ok (.dup, 1) := by decide +kernel
theorem dS_need_23 : decode cS_need 23 = .ok (.ldc 100, 2) := by decide +kernel
theorem dS_need_25 : decode cS_need 25 = .ok (.invokespecial 71, 3) := by decide +kernel
theorem dS_need_28 : decode cS_need 28 = .ok (.athrow, 1) := by decide +kernel
theorem dS_need_29 : decode cS_need 29 = .ok (.aload_n 0, 1) := by decide +kernel
theorem dS_need_30 : decode cS_need 30 = .ok (.iload_n 1, 1) := by decide +kernel
theorem dS_need_31 : decode cS_need 31 = .ok (.invokevirtual 94, 3) := by decide +kernel
theorem dS_need_34 : decode cS_need 34 = .ok (.aload_n 0, 1) := by decide +kernel
theorem dS_need_35 : decode cS_need 35 = .ok (.getfield 102, 3) := by decide +kernel
theorem dS_need_38 : decode cS_need 38 = .ok (.iload_n 3, 1) := by decide +kernel
theorem dS_need_39 : decode cS_need 39 = .ok (.iadd, 1) := by decide +kernel
theorem dS_need_40 : decode cS_need 40 = .ok (.bipush 10, 2) := by decide +kernel
theorem dS_need_42 : decode cS_need 42 = .ok (.if_icmp .le 13, 3) := by decide +kernel
theorem dS_need_45 : decode cS_need 45 = .ok (.new 77, 3) := by decide +kernel
theorem dS_need_48 : decode cS_need 48 = .ok (.dup, 1) := by decide +kernel
theorem dS_need_49 : decode cS_need 49 = .ok (.ldc 105, 2) := by decide +kernel
theorem dS_need_51 : decode cS_need 51 = .ok (.invokespecial 81, 3) := by decide +kernel
theorem dS_need_54 : decode cS_need 54 = .ok (.athrow, 1) := by decide +kernel
theorem dS_need_55 : decode cS_need 55 = .ok (.iconst 0, 1) := by decide +kernel
theorem dS_need_56 : decode cS_need 56 = .ok (.istore 4, 2) := by decide +kernel
theorem dS_need_58 : decode cS_need 58 = .ok (.iload 4, 2) := by decide +kernel
theorem dS_need_60 : decode cS_need 60 = .ok (.iload_n 3, 1) := by decide +kernel
theorem dS_need_61 : decode cS_need 61 = .ok (.if_icmp .ge 39, 3) := by decide +kernel
theorem dS_need_64 : decode cS_need 64 = .ok (.aload_n 0, 1) := by decide +kernel
theorem dS_need_65 : decode cS_need 65 = .ok (.getfield 34, 3) := by decide +kernel
theorem dS_need_68 : decode cS_need 68 = .ok (.aload_n 0, 1) := by decide +kernel
theorem dS_need_69 : decode cS_need 69 = .ok (.getfield 102, 3) := by decide +kernel
theorem dS_need_72 : decode cS_need 72 = .ok (.iload_n 1, 1) := by decide +kernel
theorem dS_need_73 : decode cS_need 73 = .ok (.iastore, 1) := by decide +kernel
theorem dS_need_74 : decode cS_need 74 = .ok (.aload_n 0, 1) := by decide +kernel
theorem dS_need_75 : decode cS_need 75 = .ok (.getfield 37, 3) := by decide +kernel
theorem dS_need_78 : decode cS_need 78 = .ok (.aload_n 0, 1) := by decide +kernel
theorem dS_need_79 : decode cS_need 79 = .ok (.getfield 102, 3) := by decide +kernel
theorem dS_need_82 : decode cS_need 82 = .ok (.iload_n 2, 1) := by decide +kernel
theorem dS_need_83 : decode cS_need 83 = .ok (.iastore, 1) := by decide +kernel
theorem dS_need_84 : decode cS_need 84 = .ok (.aload_n 0, 1) := by decide +kernel
theorem dS_need_85 : decode cS_need 85 = .ok (.dup, 1) := by decide +kernel
theorem dS_need_86 : decode cS_need 86 = .ok (.getfield 102, 3) := by decide +kernel
theorem dS_need_89 : decode cS_need 89 = .ok (.iconst 1, 1) := by decide +kernel
theorem dS_need_90 : decode cS_need 90 = .ok (.iadd, 1) := by decide +kernel
theorem dS_need_91 : decode cS_need 91 = .ok (.putfield 102, 3) := by decide +kernel
theorem dS_need_94 : decode cS_need 94 = .ok (.iinc 4 1, 3) := by decide +kernel
theorem dS_need_97 : decode cS_need 97 = .ok (.goto (-39), 3) := by decide +kernel
theorem dS_need_100 : decode cS_need 100 = .ok (.aload_n 0, 1) := by decide +kernel
theorem dS_need_101 : decode cS_need 101 = .ok (.getfield 102, 3) := by decide +kernel
theorem dS_need_104 : decode cS_need 104 = .ok (.ireturn, 1) := by decide +kernel
theorem dS_seconds_0 : decode cS_seconds 0 = .ok (.aload_n 0, 1) := by decide +kernel
theorem dS_seconds_1 : decode cS_seconds 1 = .ok (.iload_n 1, 1) := by decide +kernel
theorem dS_seconds_2 : decode cS_seconds 2 = .ok (.invokevirtual 107, 3) := by decide +kernel
theorem dS_seconds_5 : decode cS_seconds 5 = .ok (.aload_n 0, 1) := by decide +kernel
theorem dS_seconds_6 : decode cS_seconds 6 = .ok (.iload_n 2, 1) := by decide +kernel
theorem dS_seconds_7 : decode cS_seconds 7 = .ok (.invokevirtual 91, 3) := by decide +kernel
theorem dS_seconds_10 : decode cS_seconds 10 = .ok (.iload_n 3, 1) := by decide +kernel
theorem dS_seconds_11 : decode cS_seconds 11 = .ok (.invokestatic 110, 3) := by decide +kernel
theorem dS_seconds_14 : decode cS_seconds 14 = .ok (.aload_n 0, 1) := by decide +kernel
theorem dS_seconds_15 : decode cS_seconds 15 = .ok (.getfield 25, 3) := by decide +kernel
theorem dS_seconds_18 : decode cS_seconds 18 = .ok (.iload_n 1, 1) := by decide +kernel
theorem dS_seconds_19 : decode cS_seconds 19 = .ok (.aaload, 1) := by decide +kernel
theorem dS_seconds_20 : decode cS_seconds 20 = .ok (.iload_n 2, 1) := by decide +kernel
theorem dS_seconds_21 : decode cS_seconds 21 = .ok (.iload_n 3, 1) := by decide +kernel
theorem dS_seconds_22 : decode cS_seconds 22 = .ok (.iastore, 1) := by decide +kernel
theorem dS_seconds_23 : decode cS_seconds 23 = .ok (.return_, 1) := by decide +kernel
theorem dS_limit_0 : decode cS_limit 0 = .ok (.iload_n 1, 1) := by decide +kernel
theorem dS_limit_1 : decode cS_limit 1 = .ok (.invokestatic 97, 3) := by decide +kernel
theorem dS_limit_4 : decode cS_limit 4 = .ok (.iload_n 2, 1) := by decide +kernel
theorem dS_limit_5 : decode cS_limit 5 = .ok (.invokestatic 110, 3) := by decide +kernel
theorem dS_limit_8 : decode cS_limit 8 = .ok (.aload_n 0, 1) := by decide +kernel
theorem dS_limit_9 : decode cS_limit 9 = .ok (.getfield 43, 3) := by decide +kernel
theorem dS_limit_12 : decode cS_limit 12 = .ok (.iload_n 1, 1) := by decide +kernel
theorem dS_limit_13 : decode cS_limit 13 = .ok (.iload_n 2, 1) := by decide +kernel
theorem dS_limit_14 : decode cS_limit 14 = .ok (.iastore, 1) := by decide +kernel
theorem dS_limit_15 : decode cS_limit 15 = .ok (.return_, 1) := by decide +kernel
theorem dS_reserve_0 : decode cS_reserve 0 = .ok (.iload_n 1, 1) := by decide +kernel
theorem dS_reserve_1 : decode cS_reserve 1 = .ok (.ifCond .lt 9, 3) := by decide +kernel
theorem dS_reserve_4 : decode cS_reserve 4 = .ok (.iload_n 1, 1) := by decide +kernel
theorem dS_reserve_5 : decode cS_reserve 5 = .ok (.bipush 12, 2) := by decide +kernel
theorem dS_reserve_7 : decode cS_reserve 7 = .ok (.if_icmp .le 13, 3) := by decide +kernel
theorem dS_reserve_10 : decode cS_reserve 10 = .ok (.new 67, 3) := by decide +kernel
theorem dS_reserve_13 : decode cS_reserve 13 = .ok (.dup, 1) := by decide +kernel
theorem dS_reserve_14 : decode cS_reserve 14 = .ok (.ldc 113, 2) := by decide +kernel
theorem dS_reserve_16 : decode cS_reserve 16 = .ok (.invokespecial 71, 3) := by decide +kernel
theorem dS_reserve_19 : decode cS_reserve 19 = .ok (.athrow, 1) := by decide +kernel
theorem dS_reserve_20 : decode cS_reserve 20 = .ok (.iload_n 2, 1) := by decide +kernel
theorem dS_reserve_21 : decode cS_reserve 21 = .ok (.iconst 1, 1) := by decide +kernel
theorem dS_reserve_22 : decode cS_reserve 22 = .ok (.if_icmp .lt 9, 3) := by decide +kernel
theorem dS_reserve_25 : decode cS_reserve 25 = .ok (.iload_n 2, 1) := by decide +kernel
theorem dS_reserve_26 : decode cS_reserve 26 = .ok (.bipush 10, 2) := by decide +kernel
theorem dS_reserve_28 : decode cS_reserve 28 = .ok (.if_icmp .le 13, 3) := by decide +kernel
theorem dS_reserve_31 : decode cS_reserve 31 = .ok (.new 67, 3) := by decide +kernel
theorem dS_reserve_34 : decode cS_reserve 34 = .ok (.dup, 1) := by decide +kernel
theorem dS_reserve_35 : decode cS_reserve 35 = .ok (.ldc 115, 2) := by decide +kernel
theorem dS_reserve_37 : decode cS_reserve 37 = .ok (.invokespecial 71, 3) := by decide +kernel
theorem dS_reserve_40 : decode cS_reserve 40 = .ok (.athrow, 1) := by decide +kernel
theorem dS_reserve_41 : decode cS_reserve 41 = .ok (.aload_n 0, 1) := by decide +kernel
theorem dS_reserve_42 : decode cS_reserve 42 = .ok (.iload_n 1, 1) := by decide +kernel
theorem dS_reserve_43 : decode cS_reserve 43 = .ok (.putfield 46, 3) := by decide +kernel
theorem dS_reserve_46 : decode cS_reserve 46 = .ok (.aload_n 0, 1) := by decide +kernel
theorem dS_reserve_47 : decode cS_reserve 47 = .ok (.iload_n 2, 1) := by decide +kernel
theorem dS_reserve_48 : decode cS_reserve 48 = .ok (.putfield 50, 3) := by decide +kernel
theorem dS_reserve_51 : decode cS_reserve 51 = .ok (.return_, 1) := by decide +kernel
theorem dS_broken_0 : decode cS_broken 0 = .ok (.aload_n 0, 1) := by decide +kernel
theorem dS_broken_1 : decode cS_broken 1 = .ok (.iload_n 1, 1) := by decide +kernel
theorem dS_broken_2 : decode cS_broken 2 = .ok (.invokevirtual 107, 3) := by decide +kernel
theorem dS_broken_5 : decode cS_broken 5 = .ok (.aload_n 0, 1) := by decide +kernel
theorem dS_broken_6 : decode cS_broken 6 = .ok (.getfield 13, 3) := by decide +kernel
theorem dS_broken_9 : decode cS_broken 9 = .ok (.iload_n 1, 1) := by decide +kernel
theorem dS_broken_10 : decode cS_broken 10 = .ok (.baload, 1) := by decide +kernel
theorem dS_broken_11 : decode cS_broken 11 = .ok (.iload_n 2, 1) := by decide +kernel
theorem dS_broken_12 : decode cS_broken 12 = .ok (.if_icmp .ne 13, 3) := by decide +kernel
theorem dS_broken_15 : decode cS_broken 15 = .ok (.new 117, 3) := by decide +kernel
theorem dS_broken_18 : decode cS_broken 18 = .ok (.dup, 1) := by decide +kernel
theorem dS_broken_19 : decode cS_broken 19 = .ok (.ldc 119, 2) := by decide +kernel
theorem dS_broken_21 : decode cS_broken 21 = .ok (.invokespecial 121, 3) := by decide +kernel
theorem dS_broken_24 : decode cS_broken 24 = .ok (.athrow, 1) := by decide +kernel
theorem dS_broken_25 : decode cS_broken 25 = .ok (.aload_n 0, 1) := by decide +kernel
theorem dS_broken_26 : decode cS_broken 26 = .ok (.getfield 13, 3) := by decide +kernel
theorem dS_broken_29 : decode cS_broken 29 = .ok (.iload_n 1, 1) := by decide +kernel
theorem dS_broken_30 : decode cS_broken 30 = .ok (.iload_n 2, 1) := by decide +kernel
theorem dS_broken_31 : decode cS_broken 31 = .ok (.bastore, 1) := by decide +kernel
theorem dS_broken_32 : decode cS_broken 32 = .ok (.iload_n 2, 1) := by decide +kernel
theorem dS_broken_33 : decode cS_broken 33 = .ok (.ifCond .eq 8, 3) := by decide +kernel
theorem dS_broken_36 : decode cS_broken 36 = .ok (.aload_n 0, 1) := by decide +kernel
theorem dS_broken_37 : decode cS_broken 37 = .ok (.iload_n 1, 1) := by decide +kernel
theorem dS_broken_38 : decode cS_broken 38 = .ok (.invokevirtual 122, 3) := by decide +kernel
theorem dS_broken_41 : decode cS_broken 41 = .ok (.return_, 1) := by decide +kernel
theorem dS_send_0 : decode cS_send 0 = .ok (.iload_n 1, 1) := by decide +kernel
theorem dS_send_1 : decode cS_send 1 = .ok (.ifCond .lt 9, 3) := by decide +kernel
theorem dS_send_4 : decode cS_send 4 = .ok (.iload_n 1, 1) := by decide +kernel
theorem dS_send_5 : decode cS_send 5 = .ok (.ldc 125, 2) := by decide +kernel
theorem dS_send_7 : decode cS_send 7 = .ok (.if_icmp .le 13, 3) := by decide +kernel
theorem dS_send_10 : decode cS_send 10 = .ok (.new 67, 3) := by decide +kernel
theorem dS_send_13 : decode cS_send 13 = .ok (.dup, 1) := by decide +kernel
theorem dS_send_14 : decode cS_send 14 = .ok (.ldc 126, 2) := by decide +kernel
theorem dS_send_16 : decode cS_send 16 = .ok (.invokespecial 71, 3) := by decide +kernel
theorem dS_send_19 : decode cS_send 19 = .ok (.athrow, 1) := by decide +kernel
theorem dS_send_20 : decode cS_send 20 = .ok (.aload_n 0, 1) := by decide +kernel
theorem dS_send_21 : decode cS_send 21 = .ok (.invokevirtual 128, 3) := by decide +kernel
theorem dS_send_24 : decode cS_send 24 = .ok (.aload_n 0, 1) := by decide +kernel
theorem dS_send_25 : decode cS_send 25 = .ok (.invokevirtual 131, 3) := by decide +kernel
theorem dS_send_28 : decode cS_send 28 = .ok (.istore_n 2, 1) := by decide +kernel
theorem dS_send_29 : decode cS_send 29 = .ok (.aload_n 0, 1) := by decide +kernel
theorem dS_send_30 : decode cS_send 30 = .ok (.getfield 56, 3) := by decide +kernel
theorem dS_send_33 : decode cS_send 33 = .ok (.iload_n 2, 1) := by decide +kernel
theorem dS_send_34 : decode cS_send 34 = .ok (.invokevirtual 135, 3) := by decide +kernel
theorem dS_send_37 : decode cS_send 37 = .ok (.aload_n 0, 1) := by decide +kernel
theorem dS_send_38 : decode cS_send 38 = .ok (.iload_n 2, 1) := by decide +kernel
theorem dS_send_39 : decode cS_send 39 = .ok (.iload_n 1, 1) := by decide +kernel
theorem dS_send_40 : decode cS_send 40 = .ok (.iconst 1, 1) := by decide +kernel
theorem dS_send_41 : decode cS_send 41 = .ok (.invokestatic 138, 3) := by decide +kernel
theorem dS_send_44 : decode cS_send 44 = .ok (.invokevirtual 144, 3) := by decide +kernel
theorem dS_send_47 : decode cS_send 47 = .ok (.ifCond .ne 7, 3) := by decide +kernel
theorem dS_send_50 : decode cS_send 50 = .ok (.aload_n 0, 1) := by decide +kernel
theorem dS_send_51 : decode cS_send 51 = .ok (.invokevirtual 148, 3) := by decide +kernel
theorem dS_send_54 : decode cS_send 54 = .ok (.aload_n 0, 1) := by decide +kernel
theorem dS_send_55 : decode cS_send 55 = .ok (.invokevirtual 151, 3) := by decide +kernel
theorem dS_send_58 : decode cS_send 58 = .ok (.ireturn, 1) := by decide +kernel
theorem dS_stay_0 : decode cS_stay 0 = .ok (.aload_n 0, 1) := by decide +kernel
theorem dS_stay_1 : decode cS_stay 1 = .ok (.iload_n 1, 1) := by decide +kernel
theorem dS_stay_2 : decode cS_stay 2 = .ok (.invokevirtual 107, 3) := by decide +kernel
theorem dS_stay_5 : decode cS_stay 5 = .ok (.aload_n 0, 1) := by decide +kernel
theorem dS_stay_6 : decode cS_stay 6 = .ok (.iload_n 1, 1) := by decide +kernel
theorem dS_stay_7 : decode cS_stay 7 = .ok (.invokevirtual 154, 3) := by decide +kernel
theorem dS_stay_10 : decode cS_stay 10 = .ok (.aload_n 0, 1) := by decide +kernel
theorem dS_stay_11 : decode cS_stay 11 = .ok (.getfield 17, 3) := by decide +kernel
theorem dS_stay_14 : decode cS_stay 14 = .ok (.iload_n 1, 1) := by decide +kernel
theorem dS_stay_15 : decode cS_stay 15 = .ok (.baload, 1) := by decide +kernel
theorem dS_stay_16 : decode cS_stay 16 = .ok (.iload_n 2, 1) := by decide +kernel
theorem dS_stay_17 : decode cS_stay 17 = .ok (.if_icmp .ne 13, 3) := by decide +kernel
theorem dS_stay_20 : decode cS_stay 20 = .ok (.new 117, 3) := by decide +kernel
theorem dS_stay_23 : decode cS_stay 23 = .ok (.dup, 1) := by decide +kernel
theorem dS_stay_24 : decode cS_stay 24 = .ok (.ldc 119, 2) := by decide +kernel
theorem dS_stay_26 : decode cS_stay 26 = .ok (.invokespecial 121, 3) := by decide +kernel
theorem dS_stay_29 : decode cS_stay 29 = .ok (.athrow, 1) := by decide +kernel
theorem dS_stay_30 : decode cS_stay 30 = .ok (.aload_n 0, 1) := by decide +kernel
theorem dS_stay_31 : decode cS_stay 31 = .ok (.getfield 17, 3) := by decide +kernel
theorem dS_stay_34 : decode cS_stay 34 = .ok (.iload_n 1, 1) := by decide +kernel
theorem dS_stay_35 : decode cS_stay 35 = .ok (.iload_n 2, 1) := by decide +kernel
theorem dS_stay_36 : decode cS_stay 36 = .ok (.bastore, 1) := by decide +kernel
theorem dS_stay_37 : decode cS_stay 37 = .ok (.return_, 1) := by decide +kernel
theorem dS_recall_0 : decode cS_recall 0 = .ok (.aload_n 0, 1) := by decide +kernel
theorem dS_recall_1 : decode cS_recall 1 = .ok (.iload_n 1, 1) := by decide +kernel
theorem dS_recall_2 : decode cS_recall 2 = .ok (.invokevirtual 107, 3) := by decide +kernel
theorem dS_recall_5 : decode cS_recall 5 = .ok (.aload_n 0, 1) := by decide +kernel
theorem dS_recall_6 : decode cS_recall 6 = .ok (.iload_n 1, 1) := by decide +kernel
theorem dS_recall_7 : decode cS_recall 7 = .ok (.invokevirtual 154, 3) := by decide +kernel
theorem dS_recall_10 : decode cS_recall 10 = .ok (.aload_n 0, 1) := by decide +kernel
theorem dS_recall_11 : decode cS_recall 11 = .ok (.iload_n 1, 1) := by decide +kernel
theorem dS_recall_12 : decode cS_recall 12 = .ok (.invokevirtual 122, 3) := by decide +kernel
theorem dS_recall_15 : decode cS_recall 15 = .ok (.return_, 1) := by decide +kernel
theorem dS_close_0 : decode cS_close 0 = .ok (.aload_n 0, 1) := by decide +kernel
theorem dS_close_1 : decode cS_close 1 = .ok (.iload_n 1, 1) := by decide +kernel
theorem dS_close_2 : decode cS_close 2 = .ok (.invokevirtual 91, 3) := by decide +kernel
theorem dS_close_5 : decode cS_close 5 = .ok (.aload_n 0, 1) := by decide +kernel
theorem dS_close_6 : decode cS_close 6 = .ok (.iload_n 1, 1) := by decide +kernel
theorem dS_close_7 : decode cS_close 7 = .ok (.invokevirtual 94, 3) := by decide +kernel
theorem dS_close_10 : decode cS_close 10 = .ok (.aload_n 0, 1) := by decide +kernel
theorem dS_close_11 : decode cS_close 11 = .ok (.getfield 31, 3) := by decide +kernel
theorem dS_close_14 : decode cS_close 14 = .ok (.iload_n 1, 1) := by decide +kernel
theorem dS_close_15 : decode cS_close 15 = .ok (.iconst 0, 1) := by decide +kernel
theorem dS_close_16 : decode cS_close 16 = .ok (.bastore, 1) := by decide +kernel
theorem dS_close_17 : decode cS_close 17 = .ok (.iconst 0, 1) := by decide +kernel
theorem dS_close_18 : decode cS_close 18 = .ok (.istore_n 2, 1) := by decide +kernel
theorem dS_close_19 : decode cS_close 19 = .ok (.iload_n 2, 1) := by decide +kernel
theorem dS_close_20 : decode cS_close 20 = .ok (.aload_n 0, 1) := by decide +kernel
theorem dS_close_21 : decode cS_close 21 = .ok (.getfield 102, 3) := by decide +kernel
theorem dS_close_24 : decode cS_close 24 = .ok (.if_icmp .ge 39, 3) := by decide +kernel
theorem dS_close_27 : decode cS_close 27 = .ok (.aload_n 0, 1) := by decide +kernel
theorem dS_close_28 : decode cS_close 28 = .ok (.getfield 34, 3) := by decide +kernel
theorem dS_close_31 : decode cS_close 31 = .ok (.iload_n 2, 1) := by decide +kernel
theorem dS_close_32 : decode cS_close 32 = .ok (.iaload, 1) := by decide +kernel
theorem dS_close_33 : decode cS_close 33 = .ok (.iload_n 1, 1) := by decide +kernel
theorem dS_close_34 : decode cS_close 34 = .ok (.if_icmp .ne 23, 3) := by decide +kernel
theorem dS_close_37 : decode cS_close 37 = .ok (.aload_n 0, 1) := by decide +kernel
theorem dS_close_38 : decode cS_close 38 = .ok (.getfield 40, 3) := by decide +kernel
theorem dS_close_41 : decode cS_close 41 = .ok (.iload_n 2, 1) := by decide +kernel
theorem dS_close_42 : decode cS_close 42 = .ok (.iaload, 1) := by decide +kernel
theorem dS_close_43 : decode cS_close 43 = .ok (.iconst (-1), 1) := by decide +kernel
theorem dS_close_44 : decode cS_close 44 = .ok (.if_icmp .eq 13, 3) := by decide +kernel
theorem dS_close_47 : decode cS_close 47 = .ok (.aload_n 0, 1) := by decide +kernel
theorem dS_close_48 : decode cS_close 48 = .ok (.aload_n 0, 1) := by decide +kernel
theorem dS_close_49 : decode cS_close 49 = .ok (.getfield 40, 3) := by decide +kernel
theorem dS_close_52 : decode cS_close 52 = .ok (.iload_n 2, 1) := by decide +kernel
theorem dS_close_53 : decode cS_close 53 = .ok (.iaload, 1) := by decide +kernel
theorem dS_close_54 : decode cS_close 54 = .ok (.invokevirtual 122, 3) := by decide +kernel
theorem dS_close_57 : decode cS_close 57 = .ok (.iinc 2 1, 3) := by decide +kernel
theorem dS_close_60 : decode cS_close 60 = .ok (.goto (-41), 3) := by decide +kernel
theorem dS_close_63 : decode cS_close 63 = .ok (.return_, 1) := by decide +kernel
theorem dS_needAt_0 : decode cS_needAt 0 = .ok (.aload_n 0, 1) := by decide +kernel
theorem dS_needAt_1 : decode cS_needAt 1 = .ok (.iload_n 1, 1) := by decide +kernel
theorem dS_needAt_2 : decode cS_needAt 2 = .ok (.invokevirtual 157, 3) := by decide +kernel
theorem dS_needAt_5 : decode cS_needAt 5 = .ok (.iload_n 2, 1) := by decide +kernel
theorem dS_needAt_6 : decode cS_needAt 6 = .ok (.tableswitch 65 0 3 #[30, 37, 44, 51], 30) := by decide +kernel
theorem dS_needAt_36 : decode cS_needAt 36 = .ok (.aload_n 0, 1) := by decide +kernel
theorem dS_needAt_37 : decode cS_needAt 37 = .ok (.getfield 34, 3) := by decide +kernel
theorem dS_needAt_40 : decode cS_needAt 40 = .ok (.iload_n 1, 1) := by decide +kernel
theorem dS_needAt_41 : decode cS_needAt 41 = .ok (.iaload, 1) := by decide +kernel
theorem dS_needAt_42 : decode cS_needAt 42 = .ok (.ireturn, 1) := by decide +kernel
theorem dS_needAt_43 : decode cS_needAt 43 = .ok (.aload_n 0, 1) := by decide +kernel
theorem dS_needAt_44 : decode cS_needAt 44 = .ok (.getfield 37, 3) := by decide +kernel
theorem dS_needAt_47 : decode cS_needAt 47 = .ok (.iload_n 1, 1) := by decide +kernel
theorem dS_needAt_48 : decode cS_needAt 48 = .ok (.iaload, 1) := by decide +kernel
theorem dS_needAt_49 : decode cS_needAt 49 = .ok (.ireturn, 1) := by decide +kernel
theorem dS_needAt_50 : decode cS_needAt 50 = .ok (.aload_n 0, 1) := by decide +kernel
theorem dS_needAt_51 : decode cS_needAt 51 = .ok (.getfield 40, 3) := by decide +kernel
theorem dS_needAt_54 : decode cS_needAt 54 = .ok (.iload_n 1, 1) := by decide +kernel
theorem dS_needAt_55 : decode cS_needAt 55 = .ok (.iaload, 1) := by decide +kernel
theorem dS_needAt_56 : decode cS_needAt 56 = .ok (.ireturn, 1) := by decide +kernel
theorem dS_needAt_57 : decode cS_needAt 57 = .ok (.aload_n 0, 1) := by decide +kernel
theorem dS_needAt_58 : decode cS_needAt 58 = .ok (.iload_n 1, 1) := by decide +kernel
theorem dS_needAt_59 : decode cS_needAt 59 = .ok (.invokevirtual 160, 3) := by decide +kernel
theorem dS_needAt_62 : decode cS_needAt 62 = .ok (.ifCond .eq 7, 3) := by decide +kernel
theorem dS_needAt_65 : decode cS_needAt 65 = .ok (.iconst 1, 1) := by decide +kernel
theorem dS_needAt_66 : decode cS_needAt 66 = .ok (.goto 4, 3) := by decide +kernel
theorem dS_needAt_69 : decode cS_needAt 69 = .ok (.iconst 0, 1) := by decide +kernel
theorem dS_needAt_70 : decode cS_needAt 70 = .ok (.ireturn, 1) := by decide +kernel
theorem dS_needAt_71 : decode cS_needAt 71 = .ok (.new 164, 3) := by decide +kernel
theorem dS_needAt_74 : decode cS_needAt 74 = .ok (.dup, 1) := by decide +kernel
theorem dS_needAt_75 : decode cS_needAt 75 = .ok (.ldc 166, 2) := by decide +kernel
theorem dS_needAt_77 : decode cS_needAt 77 = .ok (.invokespecial 168, 3) := by decide +kernel
theorem dS_needAt_80 : decode cS_needAt 80 = .ok (.athrow, 1) := by decide +kernel
theorem dS_fills_0 : decode cS_fills 0 = .ok (.aload_n 0, 1) := by decide +kernel
theorem dS_fills_1 : decode cS_fills 1 = .ok (.iload_n 1, 1) := by decide +kernel
theorem dS_fills_2 : decode cS_fills 2 = .ok (.invokevirtual 107, 3) := by decide +kernel
theorem dS_fills_5 : decode cS_fills 5 = .ok (.aload_n 0, 1) := by decide +kernel
theorem dS_fills_6 : decode cS_fills 6 = .ok (.getfield 20, 3) := by decide +kernel
theorem dS_fills_9 : decode cS_fills 9 = .ok (.iload_n 1, 1) := by decide +kernel
theorem dS_fills_10 : decode cS_fills 10 = .ok (.iaload, 1) := by decide +kernel
theorem dS_fills_11 : decode cS_fills 11 = .ok (.ireturn, 1) := by decide +kernel
theorem dS_sum_0 : decode cS_sum 0 = .ok (.iload_n 1, 1) := by decide +kernel
theorem dS_sum_1 : decode cS_sum 1 = .ok (.ifCond .eq 18, 3) := by decide +kernel
theorem dS_sum_4 : decode cS_sum 4 = .ok (.iload_n 1, 1) := by decide +kernel
theorem dS_sum_5 : decode cS_sum 5 = .ok (.iconst 1, 1) := by decide +kernel
theorem dS_sum_6 : decode cS_sum 6 = .ok (.if_icmp .eq 13, 3) := by decide +kernel
theorem dS_sum_9 : decode cS_sum 9 = .ok (.new 164, 3) := by decide +kernel
theorem dS_sum_12 : decode cS_sum 12 = .ok (.dup, 1) := by decide +kernel
theorem dS_sum_13 : decode cS_sum 13 = .ok (.ldc 169, 2) := by decide +kernel
theorem dS_sum_15 : decode cS_sum 15 = .ok (.invokespecial 168, 3) := by decide +kernel
theorem dS_sum_18 : decode cS_sum 18 = .ok (.athrow, 1) := by decide +kernel
theorem dS_sum_19 : decode cS_sum 19 = .ok (.iconst 0, 1) := by decide +kernel
theorem dS_sum_20 : decode cS_sum 20 = .ok (.istore_n 2, 1) := by decide +kernel
theorem dS_sum_21 : decode cS_sum 21 = .ok (.iconst 0, 1) := by decide +kernel
theorem dS_sum_22 : decode cS_sum 22 = .ok (.istore_n 3, 1) := by decide +kernel
theorem dS_sum_23 : decode cS_sum 23 = .ok (.iload_n 3, 1) := by decide +kernel
theorem dS_sum_24 : decode cS_sum 24 = .ok (.aload_n 0, 1) := by decide +kernel
theorem dS_sum_25 : decode cS_sum 25 = .ok (.getfield 102, 3) := by decide +kernel
theorem dS_sum_28 : decode cS_sum 28 = .ok (.if_icmp .ge 37, 3) := by decide +kernel
theorem dS_sum_31 : decode cS_sum 31 = .ok (.aload_n 0, 1) := by decide +kernel
theorem dS_sum_32 : decode cS_sum 32 = .ok (.iload_n 3, 1) := by decide +kernel
theorem dS_sum_33 : decode cS_sum 33 = .ok (.invokevirtual 160, 3) := by decide +kernel
theorem dS_sum_36 : decode cS_sum 36 = .ok (.ifCond .eq 23, 3) := by decide +kernel
theorem dS_sum_39 : decode cS_sum 39 = .ok (.iload_n 2, 1) := by decide +kernel
theorem dS_sum_40 : decode cS_sum 40 = .ok (.iload_n 1, 1) := by decide +kernel
theorem dS_sum_41 : decode cS_sum 41 = .ok (.ifCond .ne 11, 3) := by decide +kernel
theorem dS_sum_44 : decode cS_sum 44 = .ok (.aload_n 0, 1) := by decide +kernel
theorem dS_sum_45 : decode cS_sum 45 = .ok (.iload_n 3, 1) := by decide +kernel
theorem dS_sum_46 : decode cS_sum 46 = .ok (.invokevirtual 171, 3) := by decide +kernel
theorem dS_sum_49 : decode cS_sum 49 = .ok (.goto 8, 3) := by decide +kernel
theorem dS_sum_52 : decode cS_sum 52 = .ok (.aload_n 0, 1) := by decide +kernel
theorem dS_sum_53 : decode cS_sum 53 = .ok (.iload_n 3, 1) := by decide +kernel
theorem dS_sum_54 : decode cS_sum 54 = .ok (.invokevirtual 175, 3) := by decide +kernel
theorem dS_sum_57 : decode cS_sum 57 = .ok (.iadd, 1) := by decide +kernel
theorem dS_sum_58 : decode cS_sum 58 = .ok (.istore_n 2, 1) := by decide +kernel
theorem dS_sum_59 : decode cS_sum 59 = .ok (.iinc 3 1, 3) := by decide +kernel
theorem dS_sum_62 : decode cS_sum 62 = .ok (.goto (-39), 3) := by decide +kernel
theorem dS_sum_65 : decode cS_sum 65 = .ok (.iload_n 2, 1) := by decide +kernel
theorem dS_sum_66 : decode cS_sum 66 = .ok (.ireturn, 1) := by decide +kernel
theorem dS_alternative_0 : decode cS_alternative 0 = .ok (.aload_n 0, 1) := by decide +kernel
theorem dS_alternative_1 : decode cS_alternative 1 = .ok (.iload_n 1, 1) := by decide +kernel
theorem dS_alternative_2 : decode cS_alternative 2 = .ok (.invokevirtual 157, 3) := by decide +kernel
theorem dS_alternative_5 : decode cS_alternative 5 = .ok (.aload_n 0, 1) := by decide +kernel
theorem dS_alternative_6 : decode cS_alternative 6 = .ok (.aload_n 0, 1) := by decide +kernel
theorem dS_alternative_7 : decode cS_alternative 7 = .ok (.getfield 34, 3) := by decide +kernel
theorem dS_alternative_10 : decode cS_alternative 10 = .ok (.iload_n 1, 1) := by decide +kernel
theorem dS_alternative_11 : decode cS_alternative 11 = .ok (.iaload, 1) := by decide +kernel
theorem dS_alternative_12 : decode cS_alternative 12 = .ok (.invokevirtual 94, 3) := by decide +kernel
theorem dS_alternative_15 : decode cS_alternative 15 = .ok (.iconst (-1), 1) := by decide +kernel
theorem dS_alternative_16 : decode cS_alternative 16 = .ok (.istore_n 2, 1) := by decide +kernel
theorem dS_alternative_17 : decode cS_alternative 17 = .ok (.iconst 0, 1) := by decide +kernel
theorem dS_alternative_18 : decode cS_alternative 18 = .ok (.istore_n 3, 1) := by decide +kernel
theorem dS_alternative_19 : decode cS_alternative 19 = .ok (.iload_n 3, 1) := by decide +kernel
theorem dS_alternative_20 : decode cS_alternative 20 = .ok (.aload_n 0, 1) := by decide +kernel
theorem dS_alternative_21 : decode cS_alternative 21 = .ok (.getfield 74, 3) := by decide +kernel
theorem dS_alternative_24 : decode cS_alternative 24 = .ok (.if_icmp .ge 50, 3) := by decide +kernel
theorem dS_alternative_27 : decode cS_alternative 27 = .ok (.aload_n 0, 1) := by decide +kernel
theorem dS_alternative_28 : decode cS_alternative 28 = .ok (.getfield 20, 3) := by decide +kernel
theorem dS_alternative_31 : decode cS_alternative 31 = .ok (.iload_n 3, 1) := by decide +kernel
theorem dS_alternative_32 : decode cS_alternative 32 = .ok (.iaload, 1) := by decide +kernel
theorem dS_alternative_33 : decode cS_alternative 33 = .ok (.iconst (-1), 1) := by decide +kernel
theorem dS_alternative_34 : decode cS_alternative 34 = .ok (.if_icmp .ne 34, 3) := by decide +kernel
theorem dS_alternative_37 : decode cS_alternative 37 = .ok (.aload_n 0, 1) := by decide +kernel
theorem dS_alternative_38 : decode cS_alternative 38 = .ok (.iload_n 3, 1) := by decide +kernel
theorem dS_alternative_39 : decode cS_alternative 39 = .ok (.iload_n 1, 1) := by decide +kernel
theorem dS_alternative_40 : decode cS_alternative 40 = .ok (.invokevirtual 178, 3) := by decide +kernel
theorem dS_alternative_43 : decode cS_alternative 43 = .ok (.ifCond .eq 25, 3) := by decide +kernel
theorem dS_alternative_46 : decode cS_alternative 46 = .ok (.iload_n 2, 1) := by decide +kernel
theorem dS_alternative_47 : decode cS_alternative 47 = .ok (.iconst (-1), 1) := by decide +kernel
theorem dS_alternative_48 : decode cS_alternative 48 = .ok (.if_icmp .eq 18, 3) := by decide +kernel
theorem dS_alternative_51 : decode cS_alternative 51 = .ok (.aload_n 0, 1) := by decide +kernel
theorem dS_alternative_52 : decode cS_alternative 52 = .ok (.iload_n 3, 1) := by decide +kernel
theorem dS_alternative_53 : decode cS_alternative 53 = .ok (.iload_n 1, 1) := by decide +kernel
theorem dS_alternative_54 : decode cS_alternative 54 = .ok (.invokevirtual 181, 3) := by decide +kernel
theorem dS_alternative_57 : decode cS_alternative 57 = .ok (.aload_n 0, 1) := by decide +kernel
theorem dS_alternative_58 : decode cS_alternative 58 = .ok (.iload_n 2, 1) := by decide +kernel
theorem dS_alternative_59 : decode cS_alternative 59 = .ok (.iload_n 1, 1) := by decide +kernel
theorem dS_alternative_60 : decode cS_alternative 60 = .ok (.invokevirtual 181, 3) := by decide +kernel
theorem dS_alternative_63 : decode cS_alternative 63 = .ok (.if_icmp .ge 5, 3) := by decide +kernel
theorem dS_alternative_66 : decode cS_alternative 66 = .ok (.iload_n 3, 1) := by decide +kernel
theorem dS_alternative_67 : decode cS_alternative 67 = .ok (.istore_n 2, 1) := by decide +kernel
theorem dS_alternative_68 : decode cS_alternative 68 = .ok (.iinc 3 1, 3) := by decide +kernel
theorem dS_alternative_71 : decode cS_alternative 71 = .ok (.goto (-52), 3) := by decide +kernel
theorem dS_alternative_74 : decode cS_alternative 74 = .ok (.iload_n 2, 1) := by decide +kernel
theorem dS_alternative_75 : decode cS_alternative 75 = .ok (.ireturn, 1) := by decide +kernel
theorem dS_never_0 : decode cS_never 0 = .ok (.iload_n 1, 1) := by decide +kernel
theorem dS_never_1 : decode cS_never 1 = .ok (.ifCond .ge 13, 3) := by decide +kernel
theorem dS_never_4 : decode cS_never 4 = .ok (.new 67, 3) := by decide +kernel
theorem dS_never_7 : decode cS_never 7 = .ok (.dup, 1) := by decide +kernel
theorem dS_never_8 : decode cS_never 8 = .ok (.ldc 184, 2) := by decide +kernel
theorem dS_never_10 : decode cS_never 10 = .ok (.invokespecial 71, 3) := by decide +kernel
theorem dS_never_13 : decode cS_never 13 = .ok (.athrow, 1) := by decide +kernel
theorem dS_never_14 : decode cS_never 14 = .ok (.iconst 0, 1) := by decide +kernel
theorem dS_never_15 : decode cS_never 15 = .ok (.istore_n 2, 1) := by decide +kernel
theorem dS_never_16 : decode cS_never 16 = .ok (.iconst 0, 1) := by decide +kernel
theorem dS_never_17 : decode cS_never 17 = .ok (.istore_n 3, 1) := by decide +kernel
theorem dS_never_18 : decode cS_never 18 = .ok (.iload_n 3, 1) := by decide +kernel
theorem dS_never_19 : decode cS_never 19 = .ok (.aload_n 0, 1) := by decide +kernel
theorem dS_never_20 : decode cS_never 20 = .ok (.getfield 102, 3) := by decide +kernel
theorem dS_never_23 : decode cS_never 23 = .ok (.if_icmp .ge 35, 3) := by decide +kernel
theorem dS_never_26 : decode cS_never 26 = .ok (.aload_n 0, 1) := by decide +kernel
theorem dS_never_27 : decode cS_never 27 = .ok (.iload_n 3, 1) := by decide +kernel
theorem dS_never_28 : decode cS_never 28 = .ok (.invokevirtual 160, 3) := by decide +kernel
theorem dS_never_31 : decode cS_never 31 = .ok (.ifCond .eq 21, 3) := by decide +kernel
theorem dS_never_34 : decode cS_never 34 = .ok (.aload_n 0, 1) := by decide +kernel
theorem dS_never_35 : decode cS_never 35 = .ok (.iload_n 3, 1) := by decide +kernel
theorem dS_never_36 : decode cS_never 36 = .ok (.invokevirtual 186, 3) := by decide +kernel
theorem dS_never_39 : decode cS_never 39 = .ok (.ifCond .ne 13, 3) := by decide +kernel
theorem dS_never_42 : decode cS_never 42 = .ok (.iload_n 2, 1) := by decide +kernel
theorem dS_never_43 : decode cS_never 43 = .ok (.iload_n 1, 1) := by decide +kernel
theorem dS_never_44 : decode cS_never 44 = .ok (.if_icmp .ne 5, 3) := by decide +kernel
theorem dS_never_47 : decode cS_never 47 = .ok (.iload_n 3, 1) := by decide +kernel
theorem dS_never_48 : decode cS_never 48 = .ok (.ireturn, 1) := by decide +kernel
theorem dS_never_49 : decode cS_never 49 = .ok (.iinc 2 1, 3) := by decide +kernel
theorem dS_never_52 : decode cS_never 52 = .ok (.iinc 3 1, 3) := by decide +kernel
theorem dS_never_55 : decode cS_never 55 = .ok (.goto (-37), 3) := by decide +kernel
theorem dS_never_58 : decode cS_never 58 = .ok (.iconst (-1), 1) := by decide +kernel
theorem dS_never_59 : decode cS_never 59 = .ok (.ireturn, 1) := by decide +kernel
theorem dS_checkUnit_0 : decode cS_checkUnit 0 = .ok (.iload_n 1, 1) := by decide +kernel
theorem dS_checkUnit_1 : decode cS_checkUnit 1 = .ok (.ifCond .lt 11, 3) := by decide +kernel
theorem dS_checkUnit_4 : decode cS_checkUnit 4 = .ok (.iload_n 1, 1) := by decide +kernel
theorem dS_checkUnit_5 : decode cS_checkUnit 5 = .ok (.aload_n 0, 1) := by decide +kernel
theorem dS_checkUnit_6 : decode cS_checkUnit 6 = .ok (.getfield 74, 3) := by decide +kernel
theorem dS_checkUnit_9 : decode cS_checkUnit 9 = .ok (.if_icmp .lt 13, 3) := by decide +kernel
theorem dS_checkUnit_12 : decode cS_checkUnit 12 = .ok (.new 164, 3) := by decide +kernel
theorem dS_checkUnit_15 : decode cS_checkUnit 15 = .ok (.dup, 1) := by decide +kernel
theorem dS_checkUnit_16 : decode cS_checkUnit 16 = .ok (.ldc 189, 2) := by decide +kernel
theorem dS_checkUnit_18 : decode cS_checkUnit 18 = .ok (.invokespecial 168, 3) := by decide +kernel
theorem dS_checkUnit_21 : decode cS_checkUnit 21 = .ok (.athrow, 1) := by decide +kernel
theorem dS_checkUnit_22 : decode cS_checkUnit 22 = .ok (.return_, 1) := by decide +kernel
theorem dS_checkIncident_0 : decode cS_checkIncident 0 = .ok (.iload_n 1, 1) := by decide +kernel
theorem dS_checkIncident_1 : decode cS_checkIncident 1 = .ok (.ifCond .lt 11, 3) := by decide +kernel
theorem dS_checkIncident_4 : decode cS_checkIncident 4 = .ok (.iload_n 1, 1) := by decide +kernel
theorem dS_checkIncident_5 : decode cS_checkIncident 5 = .ok (.aload_n 0, 1) := by decide +kernel
theorem dS_checkIncident_6 : decode cS_checkIncident 6 = .ok (.getfield 86, 3) := by decide +kernel
theorem dS_checkIncident_9 : decode cS_checkIncident 9 = .ok (.if_icmp .lt 13, 3) := by decide +kernel
theorem dS_checkIncident_12 : decode cS_checkIncident 12 = .ok (.new 164, 3) := by decide +kernel
theorem dS_checkIncident_15 : decode cS_checkIncident 15 = .ok (.dup, 1) := by decide +kernel
theorem dS_checkIncident_16 : decode cS_checkIncident 16 = .ok (.ldc 191, 2) := by decide +kernel
theorem dS_checkIncident_18 : decode cS_checkIncident 18 = .ok (.invokespecial 168, 3) := by decide +kernel
theorem dS_checkIncident_21 : decode cS_checkIncident 21 = .ok (.athrow, 1) := by decide +kernel
theorem dS_checkIncident_22 : decode cS_checkIncident 22 = .ok (.return_, 1) := by decide +kernel
theorem dS_checkNeed_0 : decode cS_checkNeed 0 = .ok (.iload_n 1, 1) := by decide +kernel
theorem dS_checkNeed_1 : decode cS_checkNeed 1 = .ok (.ifCond .lt 11, 3) := by decide +kernel
theorem dS_checkNeed_4 : decode cS_checkNeed 4 = .ok (.iload_n 1, 1) := by decide +kernel
theorem dS_checkNeed_5 : decode cS_checkNeed 5 = .ok (.aload_n 0, 1) := by decide +kernel
theorem dS_checkNeed_6 : decode cS_checkNeed 6 = .ok (.getfield 102, 3) := by decide +kernel
theorem dS_checkNeed_9 : decode cS_checkNeed 9 = .ok (.if_icmp .lt 13, 3) := by decide +kernel
theorem dS_checkNeed_12 : decode cS_checkNeed 12 = .ok (.new 164, 3) := by decide +kernel
theorem dS_checkNeed_15 : decode cS_checkNeed 15 = .ok (.dup, 1) := by decide +kernel
theorem dS_checkNeed_16 : decode cS_checkNeed 16 = .ok (.ldc 193, 2) := by decide +kernel
theorem dS_checkNeed_18 : decode cS_checkNeed 18 = .ok (.invokespecial 168, 3) := by decide +kernel
theorem dS_checkNeed_21 : decode cS_checkNeed 21 = .ok (.athrow, 1) := by decide +kernel
theorem dS_checkNeed_22 : decode cS_checkNeed 22 = .ok (.return_, 1) := by decide +kernel
theorem dS_checkSkill_0 : decode cS_checkSkill 0 = .ok (.iload_n 0, 1) := by decide +kernel
theorem dS_checkSkill_1 : decode cS_checkSkill 1 = .ok (.ifCond .lt 9, 3) := by decide +kernel
theorem dS_checkSkill_4 : decode cS_checkSkill 4 = .ok (.iload_n 0, 1) := by decide +kernel
theorem dS_checkSkill_5 : decode cS_checkSkill 5 = .ok (.bipush 16, 2) := by decide +kernel
theorem dS_checkSkill_7 : decode cS_checkSkill 7 = .ok (.if_icmp .lt 13, 3) := by decide +kernel
theorem dS_checkSkill_10 : decode cS_checkSkill 10 = .ok (.new 164, 3) := by decide +kernel
theorem dS_checkSkill_13 : decode cS_checkSkill 13 = .ok (.dup, 1) := by decide +kernel
theorem dS_checkSkill_14 : decode cS_checkSkill 14 = .ok (.ldc 195, 2) := by decide +kernel
theorem dS_checkSkill_16 : decode cS_checkSkill 16 = .ok (.invokespecial 168, 3) := by decide +kernel
theorem dS_checkSkill_19 : decode cS_checkSkill 19 = .ok (.athrow, 1) := by decide +kernel
theorem dS_checkSkill_20 : decode cS_checkSkill 20 = .ok (.return_, 1) := by decide +kernel
theorem dS_checkRank_0 : decode cS_checkRank 0 = .ok (.iload_n 0, 1) := by decide +kernel
theorem dS_checkRank_1 : decode cS_checkRank 1 = .ok (.iconst 1, 1) := by decide +kernel
theorem dS_checkRank_2 : decode cS_checkRank 2 = .ok (.if_icmp .lt 9, 3) := by decide +kernel
theorem dS_checkRank_5 : decode cS_checkRank 5 = .ok (.iload_n 0, 1) := by decide +kernel
theorem dS_checkRank_6 : decode cS_checkRank 6 = .ok (.bipush 9, 2) := by decide +kernel
theorem dS_checkRank_8 : decode cS_checkRank 8 = .ok (.if_icmp .le 13, 3) := by decide +kernel
theorem dS_checkRank_11 : decode cS_checkRank 11 = .ok (.new 67, 3) := by decide +kernel
theorem dS_checkRank_14 : decode cS_checkRank 14 = .ok (.dup, 1) := by decide +kernel
theorem dS_checkRank_15 : decode cS_checkRank 15 = .ok (.ldc 197, 2) := by decide +kernel
theorem dS_checkRank_17 : decode cS_checkRank 17 = .ok (.invokespecial 71, 3) := by decide +kernel
theorem dS_checkRank_20 : decode cS_checkRank 20 = .ok (.athrow, 1) := by decide +kernel
theorem dS_checkRank_21 : decode cS_checkRank 21 = .ok (.return_, 1) := by decide +kernel
theorem dS_checkSeconds_0 : decode cS_checkSeconds 0 = .ok (.iload_n 0, 1) := by decide +kernel
theorem dS_checkSeconds_1 : decode cS_checkSeconds 1 = .ok (.iconst (-1), 1) := by decide +kernel
theorem dS_checkSeconds_2 : decode cS_checkSeconds 2 = .ok (.if_icmp .lt 9, 3) := by decide +kernel
theorem dS_checkSeconds_5 : decode cS_checkSeconds 5 = .ok (.iload_n 0, 1) := by decide +kernel
theorem dS_checkSeconds_6 : decode cS_checkSeconds 6 = .ok (.ldc 199, 2) := by decide +kernel
theorem dS_checkSeconds_8 : decode cS_checkSeconds 8 = .ok (.if_icmp .le 13, 3) := by decide +kernel
theorem dS_checkSeconds_11 : decode cS_checkSeconds 11 = .ok (.new 67, 3) := by decide +kernel
theorem dS_checkSeconds_14 : decode cS_checkSeconds 14 = .ok (.dup, 1) := by decide +kernel
theorem dS_checkSeconds_15 : decode cS_checkSeconds 15 = .ok (.ldc 200, 2) := by decide +kernel
theorem dS_checkSeconds_17 : decode cS_checkSeconds 17 = .ok (.invokespecial 71, 3) := by decide +kernel
theorem dS_checkSeconds_20 : decode cS_checkSeconds 20 = .ok (.athrow, 1) := by decide +kernel
theorem dS_checkSeconds_21 : decode cS_checkSeconds 21 = .ok (.return_, 1) := by decide +kernel
theorem dS_checkOpen_0 : decode cS_checkOpen 0 = .ok (.aload_n 0, 1) := by decide +kernel
theorem dS_checkOpen_1 : decode cS_checkOpen 1 = .ok (.getfield 31, 3) := by decide +kernel
theorem dS_checkOpen_4 : decode cS_checkOpen 4 = .ok (.iload_n 1, 1) := by decide +kernel
theorem dS_checkOpen_5 : decode cS_checkOpen 5 = .ok (.baload, 1) := by decide +kernel
theorem dS_checkOpen_6 : decode cS_checkOpen 6 = .ok (.ifCond .ne 13, 3) := by decide +kernel
theorem dS_checkOpen_9 : decode cS_checkOpen 9 = .ok (.new 117, 3) := by decide +kernel
theorem dS_checkOpen_12 : decode cS_checkOpen 12 = .ok (.dup, 1) := by decide +kernel
theorem dS_checkOpen_13 : decode cS_checkOpen 13 = .ok (.ldc 202, 2) := by decide +kernel
theorem dS_checkOpen_15 : decode cS_checkOpen 15 = .ok (.invokespecial 121, 3) := by decide +kernel
theorem dS_checkOpen_18 : decode cS_checkOpen 18 = .ok (.athrow, 1) := by decide +kernel
theorem dS_checkOpen_19 : decode cS_checkOpen 19 = .ok (.return_, 1) := by decide +kernel
theorem dS_checkSent_0 : decode cS_checkSent 0 = .ok (.aload_n 0, 1) := by decide +kernel
theorem dS_checkSent_1 : decode cS_checkSent 1 = .ok (.getfield 20, 3) := by decide +kernel
theorem dS_checkSent_4 : decode cS_checkSent 4 = .ok (.iload_n 1, 1) := by decide +kernel
theorem dS_checkSent_5 : decode cS_checkSent 5 = .ok (.iaload, 1) := by decide +kernel
theorem dS_checkSent_6 : decode cS_checkSent 6 = .ok (.iconst (-1), 1) := by decide +kernel
theorem dS_checkSent_7 : decode cS_checkSent 7 = .ok (.if_icmp .ne 13, 3) := by decide +kernel
theorem dS_checkSent_10 : decode cS_checkSent 10 = .ok (.new 117, 3) := by decide +kernel
theorem dS_checkSent_13 : decode cS_checkSent 13 = .ok (.dup, 1) := by decide +kernel
theorem dS_checkSent_14 : decode cS_checkSent 14 = .ok (.ldc 204, 2) := by decide +kernel
theorem dS_checkSent_16 : decode cS_checkSent 16 = .ok (.invokespecial 121, 3) := by decide +kernel
theorem dS_checkSent_19 : decode cS_checkSent 19 = .ok (.athrow, 1) := by decide +kernel
theorem dS_checkSent_20 : decode cS_checkSent 20 = .ok (.return_, 1) := by decide +kernel
theorem dS_isOpenNeed_0 : decode cS_isOpenNeed 0 = .ok (.aload_n 0, 1) := by decide +kernel
theorem dS_isOpenNeed_1 : decode cS_isOpenNeed 1 = .ok (.getfield 31, 3) := by decide +kernel
theorem dS_isOpenNeed_4 : decode cS_isOpenNeed 4 = .ok (.aload_n 0, 1) := by decide +kernel
theorem dS_isOpenNeed_5 : decode cS_isOpenNeed 5 = .ok (.getfield 34, 3) := by decide +kernel
theorem dS_isOpenNeed_8 : decode cS_isOpenNeed 8 = .ok (.iload_n 1, 1) := by decide +kernel
theorem dS_isOpenNeed_9 : decode cS_isOpenNeed 9 = .ok (.iaload, 1) := by decide +kernel
theorem dS_isOpenNeed_10 : decode cS_isOpenNeed 10 = .ok (.baload, 1) := by decide +kernel
theorem dS_isOpenNeed_11 : decode cS_isOpenNeed 11 = .ok (.ireturn, 1) := by decide +kernel
theorem dS_rankOfNeed_0 : decode cS_rankOfNeed 0 = .ok (.aload_n 0, 1) := by decide +kernel
theorem dS_rankOfNeed_1 : decode cS_rankOfNeed 1 = .ok (.getfield 28, 3) := by decide +kernel
theorem dS_rankOfNeed_4 : decode cS_rankOfNeed 4 = .ok (.aload_n 0, 1) := by decide +kernel
theorem dS_rankOfNeed_5 : decode cS_rankOfNeed 5 = .ok (.getfield 34, 3) := by decide +kernel
theorem dS_rankOfNeed_8 : decode cS_rankOfNeed 8 = .ok (.iload_n 1, 1) := by decide +kernel
theorem dS_rankOfNeed_9 : decode cS_rankOfNeed 9 = .ok (.iaload, 1) := by decide +kernel
theorem dS_rankOfNeed_10 : decode cS_rankOfNeed 10 = .ok (.iaload, 1) := by decide +kernel
theorem dS_rankOfNeed_11 : decode cS_rankOfNeed 11 = .ok (.ireturn, 1) := by decide +kernel
theorem dS_secondsTo_0 : decode cS_secondsTo 0 = .ok (.aload_n 0, 1) := by decide +kernel
theorem dS_secondsTo_1 : decode cS_secondsTo 1 = .ok (.getfield 25, 3) := by decide +kernel
theorem dS_secondsTo_4 : decode cS_secondsTo 4 = .ok (.iload_n 1, 1) := by decide +kernel
theorem dS_secondsTo_5 : decode cS_secondsTo 5 = .ok (.aaload, 1) := by decide +kernel
theorem dS_secondsTo_6 : decode cS_secondsTo 6 = .ok (.aload_n 0, 1) := by decide +kernel
theorem dS_secondsTo_7 : decode cS_secondsTo 7 = .ok (.getfield 34, 3) := by decide +kernel
theorem dS_secondsTo_10 : decode cS_secondsTo 10 = .ok (.iload_n 2, 1) := by decide +kernel
theorem dS_secondsTo_11 : decode cS_secondsTo 11 = .ok (.iaload, 1) := by decide +kernel
theorem dS_secondsTo_12 : decode cS_secondsTo 12 = .ok (.iaload, 1) := by decide +kernel
theorem dS_secondsTo_13 : decode cS_secondsTo 13 = .ok (.ireturn, 1) := by decide +kernel
theorem dS_canFill_0 : decode cS_canFill 0 = .ok (.aload_n 0, 1) := by decide +kernel
theorem dS_canFill_1 : decode cS_canFill 1 = .ok (.getfield 37, 3) := by decide +kernel
theorem dS_canFill_4 : decode cS_canFill 4 = .ok (.iload_n 2, 1) := by decide +kernel
theorem dS_canFill_5 : decode cS_canFill 5 = .ok (.iaload, 1) := by decide +kernel
theorem dS_canFill_6 : decode cS_canFill 6 = .ok (.istore_n 3, 1) := by decide +kernel
theorem dS_canFill_7 : decode cS_canFill 7 = .ok (.aload_n 0, 1) := by decide +kernel
theorem dS_canFill_8 : decode cS_canFill 8 = .ok (.getfield 13, 3) := by decide +kernel
theorem dS_canFill_11 : decode cS_canFill 11 = .ok (.iload_n 1, 1) := by decide +kernel
theorem dS_canFill_12 : decode cS_canFill 12 = .ok (.baload, 1) := by decide +kernel
theorem dS_canFill_13 : decode cS_canFill 13 = .ok (.ifCond .ne 16, 3) := by decide +kernel
theorem dS_canFill_16 : decode cS_canFill 16 = .ok (.aload_n 0, 1) := by decide +kernel
theorem dS_canFill_17 : decode cS_canFill 17 = .ok (.getfield 9, 3) := by decide +kernel
theorem dS_canFill_20 : decode cS_canFill 20 = .ok (.iload_n 1, 1) := by decide +kernel
theorem dS_canFill_21 : decode cS_canFill 21 = .ok (.iaload, 1) := by decide +kernel
theorem dS_canFill_22 : decode cS_canFill 22 = .ok (.iload_n 3, 1) := by decide +kernel
theorem dS_canFill_23 : decode cS_canFill 23 = .ok (.ishr, 1) := by decide +kernel
theorem dS_canFill_24 : decode cS_canFill 24 = .ok (.iconst 1, 1) := by decide +kernel
theorem dS_canFill_25 : decode cS_canFill 25 = .ok (.iand, 1) := by decide +kernel
theorem dS_canFill_26 : decode cS_canFill 26 = .ok (.ifCond .ne 5, 3) := by decide +kernel
theorem dS_canFill_29 : decode cS_canFill 29 = .ok (.iconst 0, 1) := by decide +kernel
theorem dS_canFill_30 : decode cS_canFill 30 = .ok (.ireturn, 1) := by decide +kernel
theorem dS_canFill_31 : decode cS_canFill 31 = .ok (.aload_n 0, 1) := by decide +kernel
theorem dS_canFill_32 : decode cS_canFill 32 = .ok (.iload_n 1, 1) := by decide +kernel
theorem dS_canFill_33 : decode cS_canFill 33 = .ok (.iload_n 2, 1) := by decide +kernel
theorem dS_canFill_34 : decode cS_canFill 34 = .ok (.invokevirtual 181, 3) := by decide +kernel
theorem dS_canFill_37 : decode cS_canFill 37 = .ok (.istore 4, 2) := by decide +kernel
theorem dS_canFill_39 : decode cS_canFill 39 = .ok (.iload 4, 2) := by decide +kernel
theorem dS_canFill_41 : decode cS_canFill 41 = .ok (.iconst (-1), 1) := by decide +kernel
theorem dS_canFill_42 : decode cS_canFill 42 = .ok (.if_icmp .eq 28, 3) := by decide +kernel
theorem dS_canFill_45 : decode cS_canFill 45 = .ok (.aload_n 0, 1) := by decide +kernel
theorem dS_canFill_46 : decode cS_canFill 46 = .ok (.getfield 43, 3) := by decide +kernel
theorem dS_canFill_49 : decode cS_canFill 49 = .ok (.iload_n 3, 1) := by decide +kernel
theorem dS_canFill_50 : decode cS_canFill 50 = .ok (.iaload, 1) := by decide +kernel
theorem dS_canFill_51 : decode cS_canFill 51 = .ok (.iconst (-1), 1) := by decide +kernel
theorem dS_canFill_52 : decode cS_canFill 52 = .ok (.if_icmp .eq 14, 3) := by decide +kernel
theorem dS_canFill_55 : decode cS_canFill 55 = .ok (.iload 4, 2) := by decide +kernel
theorem dS_canFill_57 : decode cS_canFill 57 = .ok (.aload_n 0, 1) := by decide +kernel
theorem dS_canFill_58 : decode cS_canFill 58 = .ok (.getfield 43, 3) := by decide +kernel
theorem dS_canFill_61 : decode cS_canFill 61 = .ok (.iload_n 3, 1) := by decide +kernel
theorem dS_canFill_62 : decode cS_canFill 62 = .ok (.iaload, 1) := by decide +kernel
theorem dS_canFill_63 : decode cS_canFill 63 = .ok (.if_icmp .gt 7, 3) := by decide +kernel
theorem dS_canFill_66 : decode cS_canFill 66 = .ok (.iconst 1, 1) := by decide +kernel
theorem dS_canFill_67 : decode cS_canFill 67 = .ok (.goto 4, 3) := by decide +kernel
theorem dS_canFill_70 : decode cS_canFill 70 = .ok (.iconst 0, 1) := by decide +kernel
theorem dS_canFill_71 : decode cS_canFill 71 = .ok (.ireturn, 1) := by decide +kernel
theorem dS_anyCanFill_0 : decode cS_anyCanFill 0 = .ok (.iconst 0, 1) := by decide +kernel
theorem dS_anyCanFill_1 : decode cS_anyCanFill 1 = .ok (.istore_n 2, 1) := by decide +kernel
theorem dS_anyCanFill_2 : decode cS_anyCanFill 2 = .ok (.iload_n 2, 1) := by decide +kernel
theorem dS_anyCanFill_3 : decode cS_anyCanFill 3 = .ok (.aload_n 0, 1) := by decide +kernel
theorem dS_anyCanFill_4 : decode cS_anyCanFill 4 = .ok (.getfield 74, 3) := by decide +kernel
theorem dS_anyCanFill_7 : decode cS_anyCanFill 7 = .ok (.if_icmp .ge 20, 3) := by decide +kernel
theorem dS_anyCanFill_10 : decode cS_anyCanFill 10 = .ok (.aload_n 0, 1) := by decide +kernel
theorem dS_anyCanFill_11 : decode cS_anyCanFill 11 = .ok (.iload_n 2, 1) := by decide +kernel
theorem dS_anyCanFill_12 : decode cS_anyCanFill 12 = .ok (.iload_n 1, 1) := by decide +kernel
theorem dS_anyCanFill_13 : decode cS_anyCanFill 13 = .ok (.invokevirtual 178, 3) := by decide +kernel
theorem dS_anyCanFill_16 : decode cS_anyCanFill 16 = .ok (.ifCond .eq 5, 3) := by decide +kernel
theorem dS_anyCanFill_19 : decode cS_anyCanFill 19 = .ok (.iconst 1, 1) := by decide +kernel
theorem dS_anyCanFill_20 : decode cS_anyCanFill 20 = .ok (.ireturn, 1) := by decide +kernel
theorem dS_anyCanFill_21 : decode cS_anyCanFill 21 = .ok (.iinc 2 1, 3) := by decide +kernel
theorem dS_anyCanFill_24 : decode cS_anyCanFill 24 = .ok (.goto (-22), 3) := by decide +kernel
theorem dS_anyCanFill_27 : decode cS_anyCanFill 27 = .ok (.iconst 0, 1) := by decide +kernel
theorem dS_anyCanFill_28 : decode cS_anyCanFill 28 = .ok (.ireturn, 1) := by decide +kernel
theorem dS_isFixed_0 : decode cS_isFixed 0 = .ok (.aload_n 0, 1) := by decide +kernel
theorem dS_isFixed_1 : decode cS_isFixed 1 = .ok (.getfield 17, 3) := by decide +kernel
theorem dS_isFixed_4 : decode cS_isFixed 4 = .ok (.iload_n 1, 1) := by decide +kernel
theorem dS_isFixed_5 : decode cS_isFixed 5 = .ok (.baload, 1) := by decide +kernel
theorem dS_isFixed_6 : decode cS_isFixed 6 = .ok (.ifCond .eq 31, 3) := by decide +kernel
theorem dS_isFixed_9 : decode cS_isFixed 9 = .ok (.aload_n 0, 1) := by decide +kernel
theorem dS_isFixed_10 : decode cS_isFixed 10 = .ok (.getfield 20, 3) := by decide +kernel
theorem dS_isFixed_13 : decode cS_isFixed 13 = .ok (.iload_n 1, 1) := by decide +kernel
theorem dS_isFixed_14 : decode cS_isFixed 14 = .ok (.iaload, 1) := by decide +kernel
theorem dS_isFixed_15 : decode cS_isFixed 15 = .ok (.iconst (-1), 1) := by decide +kernel
theorem dS_isFixed_16 : decode cS_isFixed 16 = .ok (.if_icmp .eq 21, 3) := by decide +kernel
theorem dS_isFixed_19 : decode cS_isFixed 19 = .ok (.aload_n 0, 1) := by decide +kernel
theorem dS_isFixed_20 : decode cS_isFixed 20 = .ok (.iload_n 1, 1) := by decide +kernel
theorem dS_isFixed_21 : decode cS_isFixed 21 = .ok (.aload_n 0, 1) := by decide +kernel
theorem dS_isFixed_22 : decode cS_isFixed 22 = .ok (.getfield 20, 3) := by decide +kernel
theorem dS_isFixed_25 : decode cS_isFixed 25 = .ok (.iload_n 1, 1) := by decide +kernel
theorem dS_isFixed_26 : decode cS_isFixed 26 = .ok (.iaload, 1) := by decide +kernel
theorem dS_isFixed_27 : decode cS_isFixed 27 = .ok (.invokevirtual 178, 3) := by decide +kernel
theorem dS_isFixed_30 : decode cS_isFixed 30 = .ok (.ifCond .eq 7, 3) := by decide +kernel
theorem dS_isFixed_33 : decode cS_isFixed 33 = .ok (.iconst 1, 1) := by decide +kernel
theorem dS_isFixed_34 : decode cS_isFixed 34 = .ok (.goto 4, 3) := by decide +kernel
theorem dS_isFixed_37 : decode cS_isFixed 37 = .ok (.iconst 0, 1) := by decide +kernel
theorem dS_isFixed_38 : decode cS_isFixed 38 = .ok (.ireturn, 1) := by decide +kernel
theorem dS_hasFixedUnit_0 : decode cS_hasFixedUnit 0 = .ok (.aload_n 0, 1) := by decide +kernel
theorem dS_hasFixedUnit_1 : decode cS_hasFixedUnit 1 = .ok (.getfield 40, 3) := by decide +kernel
theorem dS_hasFixedUnit_4 : decode cS_hasFixedUnit 4 = .ok (.iload_n 1, 1) := by decide +kernel
theorem dS_hasFixedUnit_5 : decode cS_hasFixedUnit 5 = .ok (.iaload, 1) := by decide +kernel
theorem dS_hasFixedUnit_6 : decode cS_hasFixedUnit 6 = .ok (.iconst (-1), 1) := by decide +kernel
theorem dS_hasFixedUnit_7 : decode cS_hasFixedUnit 7 = .ok (.if_icmp .eq 20, 3) := by decide +kernel
theorem dS_hasFixedUnit_10 : decode cS_hasFixedUnit 10 = .ok (.aload_n 0, 1) := by decide +kernel
theorem dS_hasFixedUnit_11 : decode cS_hasFixedUnit 11 = .ok (.aload_n 0, 1) := by decide +kernel
theorem dS_hasFixedUnit_12 : decode cS_hasFixedUnit 12 = .ok (.getfield 40, 3) := by decide +kernel
theorem dS_hasFixedUnit_15 : decode cS_hasFixedUnit 15 = .ok (.iload_n 1, 1) := by decide +kernel
theorem dS_hasFixedUnit_16 : decode cS_hasFixedUnit 16 = .ok (.iaload, 1) := by decide +kernel
theorem dS_hasFixedUnit_17 : decode cS_hasFixedUnit 17 = .ok (.invokevirtual 206, 3) := by decide +kernel
theorem dS_hasFixedUnit_20 : decode cS_hasFixedUnit 20 = .ok (.ifCond .eq 7, 3) := by decide +kernel
theorem dS_hasFixedUnit_23 : decode cS_hasFixedUnit 23 = .ok (.iconst 1, 1) := by decide +kernel
theorem dS_hasFixedUnit_24 : decode cS_hasFixedUnit 24 = .ok (.goto 4, 3) := by decide +kernel
theorem dS_hasFixedUnit_27 : decode cS_hasFixedUnit 27 = .ok (.iconst 0, 1) := by decide +kernel
theorem dS_hasFixedUnit_28 : decode cS_hasFixedUnit 28 = .ok (.ireturn, 1) := by decide +kernel
theorem dS_ranksLacking_0 : decode cS_ranksLacking 0 = .ok (.aload_n 0, 1) := by decide +kernel
theorem dS_ranksLacking_1 : decode cS_ranksLacking 1 = .ok (.getfield 40, 3) := by decide +kernel
theorem dS_ranksLacking_4 : decode cS_ranksLacking 4 = .ok (.iload_n 1, 1) := by decide +kernel
theorem dS_ranksLacking_5 : decode cS_ranksLacking 5 = .ok (.iaload, 1) := by decide +kernel
theorem dS_ranksLacking_6 : decode cS_ranksLacking 6 = .ok (.iconst (-1), 1) := by decide +kernel
theorem dS_ranksLacking_7 : decode cS_ranksLacking 7 = .ok (.if_icmp .ne 11, 3) := by decide +kernel
theorem dS_ranksLacking_10 : decode cS_ranksLacking 10 = .ok (.aload_n 0, 1) := by decide +kernel
theorem dS_ranksLacking_11 : decode cS_ranksLacking 11 = .ok (.iload_n 1, 1) := by decide +kernel
theorem dS_ranksLacking_12 : decode cS_ranksLacking 12 = .ok (.invokevirtual 209, 3) := by decide +kernel
theorem dS_ranksLacking_15 : decode cS_ranksLacking 15 = .ok (.goto 4, 3) := by decide +kernel
theorem dS_ranksLacking_18 : decode cS_ranksLacking 18 = .ok (.iconst 0, 1) := by decide +kernel
theorem dS_ranksLacking_19 : decode cS_ranksLacking 19 = .ok (.ireturn, 1) := by decide +kernel
theorem dS_weightedSeconds_0 : decode cS_weightedSeconds 0 = .ok (.aload_n 0, 1) := by decide +kernel
theorem dS_weightedSeconds_1 : decode cS_weightedSeconds 1 = .ok (.getfield 40, 3) := by decide +kernel
theorem dS_weightedSeconds_4 : decode cS_weightedSeconds 4 = .ok (.iload_n 1, 1) := by decide +kernel
theorem dS_weightedSeconds_5 : decode cS_weightedSeconds 5 = .ok (.iaload, 1) := by decide +kernel
theorem dS_weightedSeconds_6 : decode cS_weightedSeconds 6 = .ok (.iconst (-1), 1) := by decide +kernel
theorem dS_weightedSeconds_7 : decode cS_weightedSeconds 7 = .ok (.if_icmp .ne 7, 3) := by decide +kernel
theorem dS_weightedSeconds_10 : decode cS_weightedSeconds 10 = .ok (.iconst 0, 1) := by decide +kernel
theorem dS_weightedSeconds_11 : decode cS_weightedSeconds 11 = .ok (.goto 24, 3) := by decide +kernel
theorem dS_weightedSeconds_14 : decode cS_weightedSeconds 14 = .ok (.aload_n 0, 1) := by decide +kernel
theorem dS_weightedSeconds_15 : decode cS_weightedSeconds 15 = .ok (.iload_n 1, 1) := by decide +kernel
theorem dS_weightedSeconds_16 : decode cS_weightedSeconds 16 = .ok (.invokevirtual 209, 3) := by decide +kernel
theorem dS_weightedSeconds_19 : decode cS_weightedSeconds 19 = .ok (.aload_n 0, 1) := by decide +kernel
theorem dS_weightedSeconds_20 : decode cS_weightedSeconds 20 = .ok (.aload_n 0, 1) := by decide +kernel
theorem dS_weightedSeconds_21 : decode cS_weightedSeconds 21 = .ok (.getfield 40, 3) := by decide +kernel
theorem dS_weightedSeconds_24 : decode cS_weightedSeconds 24 = .ok (.iload_n 1, 1) := by decide +kernel
theorem dS_weightedSeconds_25 : decode cS_weightedSeconds 25 = .ok (.iaload, 1) := by decide +kernel
theorem dS_weightedSeconds_26 : decode cS_weightedSeconds 26 = .ok (.iload_n 1, 1) := by decide +kernel
theorem dS_weightedSeconds_27 : decode cS_weightedSeconds 27 = .ok (.invokevirtual 181, 3) := by decide +kernel
theorem dS_weightedSeconds_30 : decode cS_weightedSeconds 30 = .ok (.iconst 0, 1) := by decide +kernel
theorem dS_weightedSeconds_31 : decode cS_weightedSeconds 31 = .ok (.invokestatic 138, 3) := by decide +kernel
theorem dS_weightedSeconds_34 : decode cS_weightedSeconds 34 = .ok (.imul, 1) := by decide +kernel
theorem dS_weightedSeconds_35 : decode cS_weightedSeconds 35 = .ok (.ireturn, 1) := by decide +kernel
theorem dS_countFilled_0 : decode cS_countFilled 0 = .ok (.iconst 0, 1) := by decide +kernel
theorem dS_countFilled_1 : decode cS_countFilled 1 = .ok (.istore_n 1, 1) := by decide +kernel
theorem dS_countFilled_2 : decode cS_countFilled 2 = .ok (.iconst 0, 1) := by decide +kernel
theorem dS_countFilled_3 : decode cS_countFilled 3 = .ok (.istore_n 2, 1) := by decide +kernel
theorem dS_countFilled_4 : decode cS_countFilled 4 = .ok (.iload_n 2, 1) := by decide +kernel
theorem dS_countFilled_5 : decode cS_countFilled 5 = .ok (.aload_n 0, 1) := by decide +kernel
theorem dS_countFilled_6 : decode cS_countFilled 6 = .ok (.getfield 102, 3) := by decide +kernel
theorem dS_countFilled_9 : decode cS_countFilled 9 = .ok (.if_icmp .ge 22, 3) := by decide +kernel
theorem dS_countFilled_12 : decode cS_countFilled 12 = .ok (.aload_n 0, 1) := by decide +kernel
theorem dS_countFilled_13 : decode cS_countFilled 13 = .ok (.getfield 40, 3) := by decide +kernel
theorem dS_countFilled_16 : decode cS_countFilled 16 = .ok (.iload_n 2, 1) := by decide +kernel
theorem dS_countFilled_17 : decode cS_countFilled 17 = .ok (.iaload, 1) := by decide +kernel
theorem dS_countFilled_18 : decode cS_countFilled 18 = .ok (.iconst (-1), 1) := by decide +kernel
theorem dS_countFilled_19 : decode cS_countFilled 19 = .ok (.if_icmp .eq 6, 3) := by decide +kernel
theorem dS_countFilled_22 : decode cS_countFilled 22 = .ok (.iinc 1 1, 3) := by decide +kernel
theorem dS_countFilled_25 : decode cS_countFilled 25 = .ok (.iinc 2 1, 3) := by decide +kernel
theorem dS_countFilled_28 : decode cS_countFilled 28 = .ok (.goto (-24), 3) := by decide +kernel
theorem dS_countFilled_31 : decode cS_countFilled 31 = .ok (.iload_n 1, 1) := by decide +kernel
theorem dS_countFilled_32 : decode cS_countFilled 32 = .ok (.ireturn, 1) := by decide +kernel
theorem dS_free_0 : decode cS_free 0 = .ok (.aload_n 0, 1) := by decide +kernel
theorem dS_free_1 : decode cS_free 1 = .ok (.getfield 20, 3) := by decide +kernel
theorem dS_free_4 : decode cS_free 4 = .ok (.iload_n 1, 1) := by decide +kernel
theorem dS_free_5 : decode cS_free 5 = .ok (.iaload, 1) := by decide +kernel
theorem dS_free_6 : decode cS_free 6 = .ok (.iconst (-1), 1) := by decide +kernel
theorem dS_free_7 : decode cS_free 7 = .ok (.if_icmp .eq 15, 3) := by decide +kernel
theorem dS_free_10 : decode cS_free 10 = .ok (.aload_n 0, 1) := by decide +kernel
theorem dS_free_11 : decode cS_free 11 = .ok (.getfield 40, 3) := by decide +kernel
theorem dS_free_14 : decode cS_free 14 = .ok (.aload_n 0, 1) := by decide +kernel
end
section
theorem dS_free_15 : decode cS_free 15 = .ok (.getfield 20, 3) := by decide +kernel
theorem dS_free_18 : decode cS_free 18 = .ok (.iload_n 1, 1) := by decide +kernel
theorem dS_free_19 : decode cS_free 19 = .ok (.iaload, 1) := by decide +kernel
theorem dS_free_20 : decode cS_free 20 = .ok (.iconst (-1), 1) := by decide +kernel
theorem dS_free_21 : decode cS_free 21 = .ok (.iastore, 1) := by decide +kernel
theorem dS_free_22 : decode cS_free 22 = .ok (.aload_n 0, 1) := by decide +kernel
theorem dS_free_23 : decode cS_free 23 = .ok (.getfield 20, 3) := by decide +kernel
theorem dS_free_26 : decode cS_free 26 = .ok (.iload_n 1, 1) := by decide +kernel
theorem dS_free_27 : decode cS_free 27 = .ok (.iconst (-1), 1) := by decide +kernel
theorem dS_free_28 : decode cS_free 28 = .ok (.iastore, 1) := by decide +kernel
theorem dS_free_29 : decode cS_free 29 = .ok (.aload_n 0, 1) := by decide +kernel
theorem dS_free_30 : decode cS_free 30 = .ok (.getfield 17, 3) := by decide +kernel
theorem dS_free_33 : decode cS_free 33 = .ok (.iload_n 1, 1) := by decide +kernel
theorem dS_free_34 : decode cS_free 34 = .ok (.iconst 0, 1) := by decide +kernel
theorem dS_free_35 : decode cS_free 35 = .ok (.bastore, 1) := by decide +kernel
theorem dS_free_36 : decode cS_free 36 = .ok (.return_, 1) := by decide +kernel
theorem dS_layOutNeeds_0 : decode cS_layOutNeeds 0 = .ok (.aload_n 0, 1) := by decide +kernel
theorem dS_layOutNeeds_1 : decode cS_layOutNeeds 1 = .ok (.getfield 56, 3) := by decide +kernel
theorem dS_layOutNeeds_4 : decode cS_layOutNeeds 4 = .ok (.invokevirtual 212, 3) := by decide +kernel
theorem dS_layOutNeeds_7 : decode cS_layOutNeeds 7 = .ok (.aload_n 0, 1) := by decide +kernel
theorem dS_layOutNeeds_8 : decode cS_layOutNeeds 8 = .ok (.iconst 1, 1) := by decide +kernel
theorem dS_layOutNeeds_9 : decode cS_layOutNeeds 9 = .ok (.invokevirtual 215, 3) := by decide +kernel
theorem dS_layOutNeeds_12 : decode cS_layOutNeeds 12 = .ok (.aload_n 0, 1) := by decide +kernel
theorem dS_layOutNeeds_13 : decode cS_layOutNeeds 13 = .ok (.getfield 56, 3) := by decide +kernel
theorem dS_layOutNeeds_16 : decode cS_layOutNeeds 16 = .ok (.invokevirtual 219, 3) := by decide +kernel
theorem dS_layOutNeeds_19 : decode cS_layOutNeeds 19 = .ok (.aload_n 0, 1) := by decide +kernel
theorem dS_layOutNeeds_20 : decode cS_layOutNeeds 20 = .ok (.iconst 0, 1) := by decide +kernel
theorem dS_layOutNeeds_21 : decode cS_layOutNeeds 21 = .ok (.invokevirtual 215, 3) := by decide +kernel
theorem dS_layOutNeeds_24 : decode cS_layOutNeeds 24 = .ok (.return_, 1) := by decide +kernel
theorem dS_addNeeds_0 : decode cS_addNeeds 0 = .ok (.iconst 0, 1) := by decide +kernel
theorem dS_addNeeds_1 : decode cS_addNeeds 1 = .ok (.istore_n 2, 1) := by decide +kernel
theorem dS_addNeeds_2 : decode cS_addNeeds 2 = .ok (.iload_n 2, 1) := by decide +kernel
theorem dS_addNeeds_3 : decode cS_addNeeds 3 = .ok (.aload_n 0, 1) := by decide +kernel
theorem dS_addNeeds_4 : decode cS_addNeeds 4 = .ok (.getfield 102, 3) := by decide +kernel
theorem dS_addNeeds_7 : decode cS_addNeeds 7 = .ok (.if_icmp .ge 51, 3) := by decide +kernel
theorem dS_addNeeds_10 : decode cS_addNeeds 10 = .ok (.aload_n 0, 1) := by decide +kernel
theorem dS_addNeeds_11 : decode cS_addNeeds 11 = .ok (.iload_n 2, 1) := by decide +kernel
theorem dS_addNeeds_12 : decode cS_addNeeds 12 = .ok (.invokevirtual 160, 3) := by decide +kernel
theorem dS_addNeeds_15 : decode cS_addNeeds 15 = .ok (.ifCond .eq 37, 3) := by decide +kernel
theorem dS_addNeeds_18 : decode cS_addNeeds 18 = .ok (.aload_n 0, 1) := by decide +kernel
theorem dS_addNeeds_19 : decode cS_addNeeds 19 = .ok (.iload_n 2, 1) := by decide +kernel
theorem dS_addNeeds_20 : decode cS_addNeeds 20 = .ok (.invokevirtual 222, 3) := by decide +kernel
theorem dS_addNeeds_23 : decode cS_addNeeds 23 = .ok (.ifCond .ne 29, 3) := by decide +kernel
theorem dS_addNeeds_26 : decode cS_addNeeds 26 = .ok (.aload_n 0, 1) := by decide +kernel
theorem dS_addNeeds_27 : decode cS_addNeeds 27 = .ok (.iload_n 2, 1) := by decide +kernel
theorem dS_addNeeds_28 : decode cS_addNeeds 28 = .ok (.invokevirtual 209, 3) := by decide +kernel
theorem dS_addNeeds_31 : decode cS_addNeeds 31 = .ok (.aload_n 0, 1) := by decide +kernel
theorem dS_addNeeds_32 : decode cS_addNeeds 32 = .ok (.getfield 50, 3) := by decide +kernel
theorem dS_addNeeds_35 : decode cS_addNeeds 35 = .ok (.if_icmp .lt 7, 3) := by decide +kernel
theorem dS_addNeeds_38 : decode cS_addNeeds 38 = .ok (.iconst 1, 1) := by decide +kernel
theorem dS_addNeeds_39 : decode cS_addNeeds 39 = .ok (.goto 4, 3) := by decide +kernel
theorem dS_addNeeds_42 : decode cS_addNeeds 42 = .ok (.iconst 0, 1) := by decide +kernel
theorem dS_addNeeds_43 : decode cS_addNeeds 43 = .ok (.iload_n 1, 1) := by decide +kernel
theorem dS_addNeeds_44 : decode cS_addNeeds 44 = .ok (.if_icmp .ne 8, 3) := by decide +kernel
theorem dS_addNeeds_47 : decode cS_addNeeds 47 = .ok (.aload_n 0, 1) := by decide +kernel
theorem dS_addNeeds_48 : decode cS_addNeeds 48 = .ok (.iload_n 2, 1) := by decide +kernel
theorem dS_addNeeds_49 : decode cS_addNeeds 49 = .ok (.invokevirtual 225, 3) := by decide +kernel
theorem dS_addNeeds_52 : decode cS_addNeeds 52 = .ok (.iinc 2 1, 3) := by decide +kernel
theorem dS_addNeeds_55 : decode cS_addNeeds 55 = .ok (.goto (-53), 3) := by decide +kernel
theorem dS_addNeeds_58 : decode cS_addNeeds 58 = .ok (.return_, 1) := by decide +kernel
theorem dS_addNeed_0 : decode cS_addNeed 0 = .ok (.aload_n 0, 1) := by decide +kernel
theorem dS_addNeed_1 : decode cS_addNeed 1 = .ok (.getfield 56, 3) := by decide +kernel
theorem dS_addNeed_4 : decode cS_addNeed 4 = .ok (.iload_n 1, 1) := by decide +kernel
theorem dS_addNeed_5 : decode cS_addNeed 5 = .ok (.invokevirtual 228, 3) := by decide +kernel
theorem dS_addNeed_8 : decode cS_addNeed 8 = .ok (.istore_n 2, 1) := by decide +kernel
theorem dS_addNeed_9 : decode cS_addNeed 9 = .ok (.iconst 0, 1) := by decide +kernel
theorem dS_addNeed_10 : decode cS_addNeed 10 = .ok (.istore_n 3, 1) := by decide +kernel
theorem dS_addNeed_11 : decode cS_addNeed 11 = .ok (.iload_n 3, 1) := by decide +kernel
theorem dS_addNeed_12 : decode cS_addNeed 12 = .ok (.aload_n 0, 1) := by decide +kernel
theorem dS_addNeed_13 : decode cS_addNeed 13 = .ok (.getfield 74, 3) := by decide +kernel
theorem dS_addNeed_16 : decode cS_addNeed 16 = .ok (.if_icmp .ge 46, 3) := by decide +kernel
theorem dS_addNeed_19 : decode cS_addNeed 19 = .ok (.aload_n 0, 1) := by decide +kernel
theorem dS_addNeed_20 : decode cS_addNeed 20 = .ok (.iload_n 3, 1) := by decide +kernel
theorem dS_addNeed_21 : decode cS_addNeed 21 = .ok (.invokevirtual 206, 3) := by decide +kernel
theorem dS_addNeed_24 : decode cS_addNeed 24 = .ok (.ifCond .ne 32, 3) := by decide +kernel
theorem dS_addNeed_27 : decode cS_addNeed 27 = .ok (.aload_n 0, 1) := by decide +kernel
theorem dS_addNeed_28 : decode cS_addNeed 28 = .ok (.iload_n 3, 1) := by decide +kernel
theorem dS_addNeed_29 : decode cS_addNeed 29 = .ok (.iload_n 1, 1) := by decide +kernel
theorem dS_addNeed_30 : decode cS_addNeed 30 = .ok (.invokevirtual 178, 3) := by decide +kernel
theorem dS_addNeed_33 : decode cS_addNeed 33 = .ok (.ifCond .eq 23, 3) := by decide +kernel
theorem dS_addNeed_36 : decode cS_addNeed 36 = .ok (.aload_n 0, 1) := by decide +kernel
theorem dS_addNeed_37 : decode cS_addNeed 37 = .ok (.getfield 56, 3) := by decide +kernel
theorem dS_addNeed_40 : decode cS_addNeed 40 = .ok (.iload_n 2, 1) := by decide +kernel
theorem dS_addNeed_41 : decode cS_addNeed 41 = .ok (.iload_n 3, 1) := by decide +kernel
theorem dS_addNeed_42 : decode cS_addNeed 42 = .ok (.aload_n 0, 1) := by decide +kernel
theorem dS_addNeed_43 : decode cS_addNeed 43 = .ok (.iload_n 1, 1) := by decide +kernel
theorem dS_addNeed_44 : decode cS_addNeed 44 = .ok (.invokevirtual 209, 3) := by decide +kernel
theorem dS_addNeed_47 : decode cS_addNeed 47 = .ok (.aload_n 0, 1) := by decide +kernel
theorem dS_addNeed_48 : decode cS_addNeed 48 = .ok (.iload_n 3, 1) := by decide +kernel
theorem dS_addNeed_49 : decode cS_addNeed 49 = .ok (.iload_n 1, 1) := by decide +kernel
theorem dS_addNeed_50 : decode cS_addNeed 50 = .ok (.invokevirtual 181, 3) := by decide +kernel
theorem dS_addNeed_53 : decode cS_addNeed 53 = .ok (.invokevirtual 231, 3) := by decide +kernel
theorem dS_addNeed_56 : decode cS_addNeed 56 = .ok (.iinc 3 1, 3) := by decide +kernel
theorem dS_addNeed_59 : decode cS_addNeed 59 = .ok (.goto (-48), 3) := by decide +kernel
theorem dS_addNeed_62 : decode cS_addNeed 62 = .ok (.return_, 1) := by decide +kernel
theorem dS_spareUnits_0 : decode cS_spareUnits 0 = .ok (.aload_n 0, 1) := by decide +kernel
theorem dS_spareUnits_1 : decode cS_spareUnits 1 = .ok (.getfield 46, 3) := by decide +kernel
theorem dS_spareUnits_4 : decode cS_spareUnits 4 = .ok (.ineg, 1) := by decide +kernel
theorem dS_spareUnits_5 : decode cS_spareUnits 5 = .ok (.istore_n 1, 1) := by decide +kernel
theorem dS_spareUnits_6 : decode cS_spareUnits 6 = .ok (.iconst 0, 1) := by decide +kernel
theorem dS_spareUnits_7 : decode cS_spareUnits 7 = .ok (.istore_n 2, 1) := by decide +kernel
theorem dS_spareUnits_8 : decode cS_spareUnits 8 = .ok (.iload_n 2, 1) := by decide +kernel
theorem dS_spareUnits_9 : decode cS_spareUnits 9 = .ok (.aload_n 0, 1) := by decide +kernel
theorem dS_spareUnits_10 : decode cS_spareUnits 10 = .ok (.getfield 74, 3) := by decide +kernel
theorem dS_spareUnits_13 : decode cS_spareUnits 13 = .ok (.if_icmp .ge 29, 3) := by decide +kernel
theorem dS_spareUnits_16 : decode cS_spareUnits 16 = .ok (.aload_n 0, 1) := by decide +kernel
theorem dS_spareUnits_17 : decode cS_spareUnits 17 = .ok (.getfield 13, 3) := by decide +kernel
theorem dS_spareUnits_20 : decode cS_spareUnits 20 = .ok (.iload_n 2, 1) := by decide +kernel
theorem dS_spareUnits_21 : decode cS_spareUnits 21 = .ok (.baload, 1) := by decide +kernel
theorem dS_spareUnits_22 : decode cS_spareUnits 22 = .ok (.ifCond .ne 14, 3) := by decide +kernel
theorem dS_spareUnits_25 : decode cS_spareUnits 25 = .ok (.aload_n 0, 1) := by decide +kernel
theorem dS_spareUnits_26 : decode cS_spareUnits 26 = .ok (.iload_n 2, 1) := by decide +kernel
theorem dS_spareUnits_27 : decode cS_spareUnits 27 = .ok (.invokevirtual 206, 3) := by decide +kernel
theorem dS_spareUnits_30 : decode cS_spareUnits 30 = .ok (.ifCond .ne 6, 3) := by decide +kernel
theorem dS_spareUnits_33 : decode cS_spareUnits 33 = .ok (.iinc 1 1, 3) := by decide +kernel
theorem dS_spareUnits_36 : decode cS_spareUnits 36 = .ok (.iinc 2 1, 3) := by decide +kernel
theorem dS_spareUnits_39 : decode cS_spareUnits 39 = .ok (.goto (-31), 3) := by decide +kernel
theorem dS_spareUnits_42 : decode cS_spareUnits 42 = .ok (.iload_n 1, 1) := by decide +kernel
theorem dS_spareUnits_43 : decode cS_spareUnits 43 = .ok (.ireturn, 1) := by decide +kernel
theorem dS_presentStays_0 : decode cS_presentStays 0 = .ok (.iconst 0, 1) := by decide +kernel
theorem dS_presentStays_1 : decode cS_presentStays 1 = .ok (.istore_n 3, 1) := by decide +kernel
theorem dS_presentStays_2 : decode cS_presentStays 2 = .ok (.iload_n 3, 1) := by decide +kernel
theorem dS_presentStays_3 : decode cS_presentStays 3 = .ok (.aload_n 0, 1) := by decide +kernel
theorem dS_presentStays_4 : decode cS_presentStays 4 = .ok (.getfield 56, 3) := by decide +kernel
theorem dS_presentStays_7 : decode cS_presentStays 7 = .ok (.invokevirtual 235, 3) := by decide +kernel
theorem dS_presentStays_10 : decode cS_presentStays 10 = .ok (.if_icmp .ge 30, 3) := by decide +kernel
theorem dS_presentStays_13 : decode cS_presentStays 13 = .ok (.aload_n 0, 1) := by decide +kernel
theorem dS_presentStays_14 : decode cS_presentStays 14 = .ok (.getfield 56, 3) := by decide +kernel
theorem dS_presentStays_17 : decode cS_presentStays 17 = .ok (.iload_n 3, 1) := by decide +kernel
theorem dS_presentStays_18 : decode cS_presentStays 18 = .ok (.aload_n 0, 1) := by decide +kernel
theorem dS_presentStays_19 : decode cS_presentStays 19 = .ok (.getfield 40, 3) := by decide +kernel
theorem dS_presentStays_22 : decode cS_presentStays 22 = .ok (.aload_n 0, 1) := by decide +kernel
theorem dS_presentStays_23 : decode cS_presentStays 23 = .ok (.getfield 56, 3) := by decide +kernel
theorem dS_presentStays_26 : decode cS_presentStays 26 = .ok (.iload_n 3, 1) := by decide +kernel
theorem dS_presentStays_27 : decode cS_presentStays 27 = .ok (.invokevirtual 238, 3) := by decide +kernel
theorem dS_presentStays_30 : decode cS_presentStays 30 = .ok (.iaload, 1) := by decide +kernel
theorem dS_presentStays_31 : decode cS_presentStays 31 = .ok (.invokevirtual 241, 3) := by decide +kernel
theorem dS_presentStays_34 : decode cS_presentStays 34 = .ok (.iinc 3 1, 3) := by decide +kernel
theorem dS_presentStays_37 : decode cS_presentStays 37 = .ok (.goto (-35), 3) := by decide +kernel
theorem dS_presentStays_40 : decode cS_presentStays 40 = .ok (.aload_n 0, 1) := by decide +kernel
theorem dS_presentStays_41 : decode cS_presentStays 41 = .ok (.getfield 56, 3) := by decide +kernel
theorem dS_presentStays_44 : decode cS_presentStays 44 = .ok (.iload_n 1, 1) := by decide +kernel
theorem dS_presentStays_45 : decode cS_presentStays 45 = .ok (.invokevirtual 245, 3) := by decide +kernel
theorem dS_presentStays_48 : decode cS_presentStays 48 = .ok (.ifCond .eq 20, 3) := by decide +kernel
theorem dS_presentStays_51 : decode cS_presentStays 51 = .ok (.aload_n 0, 1) := by decide +kernel
theorem dS_presentStays_52 : decode cS_presentStays 52 = .ok (.getfield 56, 3) := by decide +kernel
theorem dS_presentStays_55 : decode cS_presentStays 55 = .ok (.invokevirtual 248, 3) := by decide +kernel
theorem dS_presentStays_58 : decode cS_presentStays 58 = .ok (.iload_n 2, 1) := by decide +kernel
theorem dS_presentStays_59 : decode cS_presentStays 59 = .ok (.i2l, 1) := by decide +kernel
theorem dS_presentStays_60 : decode cS_presentStays 60 = .ok (.lcmp, 1) := by decide +kernel
theorem dS_presentStays_61 : decode cS_presentStays 61 = .ok (.ifCond .ge 7, 3) := by decide +kernel
theorem dS_presentStays_64 : decode cS_presentStays 64 = .ok (.iconst 1, 1) := by decide +kernel
theorem dS_presentStays_65 : decode cS_presentStays 65 = .ok (.goto 4, 3) := by decide +kernel
theorem dS_presentStays_68 : decode cS_presentStays 68 = .ok (.iconst 0, 1) := by decide +kernel
theorem dS_presentStays_69 : decode cS_presentStays 69 = .ok (.ireturn, 1) := by decide +kernel
theorem dS_takeBest_0 : decode cS_takeBest 0 = .ok (.iconst 0, 1) := by decide +kernel
theorem dS_takeBest_1 : decode cS_takeBest 1 = .ok (.istore_n 1, 1) := by decide +kernel
theorem dS_takeBest_2 : decode cS_takeBest 2 = .ok (.iload_n 1, 1) := by decide +kernel
theorem dS_takeBest_3 : decode cS_takeBest 3 = .ok (.aload_n 0, 1) := by decide +kernel
theorem dS_takeBest_4 : decode cS_takeBest 4 = .ok (.getfield 56, 3) := by decide +kernel
theorem dS_takeBest_7 : decode cS_takeBest 7 = .ok (.invokevirtual 235, 3) := by decide +kernel
theorem dS_takeBest_10 : decode cS_takeBest 10 = .ok (.if_icmp .ge 33, 3) := by decide +kernel
theorem dS_takeBest_13 : decode cS_takeBest 13 = .ok (.aload_n 0, 1) := by decide +kernel
theorem dS_takeBest_14 : decode cS_takeBest 14 = .ok (.getfield 40, 3) := by decide +kernel
theorem dS_takeBest_17 : decode cS_takeBest 17 = .ok (.aload_n 0, 1) := by decide +kernel
theorem dS_takeBest_18 : decode cS_takeBest 18 = .ok (.getfield 56, 3) := by decide +kernel
theorem dS_takeBest_21 : decode cS_takeBest 21 = .ok (.iload_n 1, 1) := by decide +kernel
theorem dS_takeBest_22 : decode cS_takeBest 22 = .ok (.invokevirtual 238, 3) := by decide +kernel
theorem dS_takeBest_25 : decode cS_takeBest 25 = .ok (.iaload, 1) := by decide +kernel
theorem dS_takeBest_26 : decode cS_takeBest 26 = .ok (.istore_n 2, 1) := by decide +kernel
theorem dS_takeBest_27 : decode cS_takeBest 27 = .ok (.iload_n 2, 1) := by decide +kernel
theorem dS_takeBest_28 : decode cS_takeBest 28 = .ok (.iconst (-1), 1) := by decide +kernel
theorem dS_takeBest_29 : decode cS_takeBest 29 = .ok (.if_icmp .eq 8, 3) := by decide +kernel
theorem dS_takeBest_32 : decode cS_takeBest 32 = .ok (.aload_n 0, 1) := by decide +kernel
theorem dS_takeBest_33 : decode cS_takeBest 33 = .ok (.iload_n 2, 1) := by decide +kernel
theorem dS_takeBest_34 : decode cS_takeBest 34 = .ok (.invokevirtual 122, 3) := by decide +kernel
theorem dS_takeBest_37 : decode cS_takeBest 37 = .ok (.iinc 1 1, 3) := by decide +kernel
theorem dS_takeBest_40 : decode cS_takeBest 40 = .ok (.goto (-38), 3) := by decide +kernel
theorem dS_takeBest_43 : decode cS_takeBest 43 = .ok (.iconst 0, 1) := by decide +kernel
theorem dS_takeBest_44 : decode cS_takeBest 44 = .ok (.istore_n 1, 1) := by decide +kernel
theorem dS_takeBest_45 : decode cS_takeBest 45 = .ok (.iload_n 1, 1) := by decide +kernel
theorem dS_takeBest_46 : decode cS_takeBest 46 = .ok (.aload_n 0, 1) := by decide +kernel
theorem dS_takeBest_47 : decode cS_takeBest 47 = .ok (.getfield 56, 3) := by decide +kernel
theorem dS_takeBest_50 : decode cS_takeBest 50 = .ok (.invokevirtual 235, 3) := by decide +kernel
theorem dS_takeBest_53 : decode cS_takeBest 53 = .ok (.if_icmp .ge 51, 3) := by decide +kernel
theorem dS_takeBest_56 : decode cS_takeBest 56 = .ok (.aload_n 0, 1) := by decide +kernel
theorem dS_takeBest_57 : decode cS_takeBest 57 = .ok (.getfield 56, 3) := by decide +kernel
theorem dS_takeBest_60 : decode cS_takeBest 60 = .ok (.iload_n 1, 1) := by decide +kernel
theorem dS_takeBest_61 : decode cS_takeBest 61 = .ok (.invokevirtual 252, 3) := by decide +kernel
theorem dS_takeBest_64 : decode cS_takeBest 64 = .ok (.istore_n 2, 1) := by decide +kernel
theorem dS_takeBest_65 : decode cS_takeBest 65 = .ok (.iload_n 2, 1) := by decide +kernel
theorem dS_takeBest_66 : decode cS_takeBest 66 = .ok (.iconst (-1), 1) := by decide +kernel
theorem dS_takeBest_67 : decode cS_takeBest 67 = .ok (.if_icmp .eq 31, 3) := by decide +kernel
theorem dS_takeBest_70 : decode cS_takeBest 70 = .ok (.aload_n 0, 1) := by decide +kernel
theorem dS_takeBest_71 : decode cS_takeBest 71 = .ok (.getfield 40, 3) := by decide +kernel
theorem dS_takeBest_74 : decode cS_takeBest 74 = .ok (.aload_n 0, 1) := by decide +kernel
theorem dS_takeBest_75 : decode cS_takeBest 75 = .ok (.getfield 56, 3) := by decide +kernel
theorem dS_takeBest_78 : decode cS_takeBest 78 = .ok (.iload_n 1, 1) := by decide +kernel
theorem dS_takeBest_79 : decode cS_takeBest 79 = .ok (.invokevirtual 238, 3) := by decide +kernel
theorem dS_takeBest_82 : decode cS_takeBest 82 = .ok (.iload_n 2, 1) := by decide +kernel
theorem dS_takeBest_83 : decode cS_takeBest 83 = .ok (.iastore, 1) := by decide +kernel
theorem dS_takeBest_84 : decode cS_takeBest 84 = .ok (.aload_n 0, 1) := by decide +kernel
theorem dS_takeBest_85 : decode cS_takeBest 85 = .ok (.getfield 20, 3) := by decide +kernel
theorem dS_takeBest_88 : decode cS_takeBest 88 = .ok (.iload_n 2, 1) := by decide +kernel
theorem dS_takeBest_89 : decode cS_takeBest 89 = .ok (.aload_n 0, 1) := by decide +kernel
theorem dS_takeBest_90 : decode cS_takeBest 90 = .ok (.getfield 56, 3) := by decide +kernel
theorem dS_takeBest_93 : decode cS_takeBest 93 = .ok (.iload_n 1, 1) := by decide +kernel
theorem dS_takeBest_94 : decode cS_takeBest 94 = .ok (.invokevirtual 238, 3) := by decide +kernel
theorem dS_takeBest_97 : decode cS_takeBest 97 = .ok (.iastore, 1) := by decide +kernel
theorem dS_takeBest_98 : decode cS_takeBest 98 = .ok (.iinc 1 1, 3) := by decide +kernel
theorem dS_takeBest_101 : decode cS_takeBest 101 = .ok (.goto (-56), 3) := by decide +kernel
theorem dS_takeBest_104 : decode cS_takeBest 104 = .ok (.return_, 1) := by decide +kernel
theorem dP_init_0 : decode cP_init 0 = .ok (.aload_n 0, 1) := by decide +kernel
theorem dP_init_1 : decode cP_init 1 = .ok (.invokespecial 3, 3) := by decide +kernel
theorem dP_init_4 : decode cP_init 4 = .ok (.aload_n 0, 1) := by decide +kernel
theorem dP_init_5 : decode cP_init 5 = .ok (.bipush 10, 2) := by decide +kernel
theorem dP_init_7 : decode cP_init 7 = .ok (.newarray .int, 2) := by decide +kernel
theorem dP_init_9 : decode cP_init 9 = .ok (.putfield 9, 3) := by decide +kernel
theorem dP_init_12 : decode cP_init 12 = .ok (.aload_n 0, 1) := by decide +kernel
theorem dP_init_13 : decode cP_init 13 = .ok (.bipush 10, 2) := by decide +kernel
theorem dP_init_15 : decode cP_init 15 = .ok (.bipush 12, 2) := by decide +kernel
theorem dP_init_17 : decode cP_init 17 = .ok (.multianewarray 15 2, 4) := by decide +kernel
theorem dP_init_21 : decode cP_init 21 = .ok (.putfield 17, 3) := by decide +kernel
theorem dP_init_24 : decode cP_init 24 = .ok (.aload_n 0, 1) := by decide +kernel
theorem dP_init_25 : decode cP_init 25 = .ok (.bipush 10, 2) := by decide +kernel
theorem dP_init_27 : decode cP_init 27 = .ok (.bipush 12, 2) := by decide +kernel
theorem dP_init_29 : decode cP_init 29 = .ok (.multianewarray 15 2, 4) := by decide +kernel
theorem dP_init_33 : decode cP_init 33 = .ok (.putfield 20, 3) := by decide +kernel
theorem dP_init_36 : decode cP_init 36 = .ok (.aload_n 0, 1) := by decide +kernel
theorem dP_init_37 : decode cP_init 37 = .ok (.bipush 10, 2) := by decide +kernel
theorem dP_init_39 : decode cP_init 39 = .ok (.newarray .int, 2) := by decide +kernel
theorem dP_init_41 : decode cP_init 41 = .ok (.putfield 23, 3) := by decide +kernel
theorem dP_init_44 : decode cP_init 44 = .ok (.aload_n 0, 1) := by decide +kernel
theorem dP_init_45 : decode cP_init 45 = .ok (.bipush 12, 2) := by decide +kernel
theorem dP_init_47 : decode cP_init 47 = .ok (.newarray .int, 2) := by decide +kernel
theorem dP_init_49 : decode cP_init 49 = .ok (.putfield 26, 3) := by decide +kernel
theorem dP_init_52 : decode cP_init 52 = .ok (.aload_n 0, 1) := by decide +kernel
theorem dP_init_53 : decode cP_init 53 = .ok (.bipush 10, 2) := by decide +kernel
theorem dP_init_55 : decode cP_init 55 = .ok (.newarray .int, 2) := by decide +kernel
theorem dP_init_57 : decode cP_init 57 = .ok (.putfield 29, 3) := by decide +kernel
theorem dP_init_60 : decode cP_init 60 = .ok (.aload_n 0, 1) := by decide +kernel
theorem dP_init_61 : decode cP_init 61 = .ok (.bipush 10, 2) := by decide +kernel
theorem dP_init_63 : decode cP_init 63 = .ok (.newarray .boolean, 2) := by decide +kernel
theorem dP_init_65 : decode cP_init 65 = .ok (.putfield 32, 3) := by decide +kernel
theorem dP_init_68 : decode cP_init 68 = .ok (.aload_n 0, 1) := by decide +kernel
theorem dP_init_69 : decode cP_init 69 = .ok (.bipush 10, 2) := by decide +kernel
theorem dP_init_71 : decode cP_init 71 = .ok (.newarray .long, 2) := by decide +kernel
theorem dP_init_73 : decode cP_init 73 = .ok (.putfield 36, 3) := by decide +kernel
theorem dP_init_76 : decode cP_init 76 = .ok (.aload_n 0, 1) := by decide +kernel
theorem dP_init_77 : decode cP_init 77 = .ok (.bipush 10, 2) := by decide +kernel
theorem dP_init_79 : decode cP_init 79 = .ok (.newarray .long, 2) := by decide +kernel
theorem dP_init_81 : decode cP_init 81 = .ok (.putfield 40, 3) := by decide +kernel
theorem dP_init_84 : decode cP_init 84 = .ok (.aload_n 0, 1) := by decide +kernel
theorem dP_init_85 : decode cP_init 85 = .ok (.bipush 12, 2) := by decide +kernel
theorem dP_init_87 : decode cP_init 87 = .ok (.newarray .int, 2) := by decide +kernel
theorem dP_init_89 : decode cP_init 89 = .ok (.putfield 43, 3) := by decide +kernel
theorem dP_init_92 : decode cP_init 92 = .ok (.aload_n 0, 1) := by decide +kernel
theorem dP_init_93 : decode cP_init 93 = .ok (.bipush 12, 2) := by decide +kernel
theorem dP_init_95 : decode cP_init 95 = .ok (.newarray .long, 2) := by decide +kernel
theorem dP_init_97 : decode cP_init 97 = .ok (.putfield 46, 3) := by decide +kernel
theorem dP_init_100 : decode cP_init 100 = .ok (.aload_n 0, 1) := by decide +kernel
theorem dP_init_101 : decode cP_init 101 = .ok (.bipush 12, 2) := by decide +kernel
theorem dP_init_103 : decode cP_init 103 = .ok (.newarray .long, 2) := by decide +kernel
theorem dP_init_105 : decode cP_init 105 = .ok (.putfield 49, 3) := by decide +kernel
theorem dP_init_108 : decode cP_init 108 = .ok (.lconst 1, 1) := by decide +kernel
theorem dP_init_109 : decode cP_init 109 = .ok (.lstore_n 1, 1) := by decide +kernel
theorem dP_init_110 : decode cP_init 110 = .ok (.bipush 9, 2) := by decide +kernel
theorem dP_init_112 : decode cP_init 112 = .ok (.istore_n 3, 1) := by decide +kernel
theorem dP_init_113 : decode cP_init 113 = .ok (.iload_n 3, 1) := by decide +kernel
theorem dP_init_114 : decode cP_init 114 = .ok (.ifCond .lt 48, 3) := by decide +kernel
theorem dP_init_117 : decode cP_init 117 = .ok (.iconst 0, 1) := by decide +kernel
theorem dP_init_118 : decode cP_init 118 = .ok (.istore 4, 2) := by decide +kernel
theorem dP_init_120 : decode cP_init 120 = .ok (.iload 4, 2) := by decide +kernel
theorem dP_init_122 : decode cP_init 122 = .ok (.bipush 12, 2) := by decide +kernel
theorem dP_init_124 : decode cP_init 124 = .ok (.if_icmp .ge 26, 3) := by decide +kernel
theorem dP_init_127 : decode cP_init 127 = .ok (.aload_n 0, 1) := by decide +kernel
theorem dP_init_128 : decode cP_init 128 = .ok (.getfield 20, 3) := by decide +kernel
theorem dP_init_131 : decode cP_init 131 = .ok (.iload_n 3, 1) := by decide +kernel
theorem dP_init_132 : decode cP_init 132 = .ok (.aaload, 1) := by decide +kernel
theorem dP_init_133 : decode cP_init 133 = .ok (.iload 4, 2) := by decide +kernel
theorem dP_init_135 : decode cP_init 135 = .ok (.iload 4, 2) := by decide +kernel
theorem dP_init_137 : decode cP_init 137 = .ok (.bipush 12, 2) := by decide +kernel
theorem dP_init_139 : decode cP_init 139 = .ok (.isub, 1) := by decide +kernel
theorem dP_init_140 : decode cP_init 140 = .ok (.i2l, 1) := by decide +kernel
theorem dP_init_141 : decode cP_init 141 = .ok (.lload_n 1, 1) := by decide +kernel
theorem dP_init_142 : decode cP_init 142 = .ok (.lmul, 1) := by decide +kernel
theorem dP_init_143 : decode cP_init 143 = .ok (.lastore, 1) := by decide +kernel
theorem dP_init_144 : decode cP_init 144 = .ok (.iinc 4 1, 3) := by decide +kernel
theorem dP_init_147 : decode cP_init 147 = .ok (.goto (-27), 3) := by decide +kernel
theorem dP_init_150 : decode cP_init 150 = .ok (.lload_n 1, 1) := by decide +kernel
theorem dP_init_151 : decode cP_init 151 = .ok (.ldc2_w 52, 3) := by decide +kernel
theorem dP_init_154 : decode cP_init 154 = .ok (.lmul, 1) := by decide +kernel
theorem dP_init_155 : decode cP_init 155 = .ok (.lstore_n 1, 1) := by decide +kernel
theorem dP_init_156 : decode cP_init 156 = .ok (.iinc 3 (-1), 3) := by decide +kernel
theorem dP_init_159 : decode cP_init 159 = .ok (.goto (-46), 3) := by decide +kernel
theorem dP_init_162 : decode cP_init 162 = .ok (.return_, 1) := by decide +kernel
theorem dP_clear_0 : decode cP_clear 0 = .ok (.aload_n 0, 1) := by decide +kernel
theorem dP_clear_1 : decode cP_clear 1 = .ok (.iconst 0, 1) := by decide +kernel
theorem dP_clear_2 : decode cP_clear 2 = .ok (.putfield 54, 3) := by decide +kernel
theorem dP_clear_5 : decode cP_clear 5 = .ok (.aload_n 0, 1) := by decide +kernel
theorem dP_clear_6 : decode cP_clear 6 = .ok (.iconst 0, 1) := by decide +kernel
theorem dP_clear_7 : decode cP_clear 7 = .ok (.putfield 58, 3) := by decide +kernel
theorem dP_clear_10 : decode cP_clear 10 = .ok (.iconst 0, 1) := by decide +kernel
theorem dP_clear_11 : decode cP_clear 11 = .ok (.istore_n 1, 1) := by decide +kernel
theorem dP_clear_12 : decode cP_clear 12 = .ok (.iload_n 1, 1) := by decide +kernel
theorem dP_clear_13 : decode cP_clear 13 = .ok (.bipush 10, 2) := by decide +kernel
theorem dP_clear_15 : decode cP_clear 15 = .ok (.if_icmp .ge 19, 3) := by decide +kernel
theorem dP_clear_18 : decode cP_clear 18 = .ok (.aload_n 0, 1) := by decide +kernel
theorem dP_clear_19 : decode cP_clear 19 = .ok (.getfield 17, 3) := by decide +kernel
theorem dP_clear_22 : decode cP_clear 22 = .ok (.iload_n 1, 1) := by decide +kernel
theorem dP_clear_23 : decode cP_clear 23 = .ok (.aaload, 1) := by decide +kernel
theorem dP_clear_24 : decode cP_clear 24 = .ok (.lconst 0, 1) := by decide +kernel
theorem dP_clear_25 : decode cP_clear 25 = .ok (.invokestatic 61, 3) := by decide +kernel
theorem dP_clear_28 : decode cP_clear 28 = .ok (.iinc 1 1, 3) := by decide +kernel
theorem dP_clear_31 : decode cP_clear 31 = .ok (.goto (-19), 3) := by decide +kernel
theorem dP_clear_34 : decode cP_clear 34 = .ok (.return_, 1) := by decide +kernel
theorem dP_addRow_0 : decode cP_addRow 0 = .ok (.aload_n 0, 1) := by decide +kernel
theorem dP_addRow_1 : decode cP_addRow 1 = .ok (.getfield 9, 3) := by decide +kernel
theorem dP_addRow_4 : decode cP_addRow 4 = .ok (.aload_n 0, 1) := by decide +kernel
theorem dP_addRow_5 : decode cP_addRow 5 = .ok (.getfield 54, 3) := by decide +kernel
theorem dP_addRow_8 : decode cP_addRow 8 = .ok (.iload_n 1, 1) := by decide +kernel
theorem dP_addRow_9 : decode cP_addRow 9 = .ok (.iastore, 1) := by decide +kernel
theorem dP_addRow_10 : decode cP_addRow 10 = .ok (.aload_n 0, 1) := by decide +kernel
theorem dP_addRow_11 : decode cP_addRow 11 = .ok (.dup, 1) := by decide +kernel
theorem dP_addRow_12 : decode cP_addRow 12 = .ok (.getfield 54, 3) := by decide +kernel
theorem dP_addRow_15 : decode cP_addRow 15 = .ok (.iconst 1, 1) := by decide +kernel
theorem dP_addRow_16 : decode cP_addRow 16 = .ok (.iadd, 1) := by decide +kernel
theorem dP_addRow_17 : decode cP_addRow 17 = .ok (.putfield 54, 3) := by decide +kernel
theorem dP_addRow_20 : decode cP_addRow 20 = .ok (.aload_n 0, 1) := by decide +kernel
theorem dP_addRow_21 : decode cP_addRow 21 = .ok (.getfield 54, 3) := by decide +kernel
theorem dP_addRow_24 : decode cP_addRow 24 = .ok (.iconst 1, 1) := by decide +kernel
theorem dP_addRow_25 : decode cP_addRow 25 = .ok (.isub, 1) := by decide +kernel
theorem dP_addRow_26 : decode cP_addRow 26 = .ok (.ireturn, 1) := by decide +kernel
theorem dP_endUnbound_0 : decode cP_endUnbound 0 = .ok (.aload_n 0, 1) := by decide +kernel
theorem dP_endUnbound_1 : decode cP_endUnbound 1 = .ok (.aload_n 0, 1) := by decide +kernel
theorem dP_endUnbound_2 : decode cP_endUnbound 2 = .ok (.getfield 54, 3) := by decide +kernel
theorem dP_endUnbound_5 : decode cP_endUnbound 5 = .ok (.putfield 58, 3) := by decide +kernel
theorem dP_endUnbound_8 : decode cP_endUnbound 8 = .ok (.return_, 1) := by decide +kernel
theorem dP_allow_0 : decode cP_allow 0 = .ok (.aload_n 0, 1) := by decide +kernel
theorem dP_allow_1 : decode cP_allow 1 = .ok (.getfield 17, 3) := by decide +kernel
theorem dP_allow_4 : decode cP_allow 4 = .ok (.iload_n 1, 1) := by decide +kernel
theorem dP_allow_5 : decode cP_allow 5 = .ok (.aaload, 1) := by decide +kernel
theorem dP_allow_6 : decode cP_allow 6 = .ok (.iload_n 2, 1) := by decide +kernel
theorem dP_allow_7 : decode cP_allow 7 = .ok (.iload_n 3, 1) := by decide +kernel
theorem dP_allow_8 : decode cP_allow 8 = .ok (.i2l, 1) := by decide +kernel
theorem dP_allow_9 : decode cP_allow 9 = .ok (.iload 4, 2) := by decide +kernel
theorem dP_allow_11 : decode cP_allow 11 = .ok (.i2l, 1) := by decide +kernel
theorem dP_allow_12 : decode cP_allow 12 = .ok (.ldc2_w 67, 3) := by decide +kernel
theorem dP_allow_15 : decode cP_allow 15 = .ok (.lsub, 1) := by decide +kernel
theorem dP_allow_16 : decode cP_allow 16 = .ok (.lmul, 1) := by decide +kernel
theorem dP_allow_17 : decode cP_allow 17 = .ok (.lastore, 1) := by decide +kernel
theorem dP_allow_18 : decode cP_allow 18 = .ok (.return_, 1) := by decide +kernel
theorem dP_rows_0 : decode cP_rows 0 = .ok (.aload_n 0, 1) := by decide +kernel
theorem dP_rows_1 : decode cP_rows 1 = .ok (.getfield 54, 3) := by decide +kernel
theorem dP_rows_4 : decode cP_rows 4 = .ok (.ireturn, 1) := by decide +kernel
theorem dP_needOfRow_0 : decode cP_needOfRow 0 = .ok (.aload_n 0, 1) := by decide +kernel
theorem dP_needOfRow_1 : decode cP_needOfRow 1 = .ok (.getfield 9, 3) := by decide +kernel
theorem dP_needOfRow_4 : decode cP_needOfRow 4 = .ok (.iload_n 1, 1) := by decide +kernel
theorem dP_needOfRow_5 : decode cP_needOfRow 5 = .ok (.iaload, 1) := by decide +kernel
theorem dP_needOfRow_6 : decode cP_needOfRow 6 = .ok (.ireturn, 1) := by decide +kernel
theorem dP_bestUnit_0 : decode cP_bestUnit 0 = .ok (.aload_n 0, 1) := by decide +kernel
theorem dP_bestUnit_1 : decode cP_bestUnit 1 = .ok (.getfield 23, 3) := by decide +kernel
theorem dP_bestUnit_4 : decode cP_bestUnit 4 = .ok (.iload_n 1, 1) := by decide +kernel
theorem dP_bestUnit_5 : decode cP_bestUnit 5 = .ok (.iaload, 1) := by decide +kernel
theorem dP_bestUnit_6 : decode cP_bestUnit 6 = .ok (.ireturn, 1) := by decide +kernel
theorem dP_setPresent_0 : decode cP_setPresent 0 = .ok (.aload_n 0, 1) := by decide +kernel
theorem dP_setPresent_1 : decode cP_setPresent 1 = .ok (.getfield 29, 3) := by decide +kernel
theorem dP_setPresent_4 : decode cP_setPresent 4 = .ok (.iload_n 1, 1) := by decide +kernel
theorem dP_setPresent_5 : decode cP_setPresent 5 = .ok (.iload_n 2, 1) := by decide +kernel
theorem dP_setPresent_6 : decode cP_setPresent 6 = .ok (.iastore, 1) := by decide +kernel
theorem dP_setPresent_7 : decode cP_setPresent 7 = .ok (.return_, 1) := by decide +kernel
theorem dP_presentIsPlan_0 : decode cP_presentIsPlan 0 = .ok (.iconst 0, 1) := by decide +kernel
theorem dP_presentIsPlan_1 : decode cP_presentIsPlan 1 = .ok (.istore_n 2, 1) := by decide +kernel
theorem dP_presentIsPlan_2 : decode cP_presentIsPlan 2 = .ok (.iconst 0, 1) := by decide +kernel
theorem dP_presentIsPlan_3 : decode cP_presentIsPlan 3 = .ok (.istore_n 3, 1) := by decide +kernel
theorem dP_presentIsPlan_4 : decode cP_presentIsPlan 4 = .ok (.iconst 0, 1) := by decide +kernel
theorem dP_presentIsPlan_5 : decode cP_presentIsPlan 5 = .ok (.istore 4, 2) := by decide +kernel
theorem dP_presentIsPlan_7 : decode cP_presentIsPlan 7 = .ok (.iload 4, 2) := by decide +kernel
theorem dP_presentIsPlan_9 : decode cP_presentIsPlan 9 = .ok (.aload_n 0, 1) := by decide +kernel
theorem dP_presentIsPlan_10 : decode cP_presentIsPlan 10 = .ok (.getfield 54, 3) := by decide +kernel
theorem dP_presentIsPlan_13 : decode cP_presentIsPlan 13 = .ok (.if_icmp .ge 61, 3) := by decide +kernel
theorem dP_presentIsPlan_16 : decode cP_presentIsPlan 16 = .ok (.aload_n 0, 1) := by decide +kernel
theorem dP_presentIsPlan_17 : decode cP_presentIsPlan 17 = .ok (.getfield 29, 3) := by decide +kernel
theorem dP_presentIsPlan_20 : decode cP_presentIsPlan 20 = .ok (.iload 4, 2) := by decide +kernel
theorem dP_presentIsPlan_22 : decode cP_presentIsPlan 22 = .ok (.iaload, 1) := by decide +kernel
theorem dP_presentIsPlan_23 : decode cP_presentIsPlan 23 = .ok (.istore 5, 2) := by decide +kernel
theorem dP_presentIsPlan_25 : decode cP_presentIsPlan 25 = .ok (.iload 5, 2) := by decide +kernel
theorem dP_presentIsPlan_27 : decode cP_presentIsPlan 27 = .ok (.iconst (-1), 1) := by decide +kernel
theorem dP_presentIsPlan_28 : decode cP_presentIsPlan 28 = .ok (.if_icmp .eq 40, 3) := by decide +kernel
theorem dP_presentIsPlan_31 : decode cP_presentIsPlan 31 = .ok (.aload_n 0, 1) := by decide +kernel
theorem dP_presentIsPlan_32 : decode cP_presentIsPlan 32 = .ok (.getfield 17, 3) := by decide +kernel
theorem dP_presentIsPlan_35 : decode cP_presentIsPlan 35 = .ok (.iload 4, 2) := by decide +kernel
theorem dP_presentIsPlan_37 : decode cP_presentIsPlan 37 = .ok (.aaload, 1) := by decide +kernel
theorem dP_presentIsPlan_38 : decode cP_presentIsPlan 38 = .ok (.iload 5, 2) := by decide +kernel
theorem dP_presentIsPlan_40 : decode cP_presentIsPlan 40 = .ok (.laload, 1) := by decide +kernel
theorem dP_presentIsPlan_41 : decode cP_presentIsPlan 41 = .ok (.lconst 0, 1) := by decide +kernel
theorem dP_presentIsPlan_42 : decode cP_presentIsPlan 42 = .ok (.lcmp, 1) := by decide +kernel
theorem dP_presentIsPlan_43 : decode cP_presentIsPlan 43 = .ok (.ifCond .ne 5, 3) := by decide +kernel
theorem dP_presentIsPlan_46 : decode cP_presentIsPlan 46 = .ok (.iconst 0, 1) := by decide +kernel
theorem dP_presentIsPlan_47 : decode cP_presentIsPlan 47 = .ok (.ireturn, 1) := by decide +kernel
theorem dP_presentIsPlan_48 : decode cP_presentIsPlan 48 = .ok (.iinc 2 1, 3) := by decide +kernel
theorem dP_presentIsPlan_51 : decode cP_presentIsPlan 51 = .ok (.iload_n 3, 1) := by decide +kernel
theorem dP_presentIsPlan_52 : decode cP_presentIsPlan 52 = .ok (.iload 4, 2) := by decide +kernel
theorem dP_presentIsPlan_54 : decode cP_presentIsPlan 54 = .ok (.aload_n 0, 1) := by decide +kernel
theorem dP_presentIsPlan_55 : decode cP_presentIsPlan 55 = .ok (.getfield 58, 3) := by decide +kernel
theorem dP_presentIsPlan_58 : decode cP_presentIsPlan 58 = .ok (.if_icmp .lt 7, 3) := by decide +kernel
theorem dP_presentIsPlan_61 : decode cP_presentIsPlan 61 = .ok (.iconst 1, 1) := by decide +kernel
theorem dP_presentIsPlan_62 : decode cP_presentIsPlan 62 = .ok (.goto 4, 3) := by decide +kernel
theorem dP_presentIsPlan_65 : decode cP_presentIsPlan 65 = .ok (.iconst 0, 1) := by decide +kernel
theorem dP_presentIsPlan_66 : decode cP_presentIsPlan 66 = .ok (.iadd, 1) := by decide +kernel
theorem dP_presentIsPlan_67 : decode cP_presentIsPlan 67 = .ok (.istore_n 3, 1) := by decide +kernel
theorem dP_presentIsPlan_68 : decode cP_presentIsPlan 68 = .ok (.iinc 4 1, 3) := by decide +kernel
theorem dP_presentIsPlan_71 : decode cP_presentIsPlan 71 = .ok (.goto (-64), 3) := by decide +kernel
theorem dP_presentIsPlan_74 : decode cP_presentIsPlan 74 = .ok (.iload_n 3, 1) := by decide +kernel
theorem dP_presentIsPlan_75 : decode cP_presentIsPlan 75 = .ok (.ifCond .eq 8, 3) := by decide +kernel
theorem dP_presentIsPlan_78 : decode cP_presentIsPlan 78 = .ok (.iload_n 2, 1) := by decide +kernel
theorem dP_presentIsPlan_79 : decode cP_presentIsPlan 79 = .ok (.iload_n 1, 1) := by decide +kernel
theorem dP_presentIsPlan_80 : decode cP_presentIsPlan 80 = .ok (.if_icmp .gt 7, 3) := by decide +kernel
theorem dP_presentIsPlan_83 : decode cP_presentIsPlan 83 = .ok (.iconst 1, 1) := by decide +kernel
theorem dP_presentIsPlan_84 : decode cP_presentIsPlan 84 = .ok (.goto 4, 3) := by decide +kernel
theorem dP_presentIsPlan_87 : decode cP_presentIsPlan 87 = .ok (.iconst 0, 1) := by decide +kernel
theorem dP_presentIsPlan_88 : decode cP_presentIsPlan 88 = .ok (.ireturn, 1) := by decide +kernel
theorem dP_savedByBest_0 : decode cP_savedByBest 0 = .ok (.aload_n 0, 1) := by decide +kernel
theorem dP_savedByBest_1 : decode cP_savedByBest 1 = .ok (.aload_n 0, 1) := by decide +kernel
theorem dP_savedByBest_2 : decode cP_savedByBest 2 = .ok (.getfield 17, 3) := by decide +kernel
theorem dP_savedByBest_5 : decode cP_savedByBest 5 = .ok (.aload_n 0, 1) := by decide +kernel
theorem dP_savedByBest_6 : decode cP_savedByBest 6 = .ok (.getfield 29, 3) := by decide +kernel
theorem dP_savedByBest_9 : decode cP_savedByBest 9 = .ok (.invokevirtual 69, 3) := by decide +kernel
theorem dP_savedByBest_12 : decode cP_savedByBest 12 = .ok (.aload_n 0, 1) := by decide +kernel
theorem dP_savedByBest_13 : decode cP_savedByBest 13 = .ok (.aload_n 0, 1) := by decide +kernel
theorem dP_savedByBest_14 : decode cP_savedByBest 14 = .ok (.getfield 17, 3) := by decide +kernel
theorem dP_savedByBest_17 : decode cP_savedByBest 17 = .ok (.aload_n 0, 1) := by decide +kernel
theorem dP_savedByBest_18 : decode cP_savedByBest 18 = .ok (.getfield 23, 3) := by decide +kernel
theorem dP_savedByBest_21 : decode cP_savedByBest 21 = .ok (.invokevirtual 69, 3) := by decide +kernel
theorem dP_savedByBest_24 : decode cP_savedByBest 24 = .ok (.lsub, 1) := by decide +kernel
theorem dP_savedByBest_25 : decode cP_savedByBest 25 = .ok (.lreturn, 1) := by decide +kernel
theorem dP_findBest_0 : decode cP_findBest 0 = .ok (.aload_n 0, 1) := by decide +kernel
theorem dP_findBest_1 : decode cP_findBest 1 = .ok (.aload_n 0, 1) := by decide +kernel
theorem dP_findBest_2 : decode cP_findBest 2 = .ok (.getfield 54, 3) := by decide +kernel
theorem dP_findBest_5 : decode cP_findBest 5 = .ok (.iload_n 1, 1) := by decide +kernel
theorem dP_findBest_6 : decode cP_findBest 6 = .ok (.invokevirtual 73, 3) := by decide +kernel
theorem dP_findBest_9 : decode cP_findBest 9 = .ok (.aload_n 0, 1) := by decide +kernel
theorem dP_findBest_10 : decode cP_findBest 10 = .ok (.getfield 58, 3) := by decide +kernel
theorem dP_findBest_13 : decode cP_findBest 13 = .ok (.iload_n 1, 1) := by decide +kernel
theorem dP_findBest_14 : decode cP_findBest 14 = .ok (.if_icmp .gt 4, 3) := by decide +kernel
theorem dP_findBest_17 : decode cP_findBest 17 = .ok (.return_, 1) := by decide +kernel
theorem dP_findBest_18 : decode cP_findBest 18 = .ok (.aload_n 0, 1) := by decide +kernel
theorem dP_findBest_19 : decode cP_findBest 19 = .ok (.getfield 23, 3) := by decide +kernel
theorem dP_findBest_22 : decode cP_findBest 22 = .ok (.iconst 0, 1) := by decide +kernel
theorem dP_findBest_23 : decode cP_findBest 23 = .ok (.aload_n 0, 1) := by decide +kernel
theorem dP_findBest_24 : decode cP_findBest 24 = .ok (.getfield 29, 3) := by decide +kernel
theorem dP_findBest_27 : decode cP_findBest 27 = .ok (.iconst 0, 1) := by decide +kernel
theorem dP_findBest_28 : decode cP_findBest 28 = .ok (.bipush 10, 2) := by decide +kernel
theorem dP_findBest_30 : decode cP_findBest 30 = .ok (.invokestatic 77, 3) := by decide +kernel
theorem dP_findBest_33 : decode cP_findBest 33 = .ok (.aload_n 0, 1) := by decide +kernel
theorem dP_findBest_34 : decode cP_findBest 34 = .ok (.aload_n 0, 1) := by decide +kernel
theorem dP_findBest_35 : decode cP_findBest 35 = .ok (.getfield 58, 3) := by decide +kernel
theorem dP_findBest_38 : decode cP_findBest 38 = .ok (.aload_n 0, 1) := by decide +kernel
theorem dP_findBest_39 : decode cP_findBest 39 = .ok (.getfield 58, 3) := by decide +kernel
theorem dP_findBest_42 : decode cP_findBest 42 = .ok (.invokevirtual 73, 3) := by decide +kernel
theorem dP_findBest_45 : decode cP_findBest 45 = .ok (.aload_n 0, 1) := by decide +kernel
theorem dP_findBest_46 : decode cP_findBest 46 = .ok (.aload_n 0, 1) := by decide +kernel
theorem dP_findBest_47 : decode cP_findBest 47 = .ok (.getfield 17, 3) := by decide +kernel
theorem dP_findBest_50 : decode cP_findBest 50 = .ok (.aload_n 0, 1) := by decide +kernel
theorem dP_findBest_51 : decode cP_findBest 51 = .ok (.getfield 29, 3) := by decide +kernel
theorem dP_findBest_54 : decode cP_findBest 54 = .ok (.invokevirtual 69, 3) := by decide +kernel
theorem dP_findBest_57 : decode cP_findBest 57 = .ok (.aload_n 0, 1) := by decide +kernel
theorem dP_findBest_58 : decode cP_findBest 58 = .ok (.aload_n 0, 1) := by decide +kernel
theorem dP_findBest_59 : decode cP_findBest 59 = .ok (.getfield 20, 3) := by decide +kernel
theorem dP_findBest_62 : decode cP_findBest 62 = .ok (.aload_n 0, 1) := by decide +kernel
theorem dP_findBest_63 : decode cP_findBest 63 = .ok (.getfield 29, 3) := by decide +kernel
theorem dP_findBest_66 : decode cP_findBest 66 = .ok (.invokevirtual 69, 3) := by decide +kernel
theorem dP_findBest_69 : decode cP_findBest 69 = .ok (.aload_n 0, 1) := by decide +kernel
theorem dP_findBest_70 : decode cP_findBest 70 = .ok (.aload_n 0, 1) := by decide +kernel
theorem dP_findBest_71 : decode cP_findBest 71 = .ok (.getfield 17, 3) := by decide +kernel
theorem dP_findBest_74 : decode cP_findBest 74 = .ok (.aload_n 0, 1) := by decide +kernel
theorem dP_findBest_75 : decode cP_findBest 75 = .ok (.getfield 23, 3) := by decide +kernel
theorem dP_findBest_78 : decode cP_findBest 78 = .ok (.invokevirtual 69, 3) := by decide +kernel
theorem dP_findBest_81 : decode cP_findBest 81 = .ok (.aload_n 0, 1) := by decide +kernel
theorem dP_findBest_82 : decode cP_findBest 82 = .ok (.aload_n 0, 1) := by decide +kernel
theorem dP_findBest_83 : decode cP_findBest 83 = .ok (.getfield 20, 3) := by decide +kernel
theorem dP_findBest_86 : decode cP_findBest 86 = .ok (.aload_n 0, 1) := by decide +kernel
theorem dP_findBest_87 : decode cP_findBest 87 = .ok (.getfield 23, 3) := by decide +kernel
theorem dP_findBest_90 : decode cP_findBest 90 = .ok (.invokevirtual 69, 3) := by decide +kernel
theorem dP_findBest_93 : decode cP_findBest 93 = .ok (.invokestatic 83, 3) := by decide +kernel
theorem dP_findBest_96 : decode cP_findBest 96 = .ok (.ifCond .eq 18, 3) := by decide +kernel
theorem dP_findBest_99 : decode cP_findBest 99 = .ok (.aload_n 0, 1) := by decide +kernel
theorem dP_findBest_100 : decode cP_findBest 100 = .ok (.getfield 29, 3) := by decide +kernel
theorem dP_findBest_103 : decode cP_findBest 103 = .ok (.iconst 0, 1) := by decide +kernel
theorem dP_findBest_104 : decode cP_findBest 104 = .ok (.aload_n 0, 1) := by decide +kernel
theorem dP_findBest_105 : decode cP_findBest 105 = .ok (.getfield 23, 3) := by decide +kernel
theorem dP_findBest_108 : decode cP_findBest 108 = .ok (.iconst 0, 1) := by decide +kernel
theorem dP_findBest_109 : decode cP_findBest 109 = .ok (.bipush 10, 2) := by decide +kernel
theorem dP_findBest_111 : decode cP_findBest 111 = .ok (.invokestatic 77, 3) := by decide +kernel
theorem dP_findBest_114 : decode cP_findBest 114 = .ok (.return_, 1) := by decide +kernel
theorem dP_total_0 : decode cP_total 0 = .ok (.lconst 0, 1) := by decide +kernel
theorem dP_total_1 : decode cP_total 1 = .ok (.lstore_n 3, 1) := by decide +kernel
theorem dP_total_2 : decode cP_total 2 = .ok (.iconst 0, 1) := by decide +kernel
theorem dP_total_3 : decode cP_total 3 = .ok (.istore 5, 2) := by decide +kernel
theorem dP_total_5 : decode cP_total 5 = .ok (.iload 5, 2) := by decide +kernel
theorem dP_total_7 : decode cP_total 7 = .ok (.aload_n 0, 1) := by decide +kernel
theorem dP_total_8 : decode cP_total 8 = .ok (.getfield 54, 3) := by decide +kernel
theorem dP_total_11 : decode cP_total 11 = .ok (.if_icmp .ge 29, 3) := by decide +kernel
theorem dP_total_14 : decode cP_total 14 = .ok (.aload_n 2, 1) := by decide +kernel
theorem dP_total_15 : decode cP_total 15 = .ok (.iload 5, 2) := by decide +kernel
theorem dP_total_17 : decode cP_total 17 = .ok (.iaload, 1) := by decide +kernel
theorem dP_total_18 : decode cP_total 18 = .ok (.iconst (-1), 1) := by decide +kernel
theorem dP_total_19 : decode cP_total 19 = .ok (.if_icmp .eq 15, 3) := by decide +kernel
theorem dP_total_22 : decode cP_total 22 = .ok (.lload_n 3, 1) := by decide +kernel
theorem dP_total_23 : decode cP_total 23 = .ok (.aload_n 1, 1) := by decide +kernel
theorem dP_total_24 : decode cP_total 24 = .ok (.iload 5, 2) := by decide +kernel
theorem dP_total_26 : decode cP_total 26 = .ok (.aaload, 1) := by decide +kernel
theorem dP_total_27 : decode cP_total 27 = .ok (.aload_n 2, 1) := by decide +kernel
theorem dP_total_28 : decode cP_total 28 = .ok (.iload 5, 2) := by decide +kernel
theorem dP_total_30 : decode cP_total 30 = .ok (.iaload, 1) := by decide +kernel
theorem dP_total_31 : decode cP_total 31 = .ok (.laload, 1) := by decide +kernel
theorem dP_total_32 : decode cP_total 32 = .ok (.ladd, 1) := by decide +kernel
theorem dP_total_33 : decode cP_total 33 = .ok (.lstore_n 3, 1) := by decide +kernel
theorem dP_total_34 : decode cP_total 34 = .ok (.iinc 5 1, 3) := by decide +kernel
theorem dP_total_37 : decode cP_total 37 = .ok (.goto (-32), 3) := by decide +kernel
theorem dP_total_40 : decode cP_total 40 = .ok (.lload_n 3, 1) := by decide +kernel
theorem dP_total_41 : decode cP_total 41 = .ok (.lreturn, 1) := by decide +kernel
theorem dP_isLess_0 : decode cP_isLess 0 = .ok (.lload_n 0, 1) := by decide +kernel
theorem dP_isLess_1 : decode cP_isLess 1 = .ok (.lload 4, 2) := by decide +kernel
theorem dP_isLess_3 : decode cP_isLess 3 = .ok (.lcmp, 1) := by decide +kernel
theorem dP_isLess_4 : decode cP_isLess 4 = .ok (.ifCond .lt 17, 3) := by decide +kernel
theorem dP_isLess_7 : decode cP_isLess 7 = .ok (.lload_n 0, 1) := by decide +kernel
theorem dP_isLess_8 : decode cP_isLess 8 = .ok (.lload 4, 2) := by decide +kernel
theorem dP_isLess_10 : decode cP_isLess 10 = .ok (.lcmp, 1) := by decide +kernel
theorem dP_isLess_11 : decode cP_isLess 11 = .ok (.ifCond .ne 14, 3) := by decide +kernel
theorem dP_isLess_14 : decode cP_isLess 14 = .ok (.lload_n 2, 1) := by decide +kernel
theorem dP_isLess_15 : decode cP_isLess 15 = .ok (.lload 6, 2) := by decide +kernel
theorem dP_isLess_17 : decode cP_isLess 17 = .ok (.lcmp, 1) := by decide +kernel
theorem dP_isLess_18 : decode cP_isLess 18 = .ok (.ifCond .ge 7, 3) := by decide +kernel
theorem dP_isLess_21 : decode cP_isLess 21 = .ok (.iconst 1, 1) := by decide +kernel
theorem dP_isLess_22 : decode cP_isLess 22 = .ok (.goto 4, 3) := by decide +kernel
theorem dP_isLess_25 : decode cP_isLess 25 = .ok (.iconst 0, 1) := by decide +kernel
theorem dP_isLess_26 : decode cP_isLess 26 = .ok (.ireturn, 1) := by decide +kernel
theorem dP_pair_0 : decode cP_pair 0 = .ok (.aload_n 0, 1) := by decide +kernel
theorem dP_pair_1 : decode cP_pair 1 = .ok (.getfield 23, 3) := by decide +kernel
theorem dP_pair_4 : decode cP_pair 4 = .ok (.iconst (-1), 1) := by decide +kernel
theorem dP_pair_5 : decode cP_pair 5 = .ok (.invokestatic 87, 3) := by decide +kernel
theorem dP_pair_8 : decode cP_pair 8 = .ok (.aload_n 0, 1) := by decide +kernel
theorem dP_pair_9 : decode cP_pair 9 = .ok (.getfield 26, 3) := by decide +kernel
theorem dP_pair_12 : decode cP_pair 12 = .ok (.iconst (-1), 1) := by decide +kernel
theorem dP_pair_13 : decode cP_pair 13 = .ok (.invokestatic 87, 3) := by decide +kernel
theorem dP_pair_16 : decode cP_pair 16 = .ok (.iconst 0, 1) := by decide +kernel
theorem dP_pair_17 : decode cP_pair 17 = .ok (.istore_n 3, 1) := by decide +kernel
theorem dP_pair_18 : decode cP_pair 18 = .ok (.iload_n 3, 1) := by decide +kernel
theorem dP_pair_19 : decode cP_pair 19 = .ok (.iload_n 1, 1) := by decide +kernel
theorem dP_pair_20 : decode cP_pair 20 = .ok (.if_icmp .ge 38, 3) := by decide +kernel
theorem dP_pair_23 : decode cP_pair 23 = .ok (.iload_n 3, 1) := by decide +kernel
theorem dP_pair_24 : decode cP_pair 24 = .ok (.iload_n 2, 1) := by decide +kernel
theorem dP_pair_25 : decode cP_pair 25 = .ok (.if_icmp .ge 33, 3) := by decide +kernel
theorem dP_pair_28 : decode cP_pair 28 = .ok (.aload_n 0, 1) := by decide +kernel
theorem dP_pair_29 : decode cP_pair 29 = .ok (.iload_n 1, 1) := by decide +kernel
theorem dP_pair_30 : decode cP_pair 30 = .ok (.invokevirtual 90, 3) := by decide +kernel
theorem dP_pair_33 : decode cP_pair 33 = .ok (.aload_n 0, 1) := by decide +kernel
theorem dP_pair_34 : decode cP_pair 34 = .ok (.invokevirtual 94, 3) := by decide +kernel
theorem dP_pair_37 : decode cP_pair 37 = .ok (.istore 4, 2) := by decide +kernel
theorem dP_pair_39 : decode cP_pair 39 = .ok (.iload 4, 2) := by decide +kernel
theorem dP_pair_41 : decode cP_pair 41 = .ok (.iconst (-1), 1) := by decide +kernel
theorem dP_pair_42 : decode cP_pair 42 = .ok (.if_icmp .ne 4, 3) := by decide +kernel
theorem dP_pair_45 : decode cP_pair 45 = .ok (.return_, 1) := by decide +kernel
theorem dP_pair_46 : decode cP_pair 46 = .ok (.aload_n 0, 1) := by decide +kernel
theorem dP_pair_47 : decode cP_pair 47 = .ok (.iload 4, 2) := by decide +kernel
theorem dP_pair_49 : decode cP_pair 49 = .ok (.invokevirtual 98, 3) := by decide +kernel
theorem dP_pair_52 : decode cP_pair 52 = .ok (.iinc 3 1, 3) := by decide +kernel
theorem dP_pair_55 : decode cP_pair 55 = .ok (.goto (-37), 3) := by decide +kernel
theorem dP_pair_58 : decode cP_pair 58 = .ok (.return_, 1) := by decide +kernel
theorem dP_findPaths_0 : decode cP_findPaths 0 = .ok (.aload_n 0, 1) := by decide +kernel
theorem dP_findPaths_1 : decode cP_findPaths 1 = .ok (.getfield 43, 3) := by decide +kernel
theorem dP_findPaths_4 : decode cP_findPaths 4 = .ok (.iconst (-1), 1) := by decide +kernel
theorem dP_findPaths_5 : decode cP_findPaths 5 = .ok (.invokestatic 87, 3) := by decide +kernel
theorem dP_findPaths_8 : decode cP_findPaths 8 = .ok (.iconst 0, 1) := by decide +kernel
theorem dP_findPaths_9 : decode cP_findPaths 9 = .ok (.istore_n 2, 1) := by decide +kernel
theorem dP_findPaths_10 : decode cP_findPaths 10 = .ok (.iload_n 2, 1) := by decide +kernel
theorem dP_findPaths_11 : decode cP_findPaths 11 = .ok (.iload_n 1, 1) := by decide +kernel
theorem dP_findPaths_12 : decode cP_findPaths 12 = .ok (.if_icmp .ge 44, 3) := by decide +kernel
theorem dP_findPaths_15 : decode cP_findPaths 15 = .ok (.aload_n 0, 1) := by decide +kernel
theorem dP_findPaths_16 : decode cP_findPaths 16 = .ok (.getfield 32, 3) := by decide +kernel
theorem dP_findPaths_19 : decode cP_findPaths 19 = .ok (.iload_n 2, 1) := by decide +kernel
theorem dP_findPaths_20 : decode cP_findPaths 20 = .ok (.aload_n 0, 1) := by decide +kernel
theorem dP_findPaths_21 : decode cP_findPaths 21 = .ok (.getfield 23, 3) := by decide +kernel
theorem dP_findPaths_24 : decode cP_findPaths 24 = .ok (.iload_n 2, 1) := by decide +kernel
theorem dP_findPaths_25 : decode cP_findPaths 25 = .ok (.iaload, 1) := by decide +kernel
theorem dP_findPaths_26 : decode cP_findPaths 26 = .ok (.iconst (-1), 1) := by decide +kernel
theorem dP_findPaths_27 : decode cP_findPaths 27 = .ok (.if_icmp .ne 7, 3) := by decide +kernel
theorem dP_findPaths_30 : decode cP_findPaths 30 = .ok (.iconst 1, 1) := by decide +kernel
theorem dP_findPaths_31 : decode cP_findPaths 31 = .ok (.goto 4, 3) := by decide +kernel
theorem dP_findPaths_34 : decode cP_findPaths 34 = .ok (.iconst 0, 1) := by decide +kernel
theorem dP_findPaths_35 : decode cP_findPaths 35 = .ok (.bastore, 1) := by decide +kernel
theorem dP_findPaths_36 : decode cP_findPaths 36 = .ok (.aload_n 0, 1) := by decide +kernel
theorem dP_findPaths_37 : decode cP_findPaths 37 = .ok (.getfield 36, 3) := by decide +kernel
theorem dP_findPaths_40 : decode cP_findPaths 40 = .ok (.iload_n 2, 1) := by decide +kernel
theorem dP_findPaths_41 : decode cP_findPaths 41 = .ok (.lconst 0, 1) := by decide +kernel
theorem dP_findPaths_42 : decode cP_findPaths 42 = .ok (.lastore, 1) := by decide +kernel
theorem dP_findPaths_43 : decode cP_findPaths 43 = .ok (.aload_n 0, 1) := by decide +kernel
theorem dP_findPaths_44 : decode cP_findPaths 44 = .ok (.getfield 40, 3) := by decide +kernel
theorem dP_findPaths_47 : decode cP_findPaths 47 = .ok (.iload_n 2, 1) := by decide +kernel
theorem dP_findPaths_48 : decode cP_findPaths 48 = .ok (.lconst 0, 1) := by decide +kernel
theorem dP_findPaths_49 : decode cP_findPaths 49 = .ok (.lastore, 1) := by decide +kernel
theorem dP_findPaths_50 : decode cP_findPaths 50 = .ok (.iinc 2 1, 3) := by decide +kernel
theorem dP_findPaths_53 : decode cP_findPaths 53 = .ok (.goto (-43), 3) := by decide +kernel
theorem dP_findPaths_56 : decode cP_findPaths 56 = .ok (.iconst 1, 1) := by decide +kernel
theorem dP_findPaths_57 : decode cP_findPaths 57 = .ok (.istore_n 2, 1) := by decide +kernel
theorem dP_findPaths_58 : decode cP_findPaths 58 = .ok (.iconst 0, 1) := by decide +kernel
theorem dP_findPaths_59 : decode cP_findPaths 59 = .ok (.istore_n 3, 1) := by decide +kernel
theorem dP_findPaths_60 : decode cP_findPaths 60 = .ok (.iload_n 3, 1) := by decide +kernel
theorem dP_findPaths_61 : decode cP_findPaths 61 = .ok (.iload_n 1, 1) := by decide +kernel
theorem dP_findPaths_62 : decode cP_findPaths 62 = .ok (.if_icmp .ge 56, 3) := by decide +kernel
theorem dP_findPaths_65 : decode cP_findPaths 65 = .ok (.iload_n 2, 1) := by decide +kernel
theorem dP_findPaths_66 : decode cP_findPaths 66 = .ok (.ifCond .eq 52, 3) := by decide +kernel
theorem dP_findPaths_69 : decode cP_findPaths 69 = .ok (.iconst 0, 1) := by decide +kernel
theorem dP_findPaths_70 : decode cP_findPaths 70 = .ok (.istore_n 2, 1) := by decide +kernel
theorem dP_findPaths_71 : decode cP_findPaths 71 = .ok (.iconst 0, 1) := by decide +kernel
theorem dP_findPaths_72 : decode cP_findPaths 72 = .ok (.istore 4, 2) := by decide +kernel
theorem dP_findPaths_74 : decode cP_findPaths 74 = .ok (.iload 4, 2) := by decide +kernel
theorem dP_findPaths_76 : decode cP_findPaths 76 = .ok (.iload_n 1, 1) := by decide +kernel
theorem dP_findPaths_77 : decode cP_findPaths 77 = .ok (.if_icmp .ge 35, 3) := by decide +kernel
theorem dP_findPaths_80 : decode cP_findPaths 80 = .ok (.aload_n 0, 1) := by decide +kernel
theorem dP_findPaths_81 : decode cP_findPaths 81 = .ok (.getfield 32, 3) := by decide +kernel
theorem dP_findPaths_84 : decode cP_findPaths 84 = .ok (.iload 4, 2) := by decide +kernel
theorem dP_findPaths_86 : decode cP_findPaths 86 = .ok (.baload, 1) := by decide +kernel
theorem dP_findPaths_87 : decode cP_findPaths 87 = .ok (.ifCond .eq 19, 3) := by decide +kernel
theorem dP_findPaths_90 : decode cP_findPaths 90 = .ok (.aload_n 0, 1) := by decide +kernel
theorem dP_findPaths_91 : decode cP_findPaths 91 = .ok (.getfield 32, 3) := by decide +kernel
theorem dP_findPaths_94 : decode cP_findPaths 94 = .ok (.iload 4, 2) := by decide +kernel
theorem dP_findPaths_96 : decode cP_findPaths 96 = .ok (.iconst 0, 1) := by decide +kernel
theorem dP_findPaths_97 : decode cP_findPaths 97 = .ok (.bastore, 1) := by decide +kernel
theorem dP_findPaths_98 : decode cP_findPaths 98 = .ok (.aload_n 0, 1) := by decide +kernel
theorem dP_findPaths_99 : decode cP_findPaths 99 = .ok (.iload 4, 2) := by decide +kernel
theorem dP_findPaths_101 : decode cP_findPaths 101 = .ok (.invokevirtual 101, 3) := by decide +kernel
theorem dP_findPaths_104 : decode cP_findPaths 104 = .ok (.iconst 1, 1) := by decide +kernel
theorem dP_findPaths_105 : decode cP_findPaths 105 = .ok (.istore_n 2, 1) := by decide +kernel
theorem dP_findPaths_106 : decode cP_findPaths 106 = .ok (.iinc 4 1, 3) := by decide +kernel
theorem dP_findPaths_109 : decode cP_findPaths 109 = .ok (.goto (-35), 3) := by decide +kernel
theorem dP_findPaths_112 : decode cP_findPaths 112 = .ok (.iinc 3 1, 3) := by decide +kernel
theorem dP_findPaths_115 : decode cP_findPaths 115 = .ok (.goto (-55), 3) := by decide +kernel
theorem dP_findPaths_118 : decode cP_findPaths 118 = .ok (.return_, 1) := by decide +kernel
theorem dP_spread_0 : decode cP_spread 0 = .ok (.iconst 0, 1) := by decide +kernel
theorem dP_spread_1 : decode cP_spread 1 = .ok (.istore_n 2, 1) := by decide +kernel
theorem dP_spread_2 : decode cP_spread 2 = .ok (.iload_n 2, 1) := by decide +kernel
theorem dP_spread_3 : decode cP_spread 3 = .ok (.bipush 12, 2) := by decide +kernel
theorem dP_spread_5 : decode cP_spread 5 = .ok (.if_icmp .ge 38, 3) := by decide +kernel
theorem dP_spread_8 : decode cP_spread 8 = .ok (.aload_n 0, 1) := by decide +kernel
theorem dP_spread_9 : decode cP_spread 9 = .ok (.getfield 17, 3) := by decide +kernel
theorem dP_spread_12 : decode cP_spread 12 = .ok (.iload_n 1, 1) := by decide +kernel
theorem dP_spread_13 : decode cP_spread 13 = .ok (.aaload, 1) := by decide +kernel
theorem dP_spread_14 : decode cP_spread 14 = .ok (.iload_n 2, 1) := by decide +kernel
theorem dP_spread_15 : decode cP_spread 15 = .ok (.laload, 1) := by decide +kernel
theorem dP_spread_16 : decode cP_spread 16 = .ok (.lconst 0, 1) := by decide +kernel
theorem dP_spread_17 : decode cP_spread 17 = .ok (.lcmp, 1) := by decide +kernel
theorem dP_spread_18 : decode cP_spread 18 = .ok (.ifCond .eq 19, 3) := by decide +kernel
theorem dP_spread_21 : decode cP_spread 21 = .ok (.aload_n 0, 1) := by decide +kernel
theorem dP_spread_22 : decode cP_spread 22 = .ok (.getfield 23, 3) := by decide +kernel
theorem dP_spread_25 : decode cP_spread 25 = .ok (.iload_n 1, 1) := by decide +kernel
theorem dP_spread_26 : decode cP_spread 26 = .ok (.iaload, 1) := by decide +kernel
theorem dP_spread_27 : decode cP_spread 27 = .ok (.iload_n 2, 1) := by decide +kernel
theorem dP_spread_28 : decode cP_spread 28 = .ok (.if_icmp .eq 9, 3) := by decide +kernel
theorem dP_spread_31 : decode cP_spread 31 = .ok (.aload_n 0, 1) := by decide +kernel
theorem dP_spread_32 : decode cP_spread 32 = .ok (.iload_n 2, 1) := by decide +kernel
theorem dP_spread_33 : decode cP_spread 33 = .ok (.iload_n 1, 1) := by decide +kernel
theorem dP_spread_34 : decode cP_spread 34 = .ok (.invokevirtual 104, 3) := by decide +kernel
theorem dP_spread_37 : decode cP_spread 37 = .ok (.iinc 2 1, 3) := by decide +kernel
theorem dP_spread_40 : decode cP_spread 40 = .ok (.goto (-38), 3) := by decide +kernel
theorem dP_spread_43 : decode cP_spread 43 = .ok (.return_, 1) := by decide +kernel
theorem dP_reach_0 : decode cP_reach 0 = .ok (.aload_n 0, 1) := by decide +kernel
theorem dP_reach_1 : decode cP_reach 1 = .ok (.getfield 36, 3) := by decide +kernel
theorem dP_reach_4 : decode cP_reach 4 = .ok (.iload_n 2, 1) := by decide +kernel
theorem dP_reach_5 : decode cP_reach 5 = .ok (.laload, 1) := by decide +kernel
theorem dP_reach_6 : decode cP_reach 6 = .ok (.aload_n 0, 1) := by decide +kernel
theorem dP_reach_7 : decode cP_reach 7 = .ok (.getfield 17, 3) := by decide +kernel
theorem dP_reach_10 : decode cP_reach 10 = .ok (.iload_n 2, 1) := by decide +kernel
theorem dP_reach_11 : decode cP_reach 11 = .ok (.aaload, 1) := by decide +kernel
theorem dP_reach_12 : decode cP_reach 12 = .ok (.iload_n 1, 1) := by decide +kernel
theorem dP_reach_13 : decode cP_reach 13 = .ok (.laload, 1) := by decide +kernel
theorem dP_reach_14 : decode cP_reach 14 = .ok (.ladd, 1) := by decide +kernel
theorem dP_reach_15 : decode cP_reach 15 = .ok (.lstore_n 3, 1) := by decide +kernel
theorem dP_reach_16 : decode cP_reach 16 = .ok (.aload_n 0, 1) := by decide +kernel
theorem dP_reach_17 : decode cP_reach 17 = .ok (.getfield 40, 3) := by decide +kernel
theorem dP_reach_20 : decode cP_reach 20 = .ok (.iload_n 2, 1) := by decide +kernel
theorem dP_reach_21 : decode cP_reach 21 = .ok (.laload, 1) := by decide +kernel
theorem dP_reach_22 : decode cP_reach 22 = .ok (.aload_n 0, 1) := by decide +kernel
theorem dP_reach_23 : decode cP_reach 23 = .ok (.getfield 20, 3) := by decide +kernel
theorem dP_reach_26 : decode cP_reach 26 = .ok (.iload_n 2, 1) := by decide +kernel
theorem dP_reach_27 : decode cP_reach 27 = .ok (.aaload, 1) := by decide +kernel
theorem dP_reach_28 : decode cP_reach 28 = .ok (.iload_n 1, 1) := by decide +kernel
theorem dP_reach_29 : decode cP_reach 29 = .ok (.laload, 1) := by decide +kernel
theorem dP_reach_30 : decode cP_reach 30 = .ok (.ladd, 1) := by decide +kernel
theorem dP_reach_31 : decode cP_reach 31 = .ok (.lstore 5, 2) := by decide +kernel
theorem dP_reach_33 : decode cP_reach 33 = .ok (.aload_n 0, 1) := by decide +kernel
theorem dP_reach_34 : decode cP_reach 34 = .ok (.getfield 43, 3) := by decide +kernel
theorem dP_reach_37 : decode cP_reach 37 = .ok (.iload_n 1, 1) := by decide +kernel
theorem dP_reach_38 : decode cP_reach 38 = .ok (.iaload, 1) := by decide +kernel
theorem dP_reach_39 : decode cP_reach 39 = .ok (.iconst (-1), 1) := by decide +kernel
theorem dP_reach_40 : decode cP_reach 40 = .ok (.if_icmp .eq 25, 3) := by decide +kernel
theorem dP_reach_43 : decode cP_reach 43 = .ok (.lload_n 3, 1) := by decide +kernel
theorem dP_reach_44 : decode cP_reach 44 = .ok (.lload 5, 2) := by decide +kernel
theorem dP_reach_46 : decode cP_reach 46 = .ok (.aload_n 0, 1) := by decide +kernel
theorem dP_reach_47 : decode cP_reach 47 = .ok (.getfield 46, 3) := by decide +kernel
theorem dP_reach_50 : decode cP_reach 50 = .ok (.iload_n 1, 1) := by decide +kernel
theorem dP_reach_51 : decode cP_reach 51 = .ok (.laload, 1) := by decide +kernel
theorem dP_reach_52 : decode cP_reach 52 = .ok (.aload_n 0, 1) := by decide +kernel
theorem dP_reach_53 : decode cP_reach 53 = .ok (.getfield 49, 3) := by decide +kernel
theorem dP_reach_56 : decode cP_reach 56 = .ok (.iload_n 1, 1) := by decide +kernel
theorem dP_reach_57 : decode cP_reach 57 = .ok (.laload, 1) := by decide +kernel
theorem dP_reach_58 : decode cP_reach 58 = .ok (.invokestatic 83, 3) := by decide +kernel
theorem dP_reach_61 : decode cP_reach 61 = .ok (.ifCond .ne 4, 3) := by decide +kernel
theorem dP_reach_64 : decode cP_reach 64 = .ok (.return_, 1) := by decide +kernel
theorem dP_reach_65 : decode cP_reach 65 = .ok (.aload_n 0, 1) := by decide +kernel
theorem dP_reach_66 : decode cP_reach 66 = .ok (.getfield 43, 3) := by decide +kernel
theorem dP_reach_69 : decode cP_reach 69 = .ok (.iload_n 1, 1) := by decide +kernel
theorem dP_reach_70 : decode cP_reach 70 = .ok (.iload_n 2, 1) := by decide +kernel
theorem dP_reach_71 : decode cP_reach 71 = .ok (.iastore, 1) := by decide +kernel
theorem dP_reach_72 : decode cP_reach 72 = .ok (.aload_n 0, 1) := by decide +kernel
theorem dP_reach_73 : decode cP_reach 73 = .ok (.getfield 46, 3) := by decide +kernel
theorem dP_reach_76 : decode cP_reach 76 = .ok (.iload_n 1, 1) := by decide +kernel
theorem dP_reach_77 : decode cP_reach 77 = .ok (.lload_n 3, 1) := by decide +kernel
theorem dP_reach_78 : decode cP_reach 78 = .ok (.lastore, 1) := by decide +kernel
theorem dP_reach_79 : decode cP_reach 79 = .ok (.aload_n 0, 1) := by decide +kernel
theorem dP_reach_80 : decode cP_reach 80 = .ok (.getfield 49, 3) := by decide +kernel
theorem dP_reach_83 : decode cP_reach 83 = .ok (.iload_n 1, 1) := by decide +kernel
theorem dP_reach_84 : decode cP_reach 84 = .ok (.lload 5, 2) := by decide +kernel
theorem dP_reach_86 : decode cP_reach 86 = .ok (.lastore, 1) := by decide +kernel
theorem dP_reach_87 : decode cP_reach 87 = .ok (.aload_n 0, 1) := by decide +kernel
theorem dP_reach_88 : decode cP_reach 88 = .ok (.getfield 26, 3) := by decide +kernel
theorem dP_reach_91 : decode cP_reach 91 = .ok (.iload_n 1, 1) := by decide +kernel
theorem dP_reach_92 : decode cP_reach 92 = .ok (.iaload, 1) := by decide +kernel
theorem dP_reach_93 : decode cP_reach 93 = .ok (.istore 7, 2) := by decide +kernel
theorem dP_reach_95 : decode cP_reach 95 = .ok (.iload 7, 2) := by decide +kernel
theorem dP_reach_97 : decode cP_reach 97 = .ok (.iconst (-1), 1) := by decide +kernel
theorem dP_reach_98 : decode cP_reach 98 = .ok (.if_icmp .eq 48, 3) := by decide +kernel
theorem dP_reach_101 : decode cP_reach 101 = .ok (.aload_n 0, 1) := by decide +kernel
theorem dP_reach_102 : decode cP_reach 102 = .ok (.getfield 36, 3) := by decide +kernel
theorem dP_reach_105 : decode cP_reach 105 = .ok (.iload 7, 2) := by decide +kernel
theorem dP_reach_107 : decode cP_reach 107 = .ok (.lload_n 3, 1) := by decide +kernel
theorem dP_reach_108 : decode cP_reach 108 = .ok (.aload_n 0, 1) := by decide +kernel
theorem dP_reach_109 : decode cP_reach 109 = .ok (.getfield 17, 3) := by decide +kernel
theorem dP_reach_112 : decode cP_reach 112 = .ok (.iload 7, 2) := by decide +kernel
theorem dP_reach_114 : decode cP_reach 114 = .ok (.aaload, 1) := by decide +kernel
theorem dP_reach_115 : decode cP_reach 115 = .ok (.iload_n 1, 1) := by decide +kernel
theorem dP_reach_116 : decode cP_reach 116 = .ok (.laload, 1) := by decide +kernel
theorem dP_reach_117 : decode cP_reach 117 = .ok (.lsub, 1) := by decide +kernel
theorem dP_reach_118 : decode cP_reach 118 = .ok (.lastore, 1) := by decide +kernel
theorem dP_reach_119 : decode cP_reach 119 = .ok (.aload_n 0, 1) := by decide +kernel
theorem dP_reach_120 : decode cP_reach 120 = .ok (.getfield 40, 3) := by decide +kernel
theorem dP_reach_123 : decode cP_reach 123 = .ok (.iload 7, 2) := by decide +kernel
theorem dP_reach_125 : decode cP_reach 125 = .ok (.lload 5, 2) := by decide +kernel
theorem dP_reach_127 : decode cP_reach 127 = .ok (.aload_n 0, 1) := by decide +kernel
theorem dP_reach_128 : decode cP_reach 128 = .ok (.getfield 20, 3) := by decide +kernel
theorem dP_reach_131 : decode cP_reach 131 = .ok (.iload 7, 2) := by decide +kernel
theorem dP_reach_133 : decode cP_reach 133 = .ok (.aaload, 1) := by decide +kernel
theorem dP_reach_134 : decode cP_reach 134 = .ok (.iload_n 1, 1) := by decide +kernel
theorem dP_reach_135 : decode cP_reach 135 = .ok (.laload, 1) := by decide +kernel
theorem dP_reach_136 : decode cP_reach 136 = .ok (.lsub, 1) := by decide +kernel
theorem dP_reach_137 : decode cP_reach 137 = .ok (.lastore, 1) := by decide +kernel
theorem dP_reach_138 : decode cP_reach 138 = .ok (.aload_n 0, 1) := by decide +kernel
theorem dP_reach_139 : decode cP_reach 139 = .ok (.getfield 32, 3) := by decide +kernel
theorem dP_reach_142 : decode cP_reach 142 = .ok (.iload 7, 2) := by decide +kernel
theorem dP_reach_144 : decode cP_reach 144 = .ok (.iconst 1, 1) := by decide +kernel
theorem dP_reach_145 : decode cP_reach 145 = .ok (.bastore, 1) := by decide +kernel
theorem dP_reach_146 : decode cP_reach 146 = .ok (.return_, 1) := by decide +kernel
theorem dP_cheapestEnd_0 : decode cP_cheapestEnd 0 = .ok (.iconst (-1), 1) := by decide +kernel
theorem dP_cheapestEnd_1 : decode cP_cheapestEnd 1 = .ok (.istore_n 1, 1) := by decide +kernel
theorem dP_cheapestEnd_2 : decode cP_cheapestEnd 2 = .ok (.iconst 0, 1) := by decide +kernel
theorem dP_cheapestEnd_3 : decode cP_cheapestEnd 3 = .ok (.istore_n 2, 1) := by decide +kernel
theorem dP_cheapestEnd_4 : decode cP_cheapestEnd 4 = .ok (.iload_n 2, 1) := by decide +kernel
theorem dP_cheapestEnd_5 : decode cP_cheapestEnd 5 = .ok (.bipush 12, 2) := by decide +kernel
theorem dP_cheapestEnd_7 : decode cP_cheapestEnd 7 = .ok (.if_icmp .ge 66, 3) := by decide +kernel
theorem dP_cheapestEnd_10 : decode cP_cheapestEnd 10 = .ok (.aload_n 0, 1) := by decide +kernel
theorem dP_cheapestEnd_11 : decode cP_cheapestEnd 11 = .ok (.getfield 26, 3) := by decide +kernel
theorem dP_cheapestEnd_14 : decode cP_cheapestEnd 14 = .ok (.iload_n 2, 1) := by decide +kernel
theorem dP_cheapestEnd_15 : decode cP_cheapestEnd 15 = .ok (.iaload, 1) := by decide +kernel
theorem dP_cheapestEnd_16 : decode cP_cheapestEnd 16 = .ok (.iconst (-1), 1) := by decide +kernel
theorem dP_cheapestEnd_17 : decode cP_cheapestEnd 17 = .ok (.if_icmp .ne 50, 3) := by decide +kernel
theorem dP_cheapestEnd_20 : decode cP_cheapestEnd 20 = .ok (.aload_n 0, 1) := by decide +kernel
theorem dP_cheapestEnd_21 : decode cP_cheapestEnd 21 = .ok (.getfield 43, 3) := by decide +kernel
theorem dP_cheapestEnd_24 : decode cP_cheapestEnd 24 = .ok (.iload_n 2, 1) := by decide +kernel
theorem dP_cheapestEnd_25 : decode cP_cheapestEnd 25 = .ok (.iaload, 1) := by decide +kernel
theorem dP_cheapestEnd_26 : decode cP_cheapestEnd 26 = .ok (.iconst (-1), 1) := by decide +kernel
theorem dP_cheapestEnd_27 : decode cP_cheapestEnd 27 = .ok (.if_icmp .eq 40, 3) := by decide +kernel
theorem dP_cheapestEnd_30 : decode cP_cheapestEnd 30 = .ok (.iload_n 1, 1) := by decide +kernel
theorem dP_cheapestEnd_31 : decode cP_cheapestEnd 31 = .ok (.iconst (-1), 1) := by decide +kernel
theorem dP_cheapestEnd_32 : decode cP_cheapestEnd 32 = .ok (.if_icmp .eq 33, 3) := by decide +kernel
theorem dP_cheapestEnd_35 : decode cP_cheapestEnd 35 = .ok (.aload_n 0, 1) := by decide +kernel
theorem dP_cheapestEnd_36 : decode cP_cheapestEnd 36 = .ok (.getfield 46, 3) := by decide +kernel
theorem dP_cheapestEnd_39 : decode cP_cheapestEnd 39 = .ok (.iload_n 2, 1) := by decide +kernel
theorem dP_cheapestEnd_40 : decode cP_cheapestEnd 40 = .ok (.laload, 1) := by decide +kernel
theorem dP_cheapestEnd_41 : decode cP_cheapestEnd 41 = .ok (.aload_n 0, 1) := by decide +kernel
theorem dP_cheapestEnd_42 : decode cP_cheapestEnd 42 = .ok (.getfield 49, 3) := by decide +kernel
theorem dP_cheapestEnd_45 : decode cP_cheapestEnd 45 = .ok (.iload_n 2, 1) := by decide +kernel
theorem dP_cheapestEnd_46 : decode cP_cheapestEnd 46 = .ok (.laload, 1) := by decide +kernel
theorem dP_cheapestEnd_47 : decode cP_cheapestEnd 47 = .ok (.aload_n 0, 1) := by decide +kernel
theorem dP_cheapestEnd_48 : decode cP_cheapestEnd 48 = .ok (.getfield 46, 3) := by decide +kernel
theorem dP_cheapestEnd_51 : decode cP_cheapestEnd 51 = .ok (.iload_n 1, 1) := by decide +kernel
theorem dP_cheapestEnd_52 : decode cP_cheapestEnd 52 = .ok (.laload, 1) := by decide +kernel
theorem dP_cheapestEnd_53 : decode cP_cheapestEnd 53 = .ok (.aload_n 0, 1) := by decide +kernel
theorem dP_cheapestEnd_54 : decode cP_cheapestEnd 54 = .ok (.getfield 49, 3) := by decide +kernel
theorem dP_cheapestEnd_57 : decode cP_cheapestEnd 57 = .ok (.iload_n 1, 1) := by decide +kernel
theorem dP_cheapestEnd_58 : decode cP_cheapestEnd 58 = .ok (.laload, 1) := by decide +kernel
theorem dP_cheapestEnd_59 : decode cP_cheapestEnd 59 = .ok (.invokestatic 83, 3) := by decide +kernel
theorem dP_cheapestEnd_62 : decode cP_cheapestEnd 62 = .ok (.ifCond .eq 5, 3) := by decide +kernel
theorem dP_cheapestEnd_65 : decode cP_cheapestEnd 65 = .ok (.iload_n 2, 1) := by decide +kernel
theorem dP_cheapestEnd_66 : decode cP_cheapestEnd 66 = .ok (.istore_n 1, 1) := by decide +kernel
theorem dP_cheapestEnd_67 : decode cP_cheapestEnd 67 = .ok (.iinc 2 1, 3) := by decide +kernel
theorem dP_cheapestEnd_70 : decode cP_cheapestEnd 70 = .ok (.goto (-66), 3) := by decide +kernel
theorem dP_cheapestEnd_73 : decode cP_cheapestEnd 73 = .ok (.iload_n 1, 1) := by decide +kernel
theorem dP_cheapestEnd_74 : decode cP_cheapestEnd 74 = .ok (.ireturn, 1) := by decide +kernel
theorem dP_turnPath_0 : decode cP_turnPath 0 = .ok (.iload_n 1, 1) := by decide +kernel
theorem dP_turnPath_1 : decode cP_turnPath 1 = .ok (.istore_n 2, 1) := by decide +kernel
theorem dP_turnPath_2 : decode cP_turnPath 2 = .ok (.iconst 0, 1) := by decide +kernel
theorem dP_turnPath_3 : decode cP_turnPath 3 = .ok (.istore_n 3, 1) := by decide +kernel
theorem dP_turnPath_4 : decode cP_turnPath 4 = .ok (.iload_n 3, 1) := by decide +kernel
theorem dP_turnPath_5 : decode cP_turnPath 5 = .ok (.bipush 10, 2) := by decide +kernel
theorem dP_turnPath_7 : decode cP_turnPath 7 = .ok (.if_icmp .ge 57, 3) := by decide +kernel
theorem dP_turnPath_10 : decode cP_turnPath 10 = .ok (.iload_n 2, 1) := by decide +kernel
theorem dP_turnPath_11 : decode cP_turnPath 11 = .ok (.iconst (-1), 1) := by decide +kernel
theorem dP_turnPath_12 : decode cP_turnPath 12 = .ok (.if_icmp .eq 52, 3) := by decide +kernel
theorem dP_turnPath_15 : decode cP_turnPath 15 = .ok (.aload_n 0, 1) := by decide +kernel
theorem dP_turnPath_16 : decode cP_turnPath 16 = .ok (.getfield 43, 3) := by decide +kernel
theorem dP_turnPath_19 : decode cP_turnPath 19 = .ok (.iload_n 2, 1) := by decide +kernel
theorem dP_turnPath_20 : decode cP_turnPath 20 = .ok (.iaload, 1) := by decide +kernel
theorem dP_turnPath_21 : decode cP_turnPath 21 = .ok (.istore 4, 2) := by decide +kernel
theorem dP_turnPath_23 : decode cP_turnPath 23 = .ok (.iload 4, 2) := by decide +kernel
theorem dP_turnPath_25 : decode cP_turnPath 25 = .ok (.iconst (-1), 1) := by decide +kernel
theorem dP_turnPath_26 : decode cP_turnPath 26 = .ok (.if_icmp .ne 4, 3) := by decide +kernel
theorem dP_turnPath_29 : decode cP_turnPath 29 = .ok (.return_, 1) := by decide +kernel
theorem dP_turnPath_30 : decode cP_turnPath 30 = .ok (.aload_n 0, 1) := by decide +kernel
theorem dP_turnPath_31 : decode cP_turnPath 31 = .ok (.getfield 23, 3) := by decide +kernel
theorem dP_turnPath_34 : decode cP_turnPath 34 = .ok (.iload 4, 2) := by decide +kernel
theorem dP_turnPath_36 : decode cP_turnPath 36 = .ok (.iaload, 1) := by decide +kernel
theorem dP_turnPath_37 : decode cP_turnPath 37 = .ok (.istore 5, 2) := by decide +kernel
theorem dP_turnPath_39 : decode cP_turnPath 39 = .ok (.aload_n 0, 1) := by decide +kernel
theorem dP_turnPath_40 : decode cP_turnPath 40 = .ok (.getfield 23, 3) := by decide +kernel
theorem dP_turnPath_43 : decode cP_turnPath 43 = .ok (.iload 4, 2) := by decide +kernel
theorem dP_turnPath_45 : decode cP_turnPath 45 = .ok (.iload_n 2, 1) := by decide +kernel
theorem dP_turnPath_46 : decode cP_turnPath 46 = .ok (.iastore, 1) := by decide +kernel
theorem dP_turnPath_47 : decode cP_turnPath 47 = .ok (.aload_n 0, 1) := by decide +kernel
theorem dP_turnPath_48 : decode cP_turnPath 48 = .ok (.getfield 26, 3) := by decide +kernel
theorem dP_turnPath_51 : decode cP_turnPath 51 = .ok (.iload_n 2, 1) := by decide +kernel
theorem dP_turnPath_52 : decode cP_turnPath 52 = .ok (.iload 4, 2) := by decide +kernel
theorem dP_turnPath_54 : decode cP_turnPath 54 = .ok (.iastore, 1) := by decide +kernel
theorem dP_turnPath_55 : decode cP_turnPath 55 = .ok (.iload 5, 2) := by decide +kernel
theorem dP_turnPath_57 : decode cP_turnPath 57 = .ok (.istore_n 2, 1) := by decide +kernel
theorem dP_turnPath_58 : decode cP_turnPath 58 = .ok (.iinc 3 1, 3) := by decide +kernel
theorem dP_turnPath_61 : decode cP_turnPath 61 = .ok (.goto (-57), 3) := by decide +kernel
theorem dP_turnPath_64 : decode cP_turnPath 64 = .ok (.return_, 1) := by decide +kernel
end
section
/-! Arrays.fill: a contract over the one cell that it fills; rows over a layout -/
theorem wF_i : Cond.initialized "java/util/Arrays" ∈ Wl := (tm1 (i := 3) rfl rfl)
abbrev cFi : ByteArray := prog_15_method_103_code
def yFi : MethodName := ⟨"java/util/Arrays", "fill", "([II)V"⟩
theorem dFi_0 : decode cFi 0 = .ok (.iconst 0, 1) := by decide +kernel
theorem dFi_1 : decode cFi 1 = .ok (.istore_n 2, 1) := by decide +kernel
theorem dFi_2 : decode cFi 2 = .ok (.aload_n 0, 1) := by decide +kernel
theorem dFi_3 : decode cFi 3 = .ok (.arraylength, 1) := by decide +kernel
theorem dFi_4 : decode cFi 4 = .ok (.istore_n 3, 1) := by decide +kernel
theorem dFi_5 : decode cFi 5 = .ok (.iload_n 2, 1) := by decide +kernel
theorem dFi_6 : decode cFi 6 = .ok (.iload_n 3, 1) := by decide +kernel
theorem dFi_7 : decode cFi 7 = .ok (.if_icmp .ge 13, 3) := by decide +kernel
theorem dFi_10 : decode cFi 10 = .ok (.aload_n 0, 1) := by decide +kernel
theorem dFi_11 : decode cFi 11 = .ok (.iload_n 2, 1) := by decide +kernel
theorem dFi_12 : decode cFi 12 = .ok (.iload_n 1, 1) := by decide +kernel
theorem dFi_13 : decode cFi 13 = .ok (.iastore, 1) := by decide +kernel
theorem dFi_14 : decode cFi 14 = .ok (.iinc 2 1, 3) := by decide +kernel
theorem dFi_17 : decode cFi 17 = .ok (.goto (-12), 3) := by decide +kernel
theorem dFi_20 : decode cFi 20 = .ok (.return_, 1) := by decide +kernel
theorem wFi_s : Cond.static yFi ∈ Wl := (tm1 (i := 80) rfl rfl)
theorem wFi_c : Cond.code yFi cFi 4 none ∈ Wl := (tm1 (i := 81) rfl rfl)
theorem filli_same {cA : ClassId} {n : Nat} {g : Nat → Int32} {v : Int32} (h : ∀ j, j < n → g j = v) : vp_cell cA (n, .inl g) = vp_cell cA (n, .inl (fun _ => v)) := by
  show arrV cA n (fun j => .int (g j)) = arrV cA n (fun _ => .int v)
  unfold arrV
  congr 1
  congr 1
  funext j
  show Value.int (g j.val) = Value.int v
  rw [h j.val j.isLt]
set_option maxHeartbeats 4000000 in
set_option maxRecDepth 100000 in
theorem met_filli (l : Launch) (D : va_G) (cl : List vw_C) (cA : ClassId) (q n sz : Nat) (hn : n < 2 ^ 31) (g0 : Nat → Int32) (v : Int32) : Met l yFi (Cond.code yFi cFi 4 none :: Wl) { frames := 0, cells := 0, slots := 0, locals := 0 } (va_Pc [.ref q, .int v] (fun U => U.heap.size = sz ∧ va_P D cl [(q, .inl (cA, n, .inl g0))] U.heap ∧ va_K D cl [(cA, .int)] U ∧ va_D (fun _ => True) [(q, .inl (cA, n, .inl g0))])) (va_Qv (fun _ : Unit => True) (fun _ t => va_P D cl [(q, .inl (cA, n, .inl (fun _ => v)))] t.heap) (va_A [(q, .inl (cA, n, .inl g0))] sz)) 0 0 (va_A [(q, .inl (cA, n, .inl g0))] sz) := by
  refine Met.ofW (cc := cFi) (maxL := 4) (ret := none) (by decide) rfl ?_
  intro p e s m args below meth c s₁ B hml hv
  obtain ⟨rfl, hsz, hP, hK, hD0⟩ := hv
  have hx := B.exec
  have hb := B.bytes
  have hr := B.returns
  have hlocks := B.notSynchronized
  subst hsz
  have hD := hD0.self (sz := s.heap.size)
  generalize hAe : va_A [(q, .inl (cA, n, .inl g0))] s.heap.size = A at hD ⊢
  have hS : va_S A s.heap s.heap [] := va_S.rf
  have hl := lv_entry ([.ref q, .int v]) (n := 4) (Nat.le_of_ble_eq_true rfl)
  rw [lg_entry_eq]
  generalize (lg_sl ([.ref q, .int v]) ++ List.replicate (4 - (lg_sl ([.ref q, .int v])).length) Slot.unset).toArray = ls at hl ⊢
  have hl : lv_has ls 4 [(0, .ref q), (1, .int v)] := hl
  have loop : ∀ (k i : Nat) (g : Nat → Int32) (H : Heap) (locs : List Loc) (ls : Array Slot), i + k = n → (∀ j, j < i → g j = v) → va_P D cl [(q, .inl (cA, n, .inl g))] H → va_D A [(q, .inl (cA, n, .inl g))] → va_S A s.heap H locs → lv_has ls 4 [(0, .ref q), (1, .int v), (2, .int (nI i)), (3, .int (nI n))] →
      W p l e { frames := 0, cells := 0, slots := 0, locals := 0 } s m ([.ref q, .int v] : List Value).toArray below meth c H locs 0 0 (MQ below (va_Qv (fun _ : Unit => True) (fun _ t => va_P D cl [(q, .inl (cA, n, .inl (fun _ => v)))] t.heap) A) ([.ref q, .int v] : List Value).toArray s 0 0 A) (F0 m 5 ls []) := by
    intro k
    induction k with
    | zero =>
      intro i g H locs ls hi hg hP hD hS hl
      refine lv_iload_n hx hb dFi_5 rfl (lv_at hl 2 rfl) ?_
      refine lv_iload_n hx hb dFi_6 rfl (lv_at hl 3 rfl) ?_
      refine lv_icmp_ge (tgt := 20) hx hb dFi_7 (by decide) (fun _ => ?_) (fun hc => ?_)
      · refine W.vret hx hb hr (fun t ht hW => ⟨⟨(), rfl, trivial, ?_⟩, hS.F ht⟩) hS.2.2 dFi_20
        show va_P D cl [(q, .inl (cA, n, .inl (fun _ => v)))] t.heap
        rw [ht]
        intro k9 x hk
        have h0 := hP 0 _ rfl
        match k9, hk with
        | 0, hk =>
          cases hk
          show H[q]? = some (vp_cell cA (n, .inl (fun _ => v)))
          rw [← filli_same (g := g) (fun j hj => hg j (by omega))]
          exact h0
        | k9 + 1, hk => simp at hk
      · exact absurd (nI_le (by omega) (by omega)) hc
    | succ k ih =>
      intro i g H locs ls hi hg hP hD hS hl
      refine lv_iload_n hx hb dFi_5 rfl (lv_at hl 2 rfl) ?_
      refine lv_iload_n hx hb dFi_6 rfl (lv_at hl 3 rfl) ?_
      refine lv_icmp_ge (tgt := 20) hx hb dFi_7 (by decide) (fun hc => ?_) (fun _ => ?_)
      · exact absurd hc (nI_ge (by omega) (by omega))
      · refine lv_aload_n hx hb dFi_10 rfl (lv_at hl 0 rfl) ?_
        refine lv_iload_n hx hb dFi_11 rfl (lv_at hl 2 rfl) ?_
        refine lv_iload_n hx hb dFi_12 rfl (lv_at hl 1 rfl) ?_
        refine va_iast hx hb hK hP hD hS 0 0 rfl rfl (vp_in_nI (show i < n by omega) hn) dFi_13 (fun H locs hP hD hS => ?_)
        refine lv_iinc (v := nI (i + 1)) (lv' := [(2, .int (nI (i + 1))), (0, .ref q), (1, .int v), (3, .int (nI n))]) hx hb dFi_14 hl (k := 2) rfl (nI_1 i) (by decide) rfl (fun ls hl => ?_)
        refine lv_goto (tgt := 5) hx hb dFi_17 (by decide) ?_
        refine ih (i + 1) (upd g (nI i).toNatClampNeg v) H locs ls (by omega) (fun j hj => ?_) hP hD hS (lv_sub hl [1, 2, 0, 3] rfl)
        rw [nI_clamp (by omega)]
        show (if j = i then v else g j) = v
        by_cases e : j = i
        · rw [if_pos e]
        · rw [if_neg e]; exact hg j (by omega)
  refine lv_iconst (v := 0) hx hb dFi_0 (by decide) ?_
  refine lv_istore_n (lv' := [(2, .int 0), (0, .ref q), (1, .int v)]) hx hb dFi_1 rfl hl (by decide) rfl (fun ls hl => ?_)
  refine lv_aload_n hx hb dFi_2 rfl (lv_at hl 1 rfl) ?_
  refine va_alen (v := nI n) hx hb hK hP 0 0 rfl rfl rfl dFi_3 ?_
  refine lv_istore_n (lv' := [(3, .int (nI n)), (2, .int 0), (0, .ref q), (1, .int v)]) hx hb dFi_4 rfl hl (by decide) rfl (fun ls hl => ?_)
  exact loop n 0 g0 _ _ ls (by omega) (fun j hj => absurd hj (Nat.not_lt_zero j)) hP hD hS (lv_sub (l' := [(0, .ref q), (1, .int v), (2, .int (nI 0)), (3, .int (nI n))]) hl [2, 3, 1, 0] rfl)
theorem gfilli {N : Nat} {kf : wL} {tys : List (ClassId × FieldType)} {tx : List (String × Nat × String)} {D : va_G} {cl : List vw_C} {sa : Nat → Nat} {A : Nat → Prop} {ad : Nat → Nat} {ca : Nat → ClassId} {p : Program} {l : Launch} {e : Env} {R : Room} {s : State} {m : MethodId} {args : Array Value} {below : List Frame} {meth : Method} {c : Code} {cc : ByteArray} {nL : Nat} {own : String} {H : Heap} {locs : List Loc} {cells slots : Nat} {Q : State → Prop} {pc : Nat} {ls : Array Slot} {rest : List Value} {f : wF} {a : wA} {b : wB}
    (X : cx Wl tys tx D cl sa A p l s m args meth c cc nL own) (K : wd N kf D cl ad ca A s H locs f a b) {o n t0 index : Nat} {cA : ClassId} {g : Nat → Int32} {v : Int32} (ho : o < N) (hko : kf ad ca f a b o = .inl (cA, n, .inl g)) (ht : tys[t0]? = some (cA, .int)) (hn : n < 2 ^ 31) (w1 : Cond.methodLink own index yFi ∈ Wl) (hsz : ls.size = nL) (hW : (rest.map fun v => v.category).sum ≤ 8) (hdg : decode cc pc = .ok (.invokestatic index, 3)) (hR : 1 ≤ R.frames ∧ 8 + (4 + 11) + 0 ≤ R.locals) (hc : cells + 0 ≤ R.cells ∧ slots + 0 ≤ R.slots)
    {f1 : wF} {a1 : wA} {b1 : wB} (hup : va_up (kf ad ca f a b) o (.inl (cA, n, .inl (fun _ => v))) = kf ad ca f1 a1 b1)
    (kk : ∀ (H1 : Heap) (locs1 : List Loc), wd N kf D cl ad ca A s H1 locs1 f1 a1 b1 → W p l e R s m args below meth c H1 locs1 cells slots Q (F0 m (pc + 3) ls rest)) : W p l e R s m args below meth c H locs cells slots Q (F0 m pc ls (.int v :: .ref (ad o) :: rest)) := by
  obtain ⟨hx, hb, hml, hown, hts, hK, hA, hth, hlk, hl, hex⟩ := id X
  obtain ⟨hP, hD, hS⟩ := id K
  have hget : (ww N kf ad ca f a b)[o]? = some (ad o, .inl (cA, n, .inl g)) := (wg_get ho).trans (by rw [hko])
  have hP1 : va_P D cl [(ad o, .inl (cA, n, .inl g))] H := fun k x hk => by
    match k, hk with
    | 0, hk => cases hk; exact hP o _ hget
    | k + 1, hk => simp at hk
  have hD1 : va_D (fun _ => True) [(ad o, .inl (cA, n, .inl g))] := ⟨fun i j x y hi hj _ => by
    have h1 : i < 1 := (List.getElem?_eq_some_iff.mp hi).1
    have h2 : j < 1 := (List.getElem?_eq_some_iff.mp hj).1
    omega, fun _ _ _ => trivial⟩
  have hK1 : va_K D cl [(cA, .int)] s := ⟨hK.1, fun k x hk => by
    match k, hk with
    | 0, hk => cases hk; exact hK.2 t0 _ ht
    | k + 1, hk => simp at hk⟩
  have hF : ∀ q, va_A [(ad o, .inl (cA, n, .inl g))] H.size q → A q := fun q h => by
    rcases h with ⟨k, x, h⟩ | h
    · match k, h with
      | 0, h => cases h; exact hD.2 o _ hget
      | k + 1, h => simp at h
    · exact hA q (Nat.le_trans hS.1 h)
  have hT : GoodIn Wl (va_wsS own index yFi (Cond.code yFi cFi 4 none :: Wl)) := good_in wl_good (fun w hw => by
    simp only [List.mem_cons, List.not_mem_nil, or_false] at hw
    rcases hw with q | q | q
    · rw [q]; exact w1
    · rw [q]; exact wFi_s
    · rw [q]; exact wF_i) wFi_c
  refine va_callv (va_runS (As := [.ref (ad o), .int v]) (rest := rest) ⟨hx, hb, hml, hown, hts⟩ (met_filli l D cl cA (ad o) n H.size hn g v) (va_cwS 2 hts hT rfl rfl rfl ⟨by decide, by decide, by decide +kernel⟩ hR) ⟨fun a U g9 mk q => by obtain ⟨q0, q1, qP, qK, qD⟩ := q; exact ⟨q0, q1, qP, va_K.moved (u := U) (U := U.calling g9 mk a) (Vm.Alike.refl U.vm) qK, qD⟩, fun U hU hW => ⟨rfl, by rw [hU], by rw [hU]; exact hP1, va_K.moved hW.alike hK1, hD1⟩⟩ rfl rfl hsz rfl (lv_room hW) hdg hc) hS (fun q _ h => hF q h) hF (fun u t H1 locs1 ht hvm hw hB hz hk hS1 => kk H1 locs1 ?_)
  rw [ht] at hB
  have hcell : H1[ad o]? = some (vp_cell cA (n, .inl (fun _ => v))) := hB 0 _ rfl
  have hP2 : va_P D cl ((ww N kf ad ca f a b).set o (ad o, .inl (cA, n, .inl (fun _ => v)))) H1 := by
    intro k x hkx
    rw [List.getElem?_set] at hkx
    by_cases e1 : o = k
    · subst e1
      rw [if_pos rfl, if_pos (by show o < (wg ad (kf ad ca f a b) N).length; rw [wg_len]; exact ho)] at hkx
      cases hkx
      exact hcell
    · rw [if_neg e1] at hkx
      refine (hP k x hkx).kept (hk x.1 ((hP k x hkx).lt) ?_)
      intro h9
      rcases h9 with ⟨k9, x9, h9⟩ | h9
      · match k9, h9 with
        | 0, h9 =>
          have h8 : ad o = x.1 := congrArg Prod.fst (Option.some.inj h9)
          exact e1 (hD.1 o k _ x hget hkx h8)
        | k9 + 1, h9 => simp at h9
      · exact absurd ((hP k x hkx).lt) (Nat.not_lt.mpr h9)
  have hD2 : va_D A ((ww N kf ad ca f a b).set o (ad o, .inl (cA, n, .inl (fun _ => v)))) := by
    have hfst : ∀ (k : Nat) (x : Nat × va_E), ((ww N kf ad ca f a b).set o (ad o, .inl (cA, n, .inl (fun _ => v))))[k]? = some x → ∃ y : Nat × va_E, (ww N kf ad ca f a b)[k]? = some y ∧ y.1 = x.1 := by
      intro k x hkx
      rw [List.getElem?_set] at hkx
      by_cases e1 : o = k
      · subst e1
        rw [if_pos rfl, if_pos (by show o < (wg ad (kf ad ca f a b) N).length; rw [wg_len]; exact ho)] at hkx
        cases hkx
        exact ⟨_, hget, rfl⟩
      · rw [if_neg e1] at hkx
        exact ⟨x, hkx, rfl⟩
    refine ⟨fun i j x y hi hj hxy => ?_, fun k x hk => ?_⟩
    · obtain ⟨x', h1, h2⟩ := hfst i x hi
      obtain ⟨y', h3, h4⟩ := hfst j y hj
      exact hD.1 i j x' y' h1 h3 (by rw [h2, h4]; exact hxy)
    · obtain ⟨x', h1, h2⟩ := hfst k x hk
      rw [← h2]
      exact hD.2 k x' h1
  unfold ww at hP2 hD2
  rw [wg_set ho, hup] at hP2 hD2
  exact ⟨hP2, hD2, hS1⟩
abbrev cFl : ByteArray := prog_15_method_101_code
def yFl : MethodName := ⟨"java/util/Arrays", "fill", "([JJ)V"⟩
theorem dFl_0 : decode cFl 0 = .ok (.iconst 0, 1) := by decide +kernel
theorem dFl_1 : decode cFl 1 = .ok (.istore_n 3, 1) := by decide +kernel
theorem dFl_2 : decode cFl 2 = .ok (.aload_n 0, 1) := by decide +kernel
theorem dFl_3 : decode cFl 3 = .ok (.arraylength, 1) := by decide +kernel
theorem dFl_4 : decode cFl 4 = .ok (.istore 4, 2) := by decide +kernel
theorem dFl_6 : decode cFl 6 = .ok (.iload_n 3, 1) := by decide +kernel
theorem dFl_7 : decode cFl 7 = .ok (.iload 4, 2) := by decide +kernel
theorem dFl_9 : decode cFl 9 = .ok (.if_icmp .ge 13, 3) := by decide +kernel
theorem dFl_12 : decode cFl 12 = .ok (.aload_n 0, 1) := by decide +kernel
theorem dFl_13 : decode cFl 13 = .ok (.iload_n 3, 1) := by decide +kernel
theorem dFl_14 : decode cFl 14 = .ok (.lload_n 1, 1) := by decide +kernel
theorem dFl_15 : decode cFl 15 = .ok (.lastore, 1) := by decide +kernel
theorem dFl_16 : decode cFl 16 = .ok (.iinc 3 1, 3) := by decide +kernel
theorem dFl_19 : decode cFl 19 = .ok (.goto (-13), 3) := by decide +kernel
theorem dFl_22 : decode cFl 22 = .ok (.return_, 1) := by decide +kernel
theorem wFl_s : Cond.static yFl ∈ Wl := (tm2 (i := 126) rfl rfl)
theorem wFl_c : Cond.code yFl cFl 5 none ∈ Wl := (tm2 (i := 127) rfl rfl)
theorem filll_same {cA : ClassId} {n : Nat} {g : Nat → Int64} {v : Int64} (h : ∀ j, j < n → g j = v) : vp_cell cA (n, .inr (.inl g)) = vp_cell cA (n, .inr (.inl (fun _ => v))) := by
  show arrV cA n (fun j => .long (g j)) = arrV cA n (fun _ => .long v)
  unfold arrV
  congr 1
  congr 1
  funext j
  show Value.long (g j.val) = Value.long v
  rw [h j.val j.isLt]
set_option maxHeartbeats 4000000 in
set_option maxRecDepth 100000 in
theorem met_filll (l : Launch) (D : va_G) (cl : List vw_C) (cA : ClassId) (q n sz : Nat) (hn : n < 2 ^ 31) (g0 : Nat → Int64) (v : Int64) : Met l yFl (Cond.code yFl cFl 5 none :: Wl) { frames := 0, cells := 0, slots := 0, locals := 0 } (va_Pc [.ref q, .long v] (fun U => U.heap.size = sz ∧ va_P D cl [(q, .inl (cA, n, .inr (.inl g0)))] U.heap ∧ va_K D cl [(cA, .long)] U ∧ va_D (fun _ => True) [(q, .inl (cA, n, .inr (.inl g0)))])) (va_Qv (fun _ : Unit => True) (fun _ t => va_P D cl [(q, .inl (cA, n, .inr (.inl (fun _ => v))))] t.heap) (va_A [(q, .inl (cA, n, .inr (.inl g0)))] sz)) 0 0 (va_A [(q, .inl (cA, n, .inr (.inl g0)))] sz) := by
  refine Met.ofW (cc := cFl) (maxL := 5) (ret := none) (by decide) rfl ?_
  intro p e s m args below meth c s₁ B hml hv
  obtain ⟨rfl, hsz, hP, hK, hD0⟩ := hv
  have hx := B.exec
  have hb := B.bytes
  have hr := B.returns
  have hlocks := B.notSynchronized
  subst hsz
  have hD := hD0.self (sz := s.heap.size)
  generalize hAe : va_A [(q, .inl (cA, n, .inr (.inl g0)))] s.heap.size = A at hD ⊢
  have hS : va_S A s.heap s.heap [] := va_S.rf
  have hl := lv_entry ([.ref q, .long v]) (n := 5) (Nat.le_of_ble_eq_true rfl)
  rw [lg_entry_eq]
  generalize (lg_sl ([.ref q, .long v]) ++ List.replicate (5 - (lg_sl ([.ref q, .long v])).length) Slot.unset).toArray = ls at hl ⊢
  have hl : lv_has ls 5 [(0, .ref q), (1, .long v)] := hl
  have loop : ∀ (k i : Nat) (g : Nat → Int64) (H : Heap) (locs : List Loc) (ls : Array Slot), i + k = n → (∀ j, j < i → g j = v) → va_P D cl [(q, .inl (cA, n, .inr (.inl g)))] H → va_D A [(q, .inl (cA, n, .inr (.inl g)))] → va_S A s.heap H locs → lv_has ls 5 [(0, .ref q), (1, .long v), (3, .int (nI i)), (4, .int (nI n))] →
      W p l e { frames := 0, cells := 0, slots := 0, locals := 0 } s m ([.ref q, .long v] : List Value).toArray below meth c H locs 0 0 (MQ below (va_Qv (fun _ : Unit => True) (fun _ t => va_P D cl [(q, .inl (cA, n, .inr (.inl (fun _ => v))))] t.heap) A) ([.ref q, .long v] : List Value).toArray s 0 0 A) (F0 m 6 ls []) := by
    intro k
    induction k with
    | zero =>
      intro i g H locs ls hi hg hP hD hS hl
      refine lv_iload_n hx hb dFl_6 rfl (lv_at hl 2 rfl) ?_
      refine lv_iload hx hb dFl_7 (lv_at hl 3 rfl) ?_
      refine lv_icmp_ge (tgt := 22) hx hb dFl_9 (by decide) (fun _ => ?_) (fun hc => ?_)
      · refine W.vret hx hb hr (fun t ht hW => ⟨⟨(), rfl, trivial, ?_⟩, hS.F ht⟩) hS.2.2 dFl_22
        show va_P D cl [(q, .inl (cA, n, .inr (.inl (fun _ => v))))] t.heap
        rw [ht]
        intro k9 x hk
        have h0 := hP 0 _ rfl
        match k9, hk with
        | 0, hk =>
          cases hk
          show H[q]? = some (vp_cell cA (n, .inr (.inl (fun _ => v))))
          rw [← filll_same (g := g) (fun j hj => hg j (by omega))]
          exact h0
        | k9 + 1, hk => simp at hk
      · exact absurd (nI_le (by omega) (by omega)) hc
    | succ k ih =>
      intro i g H locs ls hi hg hP hD hS hl
      refine lv_iload_n hx hb dFl_6 rfl (lv_at hl 2 rfl) ?_
      refine lv_iload hx hb dFl_7 (lv_at hl 3 rfl) ?_
      refine lv_icmp_ge (tgt := 22) hx hb dFl_9 (by decide) (fun hc => ?_) (fun _ => ?_)
      · exact absurd hc (nI_ge (by omega) (by omega))
      · refine lv_aload_n hx hb dFl_12 rfl (lv_at hl 0 rfl) ?_
        refine lv_iload_n hx hb dFl_13 rfl (lv_at hl 2 rfl) ?_
        refine lv_lload_n hx hb dFl_14 rfl (lv_at hl 1 rfl) ?_
        refine va_last hx hb hK hP hD hS 0 0 rfl rfl (vp_in_nI (show i < n by omega) hn) dFl_15 (fun H locs hP hD hS => ?_)
        refine lv_iinc (v := nI (i + 1)) (lv' := [(3, .int (nI (i + 1))), (0, .ref q), (1, .long v), (4, .int (nI n))]) hx hb dFl_16 hl (k := 2) rfl (nI_1 i) (by decide) rfl (fun ls hl => ?_)
        refine lv_goto (tgt := 6) hx hb dFl_19 (by decide) ?_
        refine ih (i + 1) (vp_updL g (nI i).toNatClampNeg v) H locs ls (by omega) (fun j hj => ?_) hP hD hS (lv_sub hl [1, 2, 0, 3] rfl)
        rw [nI_clamp (by omega)]
        show (if j = i then v else g j) = v
        by_cases e : j = i
        · rw [if_pos e]
        · rw [if_neg e]; exact hg j (by omega)
  refine lv_iconst (v := 0) hx hb dFl_0 (by decide) ?_
  refine lv_istore_n (lv' := [(3, .int 0), (0, .ref q), (1, .long v)]) hx hb dFl_1 rfl hl (by decide) rfl (fun ls hl => ?_)
  refine lv_aload_n hx hb dFl_2 rfl (lv_at hl 1 rfl) ?_
  refine va_alen (v := nI n) hx hb hK hP 0 0 rfl rfl rfl dFl_3 ?_
  refine lv_istore (lv' := [(4, .int (nI n)), (3, .int 0), (0, .ref q), (1, .long v)]) hx hb dFl_4 hl (by decide) rfl (fun ls hl => ?_)
  exact loop n 0 g0 _ _ ls (by omega) (fun j hj => absurd hj (Nat.not_lt_zero j)) hP hD hS (lv_sub (l' := [(0, .ref q), (1, .long v), (3, .int (nI 0)), (4, .int (nI n))]) hl [2, 3, 1, 0] rfl)
theorem gfilll {N : Nat} {kf : wL} {tys : List (ClassId × FieldType)} {tx : List (String × Nat × String)} {D : va_G} {cl : List vw_C} {sa : Nat → Nat} {A : Nat → Prop} {ad : Nat → Nat} {ca : Nat → ClassId} {p : Program} {l : Launch} {e : Env} {R : Room} {s : State} {m : MethodId} {args : Array Value} {below : List Frame} {meth : Method} {c : Code} {cc : ByteArray} {nL : Nat} {own : String} {H : Heap} {locs : List Loc} {cells slots : Nat} {Q : State → Prop} {pc : Nat} {ls : Array Slot} {rest : List Value} {f : wF} {a : wA} {b : wB}
    (X : cx Wl tys tx D cl sa A p l s m args meth c cc nL own) (K : wd N kf D cl ad ca A s H locs f a b) {o n t0 index : Nat} {cA : ClassId} {g : Nat → Int64} {v : Int64} (ho : o < N) (hko : kf ad ca f a b o = .inl (cA, n, .inr (.inl g))) (ht : tys[t0]? = some (cA, .long)) (hn : n < 2 ^ 31) (w1 : Cond.methodLink own index yFl ∈ Wl) (hsz : ls.size = nL) (hW : (rest.map fun v => v.category).sum ≤ 8) (hdg : decode cc pc = .ok (.invokestatic index, 3)) (hR : 1 ≤ R.frames ∧ 8 + (5 + 11) + 0 ≤ R.locals) (hc : cells + 0 ≤ R.cells ∧ slots + 0 ≤ R.slots)
    {f1 : wF} {a1 : wA} {b1 : wB} (hup : va_up (kf ad ca f a b) o (.inl (cA, n, .inr (.inl (fun _ => v)))) = kf ad ca f1 a1 b1)
    (kk : ∀ (H1 : Heap) (locs1 : List Loc), wd N kf D cl ad ca A s H1 locs1 f1 a1 b1 → W p l e R s m args below meth c H1 locs1 cells slots Q (F0 m (pc + 3) ls rest)) : W p l e R s m args below meth c H locs cells slots Q (F0 m pc ls (.long v :: .ref (ad o) :: rest)) := by
  obtain ⟨hx, hb, hml, hown, hts, hK, hA, hth, hlk, hl, hex⟩ := id X
  obtain ⟨hP, hD, hS⟩ := id K
  have hget : (ww N kf ad ca f a b)[o]? = some (ad o, .inl (cA, n, .inr (.inl g))) := (wg_get ho).trans (by rw [hko])
  have hP1 : va_P D cl [(ad o, .inl (cA, n, .inr (.inl g)))] H := fun k x hk => by
    match k, hk with
    | 0, hk => cases hk; exact hP o _ hget
    | k + 1, hk => simp at hk
  have hD1 : va_D (fun _ => True) [(ad o, .inl (cA, n, .inr (.inl g)))] := ⟨fun i j x y hi hj _ => by
    have h1 : i < 1 := (List.getElem?_eq_some_iff.mp hi).1
    have h2 : j < 1 := (List.getElem?_eq_some_iff.mp hj).1
    omega, fun _ _ _ => trivial⟩
  have hK1 : va_K D cl [(cA, .long)] s := ⟨hK.1, fun k x hk => by
    match k, hk with
    | 0, hk => cases hk; exact hK.2 t0 _ ht
    | k + 1, hk => simp at hk⟩
  have hF : ∀ q, va_A [(ad o, .inl (cA, n, .inr (.inl g)))] H.size q → A q := fun q h => by
    rcases h with ⟨k, x, h⟩ | h
    · match k, h with
      | 0, h => cases h; exact hD.2 o _ hget
      | k + 1, h => simp at h
    · exact hA q (Nat.le_trans hS.1 h)
  have hT : GoodIn Wl (va_wsS own index yFl (Cond.code yFl cFl 5 none :: Wl)) := good_in wl_good (fun w hw => by
    simp only [List.mem_cons, List.not_mem_nil, or_false] at hw
    rcases hw with q | q | q
    · rw [q]; exact w1
    · rw [q]; exact wFl_s
    · rw [q]; exact wF_i) wFl_c
  refine va_callv (va_runS (As := [.ref (ad o), .long v]) (rest := rest) ⟨hx, hb, hml, hown, hts⟩ (met_filll l D cl cA (ad o) n H.size hn g v) (va_cwS 2 hts hT rfl rfl rfl ⟨by decide, by decide, by decide +kernel⟩ hR) ⟨fun a U g9 mk q => by obtain ⟨q0, q1, qP, qK, qD⟩ := q; exact ⟨q0, q1, qP, va_K.moved (u := U) (U := U.calling g9 mk a) (Vm.Alike.refl U.vm) qK, qD⟩, fun U hU hW => ⟨rfl, by rw [hU], by rw [hU]; exact hP1, va_K.moved hW.alike hK1, hD1⟩⟩ rfl rfl hsz rfl (lv_room hW) hdg hc) hS (fun q _ h => hF q h) hF (fun u t H1 locs1 ht hvm hw hB hz hk hS1 => kk H1 locs1 ?_)
  rw [ht] at hB
  have hcell : H1[ad o]? = some (vp_cell cA (n, .inr (.inl (fun _ => v)))) := hB 0 _ rfl
  have hP2 : va_P D cl ((ww N kf ad ca f a b).set o (ad o, .inl (cA, n, .inr (.inl (fun _ => v))))) H1 := by
    intro k x hkx
    rw [List.getElem?_set] at hkx
    by_cases e1 : o = k
    · subst e1
      rw [if_pos rfl, if_pos (by show o < (wg ad (kf ad ca f a b) N).length; rw [wg_len]; exact ho)] at hkx
      cases hkx
      exact hcell
    · rw [if_neg e1] at hkx
      refine (hP k x hkx).kept (hk x.1 ((hP k x hkx).lt) ?_)
      intro h9
      rcases h9 with ⟨k9, x9, h9⟩ | h9
      · match k9, h9 with
        | 0, h9 =>
          have h8 : ad o = x.1 := congrArg Prod.fst (Option.some.inj h9)
          exact e1 (hD.1 o k _ x hget hkx h8)
        | k9 + 1, h9 => simp at h9
      · exact absurd ((hP k x hkx).lt) (Nat.not_lt.mpr h9)
  have hD2 : va_D A ((ww N kf ad ca f a b).set o (ad o, .inl (cA, n, .inr (.inl (fun _ => v))))) := by
    have hfst : ∀ (k : Nat) (x : Nat × va_E), ((ww N kf ad ca f a b).set o (ad o, .inl (cA, n, .inr (.inl (fun _ => v)))))[k]? = some x → ∃ y : Nat × va_E, (ww N kf ad ca f a b)[k]? = some y ∧ y.1 = x.1 := by
      intro k x hkx
      rw [List.getElem?_set] at hkx
      by_cases e1 : o = k
      · subst e1
        rw [if_pos rfl, if_pos (by show o < (wg ad (kf ad ca f a b) N).length; rw [wg_len]; exact ho)] at hkx
        cases hkx
        exact ⟨_, hget, rfl⟩
      · rw [if_neg e1] at hkx
        exact ⟨x, hkx, rfl⟩
    refine ⟨fun i j x y hi hj hxy => ?_, fun k x hk => ?_⟩
    · obtain ⟨x', h1, h2⟩ := hfst i x hi
      obtain ⟨y', h3, h4⟩ := hfst j y hj
      exact hD.1 i j x' y' h1 h3 (by rw [h2, h4]; exact hxy)
    · obtain ⟨x', h1, h2⟩ := hfst k x hk
      rw [← h2]
      exact hD.2 k x' h1
  unfold ww at hP2 hD2
  rw [wg_set ho, hup] at hP2 hD2
  exact ⟨hP2, hD2, hS1⟩
/-- System.arraycopy between two arrays of ints of the layout, from place 0 to place 0 -/
theorem gcopy {N : Nat} {kf : wL} {tys : List (ClassId × FieldType)} {tx : List (String × Nat × String)} {D : va_G} {cl : List vw_C} {sa : Nat → Nat} {A : Nat → Prop} {ad : Nat → Nat} {ca : Nat → ClassId} {p : Program} {l : Launch} {e : Env} {R : Room} {s : State} {m : MethodId} {args : Array Value} {below : List Frame} {meth : Method} {c : Code} {cc : ByteArray} {nL : Nat} {own : String} {H : Heap} {locs : List Loc} {cells slots : Nat} {Q : State → Prop} {pc : Nat} {ls : Array Slot} {rest : List Value} {f : wF} {a : wA} {b : wB}
    (X : cx Wl tys tx D cl sa A p l s m args meth c cc nL own) (K : wd N kf D cl ad ca A s H locs f a b) {o o2 n0 n1 t0 index : Nat} {cA : ClassId} {g0 g1 : Nat → Int32} {sp dp n : Int32} (ho : o < N) (ho2 : o2 < N) (hko : kf ad ca f a b o = .inl (cA, n0, .inl g0)) (hko2 : kf ad ca f a b o2 = .inl (cA, n1, .inl g1)) (ht : tys[t0]? = some (cA, .int)) (w1 : Cond.methodLink own index arraycopyName ∈ Wl) (w2 : Cond.native arraycopyName ∈ Wl) (w3 : Cond.static arraycopyName ∈ Wl) (w4 : Cond.initialized "java/lang/System" ∈ Wl)
    (h1 : ¬ sp < 0) (h2 : ¬ dp < 0) (h3 : ¬ n < 0) (h4 : sp.toNatClampNeg + n.toNatClampNeg ≤ n0) (h5 : dp.toNatClampNeg + n.toNatClampNeg ≤ n1) (hsz : ls.size = nL) (hf : 1 ≤ R.frames) (hlo : (rest.map fun v => v.category).sum + (nativeFrameWords "java/lang/System" "arraycopy" 5 + 11) ≤ R.locals) (hdg : decode cc pc = .ok (.invokestatic index, 3))
    {f1 : wF} {a1 : wA} {b1 : wB} (hup : va_up (kf ad ca f a b) o2 (.inl (cA, n1, .inl (va_cpy g0 g1 sp.toNatClampNeg dp.toNatClampNeg n.toNatClampNeg))) = kf ad ca f1 a1 b1)
    (kk : ∀ (H1 : Heap) (locs1 : List Loc), wd N kf D cl ad ca A s H1 locs1 f1 a1 b1 → W p l e R s m args below meth c H1 locs1 cells slots Q (F0 m (pc + 3) ls rest)) : W p l e R s m args below meth c H locs cells slots Q (F0 m pc ls (.int n :: .int dp :: .ref (ad o2) :: .int sp :: .ref (ad o) :: rest)) := by
  obtain ⟨hx, hb, hml, hown, hts, hK, hA, hth, hlk, hl, hex⟩ := X
  refine va_copyi hx hb (hml.trans hsz.symm) hown (hts _ w1) (hts _ w2) (hts _ w3) (hts _ w4) hK K.1 K.2.1 K.2.2 o o2 t0 t0 ((wg_get ho).trans (by rw [hko])) ((wg_get ho2).trans (by rw [hko2])) ht ht rfl h1 h2 h3 h4 h5 (fun i _ => rfl) hf hlo hdg (fun H1 locs1 hP1 hD1 hS1 => kk H1 locs1 ?_)
  unfold ww at hP1 hD1
  rw [wg_set ho2, hup] at hP1 hD1
  exact ⟨hP1, hD1, hS1⟩
theorem swo {x : Int32} (h0 : ¬ x = 0) (h1 : ¬ x = 1) (h2 : ¬ x = 2) (h3 : ¬ x = 3) : x.toInt < 0 ∨ 3 < x.toInt := by
  have e : ∀ k : Int32, ¬ x = k → x.toInt ≠ k.toInt := fun k h q => h (Int32.toInt_inj.mp q)
  have a0 := e 0 h0
  have a1 := e 1 h1
  have a2 := e 2 h2
  have a3 := e 3 h3
  have b0 : (0 : Int32).toInt = 0 := by decide
  have b1 : (1 : Int32).toInt = 1 := by decide
  have b2 : (2 : Int32).toInt = 2 := by decide
  have b3 : (3 : Int32).toInt = 3 := by decide
  omega
end
section
set_option maxHeartbeats 4000000 in
set_option maxRecDepth 100000 in
theorem LS_unit_10 {p : Program} {l : Launch} {e : Env} {s : State} {m : MethodId} {below : List Frame} {meth : Method} {c : Code} {D : va_G} {sa : Nat → Nat} {ad : Nat → Nat} {ca : Nat → ClassId} {sz : Nat} {f0 : wF} {a0 : wA} {b0 : wB} {y1 : Int32} {po : Int32 → wF → wA → wB → Prop} {px : String → wF → wA → wB → Prop} (X : cx Wl (tyS ca) txS D vwCl sa (va_A (ww nS kS ad ca f0 a0 b0) sz) p l s m ([.ref (ad 0), .int y1] : List Value).toArray meth c cS_unit 2 "SendBest") (hr : meth.sig.returnType = (some .int)) : ∀ (f : wF) (a : wA) (b : wB), wp_S_unit_10 po px f a b → ∀ (H : Heap) (locs : List Loc), wd nS kS D vwCl ad ca (va_A (ww nS kS ad ca f0 a0 b0) sz) s H locs f a b → ∀ (ls : Array Slot), lv_has ls 2 [] → W p l e ({ frames := 6, cells := 1, slots := 6, locals := 82 }) s m ([.ref (ad 0), .int y1] : List Value).toArray below meth c H locs 0 0 (vx_MQ below (va_Qi (fun r (u : wF × wA × wB) => po r u.1 u.2.1 u.2.2) (sPost nS kS D vwCl ad ca (va_A (ww nS kS ad ca f0 a0 b0) sz)) (va_A (ww nS kS ad ca f0 a0 b0) sz)) (sX nS kS D vwCl ad ca (va_A (ww nS kS ad ca f0 a0 b0) sz) px) ([.ref (ad 0), .int y1] : List Value).toArray s 1 6 (va_A (ww nS kS ad ca f0 a0 b0) sz)) (F0 m 10 ls []) := by
  obtain ⟨hx, hb, hml, hown, hts, hK, hA, hth, hlk, hl9, hex⟩ := id X
  intro  f a b hw H locs K ls hl
  dsimp only [wp_S_unit_10] at hw
  exact throwX X K (k := 0) (names := ["java/lang/RuntimeException", "java/lang/Exception"]) hw (by decide +kernel) (by decide +kernel) rfl (tm1 (i := 144) rfl rfl) (tm1 (i := 8) rfl rfl) xg_S_71 xb_S_71 xo_S_71_67 hl.1 dS_unit_10 dS_unit_13 dS_unit_14 dS_unit_16 dS_unit_19 (by decide) (by decide) (by decide) (by decide) (by decide) (by decide)
set_option maxHeartbeats 4000000 in
set_option maxRecDepth 100000 in
theorem met_S_unit {l : Launch} (hl9 : l.stackTraces = false) (D : va_G) (ad : Nat → Nat) (ca : Nat → ClassId) (sa : Nat → Nat) (sz : Nat) (x1 : Int32) (f : wF) (a : wA) (b : wB) (po : Int32 → wF → wA → wB → Prop) (px : String → wF → wA → wB → Prop) (hw : wp_S_unit po px x1 f a b) : mI nS kS (tyS ca) txS D vwCl l yS_unit (Cond.code yS_unit cS_unit 2 (some .int) :: Wl) ({ frames := 6, cells := 1, slots := 6, locals := 82 }) [.ref (ad 0), .int x1] ad ca sa sz f a b po px 1 6 := by
  refine ofI (by decide) hl9 (Nat.le_of_ble_eq_true rfl) ?_
  intro p e s m below meth c ls X hr K hl
  obtain ⟨hx, hb, hml, hown, hts, hK, hA, hth, hlk, hl9, hex⟩ := id X
  have hl : lv_has ls 2 [(0, .ref (ad 0)), (1, .int x1)] := hl
  dsimp only [wp_S_unit] at hw
  refine lv_iload_n hx hb dS_unit_0 rfl (lv_at hl 1 rfl) ?_
  refine lv_if_lt (tgt := 10) hx hb dS_unit_1 (by decide) (fun hc => ?_) (fun hc => ?_)
  · replace hw := hw.1 hc
    exact LS_unit_10 X hr f a b hw _ _ K _ (lv_sub hl [] rfl)
  · replace hw := hw.2 hc
    refine lv_iload_n hx hb dS_unit_4 rfl (lv_at hl 1 rfl) ?_
    refine lv_ldc (v := (65536 : Int32)) hx hb hown (hts _ (tm1 (i := 143) rfl rfl)) dS_unit_5 ?_
    refine lv_icmp_lt (tgt := 20) hx hb dS_unit_7 (by decide) (fun hc => ?_) (fun hc => ?_)
    · replace hw := hw.1 hc
      refine lv_aload_n hx hb dS_unit_20 rfl (lv_at hl 0 rfl) ?_
      refine gGet X K (o := 0) (k := 0) (v := .int (f 0)) (by decide) kS_o0 rfl inS_o0 (by decide) (tm1 (i := 82) rfl rfl) rfl dS_unit_21 ?_
      refine lv_bipush (v := (12 : Int32)) hx hb dS_unit_24 (by decide) ?_
      refine lv_icmp_lt (tgt := 39) hx hb dS_unit_26 (by decide) (fun hc => ?_) (fun hc => ?_)
      · replace hw := hw.1 hc
        refine lv_aload_n hx hb dS_unit_39 rfl (lv_at hl 0 rfl) ?_
        refine gGet X K (o := 0) (k := 1) (v := .ref (ad 2)) (by decide) kS_o0 rfl inS_o0 (by decide) (tm1 (i := 83) rfl rfl) rfl dS_unit_40 ?_
        refine lv_aload_n hx hb dS_unit_43 rfl (lv_at hl 0 rfl) ?_
        refine gGet X K (o := 0) (k := 0) (v := .int (f 0)) (by decide) kS_o0 rfl inS_o0 (by decide) (tm1 (i := 82) rfl rfl) rfl dS_unit_44 ?_
        refine lv_iload_n hx hb dS_unit_47 rfl (lv_at hl 1 rfl) ?_
        obtain ⟨hi, hw⟩ := hw
        refine gist X K (o := 2) (t0 := 0) (by decide) kS_c2 rfl hi dS_unit_48 kS_p2 (fun H locs K => ?_)
        refine lv_aload_n hx hb dS_unit_49 rfl (lv_at hl 0 rfl) ?_
        refine lv_dup hx hb dS_unit_50 rfl ?_
        refine gGet X K (o := 0) (k := 0) (v := .int (f 0)) (by decide) kS_o0 rfl inS_o0 (by decide) (tm1 (i := 82) rfl rfl) rfl dS_unit_51 ?_
        refine lv_iconst (v := (1 : Int32)) hx hb dS_unit_54 (by decide) ?_
        refine lv_iadd hx hb dS_unit_55 ?_
        refine gPut X K (o := 0) (k := 0) (v := .int ((f 0) + (1 : Int32))) (ty := .int) tS_o0 tS_o0_ok nS_o0 (by decide) kS_o0 rfl inS_o0 (by decide) (tm1 (i := 82) rfl rfl) rfl rfl rfl rfl (by simp [flS_o0]) dS_unit_56 kS_u0_0 (fun H locs K => ?_)
        refine lv_aload_n hx hb dS_unit_59 rfl (lv_at hl 0 rfl) ?_
        refine gGet X K (o := 0) (k := 0) (v := .int ((va_up f 0 ((f 0) + (1 : Int32))) 0)) (by decide) kS_o0 rfl inS_o0 (by decide) (tm1 (i := 82) rfl rfl) rfl dS_unit_60 ?_
        refine lv_iconst (v := (1 : Int32)) hx hb dS_unit_63 (by decide) ?_
        refine lv_isub hx hb dS_unit_64 ?_
        exact endI X K hr rfl hw (by decide) (by decide) dS_unit_65
      · replace hw := hw.2 hc
        exact throwX X K (k := 1) (names := ["java/lang/RuntimeException", "java/lang/Exception"]) hw (by decide +kernel) (by decide +kernel) rfl (tm1 (i := 213) rfl rfl) (tm1 (i := 9) rfl rfl) xg_S_81 xb_S_81 xo_S_81_77 hl.1 dS_unit_29 dS_unit_32 dS_unit_33 dS_unit_35 dS_unit_38 (by decide) (by decide) (by decide) (by decide) (by decide) (by decide)
    · replace hw := hw.2 hc
      exact LS_unit_10 X hr f a b hw _ _ K _ (lv_sub hl [] rfl)
set_option maxHeartbeats 4000000 in
set_option maxRecDepth 100000 in
theorem LS_checkRank_11 {p : Program} {l : Launch} {e : Env} {s : State} {m : MethodId} {below : List Frame} {meth : Method} {c : Code} {D : va_G} {sa : Nat → Nat} {ad : Nat → Nat} {ca : Nat → ClassId} {sz : Nat} {f0 : wF} {a0 : wA} {b0 : wB} {y0 : Int32} {po : wF → wA → wB → Prop} {px : String → wF → wA → wB → Prop} (X : cx Wl (tyS ca) txS D vwCl sa (va_A (ww nS kS ad ca f0 a0 b0) sz) p l s m ([.int y0] : List Value).toArray meth c cS_checkRank 1 "SendBest") (hr : meth.sig.returnType = none) : ∀ (f : wF) (a : wA) (b : wB), wp_S_checkRank_11 po px f a b → ∀ (H : Heap) (locs : List Loc), wd nS kS D vwCl ad ca (va_A (ww nS kS ad ca f0 a0 b0) sz) s H locs f a b → ∀ (ls : Array Slot), lv_has ls 1 [] → W p l e ({ frames := 6, cells := 1, slots := 6, locals := 82 }) s m ([.int y0] : List Value).toArray below meth c H locs 0 0 (vx_MQ below (va_Qv (fun (u : wF × wA × wB) => po u.1 u.2.1 u.2.2) (sPost nS kS D vwCl ad ca (va_A (ww nS kS ad ca f0 a0 b0) sz)) (va_A (ww nS kS ad ca f0 a0 b0) sz)) (sX nS kS D vwCl ad ca (va_A (ww nS kS ad ca f0 a0 b0) sz) px) ([.int y0] : List Value).toArray s 1 6 (va_A (ww nS kS ad ca f0 a0 b0) sz)) (F0 m 11 ls []) := by
  obtain ⟨hx, hb, hml, hown, hts, hK, hA, hth, hlk, hl9, hex⟩ := id X
  intro  f a b hw H locs K ls hl
  dsimp only [wp_S_checkRank_11] at hw
  exact throwX X K (k := 2) (names := ["java/lang/RuntimeException", "java/lang/Exception"]) hw (by decide +kernel) (by decide +kernel) rfl (tm1 (i := 144) rfl rfl) (tm1 (i := 8) rfl rfl) xg_S_71 xb_S_71 xo_S_71_67 hl.1 dS_checkRank_11 dS_checkRank_14 dS_checkRank_15 dS_checkRank_17 dS_checkRank_20 (by decide) (by decide) (by decide) (by decide) (by decide) (by decide)
set_option maxHeartbeats 4000000 in
set_option maxRecDepth 100000 in
theorem met_S_checkRank {l : Launch} (hl9 : l.stackTraces = false) (D : va_G) (ad : Nat → Nat) (ca : Nat → ClassId) (sa : Nat → Nat) (sz : Nat) (x0 : Int32) (f : wF) (a : wA) (b : wB) (po : wF → wA → wB → Prop) (px : String → wF → wA → wB → Prop) (hw : wp_S_checkRank po px x0 f a b) : mV nS kS (tyS ca) txS D vwCl l yS_checkRank (Cond.code yS_checkRank cS_checkRank 1 none :: Wl) ({ frames := 6, cells := 1, slots := 6, locals := 82 }) [.int x0] ad ca sa sz f a b po px 1 6 := by
  refine ofV (by decide) hl9 (Nat.le_of_ble_eq_true rfl) ?_
  intro p e s m below meth c ls X hr K hl
  obtain ⟨hx, hb, hml, hown, hts, hK, hA, hth, hlk, hl9, hex⟩ := id X
  have hl : lv_has ls 1 [(0, .int x0)] := hl
  dsimp only [wp_S_checkRank] at hw
  refine lv_iload_n hx hb dS_checkRank_0 rfl (lv_at hl 0 rfl) ?_
  refine lv_iconst (v := (1 : Int32)) hx hb dS_checkRank_1 (by decide) ?_
  refine lv_icmp_lt (tgt := 11) hx hb dS_checkRank_2 (by decide) (fun hc => ?_) (fun hc => ?_)
  · replace hw := hw.1 hc
    exact LS_checkRank_11 X hr f a b hw _ _ K _ (lv_sub hl [] rfl)
  · replace hw := hw.2 hc
    refine lv_iload_n hx hb dS_checkRank_5 rfl (lv_at hl 0 rfl) ?_
    refine lv_bipush (v := (9 : Int32)) hx hb dS_checkRank_6 (by decide) ?_
    refine lv_icmp_le (tgt := 21) hx hb dS_checkRank_8 (by decide) (fun hc => ?_) (fun hc => ?_)
    · replace hw := hw.1 hc
      exact endV X K hr hw (by decide) (by decide) dS_checkRank_21
    · replace hw := hw.2 hc
      exact LS_checkRank_11 X hr f a b hw _ _ K _ (lv_sub hl [] rfl)
set_option maxHeartbeats 4000000 in
set_option maxRecDepth 100000 in
theorem met_S_incident {l : Launch} (hl9 : l.stackTraces = false) (D : va_G) (ad : Nat → Nat) (ca : Nat → ClassId) (sa : Nat → Nat) (sz : Nat) (x1 : Int32) (f : wF) (a : wA) (b : wB) (po : Int32 → wF → wA → wB → Prop) (px : String → wF → wA → wB → Prop) (hw : wp_S_incident po px x1 f a b) : mI nS kS (tyS ca) txS D vwCl l yS_incident (Cond.code yS_incident cS_incident 2 (some .int) :: Wl) ({ frames := 7, cells := 2, slots := 12, locals := 102 }) [.ref (ad 0), .int x1] ad ca sa sz f a b po px 2 12 := by
  refine ofI (by decide) hl9 (Nat.le_of_ble_eq_true rfl) ?_
  intro p e s m below meth c ls X hr K hl
  obtain ⟨hx, hb, hml, hown, hts, hK, hA, hth, hlk, hl9, hex⟩ := id X
  have hl : lv_has ls 2 [(0, .ref (ad 0)), (1, .int x1)] := hl
  dsimp only [wp_S_incident] at hw
  refine lv_iload_n hx hb dS_incident_0 rfl (lv_at hl 1 rfl) ?_
  refine gcSV X K (n0 := 1) (As := [.int x1]) (rest := []) (hM := (met_S_checkRank hl9 D ad ca sa _ x1 f a b _ _ hw)) (hg := wl_good) (w1 := (tm1 (i := 236) rfl rfl)) (w2 := (tm1 (i := 237) rfl rfl)) (w4 := (tm1 (i := 1) rfl rfl)) (w5 := (tm1 (i := 238) rfl rfl)) (hd := ⟨by decide, by decide, by decide +kernel⟩) (hrc := rfl) (hrs := rfl) (hR := ⟨Nat.le_of_ble_eq_true rfl, Nat.le_of_ble_eq_true rfl⟩) (hn := rfl) (hsz := hl.1) (hst := rfl) (hW := Nat.le_of_ble_eq_true rfl) (hdg := dS_incident_1) (hf := ⟨Nat.le_of_ble_eq_true rfl, Nat.le_of_ble_eq_true rfl⟩) (fun E ce q9 f1 a1 b1 H1 locs1 hw K hce hv hcl => outX X K hw hce hv hcl (by decide) (by decide)) (fun f1 a1 b1 H locs hw K => ?_)
  refine lv_aload_n hx hb dS_incident_4 rfl (lv_at hl 0 rfl) ?_
  refine gGet X K (o := 0) (k := 6) (v := .int (f1 1)) (by decide) kS_o0 rfl inS_o0 (by decide) (tm1 (i := 88) rfl rfl) rfl dS_incident_5 ?_
  refine lv_bipush (v := (6 : Int32)) hx hb dS_incident_8 (by decide) ?_
  refine lv_icmp_lt (tgt := 23) hx hb dS_incident_10 (by decide) (fun hc => ?_) (fun hc => ?_)
  · replace hw := hw.1 hc
    refine lv_aload_n hx hb dS_incident_23 rfl (lv_at hl 0 rfl) ?_
    refine gGet X K (o := 0) (k := 7) (v := .ref (ad 7)) (by decide) kS_o0 rfl inS_o0 (by decide) (tm1 (i := 89) rfl rfl) rfl dS_incident_24 ?_
    refine lv_aload_n hx hb dS_incident_27 rfl (lv_at hl 0 rfl) ?_
    refine gGet X K (o := 0) (k := 6) (v := .int (f1 1)) (by decide) kS_o0 rfl inS_o0 (by decide) (tm1 (i := 88) rfl rfl) rfl dS_incident_28 ?_
    refine lv_iload_n hx hb dS_incident_31 rfl (lv_at hl 1 rfl) ?_
    obtain ⟨hi, hw⟩ := hw
    refine gist X K (o := 7) (t0 := 0) (by decide) kS_c7 rfl hi dS_incident_32 kS_p7 (fun H locs K => ?_)
    refine lv_aload_n hx hb dS_incident_33 rfl (lv_at hl 0 rfl) ?_
    refine gGet X K (o := 0) (k := 8) (v := .ref (ad 8)) (by decide) kS_o0 rfl inS_o0 (by decide) (tm1 (i := 90) rfl rfl) rfl dS_incident_34 ?_
    refine lv_aload_n hx hb dS_incident_37 rfl (lv_at hl 0 rfl) ?_
    refine gGet X K (o := 0) (k := 6) (v := .int (f1 1)) (by decide) kS_o0 rfl inS_o0 (by decide) (tm1 (i := 88) rfl rfl) rfl dS_incident_38 ?_
    refine lv_iconst (v := (1 : Int32)) hx hb dS_incident_41 (by decide) ?_
    obtain ⟨hi, hw⟩ := hw
    refine gzst X K (o := 8) (t0 := 1) (by decide) kS_c8 rfl hi dS_incident_42 kS_p8 (fun H locs K => ?_)
    refine lv_aload_n hx hb dS_incident_43 rfl (lv_at hl 0 rfl) ?_
    refine lv_dup hx hb dS_incident_44 rfl ?_
    refine gGet X K (o := 0) (k := 6) (v := .int (f1 1)) (by decide) kS_o0 rfl inS_o0 (by decide) (tm1 (i := 88) rfl rfl) rfl dS_incident_45 ?_
    refine lv_iconst (v := (1 : Int32)) hx hb dS_incident_48 (by decide) ?_
    refine lv_iadd hx hb dS_incident_49 ?_
    refine gPut X K (o := 0) (k := 6) (v := .int ((f1 1) + (1 : Int32))) (ty := .int) tS_o0 tS_o0_ok nS_o0 (by decide) kS_o0 rfl inS_o0 (by decide) (tm1 (i := 88) rfl rfl) rfl rfl rfl rfl (by simp [flS_o0]) dS_incident_50 kS_u0_6 (fun H locs K => ?_)
    refine lv_aload_n hx hb dS_incident_53 rfl (lv_at hl 0 rfl) ?_
    refine gGet X K (o := 0) (k := 6) (v := .int ((va_up f1 1 ((f1 1) + (1 : Int32))) 1)) (by decide) kS_o0 rfl inS_o0 (by decide) (tm1 (i := 88) rfl rfl) rfl dS_incident_54 ?_
    refine lv_iconst (v := (1 : Int32)) hx hb dS_incident_57 (by decide) ?_
    refine lv_isub hx hb dS_incident_58 ?_
    exact endI X K hr rfl hw (by decide) (by decide) dS_incident_59
  · replace hw := hw.2 hc
    exact throwX X K (k := 3) (names := ["java/lang/RuntimeException", "java/lang/Exception"]) hw (by decide +kernel) (by decide +kernel) rfl (tm1 (i := 213) rfl rfl) (tm1 (i := 9) rfl rfl) xg_S_81 xb_S_81 xo_S_81_77 hl.1 dS_incident_13 dS_incident_16 dS_incident_17 dS_incident_19 dS_incident_22 (by decide) (by decide) (by decide) (by decide) (by decide) (by decide)
set_option maxHeartbeats 4000000 in
set_option maxRecDepth 100000 in
theorem LS_checkIncident_12 {p : Program} {l : Launch} {e : Env} {s : State} {m : MethodId} {below : List Frame} {meth : Method} {c : Code} {D : va_G} {sa : Nat → Nat} {ad : Nat → Nat} {ca : Nat → ClassId} {sz : Nat} {f0 : wF} {a0 : wA} {b0 : wB} {y1 : Int32} {po : wF → wA → wB → Prop} {px : String → wF → wA → wB → Prop} (X : cx Wl (tyS ca) txS D vwCl sa (va_A (ww nS kS ad ca f0 a0 b0) sz) p l s m ([.ref (ad 0), .int y1] : List Value).toArray meth c cS_checkIncident 2 "SendBest") (hr : meth.sig.returnType = none) : ∀ (f : wF) (a : wA) (b : wB), wp_S_checkIncident_12 po px f a b → ∀ (H : Heap) (locs : List Loc), wd nS kS D vwCl ad ca (va_A (ww nS kS ad ca f0 a0 b0) sz) s H locs f a b → ∀ (ls : Array Slot), lv_has ls 2 [] → W p l e ({ frames := 6, cells := 1, slots := 6, locals := 82 }) s m ([.ref (ad 0), .int y1] : List Value).toArray below meth c H locs 0 0 (vx_MQ below (va_Qv (fun (u : wF × wA × wB) => po u.1 u.2.1 u.2.2) (sPost nS kS D vwCl ad ca (va_A (ww nS kS ad ca f0 a0 b0) sz)) (va_A (ww nS kS ad ca f0 a0 b0) sz)) (sX nS kS D vwCl ad ca (va_A (ww nS kS ad ca f0 a0 b0) sz) px) ([.ref (ad 0), .int y1] : List Value).toArray s 1 6 (va_A (ww nS kS ad ca f0 a0 b0) sz)) (F0 m 12 ls []) := by
  obtain ⟨hx, hb, hml, hown, hts, hK, hA, hth, hlk, hl9, hex⟩ := id X
  intro  f a b hw H locs K ls hl
  dsimp only [wp_S_checkIncident_12] at hw
  exact throwX X K (k := 4) (names := ["java/lang/RuntimeException", "java/lang/Exception"]) hw (by decide +kernel) (by decide +kernel) rfl (tm2 (i := 14) rfl rfl) (tm1 (i := 10) rfl rfl) xg_S_168 xb_S_168 xo_S_168_164 hl.1 dS_checkIncident_12 dS_checkIncident_15 dS_checkIncident_16 dS_checkIncident_18 dS_checkIncident_21 (by decide) (by decide) (by decide) (by decide) (by decide) (by decide)
set_option maxHeartbeats 4000000 in
set_option maxRecDepth 100000 in
theorem met_S_checkIncident {l : Launch} (hl9 : l.stackTraces = false) (D : va_G) (ad : Nat → Nat) (ca : Nat → ClassId) (sa : Nat → Nat) (sz : Nat) (x1 : Int32) (f : wF) (a : wA) (b : wB) (po : wF → wA → wB → Prop) (px : String → wF → wA → wB → Prop) (hw : wp_S_checkIncident po px x1 f a b) : mV nS kS (tyS ca) txS D vwCl l yS_checkIncident (Cond.code yS_checkIncident cS_checkIncident 2 none :: Wl) ({ frames := 6, cells := 1, slots := 6, locals := 82 }) [.ref (ad 0), .int x1] ad ca sa sz f a b po px 1 6 := by
  refine ofV (by decide) hl9 (Nat.le_of_ble_eq_true rfl) ?_
  intro p e s m below meth c ls X hr K hl
  obtain ⟨hx, hb, hml, hown, hts, hK, hA, hth, hlk, hl9, hex⟩ := id X
  have hl : lv_has ls 2 [(0, .ref (ad 0)), (1, .int x1)] := hl
  dsimp only [wp_S_checkIncident] at hw
  refine lv_iload_n hx hb dS_checkIncident_0 rfl (lv_at hl 1 rfl) ?_
  refine lv_if_lt (tgt := 12) hx hb dS_checkIncident_1 (by decide) (fun hc => ?_) (fun hc => ?_)
  · replace hw := hw.1 hc
    exact LS_checkIncident_12 X hr f a b hw _ _ K _ (lv_sub hl [] rfl)
  · replace hw := hw.2 hc
    refine lv_iload_n hx hb dS_checkIncident_4 rfl (lv_at hl 1 rfl) ?_
    refine lv_aload_n hx hb dS_checkIncident_5 rfl (lv_at hl 0 rfl) ?_
    refine gGet X K (o := 0) (k := 6) (v := .int (f 1)) (by decide) kS_o0 rfl inS_o0 (by decide) (tm1 (i := 88) rfl rfl) rfl dS_checkIncident_6 ?_
    refine lv_icmp_lt (tgt := 22) hx hb dS_checkIncident_9 (by decide) (fun hc => ?_) (fun hc => ?_)
    · replace hw := hw.1 hc
      exact endV X K hr hw (by decide) (by decide) dS_checkIncident_22
    · replace hw := hw.2 hc
      exact LS_checkIncident_12 X hr f a b hw _ _ K _ (lv_sub hl [] rfl)
set_option maxHeartbeats 4000000 in
set_option maxRecDepth 100000 in
theorem met_S_checkOpen {l : Launch} (hl9 : l.stackTraces = false) (D : va_G) (ad : Nat → Nat) (ca : Nat → ClassId) (sa : Nat → Nat) (sz : Nat) (x1 : Int32) (f : wF) (a : wA) (b : wB) (po : wF → wA → wB → Prop) (px : String → wF → wA → wB → Prop) (hw : wp_S_checkOpen po px x1 f a b) : mV nS kS (tyS ca) txS D vwCl l yS_checkOpen (Cond.code yS_checkOpen cS_checkOpen 2 none :: Wl) ({ frames := 6, cells := 1, slots := 6, locals := 82 }) [.ref (ad 0), .int x1] ad ca sa sz f a b po px 1 6 := by
  refine ofV (by decide) hl9 (Nat.le_of_ble_eq_true rfl) ?_
  intro p e s m below meth c ls X hr K hl
  obtain ⟨hx, hb, hml, hown, hts, hK, hA, hth, hlk, hl9, hex⟩ := id X
  have hl : lv_has ls 2 [(0, .ref (ad 0)), (1, .int x1)] := hl
  dsimp only [wp_S_checkOpen] at hw
  refine lv_aload_n hx hb dS_checkOpen_0 rfl (lv_at hl 0 rfl) ?_
  refine gGet X K (o := 0) (k := 8) (v := .ref (ad 8)) (by decide) kS_o0 rfl inS_o0 (by decide) (tm1 (i := 90) rfl rfl) rfl dS_checkOpen_1 ?_
  refine lv_iload_n hx hb dS_checkOpen_4 rfl (lv_at hl 1 rfl) ?_
  obtain ⟨hi, hw⟩ := hw
  refine gzld X K (o := 8) (t0 := 1) (by decide) kS_c8 rfl hi dS_checkOpen_5 ?_
  refine lv_if_ne (tgt := 19) hx hb dS_checkOpen_6 (by decide) (fun hc => ?_) (fun hc => ?_)
  · replace hw := hw.1 hc
    exact endV X K hr hw (by decide) (by decide) dS_checkOpen_19
  · replace hw := hw.2 hc
    exact throwX X K (k := 5) (names := ["java/lang/RuntimeException", "java/lang/Exception"]) hw (by decide +kernel) (by decide +kernel) rfl (tm2 (i := 34) rfl rfl) (tm1 (i := 11) rfl rfl) xg_S_121 xb_S_121 xo_S_121_117 hl.1 dS_checkOpen_9 dS_checkOpen_12 dS_checkOpen_13 dS_checkOpen_15 dS_checkOpen_18 (by decide) (by decide) (by decide) (by decide) (by decide) (by decide)
set_option maxHeartbeats 4000000 in
set_option maxRecDepth 100000 in
theorem met_S_rank {l : Launch} (hl9 : l.stackTraces = false) (D : va_G) (ad : Nat → Nat) (ca : Nat → ClassId) (sa : Nat → Nat) (sz : Nat) (x1 : Int32) (x2 : Int32) (f : wF) (a : wA) (b : wB) (po : wF → wA → wB → Prop) (px : String → wF → wA → wB → Prop) (hw : wp_S_rank po px x1 x2 f a b) : mV nS kS (tyS ca) txS D vwCl l yS_rank (Cond.code yS_rank cS_rank 3 none :: Wl) ({ frames := 7, cells := 3, slots := 18, locals := 103 }) [.ref (ad 0), .int x1, .int x2] ad ca sa sz f a b po px 3 18 := by
  refine ofV (by decide) hl9 (Nat.le_of_ble_eq_true rfl) ?_
  intro p e s m below meth c ls X hr K hl
  obtain ⟨hx, hb, hml, hown, hts, hK, hA, hth, hlk, hl9, hex⟩ := id X
  have hl : lv_has ls 3 [(0, .ref (ad 0)), (1, .int x1), (2, .int x2)] := hl
  dsimp only [wp_S_rank] at hw
  refine lv_aload_n hx hb dS_rank_0 rfl (lv_at hl 0 rfl) ?_
  refine lv_iload_n hx hb dS_rank_1 rfl (lv_at hl 1 rfl) ?_
  refine gcV X K (n0 := 1) (As := [.int x1]) (rest := []) (hM := (met_S_checkIncident hl9 D ad ca sa _ x1 f a b _ _ hw)) (o := 0) (ho := by decide) (hko := kS_o0) (hci := rfl) (hg := wl_good) (w1 := (tm2 (i := 10) rfl rfl)) (w2 := (tm2 (i := 12) rfl rfl)) (w3 := (tm0 (i := 1) rfl rfl)) (w4 := (tm1 (i := 1) rfl rfl)) (w5 := (tm2 (i := 13) rfl rfl)) (hd := ⟨rfl, by decide, by decide, by decide +kernel⟩) (hrc := rfl) (hrs := rfl) (hR := ⟨Nat.le_of_ble_eq_true rfl, Nat.le_of_ble_eq_true rfl⟩) (hn := rfl) (hsz := hl.1) (hst := rfl) (hW := Nat.le_of_ble_eq_true rfl) (hdg := dS_rank_2) (hf := ⟨Nat.le_of_ble_eq_true rfl, Nat.le_of_ble_eq_true rfl⟩) (fun E ce q9 f1 a1 b1 H1 locs1 hw K hce hv hcl => outX X K hw hce hv hcl (by decide) (by decide)) (fun f2 a2 b2 H locs hw K => ?_)
  refine lv_iload_n hx hb dS_rank_5 rfl (lv_at hl 2 rfl) ?_
  refine gcSV X K (n0 := 1) (As := [.int x2]) (rest := []) (hM := (met_S_checkRank hl9 D ad ca sa _ x2 f2 a2 b2 _ _ hw)) (hg := wl_good) (w1 := (tm1 (i := 236) rfl rfl)) (w2 := (tm1 (i := 237) rfl rfl)) (w4 := (tm1 (i := 1) rfl rfl)) (w5 := (tm1 (i := 238) rfl rfl)) (hd := ⟨by decide, by decide, by decide +kernel⟩) (hrc := rfl) (hrs := rfl) (hR := ⟨Nat.le_of_ble_eq_true rfl, Nat.le_of_ble_eq_true rfl⟩) (hn := rfl) (hsz := hl.1) (hst := rfl) (hW := Nat.le_of_ble_eq_true rfl) (hdg := dS_rank_6) (hf := ⟨Nat.le_of_ble_eq_true rfl, Nat.le_of_ble_eq_true rfl⟩) (fun E ce q9 f1 a1 b1 H1 locs1 hw K hce hv hcl => outX X K hw hce hv hcl (by decide) (by decide)) (fun f6 a6 b6 H locs hw K => ?_)
  refine lv_aload_n hx hb dS_rank_9 rfl (lv_at hl 0 rfl) ?_
  refine lv_iload_n hx hb dS_rank_10 rfl (lv_at hl 1 rfl) ?_
  refine gcV X K (n0 := 1) (As := [.int x1]) (rest := []) (hM := (met_S_checkOpen hl9 D ad ca sa _ x1 f6 a6 b6 _ _ hw)) (o := 0) (ho := by decide) (hko := kS_o0) (hci := rfl) (hg := wl_good) (w1 := (tm2 (i := 30) rfl rfl)) (w2 := (tm2 (i := 32) rfl rfl)) (w3 := (tm0 (i := 2) rfl rfl)) (w4 := (tm1 (i := 1) rfl rfl)) (w5 := (tm2 (i := 33) rfl rfl)) (hd := ⟨rfl, by decide, by decide, by decide +kernel⟩) (hrc := rfl) (hrs := rfl) (hR := ⟨Nat.le_of_ble_eq_true rfl, Nat.le_of_ble_eq_true rfl⟩) (hn := rfl) (hsz := hl.1) (hst := rfl) (hW := Nat.le_of_ble_eq_true rfl) (hdg := dS_rank_11) (hf := ⟨Nat.le_of_ble_eq_true rfl, Nat.le_of_ble_eq_true rfl⟩) (fun E ce q9 f1 a1 b1 H1 locs1 hw K hce hv hcl => outX X K hw hce hv hcl (by decide) (by decide)) (fun f11 a11 b11 H locs hw K => ?_)
  refine lv_aload_n hx hb dS_rank_14 rfl (lv_at hl 0 rfl) ?_
  refine gGet X K (o := 0) (k := 7) (v := .ref (ad 7)) (by decide) kS_o0 rfl inS_o0 (by decide) (tm1 (i := 89) rfl rfl) rfl dS_rank_15 ?_
  refine lv_iload_n hx hb dS_rank_18 rfl (lv_at hl 1 rfl) ?_
  refine lv_iload_n hx hb dS_rank_19 rfl (lv_at hl 2 rfl) ?_
  obtain ⟨hi, hw⟩ := hw
  refine gist X K (o := 7) (t0 := 0) (by decide) kS_c7 rfl hi dS_rank_20 kS_p7 (fun H locs K => ?_)
  exact endV X K hr hw (by decide) (by decide) dS_rank_21
set_option maxHeartbeats 4000000 in
set_option maxRecDepth 100000 in
theorem LS_checkSkill_10 {p : Program} {l : Launch} {e : Env} {s : State} {m : MethodId} {below : List Frame} {meth : Method} {c : Code} {D : va_G} {sa : Nat → Nat} {ad : Nat → Nat} {ca : Nat → ClassId} {sz : Nat} {f0 : wF} {a0 : wA} {b0 : wB} {y0 : Int32} {po : wF → wA → wB → Prop} {px : String → wF → wA → wB → Prop} (X : cx Wl (tyS ca) txS D vwCl sa (va_A (ww nS kS ad ca f0 a0 b0) sz) p l s m ([.int y0] : List Value).toArray meth c cS_checkSkill 1 "SendBest") (hr : meth.sig.returnType = none) : ∀ (f : wF) (a : wA) (b : wB), wp_S_checkSkill_10 po px f a b → ∀ (H : Heap) (locs : List Loc), wd nS kS D vwCl ad ca (va_A (ww nS kS ad ca f0 a0 b0) sz) s H locs f a b → ∀ (ls : Array Slot), lv_has ls 1 [] → W p l e ({ frames := 6, cells := 1, slots := 6, locals := 82 }) s m ([.int y0] : List Value).toArray below meth c H locs 0 0 (vx_MQ below (va_Qv (fun (u : wF × wA × wB) => po u.1 u.2.1 u.2.2) (sPost nS kS D vwCl ad ca (va_A (ww nS kS ad ca f0 a0 b0) sz)) (va_A (ww nS kS ad ca f0 a0 b0) sz)) (sX nS kS D vwCl ad ca (va_A (ww nS kS ad ca f0 a0 b0) sz) px) ([.int y0] : List Value).toArray s 1 6 (va_A (ww nS kS ad ca f0 a0 b0) sz)) (F0 m 10 ls []) := by
  obtain ⟨hx, hb, hml, hown, hts, hK, hA, hth, hlk, hl9, hex⟩ := id X
  intro  f a b hw H locs K ls hl
  dsimp only [wp_S_checkSkill_10] at hw
  exact throwX X K (k := 6) (names := ["java/lang/RuntimeException", "java/lang/Exception"]) hw (by decide +kernel) (by decide +kernel) rfl (tm2 (i := 14) rfl rfl) (tm1 (i := 10) rfl rfl) xg_S_168 xb_S_168 xo_S_168_164 hl.1 dS_checkSkill_10 dS_checkSkill_13 dS_checkSkill_14 dS_checkSkill_16 dS_checkSkill_19 (by decide) (by decide) (by decide) (by decide) (by decide) (by decide)
set_option maxHeartbeats 4000000 in
set_option maxRecDepth 100000 in
theorem met_S_checkSkill {l : Launch} (hl9 : l.stackTraces = false) (D : va_G) (ad : Nat → Nat) (ca : Nat → ClassId) (sa : Nat → Nat) (sz : Nat) (x0 : Int32) (f : wF) (a : wA) (b : wB) (po : wF → wA → wB → Prop) (px : String → wF → wA → wB → Prop) (hw : wp_S_checkSkill po px x0 f a b) : mV nS kS (tyS ca) txS D vwCl l yS_checkSkill (Cond.code yS_checkSkill cS_checkSkill 1 none :: Wl) ({ frames := 6, cells := 1, slots := 6, locals := 82 }) [.int x0] ad ca sa sz f a b po px 1 6 := by
  refine ofV (by decide) hl9 (Nat.le_of_ble_eq_true rfl) ?_
  intro p e s m below meth c ls X hr K hl
  obtain ⟨hx, hb, hml, hown, hts, hK, hA, hth, hlk, hl9, hex⟩ := id X
  have hl : lv_has ls 1 [(0, .int x0)] := hl
  dsimp only [wp_S_checkSkill] at hw
  refine lv_iload_n hx hb dS_checkSkill_0 rfl (lv_at hl 0 rfl) ?_
  refine lv_if_lt (tgt := 10) hx hb dS_checkSkill_1 (by decide) (fun hc => ?_) (fun hc => ?_)
  · replace hw := hw.1 hc
    exact LS_checkSkill_10 X hr f a b hw _ _ K _ (lv_sub hl [] rfl)
  · replace hw := hw.2 hc
    refine lv_iload_n hx hb dS_checkSkill_4 rfl (lv_at hl 0 rfl) ?_
    refine lv_bipush (v := (16 : Int32)) hx hb dS_checkSkill_5 (by decide) ?_
    refine lv_icmp_lt (tgt := 20) hx hb dS_checkSkill_7 (by decide) (fun hc => ?_) (fun hc => ?_)
    · replace hw := hw.1 hc
      exact endV X K hr hw (by decide) (by decide) dS_checkSkill_20
    · replace hw := hw.2 hc
      exact LS_checkSkill_10 X hr f a b hw _ _ K _ (lv_sub hl [] rfl)
set_option maxHeartbeats 4000000 in
set_option maxRecDepth 100000 in
theorem LS_need_58 {p : Program} {l : Launch} {e : Env} {s : State} {m : MethodId} {below : List Frame} {meth : Method} {c : Code} {D : va_G} {sa : Nat → Nat} {ad : Nat → Nat} {ca : Nat → ClassId} {sz : Nat} {f0 : wF} {a0 : wA} {b0 : wB} {y1 : Int32} {y2 : Int32} {y3 : Int32} {po : Int32 → wF → wA → wB → Prop} {px : String → wF → wA → wB → Prop} (X : cx Wl (tyS ca) txS D vwCl sa (va_A (ww nS kS ad ca f0 a0 b0) sz) p l s m ([.ref (ad 0), .int y1, .int y2, .int y3] : List Value).toArray meth c cS_need 5 "SendBest") (hr : meth.sig.returnType = (some .int)) : ∀ n : Nat, ∀ (x1 : Int32) (x2 : Int32) (x3 : Int32) (x4 : Int32) (f : wF) (a : wA) (b : wB), wp_S_need_58 po px n x1 x2 x3 x4 f a b → ∀ (H : Heap) (locs : List Loc), wd nS kS D vwCl ad ca (va_A (ww nS kS ad ca f0 a0 b0) sz) s H locs f a b → ∀ (ls : Array Slot), lv_has ls 5 [(0, .ref (ad 0)), (1, .int x1), (2, .int x2), (3, .int x3), (4, .int x4)] → W p l e ({ frames := 7, cells := 4, slots := 24, locals := 103 }) s m ([.ref (ad 0), .int y1, .int y2, .int y3] : List Value).toArray below meth c H locs 3 18 (vx_MQ below (va_Qi (fun r (u : wF × wA × wB) => po r u.1 u.2.1 u.2.2) (sPost nS kS D vwCl ad ca (va_A (ww nS kS ad ca f0 a0 b0) sz)) (va_A (ww nS kS ad ca f0 a0 b0) sz)) (sX nS kS D vwCl ad ca (va_A (ww nS kS ad ca f0 a0 b0) sz) px) ([.ref (ad 0), .int y1, .int y2, .int y3] : List Value).toArray s 4 24 (va_A (ww nS kS ad ca f0 a0 b0) sz)) (F0 m 58 ls []) := by
  obtain ⟨hx, hb, hml, hown, hts, hK, hA, hth, hlk, hl9, hex⟩ := id X
  intro n
  induction n with
  | zero => intro x1 x2 x3 x4 f a b hw; exact hw.elim
  | succ n ih =>
    intro x1 x2 x3 x4 f a b hw H locs K ls hl
    dsimp only [wp_S_need_58] at hw
    refine lv_iload hx hb dS_need_58 (lv_at hl 4 rfl) ?_
    refine lv_iload_n hx hb dS_need_60 rfl (lv_at hl 3 rfl) ?_
    refine lv_icmp_ge (tgt := 100) hx hb dS_need_61 (by decide) (fun hc => ?_) (fun hc => ?_)
    · replace hw := hw.1 hc
      refine lv_aload_n hx hb dS_need_100 rfl (lv_at hl 0 rfl) ?_
      refine gGet X K (o := 0) (k := 9) (v := .int (f 2)) (by decide) kS_o0 rfl inS_o0 (by decide) (tm1 (i := 91) rfl rfl) rfl dS_need_101 ?_
      exact endI X K hr rfl hw (by decide) (by decide) dS_need_104
    · replace hw := hw.2 hc
      refine lv_aload_n hx hb dS_need_64 rfl (lv_at hl 0 rfl) ?_
      refine gGet X K (o := 0) (k := 10) (v := .ref (ad 9)) (by decide) kS_o0 rfl inS_o0 (by decide) (tm1 (i := 92) rfl rfl) rfl dS_need_65 ?_
      refine lv_aload_n hx hb dS_need_68 rfl (lv_at hl 0 rfl) ?_
      refine gGet X K (o := 0) (k := 9) (v := .int (f 2)) (by decide) kS_o0 rfl inS_o0 (by decide) (tm1 (i := 91) rfl rfl) rfl dS_need_69 ?_
      refine lv_iload_n hx hb dS_need_72 rfl (lv_at hl 1 rfl) ?_
      obtain ⟨hi, hw⟩ := hw
      refine gist X K (o := 9) (t0 := 0) (by decide) kS_c9 rfl hi dS_need_73 kS_p9 (fun H locs K => ?_)
      refine lv_aload_n hx hb dS_need_74 rfl (lv_at hl 0 rfl) ?_
      refine gGet X K (o := 0) (k := 11) (v := .ref (ad 10)) (by decide) kS_o0 rfl inS_o0 (by decide) (tm1 (i := 93) rfl rfl) rfl dS_need_75 ?_
      refine lv_aload_n hx hb dS_need_78 rfl (lv_at hl 0 rfl) ?_
      refine gGet X K (o := 0) (k := 9) (v := .int (f 2)) (by decide) kS_o0 rfl inS_o0 (by decide) (tm1 (i := 91) rfl rfl) rfl dS_need_79 ?_
      refine lv_iload_n hx hb dS_need_82 rfl (lv_at hl 2 rfl) ?_
      obtain ⟨hi, hw⟩ := hw
      refine gist X K (o := 10) (t0 := 0) (by decide) kS_c10 rfl hi dS_need_83 kS_p10 (fun H locs K => ?_)
      refine lv_aload_n hx hb dS_need_84 rfl (lv_at hl 0 rfl) ?_
      refine lv_dup hx hb dS_need_85 rfl ?_
      refine gGet X K (o := 0) (k := 9) (v := .int (f 2)) (by decide) kS_o0 rfl inS_o0 (by decide) (tm1 (i := 91) rfl rfl) rfl dS_need_86 ?_
      refine lv_iconst (v := (1 : Int32)) hx hb dS_need_89 (by decide) ?_
      refine lv_iadd hx hb dS_need_90 ?_
      refine gPut X K (o := 0) (k := 9) (v := .int ((f 2) + (1 : Int32))) (ty := .int) tS_o0 tS_o0_ok nS_o0 (by decide) kS_o0 rfl inS_o0 (by decide) (tm1 (i := 91) rfl rfl) rfl rfl rfl rfl (by simp [flS_o0]) dS_need_91 kS_u0_9 (fun H locs K => ?_)
      refine lv_iinc (v := (x4 + (1 : Int32))) (lv' := [(4, .int (x4 + (1 : Int32))), (0, .ref (ad 0)), (1, .int x1), (2, .int x2), (3, .int x3)]) hx hb dS_need_94 hl (k := 4) rfl rfl (by decide) rfl (fun ls hl => ?_)
      refine lv_goto (tgt := 58) hx hb dS_need_97 (by decide) ?_
      exact ih x1 x2 x3 (x4 + (1 : Int32)) (va_up f 2 ((f 2) + (1 : Int32))) (va_up (va_up a 9 (upd (a 9) (f 2).toNatClampNeg x1)) 10 (upd ((va_up a 9 (upd (a 9) (f 2).toNatClampNeg x1)) 10) (f 2).toNatClampNeg x2)) b hw _ _ K _ (lv_sub hl [1, 2, 3, 4, 0] rfl)
set_option maxHeartbeats 4000000 in
set_option maxRecDepth 100000 in
theorem LS_need_19 {p : Program} {l : Launch} {e : Env} {s : State} {m : MethodId} {below : List Frame} {meth : Method} {c : Code} {D : va_G} {sa : Nat → Nat} {ad : Nat → Nat} {ca : Nat → ClassId} {sz : Nat} {f0 : wF} {a0 : wA} {b0 : wB} {y1 : Int32} {y2 : Int32} {y3 : Int32} {po : Int32 → wF → wA → wB → Prop} {px : String → wF → wA → wB → Prop} (X : cx Wl (tyS ca) txS D vwCl sa (va_A (ww nS kS ad ca f0 a0 b0) sz) p l s m ([.ref (ad 0), .int y1, .int y2, .int y3] : List Value).toArray meth c cS_need 5 "SendBest") (hr : meth.sig.returnType = (some .int)) : ∀ (f : wF) (a : wA) (b : wB), wp_S_need_19 po px f a b → ∀ (H : Heap) (locs : List Loc), wd nS kS D vwCl ad ca (va_A (ww nS kS ad ca f0 a0 b0) sz) s H locs f a b → ∀ (ls : Array Slot), lv_has ls 5 [] → W p l e ({ frames := 7, cells := 4, slots := 24, locals := 103 }) s m ([.ref (ad 0), .int y1, .int y2, .int y3] : List Value).toArray below meth c H locs 2 12 (vx_MQ below (va_Qi (fun r (u : wF × wA × wB) => po r u.1 u.2.1 u.2.2) (sPost nS kS D vwCl ad ca (va_A (ww nS kS ad ca f0 a0 b0) sz)) (va_A (ww nS kS ad ca f0 a0 b0) sz)) (sX nS kS D vwCl ad ca (va_A (ww nS kS ad ca f0 a0 b0) sz) px) ([.ref (ad 0), .int y1, .int y2, .int y3] : List Value).toArray s 4 24 (va_A (ww nS kS ad ca f0 a0 b0) sz)) (F0 m 19 ls []) := by
  obtain ⟨hx, hb, hml, hown, hts, hK, hA, hth, hlk, hl9, hex⟩ := id X
  intro  f a b hw H locs K ls hl
  dsimp only [wp_S_need_19] at hw
  exact throwX X K (k := 7) (names := ["java/lang/RuntimeException", "java/lang/Exception"]) hw (by decide +kernel) (by decide +kernel) rfl (tm1 (i := 144) rfl rfl) (tm1 (i := 8) rfl rfl) xg_S_71 xb_S_71 xo_S_71_67 hl.1 dS_need_19 dS_need_22 dS_need_23 dS_need_25 dS_need_28 (by decide) (by decide) (by decide) (by decide) (by decide) (by decide)
set_option maxHeartbeats 4000000 in
set_option maxRecDepth 100000 in
theorem met_S_need {l : Launch} (hl9 : l.stackTraces = false) (D : va_G) (ad : Nat → Nat) (ca : Nat → ClassId) (sa : Nat → Nat) (sz : Nat) (x1 : Int32) (x2 : Int32) (x3 : Int32) (f : wF) (a : wA) (b : wB) (po : Int32 → wF → wA → wB → Prop) (px : String → wF → wA → wB → Prop) (hw : wp_S_need po px x1 x2 x3 f a b) : mI nS kS (tyS ca) txS D vwCl l yS_need (Cond.code yS_need cS_need 5 (some .int) :: Wl) ({ frames := 7, cells := 4, slots := 24, locals := 103 }) [.ref (ad 0), .int x1, .int x2, .int x3] ad ca sa sz f a b po px 4 24 := by
  refine ofI (by decide) hl9 (Nat.le_of_ble_eq_true rfl) ?_
  intro p e s m below meth c ls X hr K hl
  obtain ⟨hx, hb, hml, hown, hts, hK, hA, hth, hlk, hl9, hex⟩ := id X
  have hl : lv_has ls 5 [(0, .ref (ad 0)), (1, .int x1), (2, .int x2), (3, .int x3)] := hl
  dsimp only [wp_S_need] at hw
  refine lv_aload_n hx hb dS_need_0 rfl (lv_at hl 0 rfl) ?_
  refine lv_iload_n hx hb dS_need_1 rfl (lv_at hl 1 rfl) ?_
  refine gcV X K (n0 := 1) (As := [.int x1]) (rest := []) (hM := (met_S_checkIncident hl9 D ad ca sa _ x1 f a b _ _ hw)) (o := 0) (ho := by decide) (hko := kS_o0) (hci := rfl) (hg := wl_good) (w1 := (tm2 (i := 10) rfl rfl)) (w2 := (tm2 (i := 12) rfl rfl)) (w3 := (tm0 (i := 1) rfl rfl)) (w4 := (tm1 (i := 1) rfl rfl)) (w5 := (tm2 (i := 13) rfl rfl)) (hd := ⟨rfl, by decide, by decide, by decide +kernel⟩) (hrc := rfl) (hrs := rfl) (hR := ⟨Nat.le_of_ble_eq_true rfl, Nat.le_of_ble_eq_true rfl⟩) (hn := rfl) (hsz := hl.1) (hst := rfl) (hW := Nat.le_of_ble_eq_true rfl) (hdg := dS_need_2) (hf := ⟨Nat.le_of_ble_eq_true rfl, Nat.le_of_ble_eq_true rfl⟩) (fun E ce q9 f1 a1 b1 H1 locs1 hw K hce hv hcl => outX X K hw hce hv hcl (by decide) (by decide)) (fun f2 a2 b2 H locs hw K => ?_)
  refine lv_iload_n hx hb dS_need_5 rfl (lv_at hl 2 rfl) ?_
  refine gcSV X K (n0 := 1) (As := [.int x2]) (rest := []) (hM := (met_S_checkSkill hl9 D ad ca sa _ x2 f2 a2 b2 _ _ hw)) (hg := wl_good) (w1 := (tm2 (i := 57) rfl rfl)) (w2 := (tm2 (i := 58) rfl rfl)) (w4 := (tm1 (i := 1) rfl rfl)) (w5 := (tm2 (i := 59) rfl rfl)) (hd := ⟨by decide, by decide, by decide +kernel⟩) (hrc := rfl) (hrs := rfl) (hR := ⟨Nat.le_of_ble_eq_true rfl, Nat.le_of_ble_eq_true rfl⟩) (hn := rfl) (hsz := hl.1) (hst := rfl) (hW := Nat.le_of_ble_eq_true rfl) (hdg := dS_need_6) (hf := ⟨Nat.le_of_ble_eq_true rfl, Nat.le_of_ble_eq_true rfl⟩) (fun E ce q9 f1 a1 b1 H1 locs1 hw K hce hv hcl => outX X K hw hce hv hcl (by decide) (by decide)) (fun f6 a6 b6 H locs hw K => ?_)
  refine lv_iload_n hx hb dS_need_9 rfl (lv_at hl 3 rfl) ?_
  refine lv_if_lt (tgt := 19) hx hb dS_need_10 (by decide) (fun hc => ?_) (fun hc => ?_)
  · replace hw := hw.1 hc
    exact LS_need_19 X hr f6 a6 b6 hw _ _ K _ (lv_sub hl [] rfl)
  · replace hw := hw.2 hc
    refine lv_iload_n hx hb dS_need_13 rfl (lv_at hl 3 rfl) ?_
    refine lv_bipush (v := (10 : Int32)) hx hb dS_need_14 (by decide) ?_
    refine lv_icmp_le (tgt := 29) hx hb dS_need_16 (by decide) (fun hc => ?_) (fun hc => ?_)
    · replace hw := hw.1 hc
      refine lv_aload_n hx hb dS_need_29 rfl (lv_at hl 0 rfl) ?_
      refine lv_iload_n hx hb dS_need_30 rfl (lv_at hl 1 rfl) ?_
      refine gcV X K (n0 := 1) (As := [.int x1]) (rest := []) (hM := (met_S_checkOpen hl9 D ad ca sa _ x1 f6 a6 b6 _ _ hw)) (o := 0) (ho := by decide) (hko := kS_o0) (hci := rfl) (hg := wl_good) (w1 := (tm2 (i := 30) rfl rfl)) (w2 := (tm2 (i := 32) rfl rfl)) (w3 := (tm0 (i := 2) rfl rfl)) (w4 := (tm1 (i := 1) rfl rfl)) (w5 := (tm2 (i := 33) rfl rfl)) (hd := ⟨rfl, by decide, by decide, by decide +kernel⟩) (hrc := rfl) (hrs := rfl) (hR := ⟨Nat.le_of_ble_eq_true rfl, Nat.le_of_ble_eq_true rfl⟩) (hn := rfl) (hsz := hl.1) (hst := rfl) (hW := Nat.le_of_ble_eq_true rfl) (hdg := dS_need_31) (hf := ⟨Nat.le_of_ble_eq_true rfl, Nat.le_of_ble_eq_true rfl⟩) (fun E ce q9 f1 a1 b1 H1 locs1 hw K hce hv hcl => outX X K hw hce hv hcl (by decide) (by decide)) (fun f31 a31 b31 H locs hw K => ?_)
      refine lv_aload_n hx hb dS_need_34 rfl (lv_at hl 0 rfl) ?_
      refine gGet X K (o := 0) (k := 9) (v := .int (f31 2)) (by decide) kS_o0 rfl inS_o0 (by decide) (tm1 (i := 91) rfl rfl) rfl dS_need_35 ?_
      refine lv_iload_n hx hb dS_need_38 rfl (lv_at hl 3 rfl) ?_
      refine lv_iadd hx hb dS_need_39 ?_
      refine lv_bipush (v := (10 : Int32)) hx hb dS_need_40 (by decide) ?_
      refine lv_icmp_le (tgt := 55) hx hb dS_need_42 (by decide) (fun hc => ?_) (fun hc => ?_)
      · replace hw := hw.1 hc
        refine lv_iconst (v := (0 : Int32)) hx hb dS_need_55 (by decide) ?_
        refine lv_istore (lv' := [(4, .int (0 : Int32)), (0, .ref (ad 0)), (1, .int x1), (2, .int x2), (3, .int x3)]) hx hb dS_need_56 hl (by decide) rfl (fun ls hl => ?_)
        obtain ⟨n9, hw⟩ := hw
        exact LS_need_58 X hr n9 x1 x2 x3 (0 : Int32) f31 a31 b31 hw _ _ K _ (lv_sub hl [1, 2, 3, 4, 0] rfl)
      · replace hw := hw.2 hc
        exact throwX X K (k := 8) (names := ["java/lang/RuntimeException", "java/lang/Exception"]) hw (by decide +kernel) (by decide +kernel) rfl (tm1 (i := 213) rfl rfl) (tm1 (i := 9) rfl rfl) xg_S_81 xb_S_81 xo_S_81_77 hl.1 dS_need_45 dS_need_48 dS_need_49 dS_need_51 dS_need_54 (by decide) (by decide) (by decide) (by decide) (by decide) (by decide)
    · replace hw := hw.2 hc
      exact LS_need_19 X hr f6 a6 b6 hw _ _ K _ (lv_sub hl [] rfl)
set_option maxHeartbeats 4000000 in
set_option maxRecDepth 100000 in
theorem LS_checkUnit_12 {p : Program} {l : Launch} {e : Env} {s : State} {m : MethodId} {below : List Frame} {meth : Method} {c : Code} {D : va_G} {sa : Nat → Nat} {ad : Nat → Nat} {ca : Nat → ClassId} {sz : Nat} {f0 : wF} {a0 : wA} {b0 : wB} {y1 : Int32} {po : wF → wA → wB → Prop} {px : String → wF → wA → wB → Prop} (X : cx Wl (tyS ca) txS D vwCl sa (va_A (ww nS kS ad ca f0 a0 b0) sz) p l s m ([.ref (ad 0), .int y1] : List Value).toArray meth c cS_checkUnit 2 "SendBest") (hr : meth.sig.returnType = none) : ∀ (f : wF) (a : wA) (b : wB), wp_S_checkUnit_12 po px f a b → ∀ (H : Heap) (locs : List Loc), wd nS kS D vwCl ad ca (va_A (ww nS kS ad ca f0 a0 b0) sz) s H locs f a b → ∀ (ls : Array Slot), lv_has ls 2 [] → W p l e ({ frames := 6, cells := 1, slots := 6, locals := 82 }) s m ([.ref (ad 0), .int y1] : List Value).toArray below meth c H locs 0 0 (vx_MQ below (va_Qv (fun (u : wF × wA × wB) => po u.1 u.2.1 u.2.2) (sPost nS kS D vwCl ad ca (va_A (ww nS kS ad ca f0 a0 b0) sz)) (va_A (ww nS kS ad ca f0 a0 b0) sz)) (sX nS kS D vwCl ad ca (va_A (ww nS kS ad ca f0 a0 b0) sz) px) ([.ref (ad 0), .int y1] : List Value).toArray s 1 6 (va_A (ww nS kS ad ca f0 a0 b0) sz)) (F0 m 12 ls []) := by
  obtain ⟨hx, hb, hml, hown, hts, hK, hA, hth, hlk, hl9, hex⟩ := id X
  intro  f a b hw H locs K ls hl
  dsimp only [wp_S_checkUnit_12] at hw
  exact throwX X K (k := 9) (names := ["java/lang/RuntimeException", "java/lang/Exception"]) hw (by decide +kernel) (by decide +kernel) rfl (tm2 (i := 14) rfl rfl) (tm1 (i := 10) rfl rfl) xg_S_168 xb_S_168 xo_S_168_164 hl.1 dS_checkUnit_12 dS_checkUnit_15 dS_checkUnit_16 dS_checkUnit_18 dS_checkUnit_21 (by decide) (by decide) (by decide) (by decide) (by decide) (by decide)
set_option maxHeartbeats 4000000 in
set_option maxRecDepth 100000 in
theorem met_S_checkUnit {l : Launch} (hl9 : l.stackTraces = false) (D : va_G) (ad : Nat → Nat) (ca : Nat → ClassId) (sa : Nat → Nat) (sz : Nat) (x1 : Int32) (f : wF) (a : wA) (b : wB) (po : wF → wA → wB → Prop) (px : String → wF → wA → wB → Prop) (hw : wp_S_checkUnit po px x1 f a b) : mV nS kS (tyS ca) txS D vwCl l yS_checkUnit (Cond.code yS_checkUnit cS_checkUnit 2 none :: Wl) ({ frames := 6, cells := 1, slots := 6, locals := 82 }) [.ref (ad 0), .int x1] ad ca sa sz f a b po px 1 6 := by
  refine ofV (by decide) hl9 (Nat.le_of_ble_eq_true rfl) ?_
  intro p e s m below meth c ls X hr K hl
  obtain ⟨hx, hb, hml, hown, hts, hK, hA, hth, hlk, hl9, hex⟩ := id X
  have hl : lv_has ls 2 [(0, .ref (ad 0)), (1, .int x1)] := hl
  dsimp only [wp_S_checkUnit] at hw
  refine lv_iload_n hx hb dS_checkUnit_0 rfl (lv_at hl 1 rfl) ?_
  refine lv_if_lt (tgt := 12) hx hb dS_checkUnit_1 (by decide) (fun hc => ?_) (fun hc => ?_)
  · replace hw := hw.1 hc
    exact LS_checkUnit_12 X hr f a b hw _ _ K _ (lv_sub hl [] rfl)
  · replace hw := hw.2 hc
    refine lv_iload_n hx hb dS_checkUnit_4 rfl (lv_at hl 1 rfl) ?_
    refine lv_aload_n hx hb dS_checkUnit_5 rfl (lv_at hl 0 rfl) ?_
    refine gGet X K (o := 0) (k := 0) (v := .int (f 0)) (by decide) kS_o0 rfl inS_o0 (by decide) (tm1 (i := 82) rfl rfl) rfl dS_checkUnit_6 ?_
    refine lv_icmp_lt (tgt := 22) hx hb dS_checkUnit_9 (by decide) (fun hc => ?_) (fun hc => ?_)
    · replace hw := hw.1 hc
      exact endV X K hr hw (by decide) (by decide) dS_checkUnit_22
    · replace hw := hw.2 hc
      exact LS_checkUnit_12 X hr f a b hw _ _ K _ (lv_sub hl [] rfl)
set_option maxHeartbeats 4000000 in
set_option maxRecDepth 100000 in
theorem LS_checkSeconds_11 {p : Program} {l : Launch} {e : Env} {s : State} {m : MethodId} {below : List Frame} {meth : Method} {c : Code} {D : va_G} {sa : Nat → Nat} {ad : Nat → Nat} {ca : Nat → ClassId} {sz : Nat} {f0 : wF} {a0 : wA} {b0 : wB} {y0 : Int32} {po : wF → wA → wB → Prop} {px : String → wF → wA → wB → Prop} (X : cx Wl (tyS ca) txS D vwCl sa (va_A (ww nS kS ad ca f0 a0 b0) sz) p l s m ([.int y0] : List Value).toArray meth c cS_checkSeconds 1 "SendBest") (hr : meth.sig.returnType = none) : ∀ (f : wF) (a : wA) (b : wB), wp_S_checkSeconds_11 po px f a b → ∀ (H : Heap) (locs : List Loc), wd nS kS D vwCl ad ca (va_A (ww nS kS ad ca f0 a0 b0) sz) s H locs f a b → ∀ (ls : Array Slot), lv_has ls 1 [] → W p l e ({ frames := 6, cells := 1, slots := 6, locals := 82 }) s m ([.int y0] : List Value).toArray below meth c H locs 0 0 (vx_MQ below (va_Qv (fun (u : wF × wA × wB) => po u.1 u.2.1 u.2.2) (sPost nS kS D vwCl ad ca (va_A (ww nS kS ad ca f0 a0 b0) sz)) (va_A (ww nS kS ad ca f0 a0 b0) sz)) (sX nS kS D vwCl ad ca (va_A (ww nS kS ad ca f0 a0 b0) sz) px) ([.int y0] : List Value).toArray s 1 6 (va_A (ww nS kS ad ca f0 a0 b0) sz)) (F0 m 11 ls []) := by
  obtain ⟨hx, hb, hml, hown, hts, hK, hA, hth, hlk, hl9, hex⟩ := id X
  intro  f a b hw H locs K ls hl
  dsimp only [wp_S_checkSeconds_11] at hw
  exact throwX X K (k := 10) (names := ["java/lang/RuntimeException", "java/lang/Exception"]) hw (by decide +kernel) (by decide +kernel) rfl (tm1 (i := 144) rfl rfl) (tm1 (i := 8) rfl rfl) xg_S_71 xb_S_71 xo_S_71_67 hl.1 dS_checkSeconds_11 dS_checkSeconds_14 dS_checkSeconds_15 dS_checkSeconds_17 dS_checkSeconds_20 (by decide) (by decide) (by decide) (by decide) (by decide) (by decide)
set_option maxHeartbeats 4000000 in
set_option maxRecDepth 100000 in
theorem met_S_checkSeconds {l : Launch} (hl9 : l.stackTraces = false) (D : va_G) (ad : Nat → Nat) (ca : Nat → ClassId) (sa : Nat → Nat) (sz : Nat) (x0 : Int32) (f : wF) (a : wA) (b : wB) (po : wF → wA → wB → Prop) (px : String → wF → wA → wB → Prop) (hw : wp_S_checkSeconds po px x0 f a b) : mV nS kS (tyS ca) txS D vwCl l yS_checkSeconds (Cond.code yS_checkSeconds cS_checkSeconds 1 none :: Wl) ({ frames := 6, cells := 1, slots := 6, locals := 82 }) [.int x0] ad ca sa sz f a b po px 1 6 := by
  refine ofV (by decide) hl9 (Nat.le_of_ble_eq_true rfl) ?_
  intro p e s m below meth c ls X hr K hl
  obtain ⟨hx, hb, hml, hown, hts, hK, hA, hth, hlk, hl9, hex⟩ := id X
  have hl : lv_has ls 1 [(0, .int x0)] := hl
  dsimp only [wp_S_checkSeconds] at hw
  refine lv_iload_n hx hb dS_checkSeconds_0 rfl (lv_at hl 0 rfl) ?_
  refine lv_iconst (v := (-1 : Int32)) hx hb dS_checkSeconds_1 (by decide) ?_
  refine lv_icmp_lt (tgt := 11) hx hb dS_checkSeconds_2 (by decide) (fun hc => ?_) (fun hc => ?_)
  · replace hw := hw.1 hc
    exact LS_checkSeconds_11 X hr f a b hw _ _ K _ (lv_sub hl [] rfl)
  · replace hw := hw.2 hc
    refine lv_iload_n hx hb dS_checkSeconds_5 rfl (lv_at hl 0 rfl) ?_
    refine lv_ldc (v := (99999 : Int32)) hx hb hown (hts _ (tm2 (i := 78) rfl rfl)) dS_checkSeconds_6 ?_
    refine lv_icmp_le (tgt := 21) hx hb dS_checkSeconds_8 (by decide) (fun hc => ?_) (fun hc => ?_)
    · replace hw := hw.1 hc
      exact endV X K hr hw (by decide) (by decide) dS_checkSeconds_21
    · replace hw := hw.2 hc
      exact LS_checkSeconds_11 X hr f a b hw _ _ K _ (lv_sub hl [] rfl)
set_option maxHeartbeats 4000000 in
set_option maxRecDepth 100000 in
theorem met_S_seconds {l : Launch} (hl9 : l.stackTraces = false) (D : va_G) (ad : Nat → Nat) (ca : Nat → ClassId) (sa : Nat → Nat) (sz : Nat) (x1 : Int32) (x2 : Int32) (x3 : Int32) (f : wF) (a : wA) (b : wB) (po : wF → wA → wB → Prop) (px : String → wF → wA → wB → Prop) (hw : wp_S_seconds po px x1 x2 x3 f a b) : mV nS kS (tyS ca) txS D vwCl l yS_seconds (Cond.code yS_seconds cS_seconds 4 none :: Wl) ({ frames := 7, cells := 3, slots := 18, locals := 103 }) [.ref (ad 0), .int x1, .int x2, .int x3] ad ca sa sz f a b po px 3 18 := by
  refine ofV (by decide) hl9 (Nat.le_of_ble_eq_true rfl) ?_
  intro p e s m below meth c ls X hr K hl
  obtain ⟨hx, hb, hml, hown, hts, hK, hA, hth, hlk, hl9, hex⟩ := id X
  have hl : lv_has ls 4 [(0, .ref (ad 0)), (1, .int x1), (2, .int x2), (3, .int x3)] := hl
  dsimp only [wp_S_seconds] at hw
  refine lv_aload_n hx hb dS_seconds_0 rfl (lv_at hl 0 rfl) ?_
  refine lv_iload_n hx hb dS_seconds_1 rfl (lv_at hl 1 rfl) ?_
  refine gcV X K (n0 := 1) (As := [.int x1]) (rest := []) (hM := (met_S_checkUnit hl9 D ad ca sa _ x1 f a b _ _ hw)) (o := 0) (ho := by decide) (hko := kS_o0) (hci := rfl) (hg := wl_good) (w1 := (tm2 (i := 70) rfl rfl)) (w2 := (tm2 (i := 72) rfl rfl)) (w3 := (tm0 (i := 3) rfl rfl)) (w4 := (tm1 (i := 1) rfl rfl)) (w5 := (tm2 (i := 73) rfl rfl)) (hd := ⟨rfl, by decide, by decide, by decide +kernel⟩) (hrc := rfl) (hrs := rfl) (hR := ⟨Nat.le_of_ble_eq_true rfl, Nat.le_of_ble_eq_true rfl⟩) (hn := rfl) (hsz := hl.1) (hst := rfl) (hW := Nat.le_of_ble_eq_true rfl) (hdg := dS_seconds_2) (hf := ⟨Nat.le_of_ble_eq_true rfl, Nat.le_of_ble_eq_true rfl⟩) (fun E ce q9 f1 a1 b1 H1 locs1 hw K hce hv hcl => outX X K hw hce hv hcl (by decide) (by decide)) (fun f2 a2 b2 H locs hw K => ?_)
  refine lv_aload_n hx hb dS_seconds_5 rfl (lv_at hl 0 rfl) ?_
  refine lv_iload_n hx hb dS_seconds_6 rfl (lv_at hl 2 rfl) ?_
  refine gcV X K (n0 := 1) (As := [.int x2]) (rest := []) (hM := (met_S_checkIncident hl9 D ad ca sa _ x2 f2 a2 b2 _ _ hw)) (o := 0) (ho := by decide) (hko := kS_o0) (hci := rfl) (hg := wl_good) (w1 := (tm2 (i := 10) rfl rfl)) (w2 := (tm2 (i := 12) rfl rfl)) (w3 := (tm0 (i := 1) rfl rfl)) (w4 := (tm1 (i := 1) rfl rfl)) (w5 := (tm2 (i := 13) rfl rfl)) (hd := ⟨rfl, by decide, by decide, by decide +kernel⟩) (hrc := rfl) (hrs := rfl) (hR := ⟨Nat.le_of_ble_eq_true rfl, Nat.le_of_ble_eq_true rfl⟩) (hn := rfl) (hsz := hl.1) (hst := rfl) (hW := Nat.le_of_ble_eq_true rfl) (hdg := dS_seconds_7) (hf := ⟨Nat.le_of_ble_eq_true rfl, Nat.le_of_ble_eq_true rfl⟩) (fun E ce q9 f1 a1 b1 H1 locs1 hw K hce hv hcl => outX X K hw hce hv hcl (by decide) (by decide)) (fun f7 a7 b7 H locs hw K => ?_)
  refine lv_iload_n hx hb dS_seconds_10 rfl (lv_at hl 3 rfl) ?_
  refine gcSV X K (n0 := 1) (As := [.int x3]) (rest := []) (hM := (met_S_checkSeconds hl9 D ad ca sa _ x3 f7 a7 b7 _ _ hw)) (hg := wl_good) (w1 := (tm2 (i := 75) rfl rfl)) (w2 := (tm2 (i := 76) rfl rfl)) (w4 := (tm1 (i := 1) rfl rfl)) (w5 := (tm2 (i := 77) rfl rfl)) (hd := ⟨by decide, by decide, by decide +kernel⟩) (hrc := rfl) (hrs := rfl) (hR := ⟨Nat.le_of_ble_eq_true rfl, Nat.le_of_ble_eq_true rfl⟩) (hn := rfl) (hsz := hl.1) (hst := rfl) (hW := Nat.le_of_ble_eq_true rfl) (hdg := dS_seconds_11) (hf := ⟨Nat.le_of_ble_eq_true rfl, Nat.le_of_ble_eq_true rfl⟩) (fun E ce q9 f1 a1 b1 H1 locs1 hw K hce hv hcl => outX X K hw hce hv hcl (by decide) (by decide)) (fun f11 a11 b11 H locs hw K => ?_)
  refine lv_aload_n hx hb dS_seconds_14 rfl (lv_at hl 0 rfl) ?_
  refine gGet X K (o := 0) (k := 5) (v := .ref (ad 6)) (by decide) kS_o0 rfl inS_o0 (by decide) (tm1 (i := 87) rfl rfl) rfl dS_seconds_15 ?_
  refine lv_iload_n hx hb dS_seconds_18 rfl (lv_at hl 1 rfl) ?_
  obtain ⟨hi_secondsOf, hw⟩ := hw
  refine gald X K (o := 6) (t0 := 3) (by decide) kS_c6 rfl hi_secondsOf dS_seconds_19 ?_
  refine lv_iload_n hx hb dS_seconds_20 rfl (lv_at hl 2 rfl) ?_
  refine lv_iload_n hx hb dS_seconds_21 rfl (lv_at hl 3 rfl) ?_
  obtain ⟨hi, hw⟩ := hw
  refine gist X K (o := (25 + x1.toNatClampNeg)) (t0 := 0) (rS_secondsOf_lt hi_secondsOf) (kS_r_secondsOf hi_secondsOf) rfl hi dS_seconds_22 (kS_q_secondsOf hi_secondsOf) (fun H locs K => ?_)
  exact endV X K hr hw (by decide) (by decide) dS_seconds_23
set_option maxHeartbeats 4000000 in
set_option maxRecDepth 100000 in
theorem met_S_limit {l : Launch} (hl9 : l.stackTraces = false) (D : va_G) (ad : Nat → Nat) (ca : Nat → ClassId) (sa : Nat → Nat) (sz : Nat) (x1 : Int32) (x2 : Int32) (f : wF) (a : wA) (b : wB) (po : wF → wA → wB → Prop) (px : String → wF → wA → wB → Prop) (hw : wp_S_limit po px x1 x2 f a b) : mV nS kS (tyS ca) txS D vwCl l yS_limit (Cond.code yS_limit cS_limit 3 none :: Wl) ({ frames := 7, cells := 2, slots := 12, locals := 102 }) [.ref (ad 0), .int x1, .int x2] ad ca sa sz f a b po px 2 12 := by
  refine ofV (by decide) hl9 (Nat.le_of_ble_eq_true rfl) ?_
  intro p e s m below meth c ls X hr K hl
  obtain ⟨hx, hb, hml, hown, hts, hK, hA, hth, hlk, hl9, hex⟩ := id X
  have hl : lv_has ls 3 [(0, .ref (ad 0)), (1, .int x1), (2, .int x2)] := hl
  dsimp only [wp_S_limit] at hw
  refine lv_iload_n hx hb dS_limit_0 rfl (lv_at hl 1 rfl) ?_
  refine gcSV X K (n0 := 1) (As := [.int x1]) (rest := []) (hM := (met_S_checkSkill hl9 D ad ca sa _ x1 f a b _ _ hw)) (hg := wl_good) (w1 := (tm2 (i := 57) rfl rfl)) (w2 := (tm2 (i := 58) rfl rfl)) (w4 := (tm1 (i := 1) rfl rfl)) (w5 := (tm2 (i := 59) rfl rfl)) (hd := ⟨by decide, by decide, by decide +kernel⟩) (hrc := rfl) (hrs := rfl) (hR := ⟨Nat.le_of_ble_eq_true rfl, Nat.le_of_ble_eq_true rfl⟩) (hn := rfl) (hsz := hl.1) (hst := rfl) (hW := Nat.le_of_ble_eq_true rfl) (hdg := dS_limit_1) (hf := ⟨Nat.le_of_ble_eq_true rfl, Nat.le_of_ble_eq_true rfl⟩) (fun E ce q9 f1 a1 b1 H1 locs1 hw K hce hv hcl => outX X K hw hce hv hcl (by decide) (by decide)) (fun f1 a1 b1 H locs hw K => ?_)
  refine lv_iload_n hx hb dS_limit_4 rfl (lv_at hl 2 rfl) ?_
  refine gcSV X K (n0 := 1) (As := [.int x2]) (rest := []) (hM := (met_S_checkSeconds hl9 D ad ca sa _ x2 f1 a1 b1 _ _ hw)) (hg := wl_good) (w1 := (tm2 (i := 75) rfl rfl)) (w2 := (tm2 (i := 76) rfl rfl)) (w4 := (tm1 (i := 1) rfl rfl)) (w5 := (tm2 (i := 77) rfl rfl)) (hd := ⟨by decide, by decide, by decide +kernel⟩) (hrc := rfl) (hrs := rfl) (hR := ⟨Nat.le_of_ble_eq_true rfl, Nat.le_of_ble_eq_true rfl⟩) (hn := rfl) (hsz := hl.1) (hst := rfl) (hW := Nat.le_of_ble_eq_true rfl) (hdg := dS_limit_5) (hf := ⟨Nat.le_of_ble_eq_true rfl, Nat.le_of_ble_eq_true rfl⟩) (fun E ce q9 f1 a1 b1 H1 locs1 hw K hce hv hcl => outX X K hw hce hv hcl (by decide) (by decide)) (fun f5 a5 b5 H locs hw K => ?_)
  refine lv_aload_n hx hb dS_limit_8 rfl (lv_at hl 0 rfl) ?_
  refine gGet X K (o := 0) (k := 13) (v := .ref (ad 12)) (by decide) kS_o0 rfl inS_o0 (by decide) (tm1 (i := 95) rfl rfl) rfl dS_limit_9 ?_
  refine lv_iload_n hx hb dS_limit_12 rfl (lv_at hl 1 rfl) ?_
  refine lv_iload_n hx hb dS_limit_13 rfl (lv_at hl 2 rfl) ?_
  obtain ⟨hi, hw⟩ := hw
  refine gist X K (o := 12) (t0 := 0) (by decide) kS_c12 rfl hi dS_limit_14 kS_p12 (fun H locs K => ?_)
  exact endV X K hr hw (by decide) (by decide) dS_limit_15
set_option maxHeartbeats 4000000 in
set_option maxRecDepth 100000 in
theorem LS_reserve_31 {p : Program} {l : Launch} {e : Env} {s : State} {m : MethodId} {below : List Frame} {meth : Method} {c : Code} {D : va_G} {sa : Nat → Nat} {ad : Nat → Nat} {ca : Nat → ClassId} {sz : Nat} {f0 : wF} {a0 : wA} {b0 : wB} {y1 : Int32} {y2 : Int32} {po : wF → wA → wB → Prop} {px : String → wF → wA → wB → Prop} (X : cx Wl (tyS ca) txS D vwCl sa (va_A (ww nS kS ad ca f0 a0 b0) sz) p l s m ([.ref (ad 0), .int y1, .int y2] : List Value).toArray meth c cS_reserve 3 "SendBest") (hr : meth.sig.returnType = none) : ∀ (f : wF) (a : wA) (b : wB), wp_S_reserve_31 po px f a b → ∀ (H : Heap) (locs : List Loc), wd nS kS D vwCl ad ca (va_A (ww nS kS ad ca f0 a0 b0) sz) s H locs f a b → ∀ (ls : Array Slot), lv_has ls 3 [] → W p l e ({ frames := 6, cells := 1, slots := 6, locals := 82 }) s m ([.ref (ad 0), .int y1, .int y2] : List Value).toArray below meth c H locs 0 0 (vx_MQ below (va_Qv (fun (u : wF × wA × wB) => po u.1 u.2.1 u.2.2) (sPost nS kS D vwCl ad ca (va_A (ww nS kS ad ca f0 a0 b0) sz)) (va_A (ww nS kS ad ca f0 a0 b0) sz)) (sX nS kS D vwCl ad ca (va_A (ww nS kS ad ca f0 a0 b0) sz) px) ([.ref (ad 0), .int y1, .int y2] : List Value).toArray s 1 6 (va_A (ww nS kS ad ca f0 a0 b0) sz)) (F0 m 31 ls []) := by
  obtain ⟨hx, hb, hml, hown, hts, hK, hA, hth, hlk, hl9, hex⟩ := id X
  intro  f a b hw H locs K ls hl
  dsimp only [wp_S_reserve_31] at hw
  exact throwX X K (k := 11) (names := ["java/lang/RuntimeException", "java/lang/Exception"]) hw (by decide +kernel) (by decide +kernel) rfl (tm1 (i := 144) rfl rfl) (tm1 (i := 8) rfl rfl) xg_S_71 xb_S_71 xo_S_71_67 hl.1 dS_reserve_31 dS_reserve_34 dS_reserve_35 dS_reserve_37 dS_reserve_40 (by decide) (by decide) (by decide) (by decide) (by decide) (by decide)
set_option maxHeartbeats 4000000 in
set_option maxRecDepth 100000 in
theorem LS_reserve_10 {p : Program} {l : Launch} {e : Env} {s : State} {m : MethodId} {below : List Frame} {meth : Method} {c : Code} {D : va_G} {sa : Nat → Nat} {ad : Nat → Nat} {ca : Nat → ClassId} {sz : Nat} {f0 : wF} {a0 : wA} {b0 : wB} {y1 : Int32} {y2 : Int32} {po : wF → wA → wB → Prop} {px : String → wF → wA → wB → Prop} (X : cx Wl (tyS ca) txS D vwCl sa (va_A (ww nS kS ad ca f0 a0 b0) sz) p l s m ([.ref (ad 0), .int y1, .int y2] : List Value).toArray meth c cS_reserve 3 "SendBest") (hr : meth.sig.returnType = none) : ∀ (f : wF) (a : wA) (b : wB), wp_S_reserve_10 po px f a b → ∀ (H : Heap) (locs : List Loc), wd nS kS D vwCl ad ca (va_A (ww nS kS ad ca f0 a0 b0) sz) s H locs f a b → ∀ (ls : Array Slot), lv_has ls 3 [] → W p l e ({ frames := 6, cells := 1, slots := 6, locals := 82 }) s m ([.ref (ad 0), .int y1, .int y2] : List Value).toArray below meth c H locs 0 0 (vx_MQ below (va_Qv (fun (u : wF × wA × wB) => po u.1 u.2.1 u.2.2) (sPost nS kS D vwCl ad ca (va_A (ww nS kS ad ca f0 a0 b0) sz)) (va_A (ww nS kS ad ca f0 a0 b0) sz)) (sX nS kS D vwCl ad ca (va_A (ww nS kS ad ca f0 a0 b0) sz) px) ([.ref (ad 0), .int y1, .int y2] : List Value).toArray s 1 6 (va_A (ww nS kS ad ca f0 a0 b0) sz)) (F0 m 10 ls []) := by
  obtain ⟨hx, hb, hml, hown, hts, hK, hA, hth, hlk, hl9, hex⟩ := id X
  intro  f a b hw H locs K ls hl
  dsimp only [wp_S_reserve_10] at hw
  exact throwX X K (k := 12) (names := ["java/lang/RuntimeException", "java/lang/Exception"]) hw (by decide +kernel) (by decide +kernel) rfl (tm1 (i := 144) rfl rfl) (tm1 (i := 8) rfl rfl) xg_S_71 xb_S_71 xo_S_71_67 hl.1 dS_reserve_10 dS_reserve_13 dS_reserve_14 dS_reserve_16 dS_reserve_19 (by decide) (by decide) (by decide) (by decide) (by decide) (by decide)
set_option maxHeartbeats 4000000 in
set_option maxRecDepth 100000 in
theorem met_S_reserve {l : Launch} (hl9 : l.stackTraces = false) (D : va_G) (ad : Nat → Nat) (ca : Nat → ClassId) (sa : Nat → Nat) (sz : Nat) (x1 : Int32) (x2 : Int32) (f : wF) (a : wA) (b : wB) (po : wF → wA → wB → Prop) (px : String → wF → wA → wB → Prop) (hw : wp_S_reserve po px x1 x2 f a b) : mV nS kS (tyS ca) txS D vwCl l yS_reserve (Cond.code yS_reserve cS_reserve 3 none :: Wl) ({ frames := 6, cells := 1, slots := 6, locals := 82 }) [.ref (ad 0), .int x1, .int x2] ad ca sa sz f a b po px 1 6 := by
  refine ofV (by decide) hl9 (Nat.le_of_ble_eq_true rfl) ?_
  intro p e s m below meth c ls X hr K hl
  obtain ⟨hx, hb, hml, hown, hts, hK, hA, hth, hlk, hl9, hex⟩ := id X
  have hl : lv_has ls 3 [(0, .ref (ad 0)), (1, .int x1), (2, .int x2)] := hl
  dsimp only [wp_S_reserve] at hw
  refine lv_iload_n hx hb dS_reserve_0 rfl (lv_at hl 1 rfl) ?_
  refine lv_if_lt (tgt := 10) hx hb dS_reserve_1 (by decide) (fun hc => ?_) (fun hc => ?_)
  · replace hw := hw.1 hc
    exact LS_reserve_10 X hr f a b hw _ _ K _ (lv_sub hl [] rfl)
  · replace hw := hw.2 hc
    refine lv_iload_n hx hb dS_reserve_4 rfl (lv_at hl 1 rfl) ?_
    refine lv_bipush (v := (12 : Int32)) hx hb dS_reserve_5 (by decide) ?_
    refine lv_icmp_le (tgt := 20) hx hb dS_reserve_7 (by decide) (fun hc => ?_) (fun hc => ?_)
    · replace hw := hw.1 hc
      refine lv_iload_n hx hb dS_reserve_20 rfl (lv_at hl 2 rfl) ?_
      refine lv_iconst (v := (1 : Int32)) hx hb dS_reserve_21 (by decide) ?_
      refine lv_icmp_lt (tgt := 31) hx hb dS_reserve_22 (by decide) (fun hc => ?_) (fun hc => ?_)
      · replace hw := hw.1 hc
        exact LS_reserve_31 X hr f a b hw _ _ K _ (lv_sub hl [] rfl)
      · replace hw := hw.2 hc
        refine lv_iload_n hx hb dS_reserve_25 rfl (lv_at hl 2 rfl) ?_
        refine lv_bipush (v := (10 : Int32)) hx hb dS_reserve_26 (by decide) ?_
        refine lv_icmp_le (tgt := 41) hx hb dS_reserve_28 (by decide) (fun hc => ?_) (fun hc => ?_)
        · replace hw := hw.1 hc
          refine lv_aload_n hx hb dS_reserve_41 rfl (lv_at hl 0 rfl) ?_
          refine lv_iload_n hx hb dS_reserve_42 rfl (lv_at hl 1 rfl) ?_
          refine gPut X K (o := 0) (k := 14) (v := .int x1) (ty := .int) tS_o0 tS_o0_ok nS_o0 (by decide) kS_o0 rfl inS_o0 (by decide) (tm1 (i := 96) rfl rfl) rfl rfl rfl rfl (by simp [flS_o0]) dS_reserve_43 kS_u0_14 (fun H locs K => ?_)
          refine lv_aload_n hx hb dS_reserve_46 rfl (lv_at hl 0 rfl) ?_
          refine lv_iload_n hx hb dS_reserve_47 rfl (lv_at hl 2 rfl) ?_
          refine gPut X K (o := 0) (k := 15) (v := .int x2) (ty := .int) tS_o0 tS_o0_ok nS_o0 (by decide) kS_o0 rfl inS_o0 (by decide) (tm1 (i := 97) rfl rfl) rfl rfl rfl rfl (by simp [flS_o0]) dS_reserve_48 kS_u0_15 (fun H locs K => ?_)
          exact endV X K hr hw (by decide) (by decide) dS_reserve_51
        · replace hw := hw.2 hc
          exact LS_reserve_31 X hr f a b hw _ _ K _ (lv_sub hl [] rfl)
    · replace hw := hw.2 hc
      exact LS_reserve_10 X hr f a b hw _ _ K _ (lv_sub hl [] rfl)
set_option maxHeartbeats 4000000 in
set_option maxRecDepth 100000 in
theorem LS_free_22 {p : Program} {l : Launch} {e : Env} {s : State} {m : MethodId} {below : List Frame} {meth : Method} {c : Code} {D : va_G} {sa : Nat → Nat} {ad : Nat → Nat} {ca : Nat → ClassId} {sz : Nat} {f0 : wF} {a0 : wA} {b0 : wB} {y1 : Int32} {po : wF → wA → wB → Prop} (X : cx Wl (tyS ca) txS D vwCl sa (va_A (ww nS kS ad ca f0 a0 b0) sz) p l s m ([.ref (ad 0), .int y1] : List Value).toArray meth c cS_free 2 "SendBest") (hr : meth.sig.returnType = none) : ∀ (x1 : Int32) (f : wF) (a : wA) (b : wB), wp_S_free_22 po x1 f a b → ∀ (H : Heap) (locs : List Loc), wd nS kS D vwCl ad ca (va_A (ww nS kS ad ca f0 a0 b0) sz) s H locs f a b → ∀ (ls : Array Slot), lv_has ls 2 [(0, .ref (ad 0)), (1, .int x1)] → W p l e ({ frames := 0, cells := 0, slots := 0, locals := 0 }) s m ([.ref (ad 0), .int y1] : List Value).toArray below meth c H locs 0 0 (vx_MQ below (va_Qv (fun (u : wF × wA × wB) => po u.1 u.2.1 u.2.2) (sPost nS kS D vwCl ad ca (va_A (ww nS kS ad ca f0 a0 b0) sz)) (va_A (ww nS kS ad ca f0 a0 b0) sz)) (sX nS kS D vwCl ad ca (va_A (ww nS kS ad ca f0 a0 b0) sz) (fun _ _ _ _ => False)) ([.ref (ad 0), .int y1] : List Value).toArray s 0 0 (va_A (ww nS kS ad ca f0 a0 b0) sz)) (F0 m 22 ls []) := by
  obtain ⟨hx, hb, hml, hown, hts, hK, hA, hth, hlk, hl9, hex⟩ := id X
  intro x1 f a b hw H locs K ls hl
  dsimp only [wp_S_free_22] at hw
  refine lv_aload_n hx hb dS_free_22 rfl (lv_at hl 0 rfl) ?_
  refine gGet X K (o := 0) (k := 4) (v := .ref (ad 5)) (by decide) kS_o0 rfl inS_o0 (by decide) (tm1 (i := 86) rfl rfl) rfl dS_free_23 ?_
  refine lv_iload_n hx hb dS_free_26 rfl (lv_at hl 1 rfl) ?_
  refine lv_iconst (v := (-1 : Int32)) hx hb dS_free_27 (by decide) ?_
  obtain ⟨hi, hw⟩ := hw
  refine gist X K (o := 5) (t0 := 0) (by decide) kS_c5 rfl hi dS_free_28 kS_p5 (fun H locs K => ?_)
  refine lv_aload_n hx hb dS_free_29 rfl (lv_at hl 0 rfl) ?_
  refine gGet X K (o := 0) (k := 3) (v := .ref (ad 4)) (by decide) kS_o0 rfl inS_o0 (by decide) (tm1 (i := 85) rfl rfl) rfl dS_free_30 ?_
  refine lv_iload_n hx hb dS_free_33 rfl (lv_at hl 1 rfl) ?_
  refine lv_iconst (v := (0 : Int32)) hx hb dS_free_34 (by decide) ?_
  obtain ⟨hi, hw⟩ := hw
  refine gzst X K (o := 4) (t0 := 1) (by decide) kS_c4 rfl hi dS_free_35 kS_p4 (fun H locs K => ?_)
  exact endV X K hr hw (by decide) (by decide) dS_free_36
set_option maxHeartbeats 4000000 in
set_option maxRecDepth 100000 in
theorem met_S_free {l : Launch} (hl9 : l.stackTraces = false) (D : va_G) (ad : Nat → Nat) (ca : Nat → ClassId) (sa : Nat → Nat) (sz : Nat) (x1 : Int32) (f : wF) (a : wA) (b : wB) (po : wF → wA → wB → Prop) (hw : wp_S_free po x1 f a b) : mV nS kS (tyS ca) txS D vwCl l yS_free (Cond.code yS_free cS_free 2 none :: Wl) ({ frames := 0, cells := 0, slots := 0, locals := 0 }) [.ref (ad 0), .int x1] ad ca sa sz f a b po (fun _ _ _ _ => False) 0 0 := by
  refine ofV (by decide) hl9 (Nat.le_of_ble_eq_true rfl) ?_
  intro p e s m below meth c ls X hr K hl
  obtain ⟨hx, hb, hml, hown, hts, hK, hA, hth, hlk, hl9, hex⟩ := id X
  have hl : lv_has ls 2 [(0, .ref (ad 0)), (1, .int x1)] := hl
  dsimp only [wp_S_free] at hw
  refine lv_aload_n hx hb dS_free_0 rfl (lv_at hl 0 rfl) ?_
  refine gGet X K (o := 0) (k := 4) (v := .ref (ad 5)) (by decide) kS_o0 rfl inS_o0 (by decide) (tm1 (i := 86) rfl rfl) rfl dS_free_1 ?_
  refine lv_iload_n hx hb dS_free_4 rfl (lv_at hl 1 rfl) ?_
  obtain ⟨hi, hw⟩ := hw
  refine gild X K (o := 5) (t0 := 0) (by decide) kS_c5 rfl hi dS_free_5 ?_
  refine lv_iconst (v := (-1 : Int32)) hx hb dS_free_6 (by decide) ?_
  refine lv_icmp_eq (tgt := 22) hx hb dS_free_7 (by decide) (fun hc => ?_) (fun hc => ?_)
  · replace hw := hw.1 hc
    exact LS_free_22 X hr x1 f a b hw _ _ K _ (lv_sub hl [0, 1] rfl)
  · replace hw := hw.2 hc
    refine lv_aload_n hx hb dS_free_10 rfl (lv_at hl 0 rfl) ?_
    refine gGet X K (o := 0) (k := 12) (v := .ref (ad 11)) (by decide) kS_o0 rfl inS_o0 (by decide) (tm1 (i := 94) rfl rfl) rfl dS_free_11 ?_
    refine lv_aload_n hx hb dS_free_14 rfl (lv_at hl 0 rfl) ?_
    refine gGet X K (o := 0) (k := 4) (v := .ref (ad 5)) (by decide) kS_o0 rfl inS_o0 (by decide) (tm1 (i := 86) rfl rfl) rfl dS_free_15 ?_
    refine lv_iload_n hx hb dS_free_18 rfl (lv_at hl 1 rfl) ?_
    obtain ⟨hi, hw⟩ := hw
    refine gild X K (o := 5) (t0 := 0) (by decide) kS_c5 rfl hi dS_free_19 ?_
    refine lv_iconst (v := (-1 : Int32)) hx hb dS_free_20 (by decide) ?_
    obtain ⟨hi, hw⟩ := hw
    refine gist X K (o := 11) (t0 := 0) (by decide) kS_c11 rfl hi dS_free_21 kS_p11 (fun H locs K => ?_)
    exact LS_free_22 X hr x1 f (va_up a 11 (upd (a 11) (a 5 x1.toNatClampNeg).toNatClampNeg (-1 : Int32))) b hw _ _ K _ (lv_sub hl [0, 1] rfl)
set_option maxHeartbeats 4000000 in
set_option maxRecDepth 100000 in
theorem LS_broken_41 {p : Program} {l : Launch} {e : Env} {s : State} {m : MethodId} {below : List Frame} {meth : Method} {c : Code} {D : va_G} {sa : Nat → Nat} {ad : Nat → Nat} {ca : Nat → ClassId} {sz : Nat} {f0 : wF} {a0 : wA} {b0 : wB} {y1 : Int32} {y2 : Int32} {po : wF → wA → wB → Prop} {px : String → wF → wA → wB → Prop} (X : cx Wl (tyS ca) txS D vwCl sa (va_A (ww nS kS ad ca f0 a0 b0) sz) p l s m ([.ref (ad 0), .int y1, .int y2] : List Value).toArray meth c cS_broken 3 "SendBest") (hr : meth.sig.returnType = none) : ∀ (f : wF) (a : wA) (b : wB), wp_S_broken_41 po px f a b → ∀ (H : Heap) (locs : List Loc), wd nS kS D vwCl ad ca (va_A (ww nS kS ad ca f0 a0 b0) sz) s H locs f a b → ∀ (ls : Array Slot), lv_has ls 3 [] → W p l e ({ frames := 7, cells := 2, slots := 12, locals := 103 }) s m ([.ref (ad 0), .int y1, .int y2] : List Value).toArray below meth c H locs 1 6 (vx_MQ below (va_Qv (fun (u : wF × wA × wB) => po u.1 u.2.1 u.2.2) (sPost nS kS D vwCl ad ca (va_A (ww nS kS ad ca f0 a0 b0) sz)) (va_A (ww nS kS ad ca f0 a0 b0) sz)) (sX nS kS D vwCl ad ca (va_A (ww nS kS ad ca f0 a0 b0) sz) px) ([.ref (ad 0), .int y1, .int y2] : List Value).toArray s 2 12 (va_A (ww nS kS ad ca f0 a0 b0) sz)) (F0 m 41 ls []) := by
  obtain ⟨hx, hb, hml, hown, hts, hK, hA, hth, hlk, hl9, hex⟩ := id X
  intro  f a b hw H locs K ls hl
  dsimp only [wp_S_broken_41] at hw
  exact endV X K hr hw (by decide) (by decide) dS_broken_41
set_option maxHeartbeats 4000000 in
set_option maxRecDepth 100000 in
theorem met_S_broken {l : Launch} (hl9 : l.stackTraces = false) (D : va_G) (ad : Nat → Nat) (ca : Nat → ClassId) (sa : Nat → Nat) (sz : Nat) (x1 : Int32) (x2 : Int32) (f : wF) (a : wA) (b : wB) (po : wF → wA → wB → Prop) (px : String → wF → wA → wB → Prop) (hw : wp_S_broken po px x1 x2 f a b) : mV nS kS (tyS ca) txS D vwCl l yS_broken (Cond.code yS_broken cS_broken 3 none :: Wl) ({ frames := 7, cells := 2, slots := 12, locals := 103 }) [.ref (ad 0), .int x1, .int x2] ad ca sa sz f a b po px 2 12 := by
  refine ofV (by decide) hl9 (Nat.le_of_ble_eq_true rfl) ?_
  intro p e s m below meth c ls X hr K hl
  obtain ⟨hx, hb, hml, hown, hts, hK, hA, hth, hlk, hl9, hex⟩ := id X
  have hl : lv_has ls 3 [(0, .ref (ad 0)), (1, .int x1), (2, .int x2)] := hl
  dsimp only [wp_S_broken] at hw
  refine lv_aload_n hx hb dS_broken_0 rfl (lv_at hl 0 rfl) ?_
  refine lv_iload_n hx hb dS_broken_1 rfl (lv_at hl 1 rfl) ?_
  refine gcV X K (n0 := 1) (As := [.int x1]) (rest := []) (hM := (met_S_checkUnit hl9 D ad ca sa _ x1 f a b _ _ hw)) (o := 0) (ho := by decide) (hko := kS_o0) (hci := rfl) (hg := wl_good) (w1 := (tm2 (i := 70) rfl rfl)) (w2 := (tm2 (i := 72) rfl rfl)) (w3 := (tm0 (i := 3) rfl rfl)) (w4 := (tm1 (i := 1) rfl rfl)) (w5 := (tm2 (i := 73) rfl rfl)) (hd := ⟨rfl, by decide, by decide, by decide +kernel⟩) (hrc := rfl) (hrs := rfl) (hR := ⟨Nat.le_of_ble_eq_true rfl, Nat.le_of_ble_eq_true rfl⟩) (hn := rfl) (hsz := hl.1) (hst := rfl) (hW := Nat.le_of_ble_eq_true rfl) (hdg := dS_broken_2) (hf := ⟨Nat.le_of_ble_eq_true rfl, Nat.le_of_ble_eq_true rfl⟩) (fun E ce q9 f1 a1 b1 H1 locs1 hw K hce hv hcl => outX X K hw hce hv hcl (by decide) (by decide)) (fun f2 a2 b2 H locs hw K => ?_)
  refine lv_aload_n hx hb dS_broken_5 rfl (lv_at hl 0 rfl) ?_
  refine gGet X K (o := 0) (k := 2) (v := .ref (ad 3)) (by decide) kS_o0 rfl inS_o0 (by decide) (tm1 (i := 84) rfl rfl) rfl dS_broken_6 ?_
  refine lv_iload_n hx hb dS_broken_9 rfl (lv_at hl 1 rfl) ?_
  obtain ⟨hi, hw⟩ := hw
  refine gzld X K (o := 3) (t0 := 1) (by decide) kS_c3 rfl hi dS_broken_10 ?_
  refine lv_iload_n hx hb dS_broken_11 rfl (lv_at hl 2 rfl) ?_
  refine lv_icmp_ne (tgt := 25) hx hb dS_broken_12 (by decide) (fun hc => ?_) (fun hc => ?_)
  · replace hw := hw.1 hc
    refine lv_aload_n hx hb dS_broken_25 rfl (lv_at hl 0 rfl) ?_
    refine gGet X K (o := 0) (k := 2) (v := .ref (ad 3)) (by decide) kS_o0 rfl inS_o0 (by decide) (tm1 (i := 84) rfl rfl) rfl dS_broken_26 ?_
    refine lv_iload_n hx hb dS_broken_29 rfl (lv_at hl 1 rfl) ?_
    refine lv_iload_n hx hb dS_broken_30 rfl (lv_at hl 2 rfl) ?_
    obtain ⟨hi, hw⟩ := hw
    refine gzst X K (o := 3) (t0 := 1) (by decide) kS_c3 rfl hi dS_broken_31 kS_p3 (fun H locs K => ?_)
    refine lv_iload_n hx hb dS_broken_32 rfl (lv_at hl 2 rfl) ?_
    refine lv_if_eq (tgt := 41) hx hb dS_broken_33 (by decide) (fun hc => ?_) (fun hc => ?_)
    · replace hw := hw.1 hc
      exact LS_broken_41 X hr f2 (va_up a2 3 (upd (a2 3) x1.toNatClampNeg (vp_nar .boolean x2))) b2 hw _ _ K _ (lv_sub hl [] rfl)
    · replace hw := hw.2 hc
      refine lv_aload_n hx hb dS_broken_36 rfl (lv_at hl 0 rfl) ?_
      refine lv_iload_n hx hb dS_broken_37 rfl (lv_at hl 1 rfl) ?_
      refine gcV X K (n0 := 1) (As := [.int x1]) (rest := []) (hM := (met_S_free hl9 D ad ca sa _ x1 f2 (va_up a2 3 (upd (a2 3) x1.toNatClampNeg (vp_nar .boolean x2))) b2 _ hw)) (o := 0) (ho := by decide) (hko := kS_o0) (hci := rfl) (hg := wl_good) (w1 := (tm2 (i := 104) rfl rfl)) (w2 := (tm2 (i := 106) rfl rfl)) (w3 := (tm0 (i := 4) rfl rfl)) (w4 := (tm1 (i := 1) rfl rfl)) (w5 := (tm2 (i := 107) rfl rfl)) (hd := ⟨rfl, by decide, by decide, by decide +kernel⟩) (hrc := rfl) (hrs := rfl) (hR := ⟨Nat.le_of_ble_eq_true rfl, Nat.le_of_ble_eq_true rfl⟩) (hn := rfl) (hsz := hl.1) (hst := rfl) (hW := Nat.le_of_ble_eq_true rfl) (hdg := dS_broken_38) (hf := ⟨Nat.le_of_ble_eq_true rfl, Nat.le_of_ble_eq_true rfl⟩) (fun _ _ _ _ _ _ _ _ hw => hw.elim) (fun f38 a38 b38 H locs hw K => ?_)
      exact LS_broken_41 X hr f38 a38 b38 hw _ _ K _ (lv_sub hl [] rfl)
  · replace hw := hw.2 hc
    exact throwX X K (k := 13) (names := ["java/lang/RuntimeException", "java/lang/Exception"]) hw (by decide +kernel) (by decide +kernel) rfl (tm2 (i := 34) rfl rfl) (tm1 (i := 11) rfl rfl) xg_S_121 xb_S_121 xo_S_121_117 hl.1 dS_broken_15 dS_broken_18 dS_broken_19 dS_broken_21 dS_broken_24 (by decide) (by decide) (by decide) (by decide) (by decide) (by decide)
set_option maxHeartbeats 4000000 in
set_option maxRecDepth 100000 in
theorem LP_clear_12 {p : Program} {l : Launch} {e : Env} {s : State} {m : MethodId} {below : List Frame} {meth : Method} {c : Code} {D : va_G} {sa : Nat → Nat} {ad : Nat → Nat} {ca : Nat → ClassId} {sz : Nat} {f0 : wF} {a0 : wA} {b0 : wB} {po : wF → wA → wB → Prop} (X : cx Wl (tyS ca) txS D vwCl sa (va_A (ww nS kS ad ca f0 a0 b0) sz) p l s m ([.ref (ad 1)] : List Value).toArray meth c cP_clear 2 "SendBest$Pairing") (hr : meth.sig.returnType = none) : ∀ n : Nat, ∀ (x1 : Int32) (f : wF) (a : wA) (b : wB), wp_P_clear_12 po n x1 f a b → ∀ (H : Heap) (locs : List Loc), wd nS kS D vwCl ad ca (va_A (ww nS kS ad ca f0 a0 b0) sz) s H locs f a b → ∀ (ls : Array Slot), lv_has ls 2 [(0, .ref (ad 1)), (1, .int x1)] → W p l e ({ frames := 2, cells := 0, slots := 0, locals := 45 }) s m ([.ref (ad 1)] : List Value).toArray below meth c H locs 0 0 (vx_MQ below (va_Qv (fun (u : wF × wA × wB) => po u.1 u.2.1 u.2.2) (sPost nS kS D vwCl ad ca (va_A (ww nS kS ad ca f0 a0 b0) sz)) (va_A (ww nS kS ad ca f0 a0 b0) sz)) (sX nS kS D vwCl ad ca (va_A (ww nS kS ad ca f0 a0 b0) sz) (fun _ _ _ _ => False)) ([.ref (ad 1)] : List Value).toArray s 0 0 (va_A (ww nS kS ad ca f0 a0 b0) sz)) (F0 m 12 ls []) := by
  obtain ⟨hx, hb, hml, hown, hts, hK, hA, hth, hlk, hl9, hex⟩ := id X
  intro n
  induction n with
  | zero => intro x1 f a b hw; exact hw.elim
  | succ n ih =>
    intro x1 f a b hw H locs K ls hl
    dsimp only [wp_P_clear_12] at hw
    refine lv_iload_n hx hb dP_clear_12 rfl (lv_at hl 1 rfl) ?_
    refine lv_bipush (v := (10 : Int32)) hx hb dP_clear_13 (by decide) ?_
    refine lv_icmp_ge (tgt := 34) hx hb dP_clear_15 (by decide) (fun hc => ?_) (fun hc => ?_)
    · replace hw := hw.1 hc
      exact endV X K hr hw (by decide) (by decide) dP_clear_34
    · replace hw := hw.2 hc
      refine lv_aload_n hx hb dP_clear_18 rfl (lv_at hl 0 rfl) ?_
      refine gGet X K (o := 1) (k := 3) (v := .ref (ad 14)) (by decide) kS_o1 rfl inS_o1 (by decide) (tm1 (i := 36) rfl rfl) rfl dP_clear_19 ?_
      refine lv_iload_n hx hb dP_clear_22 rfl (lv_at hl 1 rfl) ?_
      obtain ⟨hi_cost, hw⟩ := hw
      refine gald X K (o := 14) (t0 := 4) (by decide) kS_c14 rfl hi_cost dP_clear_23 ?_
      refine lv_lconst (v := (0 : Int64)) hx hb dP_clear_24 (by decide) ?_
      refine gfilll X K (o := (37 + x1.toNatClampNeg)) (t0 := 2) (rS_cost_lt hi_cost) (kS_r_cost hi_cost) rfl (by decide) (tm2 (i := 125) rfl rfl) hl.1 (Nat.le_of_ble_eq_true rfl) dP_clear_25 ⟨Nat.le_of_ble_eq_true rfl, Nat.le_of_ble_eq_true rfl⟩ ⟨Nat.le_of_ble_eq_true rfl, Nat.le_of_ble_eq_true rfl⟩ (kS_q_cost hi_cost) (fun H locs K => ?_)
      refine lv_iinc (v := (x1 + (1 : Int32))) (lv' := [(1, .int (x1 + (1 : Int32))), (0, .ref (ad 1))]) hx hb dP_clear_28 hl (k := 1) rfl rfl (by decide) rfl (fun ls hl => ?_)
      refine lv_goto (tgt := 12) hx hb dP_clear_31 (by decide) ?_
      exact ih (x1 + (1 : Int32)) f a (va_up b (37 + x1.toNatClampNeg) (fun _ => (0 : Int64))) hw _ _ K _ (lv_sub hl [1, 0] rfl)
set_option maxHeartbeats 4000000 in
set_option maxRecDepth 100000 in
theorem met_P_clear {l : Launch} (hl9 : l.stackTraces = false) (D : va_G) (ad : Nat → Nat) (ca : Nat → ClassId) (sa : Nat → Nat) (sz : Nat)  (f : wF) (a : wA) (b : wB) (po : wF → wA → wB → Prop) (hw : wp_P_clear po f a b) : mV nS kS (tyS ca) txS D vwCl l yP_clear (Cond.code yP_clear cP_clear 2 none :: Wl) ({ frames := 2, cells := 0, slots := 0, locals := 45 }) [.ref (ad 1)] ad ca sa sz f a b po (fun _ _ _ _ => False) 0 0 := by
  refine ofV (by decide) hl9 (Nat.le_of_ble_eq_true rfl) ?_
  intro p e s m below meth c ls X hr K hl
  obtain ⟨hx, hb, hml, hown, hts, hK, hA, hth, hlk, hl9, hex⟩ := id X
  have hl : lv_has ls 2 [(0, .ref (ad 1))] := hl
  dsimp only [wp_P_clear] at hw
  refine lv_aload_n hx hb dP_clear_0 rfl (lv_at hl 0 rfl) ?_
  refine lv_iconst (v := (0 : Int32)) hx hb dP_clear_1 (by decide) ?_
  refine gPut X K (o := 1) (k := 0) (v := .int (0 : Int32)) (ty := .int) tS_o1 tS_o1_ok nS_o1 (by decide) kS_o1 rfl inS_o1 (by decide) (tm1 (i := 33) rfl rfl) rfl rfl rfl rfl (by simp [flS_o1]) dP_clear_2 kS_u1_0 (fun H locs K => ?_)
  refine lv_aload_n hx hb dP_clear_5 rfl (lv_at hl 0 rfl) ?_
  refine lv_iconst (v := (0 : Int32)) hx hb dP_clear_6 (by decide) ?_
  refine gPut X K (o := 1) (k := 1) (v := .int (0 : Int32)) (ty := .int) tS_o1 tS_o1_ok nS_o1 (by decide) kS_o1 rfl inS_o1 (by decide) (tm1 (i := 34) rfl rfl) rfl rfl rfl rfl (by simp [flS_o1]) dP_clear_7 kS_u1_1 (fun H locs K => ?_)
  refine lv_iconst (v := (0 : Int32)) hx hb dP_clear_10 (by decide) ?_
  refine lv_istore_n (lv' := [(1, .int (0 : Int32)), (0, .ref (ad 1))]) hx hb dP_clear_11 rfl hl (by decide) rfl (fun ls hl => ?_)
  obtain ⟨n9, hw⟩ := hw
  exact LP_clear_12 X hr n9 (0 : Int32) (va_up (va_up f 5 (0 : Int32)) 6 (0 : Int32)) a b hw _ _ K _ (lv_sub hl [1, 0] rfl)
set_option maxHeartbeats 4000000 in
set_option maxRecDepth 100000 in
theorem met_S_isOpenNeed {l : Launch} (hl9 : l.stackTraces = false) (D : va_G) (ad : Nat → Nat) (ca : Nat → ClassId) (sa : Nat → Nat) (sz : Nat) (x1 : Int32) (f : wF) (a : wA) (b : wB) (po : Int32 → wF → wA → wB → Prop) (hw : wp_S_isOpenNeed po x1 f a b) : mI nS kS (tyS ca) txS D vwCl l yS_isOpenNeed (Cond.code yS_isOpenNeed cS_isOpenNeed 2 (some .boolean) :: Wl) ({ frames := 0, cells := 0, slots := 0, locals := 0 }) [.ref (ad 0), .int x1] ad ca sa sz f a b po (fun _ _ _ _ => False) 0 0 := by
  refine ofI (by decide) hl9 (Nat.le_of_ble_eq_true rfl) ?_
  intro p e s m below meth c ls X hr K hl
  obtain ⟨hx, hb, hml, hown, hts, hK, hA, hth, hlk, hl9, hex⟩ := id X
  have hl : lv_has ls 2 [(0, .ref (ad 0)), (1, .int x1)] := hl
  dsimp only [wp_S_isOpenNeed] at hw
  refine lv_aload_n hx hb dS_isOpenNeed_0 rfl (lv_at hl 0 rfl) ?_
  refine gGet X K (o := 0) (k := 8) (v := .ref (ad 8)) (by decide) kS_o0 rfl inS_o0 (by decide) (tm1 (i := 90) rfl rfl) rfl dS_isOpenNeed_1 ?_
  refine lv_aload_n hx hb dS_isOpenNeed_4 rfl (lv_at hl 0 rfl) ?_
  refine gGet X K (o := 0) (k := 10) (v := .ref (ad 9)) (by decide) kS_o0 rfl inS_o0 (by decide) (tm1 (i := 92) rfl rfl) rfl dS_isOpenNeed_5 ?_
  refine lv_iload_n hx hb dS_isOpenNeed_8 rfl (lv_at hl 1 rfl) ?_
  obtain ⟨hi, hw⟩ := hw
  refine gild X K (o := 9) (t0 := 0) (by decide) kS_c9 rfl hi dS_isOpenNeed_9 ?_
  obtain ⟨hi, hw⟩ := hw
  refine gzld X K (o := 8) (t0 := 1) (by decide) kS_c8 rfl hi dS_isOpenNeed_10 ?_
  exact endI X K hr hw.1 hw.2 (by decide) (by decide) dS_isOpenNeed_11
set_option maxHeartbeats 4000000 in
set_option maxRecDepth 100000 in
theorem met_S_secondsTo {l : Launch} (hl9 : l.stackTraces = false) (D : va_G) (ad : Nat → Nat) (ca : Nat → ClassId) (sa : Nat → Nat) (sz : Nat) (x1 : Int32) (x2 : Int32) (f : wF) (a : wA) (b : wB) (po : Int32 → wF → wA → wB → Prop) (hw : wp_S_secondsTo po x1 x2 f a b) : mI nS kS (tyS ca) txS D vwCl l yS_secondsTo (Cond.code yS_secondsTo cS_secondsTo 3 (some .int) :: Wl) ({ frames := 0, cells := 0, slots := 0, locals := 0 }) [.ref (ad 0), .int x1, .int x2] ad ca sa sz f a b po (fun _ _ _ _ => False) 0 0 := by
  refine ofI (by decide) hl9 (Nat.le_of_ble_eq_true rfl) ?_
  intro p e s m below meth c ls X hr K hl
  obtain ⟨hx, hb, hml, hown, hts, hK, hA, hth, hlk, hl9, hex⟩ := id X
  have hl : lv_has ls 3 [(0, .ref (ad 0)), (1, .int x1), (2, .int x2)] := hl
  dsimp only [wp_S_secondsTo] at hw
  refine lv_aload_n hx hb dS_secondsTo_0 rfl (lv_at hl 0 rfl) ?_
  refine gGet X K (o := 0) (k := 5) (v := .ref (ad 6)) (by decide) kS_o0 rfl inS_o0 (by decide) (tm1 (i := 87) rfl rfl) rfl dS_secondsTo_1 ?_
  refine lv_iload_n hx hb dS_secondsTo_4 rfl (lv_at hl 1 rfl) ?_
  obtain ⟨hi_secondsOf, hw⟩ := hw
  refine gald X K (o := 6) (t0 := 3) (by decide) kS_c6 rfl hi_secondsOf dS_secondsTo_5 ?_
  refine lv_aload_n hx hb dS_secondsTo_6 rfl (lv_at hl 0 rfl) ?_
  refine gGet X K (o := 0) (k := 10) (v := .ref (ad 9)) (by decide) kS_o0 rfl inS_o0 (by decide) (tm1 (i := 92) rfl rfl) rfl dS_secondsTo_7 ?_
  refine lv_iload_n hx hb dS_secondsTo_10 rfl (lv_at hl 2 rfl) ?_
  obtain ⟨hi, hw⟩ := hw
  refine gild X K (o := 9) (t0 := 0) (by decide) kS_c9 rfl hi dS_secondsTo_11 ?_
  obtain ⟨hi, hw⟩ := hw
  refine gild X K (o := (25 + x1.toNatClampNeg)) (t0 := 0) (rS_secondsOf_lt hi_secondsOf) (kS_r_secondsOf hi_secondsOf) rfl hi dS_secondsTo_12 ?_
  exact endI X K hr rfl hw (by decide) (by decide) dS_secondsTo_13
set_option maxHeartbeats 4000000 in
set_option maxRecDepth 100000 in
theorem LS_canFill_71 {p : Program} {l : Launch} {e : Env} {s : State} {m : MethodId} {below : List Frame} {meth : Method} {c : Code} {D : va_G} {sa : Nat → Nat} {ad : Nat → Nat} {ca : Nat → ClassId} {sz : Nat} {f0 : wF} {a0 : wA} {b0 : wB} {y1 : Int32} {y2 : Int32} {po : Int32 → wF → wA → wB → Prop} (X : cx Wl (tyS ca) txS D vwCl sa (va_A (ww nS kS ad ca f0 a0 b0) sz) p l s m ([.ref (ad 0), .int y1, .int y2] : List Value).toArray meth c cS_canFill 5 "SendBest") (hr : meth.sig.returnType = (some .boolean)) : ∀ (k0 : Int32) (f : wF) (a : wA) (b : wB), wp_S_canFill_71 po k0 f a b → ∀ (H : Heap) (locs : List Loc), wd nS kS D vwCl ad ca (va_A (ww nS kS ad ca f0 a0 b0) sz) s H locs f a b → ∀ (ls : Array Slot), lv_has ls 5 [] → W p l e ({ frames := 1, cells := 0, slots := 0, locals := 22 }) s m ([.ref (ad 0), .int y1, .int y2] : List Value).toArray below meth c H locs 0 0 (vx_MQ below (va_Qi (fun r (u : wF × wA × wB) => po r u.1 u.2.1 u.2.2) (sPost nS kS D vwCl ad ca (va_A (ww nS kS ad ca f0 a0 b0) sz)) (va_A (ww nS kS ad ca f0 a0 b0) sz)) (sX nS kS D vwCl ad ca (va_A (ww nS kS ad ca f0 a0 b0) sz) (fun _ _ _ _ => False)) ([.ref (ad 0), .int y1, .int y2] : List Value).toArray s 0 0 (va_A (ww nS kS ad ca f0 a0 b0) sz)) (F0 m 71 ls [.int k0]) := by
  obtain ⟨hx, hb, hml, hown, hts, hK, hA, hth, hlk, hl9, hex⟩ := id X
  intro k0 f a b hw H locs K ls hl
  dsimp only [wp_S_canFill_71] at hw
  exact endI X K hr hw.1 hw.2 (by decide) (by decide) dS_canFill_71
set_option maxHeartbeats 4000000 in
set_option maxRecDepth 100000 in
theorem LS_canFill_70 {p : Program} {l : Launch} {e : Env} {s : State} {m : MethodId} {below : List Frame} {meth : Method} {c : Code} {D : va_G} {sa : Nat → Nat} {ad : Nat → Nat} {ca : Nat → ClassId} {sz : Nat} {f0 : wF} {a0 : wA} {b0 : wB} {y1 : Int32} {y2 : Int32} {po : Int32 → wF → wA → wB → Prop} (X : cx Wl (tyS ca) txS D vwCl sa (va_A (ww nS kS ad ca f0 a0 b0) sz) p l s m ([.ref (ad 0), .int y1, .int y2] : List Value).toArray meth c cS_canFill 5 "SendBest") (hr : meth.sig.returnType = (some .boolean)) : ∀ (f : wF) (a : wA) (b : wB), wp_S_canFill_70 po f a b → ∀ (H : Heap) (locs : List Loc), wd nS kS D vwCl ad ca (va_A (ww nS kS ad ca f0 a0 b0) sz) s H locs f a b → ∀ (ls : Array Slot), lv_has ls 5 [] → W p l e ({ frames := 1, cells := 0, slots := 0, locals := 22 }) s m ([.ref (ad 0), .int y1, .int y2] : List Value).toArray below meth c H locs 0 0 (vx_MQ below (va_Qi (fun r (u : wF × wA × wB) => po r u.1 u.2.1 u.2.2) (sPost nS kS D vwCl ad ca (va_A (ww nS kS ad ca f0 a0 b0) sz)) (va_A (ww nS kS ad ca f0 a0 b0) sz)) (sX nS kS D vwCl ad ca (va_A (ww nS kS ad ca f0 a0 b0) sz) (fun _ _ _ _ => False)) ([.ref (ad 0), .int y1, .int y2] : List Value).toArray s 0 0 (va_A (ww nS kS ad ca f0 a0 b0) sz)) (F0 m 70 ls []) := by
  obtain ⟨hx, hb, hml, hown, hts, hK, hA, hth, hlk, hl9, hex⟩ := id X
  intro  f a b hw H locs K ls hl
  dsimp only [wp_S_canFill_70] at hw
  refine lv_iconst (v := (0 : Int32)) hx hb dS_canFill_70 (by decide) ?_
  exact LS_canFill_71 X hr (0 : Int32) f a b hw _ _ K _ (lv_sub hl [] rfl)
set_option maxHeartbeats 4000000 in
set_option maxRecDepth 100000 in
theorem LS_canFill_66 {p : Program} {l : Launch} {e : Env} {s : State} {m : MethodId} {below : List Frame} {meth : Method} {c : Code} {D : va_G} {sa : Nat → Nat} {ad : Nat → Nat} {ca : Nat → ClassId} {sz : Nat} {f0 : wF} {a0 : wA} {b0 : wB} {y1 : Int32} {y2 : Int32} {po : Int32 → wF → wA → wB → Prop} (X : cx Wl (tyS ca) txS D vwCl sa (va_A (ww nS kS ad ca f0 a0 b0) sz) p l s m ([.ref (ad 0), .int y1, .int y2] : List Value).toArray meth c cS_canFill 5 "SendBest") (hr : meth.sig.returnType = (some .boolean)) : ∀ (f : wF) (a : wA) (b : wB), wp_S_canFill_66 po f a b → ∀ (H : Heap) (locs : List Loc), wd nS kS D vwCl ad ca (va_A (ww nS kS ad ca f0 a0 b0) sz) s H locs f a b → ∀ (ls : Array Slot), lv_has ls 5 [] → W p l e ({ frames := 1, cells := 0, slots := 0, locals := 22 }) s m ([.ref (ad 0), .int y1, .int y2] : List Value).toArray below meth c H locs 0 0 (vx_MQ below (va_Qi (fun r (u : wF × wA × wB) => po r u.1 u.2.1 u.2.2) (sPost nS kS D vwCl ad ca (va_A (ww nS kS ad ca f0 a0 b0) sz)) (va_A (ww nS kS ad ca f0 a0 b0) sz)) (sX nS kS D vwCl ad ca (va_A (ww nS kS ad ca f0 a0 b0) sz) (fun _ _ _ _ => False)) ([.ref (ad 0), .int y1, .int y2] : List Value).toArray s 0 0 (va_A (ww nS kS ad ca f0 a0 b0) sz)) (F0 m 66 ls []) := by
  obtain ⟨hx, hb, hml, hown, hts, hK, hA, hth, hlk, hl9, hex⟩ := id X
  intro  f a b hw H locs K ls hl
  dsimp only [wp_S_canFill_66] at hw
  refine lv_iconst (v := (1 : Int32)) hx hb dS_canFill_66 (by decide) ?_
  refine lv_goto (tgt := 71) hx hb dS_canFill_67 (by decide) ?_
  exact LS_canFill_71 X hr (1 : Int32) f a b hw _ _ K _ (lv_sub hl [] rfl)
set_option maxHeartbeats 4000000 in
set_option maxRecDepth 100000 in
theorem LS_canFill_29 {p : Program} {l : Launch} {e : Env} {s : State} {m : MethodId} {below : List Frame} {meth : Method} {c : Code} {D : va_G} {sa : Nat → Nat} {ad : Nat → Nat} {ca : Nat → ClassId} {sz : Nat} {f0 : wF} {a0 : wA} {b0 : wB} {y1 : Int32} {y2 : Int32} {po : Int32 → wF → wA → wB → Prop} (X : cx Wl (tyS ca) txS D vwCl sa (va_A (ww nS kS ad ca f0 a0 b0) sz) p l s m ([.ref (ad 0), .int y1, .int y2] : List Value).toArray meth c cS_canFill 5 "SendBest") (hr : meth.sig.returnType = (some .boolean)) : ∀ (f : wF) (a : wA) (b : wB), wp_S_canFill_29 po f a b → ∀ (H : Heap) (locs : List Loc), wd nS kS D vwCl ad ca (va_A (ww nS kS ad ca f0 a0 b0) sz) s H locs f a b → ∀ (ls : Array Slot), lv_has ls 5 [] → W p l e ({ frames := 1, cells := 0, slots := 0, locals := 22 }) s m ([.ref (ad 0), .int y1, .int y2] : List Value).toArray below meth c H locs 0 0 (vx_MQ below (va_Qi (fun r (u : wF × wA × wB) => po r u.1 u.2.1 u.2.2) (sPost nS kS D vwCl ad ca (va_A (ww nS kS ad ca f0 a0 b0) sz)) (va_A (ww nS kS ad ca f0 a0 b0) sz)) (sX nS kS D vwCl ad ca (va_A (ww nS kS ad ca f0 a0 b0) sz) (fun _ _ _ _ => False)) ([.ref (ad 0), .int y1, .int y2] : List Value).toArray s 0 0 (va_A (ww nS kS ad ca f0 a0 b0) sz)) (F0 m 29 ls []) := by
  obtain ⟨hx, hb, hml, hown, hts, hK, hA, hth, hlk, hl9, hex⟩ := id X
  intro  f a b hw H locs K ls hl
  dsimp only [wp_S_canFill_29] at hw
  refine lv_iconst (v := (0 : Int32)) hx hb dS_canFill_29 (by decide) ?_
  exact endI X K hr hw.1 hw.2 (by decide) (by decide) dS_canFill_30
set_option maxHeartbeats 4000000 in
set_option maxRecDepth 100000 in
theorem met_S_canFill {l : Launch} (hl9 : l.stackTraces = false) (D : va_G) (ad : Nat → Nat) (ca : Nat → ClassId) (sa : Nat → Nat) (sz : Nat) (x1 : Int32) (x2 : Int32) (f : wF) (a : wA) (b : wB) (po : Int32 → wF → wA → wB → Prop) (hw : wp_S_canFill po x1 x2 f a b) : mI nS kS (tyS ca) txS D vwCl l yS_canFill (Cond.code yS_canFill cS_canFill 5 (some .boolean) :: Wl) ({ frames := 1, cells := 0, slots := 0, locals := 22 }) [.ref (ad 0), .int x1, .int x2] ad ca sa sz f a b po (fun _ _ _ _ => False) 0 0 := by
  refine ofI (by decide) hl9 (Nat.le_of_ble_eq_true rfl) ?_
  intro p e s m below meth c ls X hr K hl
  obtain ⟨hx, hb, hml, hown, hts, hK, hA, hth, hlk, hl9, hex⟩ := id X
  have hl : lv_has ls 5 [(0, .ref (ad 0)), (1, .int x1), (2, .int x2)] := hl
  dsimp only [wp_S_canFill] at hw
  refine lv_aload_n hx hb dS_canFill_0 rfl (lv_at hl 0 rfl) ?_
  refine gGet X K (o := 0) (k := 11) (v := .ref (ad 10)) (by decide) kS_o0 rfl inS_o0 (by decide) (tm1 (i := 93) rfl rfl) rfl dS_canFill_1 ?_
  refine lv_iload_n hx hb dS_canFill_4 rfl (lv_at hl 2 rfl) ?_
  obtain ⟨hi, hw⟩ := hw
  refine gild X K (o := 10) (t0 := 0) (by decide) kS_c10 rfl hi dS_canFill_5 ?_
  refine lv_istore_n (lv' := [(3, .int (a 10 x2.toNatClampNeg)), (0, .ref (ad 0)), (1, .int x1), (2, .int x2)]) hx hb dS_canFill_6 rfl hl (by decide) rfl (fun ls hl => ?_)
  refine lv_aload_n hx hb dS_canFill_7 rfl (lv_at hl 1 rfl) ?_
  refine gGet X K (o := 0) (k := 2) (v := .ref (ad 3)) (by decide) kS_o0 rfl inS_o0 (by decide) (tm1 (i := 84) rfl rfl) rfl dS_canFill_8 ?_
  refine lv_iload_n hx hb dS_canFill_11 rfl (lv_at hl 2 rfl) ?_
  obtain ⟨hi, hw⟩ := hw
  refine gzld X K (o := 3) (t0 := 1) (by decide) kS_c3 rfl hi dS_canFill_12 ?_
  refine lv_if_ne (tgt := 29) hx hb dS_canFill_13 (by decide) (fun hc => ?_) (fun hc => ?_)
  · replace hw := hw.1 hc
    exact LS_canFill_29 X hr f a b hw _ _ K _ (lv_sub hl [] rfl)
  · replace hw := hw.2 hc
    refine lv_aload_n hx hb dS_canFill_16 rfl (lv_at hl 1 rfl) ?_
    refine gGet X K (o := 0) (k := 1) (v := .ref (ad 2)) (by decide) kS_o0 rfl inS_o0 (by decide) (tm1 (i := 83) rfl rfl) rfl dS_canFill_17 ?_
    refine lv_iload_n hx hb dS_canFill_20 rfl (lv_at hl 2 rfl) ?_
    obtain ⟨hi, hw⟩ := hw
    refine gild X K (o := 2) (t0 := 0) (by decide) kS_c2 rfl hi dS_canFill_21 ?_
    refine lv_iload_n hx hb dS_canFill_22 rfl (lv_at hl 0 rfl) ?_
    refine lv_ishr hx hb dS_canFill_23 ?_
    refine lv_iconst (v := (1 : Int32)) hx hb dS_canFill_24 (by decide) ?_
    refine lv_iand hx hb dS_canFill_25 ?_
    refine lv_if_ne (tgt := 31) hx hb dS_canFill_26 (by decide) (fun hc => ?_) (fun hc => ?_)
    · replace hw := hw.1 hc
      refine lv_aload_n hx hb dS_canFill_31 rfl (lv_at hl 1 rfl) ?_
      refine lv_iload_n hx hb dS_canFill_32 rfl (lv_at hl 2 rfl) ?_
      refine lv_iload_n hx hb dS_canFill_33 rfl (lv_at hl 3 rfl) ?_
      refine gcI X K (n0 := 2) (As := [.int x1, .int x2]) (rest := []) (hM := (met_S_secondsTo hl9 D ad ca sa _ x1 x2 f a b _ hw)) (o := 0) (ho := by decide) (hko := kS_o0) (hci := rfl) (hg := wl_good) (w1 := (tm2 (i := 148) rfl rfl)) (w2 := (tm2 (i := 150) rfl rfl)) (w3 := (tm0 (i := 11) rfl rfl)) (w4 := (tm1 (i := 1) rfl rfl)) (w5 := (tm2 (i := 151) rfl rfl)) (hd := ⟨rfl, by decide, by decide, by decide +kernel⟩) (hrc := rfl) (hrs := rfl) (hR := ⟨Nat.le_of_ble_eq_true rfl, Nat.le_of_ble_eq_true rfl⟩) (hn := rfl) (hsz := hl.1) (hst := rfl) (hW := Nat.le_of_ble_eq_true rfl) (hdg := dS_canFill_34) (hf := ⟨Nat.le_of_ble_eq_true rfl, Nat.le_of_ble_eq_true rfl⟩) (fun _ _ _ _ _ _ _ _ hw => hw.elim) (fun r34 f34 a34 b34 H locs hw K => ?_)
      refine lv_istore (lv' := [(4, .int r34), (3, .int (a 10 x2.toNatClampNeg)), (0, .ref (ad 0)), (1, .int x1), (2, .int x2)]) hx hb dS_canFill_37 hl (by decide) rfl (fun ls hl => ?_)
      refine lv_iload hx hb dS_canFill_39 (lv_at hl 0 rfl) ?_
      refine lv_iconst (v := (-1 : Int32)) hx hb dS_canFill_41 (by decide) ?_
      refine lv_icmp_eq (tgt := 70) hx hb dS_canFill_42 (by decide) (fun hc => ?_) (fun hc => ?_)
      · replace hw := hw.1 hc
        exact LS_canFill_70 X hr f34 a34 b34 hw _ _ K _ (lv_sub hl [] rfl)
      · replace hw := hw.2 hc
        refine lv_aload_n hx hb dS_canFill_45 rfl (lv_at hl 2 rfl) ?_
        refine gGet X K (o := 0) (k := 13) (v := .ref (ad 12)) (by decide) kS_o0 rfl inS_o0 (by decide) (tm1 (i := 95) rfl rfl) rfl dS_canFill_46 ?_
        refine lv_iload_n hx hb dS_canFill_49 rfl (lv_at hl 1 rfl) ?_
        obtain ⟨hi, hw⟩ := hw
        refine gild X K (o := 12) (t0 := 0) (by decide) kS_c12 rfl hi dS_canFill_50 ?_
        refine lv_iconst (v := (-1 : Int32)) hx hb dS_canFill_51 (by decide) ?_
        refine lv_icmp_eq (tgt := 66) hx hb dS_canFill_52 (by decide) (fun hc => ?_) (fun hc => ?_)
        · replace hw := hw.1 hc
          exact LS_canFill_66 X hr f34 a34 b34 hw _ _ K _ (lv_sub hl [] rfl)
        · replace hw := hw.2 hc
          refine lv_iload hx hb dS_canFill_55 (lv_at hl 0 rfl) ?_
          refine lv_aload_n hx hb dS_canFill_57 rfl (lv_at hl 2 rfl) ?_
          refine gGet X K (o := 0) (k := 13) (v := .ref (ad 12)) (by decide) kS_o0 rfl inS_o0 (by decide) (tm1 (i := 95) rfl rfl) rfl dS_canFill_58 ?_
          refine lv_iload_n hx hb dS_canFill_61 rfl (lv_at hl 1 rfl) ?_
          obtain ⟨hi, hw⟩ := hw
          refine gild X K (o := 12) (t0 := 0) (by decide) kS_c12 rfl hi dS_canFill_62 ?_
          refine lv_icmp_gt (tgt := 70) hx hb dS_canFill_63 (by decide) (fun hc => ?_) (fun hc => ?_)
          · replace hw := hw.1 hc
            exact LS_canFill_70 X hr f34 a34 b34 hw _ _ K _ (lv_sub hl [] rfl)
          · replace hw := hw.2 hc
            exact LS_canFill_66 X hr f34 a34 b34 hw _ _ K _ (lv_sub hl [] rfl)
    · replace hw := hw.2 hc
      exact LS_canFill_29 X hr f a b hw _ _ K _ (lv_sub hl [] rfl)
set_option maxHeartbeats 4000000 in
set_option maxRecDepth 100000 in
theorem LS_isFixed_38 {p : Program} {l : Launch} {e : Env} {s : State} {m : MethodId} {below : List Frame} {meth : Method} {c : Code} {D : va_G} {sa : Nat → Nat} {ad : Nat → Nat} {ca : Nat → ClassId} {sz : Nat} {f0 : wF} {a0 : wA} {b0 : wB} {y1 : Int32} {po : Int32 → wF → wA → wB → Prop} (X : cx Wl (tyS ca) txS D vwCl sa (va_A (ww nS kS ad ca f0 a0 b0) sz) p l s m ([.ref (ad 0), .int y1] : List Value).toArray meth c cS_isFixed 2 "SendBest") (hr : meth.sig.returnType = (some .boolean)) : ∀ (k0 : Int32) (f : wF) (a : wA) (b : wB), wp_S_isFixed_38 po k0 f a b → ∀ (H : Heap) (locs : List Loc), wd nS kS D vwCl ad ca (va_A (ww nS kS ad ca f0 a0 b0) sz) s H locs f a b → ∀ (ls : Array Slot), lv_has ls 2 [] → W p l e ({ frames := 2, cells := 0, slots := 0, locals := 46 }) s m ([.ref (ad 0), .int y1] : List Value).toArray below meth c H locs 0 0 (vx_MQ below (va_Qi (fun r (u : wF × wA × wB) => po r u.1 u.2.1 u.2.2) (sPost nS kS D vwCl ad ca (va_A (ww nS kS ad ca f0 a0 b0) sz)) (va_A (ww nS kS ad ca f0 a0 b0) sz)) (sX nS kS D vwCl ad ca (va_A (ww nS kS ad ca f0 a0 b0) sz) (fun _ _ _ _ => False)) ([.ref (ad 0), .int y1] : List Value).toArray s 0 0 (va_A (ww nS kS ad ca f0 a0 b0) sz)) (F0 m 38 ls [.int k0]) := by
  obtain ⟨hx, hb, hml, hown, hts, hK, hA, hth, hlk, hl9, hex⟩ := id X
  intro k0 f a b hw H locs K ls hl
  dsimp only [wp_S_isFixed_38] at hw
  exact endI X K hr hw.1 hw.2 (by decide) (by decide) dS_isFixed_38
set_option maxHeartbeats 4000000 in
set_option maxRecDepth 100000 in
theorem LS_isFixed_37 {p : Program} {l : Launch} {e : Env} {s : State} {m : MethodId} {below : List Frame} {meth : Method} {c : Code} {D : va_G} {sa : Nat → Nat} {ad : Nat → Nat} {ca : Nat → ClassId} {sz : Nat} {f0 : wF} {a0 : wA} {b0 : wB} {y1 : Int32} {po : Int32 → wF → wA → wB → Prop} (X : cx Wl (tyS ca) txS D vwCl sa (va_A (ww nS kS ad ca f0 a0 b0) sz) p l s m ([.ref (ad 0), .int y1] : List Value).toArray meth c cS_isFixed 2 "SendBest") (hr : meth.sig.returnType = (some .boolean)) : ∀ (f : wF) (a : wA) (b : wB), wp_S_isFixed_37 po f a b → ∀ (H : Heap) (locs : List Loc), wd nS kS D vwCl ad ca (va_A (ww nS kS ad ca f0 a0 b0) sz) s H locs f a b → ∀ (ls : Array Slot), lv_has ls 2 [] → W p l e ({ frames := 2, cells := 0, slots := 0, locals := 46 }) s m ([.ref (ad 0), .int y1] : List Value).toArray below meth c H locs 0 0 (vx_MQ below (va_Qi (fun r (u : wF × wA × wB) => po r u.1 u.2.1 u.2.2) (sPost nS kS D vwCl ad ca (va_A (ww nS kS ad ca f0 a0 b0) sz)) (va_A (ww nS kS ad ca f0 a0 b0) sz)) (sX nS kS D vwCl ad ca (va_A (ww nS kS ad ca f0 a0 b0) sz) (fun _ _ _ _ => False)) ([.ref (ad 0), .int y1] : List Value).toArray s 0 0 (va_A (ww nS kS ad ca f0 a0 b0) sz)) (F0 m 37 ls []) := by
  obtain ⟨hx, hb, hml, hown, hts, hK, hA, hth, hlk, hl9, hex⟩ := id X
  intro  f a b hw H locs K ls hl
  dsimp only [wp_S_isFixed_37] at hw
  refine lv_iconst (v := (0 : Int32)) hx hb dS_isFixed_37 (by decide) ?_
  exact LS_isFixed_38 X hr (0 : Int32) f a b hw _ _ K _ (lv_sub hl [] rfl)
set_option maxHeartbeats 4000000 in
set_option maxRecDepth 100000 in
theorem met_S_isFixed {l : Launch} (hl9 : l.stackTraces = false) (D : va_G) (ad : Nat → Nat) (ca : Nat → ClassId) (sa : Nat → Nat) (sz : Nat) (x1 : Int32) (f : wF) (a : wA) (b : wB) (po : Int32 → wF → wA → wB → Prop) (hw : wp_S_isFixed po x1 f a b) : mI nS kS (tyS ca) txS D vwCl l yS_isFixed (Cond.code yS_isFixed cS_isFixed 2 (some .boolean) :: Wl) ({ frames := 2, cells := 0, slots := 0, locals := 46 }) [.ref (ad 0), .int x1] ad ca sa sz f a b po (fun _ _ _ _ => False) 0 0 := by
  refine ofI (by decide) hl9 (Nat.le_of_ble_eq_true rfl) ?_
  intro p e s m below meth c ls X hr K hl
  obtain ⟨hx, hb, hml, hown, hts, hK, hA, hth, hlk, hl9, hex⟩ := id X
  have hl : lv_has ls 2 [(0, .ref (ad 0)), (1, .int x1)] := hl
  dsimp only [wp_S_isFixed] at hw
  refine lv_aload_n hx hb dS_isFixed_0 rfl (lv_at hl 0 rfl) ?_
  refine gGet X K (o := 0) (k := 3) (v := .ref (ad 4)) (by decide) kS_o0 rfl inS_o0 (by decide) (tm1 (i := 85) rfl rfl) rfl dS_isFixed_1 ?_
  refine lv_iload_n hx hb dS_isFixed_4 rfl (lv_at hl 1 rfl) ?_
  obtain ⟨hi, hw⟩ := hw
  refine gzld X K (o := 4) (t0 := 1) (by decide) kS_c4 rfl hi dS_isFixed_5 ?_
  refine lv_if_eq (tgt := 37) hx hb dS_isFixed_6 (by decide) (fun hc => ?_) (fun hc => ?_)
  · replace hw := hw.1 hc
    exact LS_isFixed_37 X hr f a b hw _ _ K _ (lv_sub hl [] rfl)
  · replace hw := hw.2 hc
    refine lv_aload_n hx hb dS_isFixed_9 rfl (lv_at hl 0 rfl) ?_
    refine gGet X K (o := 0) (k := 4) (v := .ref (ad 5)) (by decide) kS_o0 rfl inS_o0 (by decide) (tm1 (i := 86) rfl rfl) rfl dS_isFixed_10 ?_
    refine lv_iload_n hx hb dS_isFixed_13 rfl (lv_at hl 1 rfl) ?_
    obtain ⟨hi, hw⟩ := hw
    refine gild X K (o := 5) (t0 := 0) (by decide) kS_c5 rfl hi dS_isFixed_14 ?_
    refine lv_iconst (v := (-1 : Int32)) hx hb dS_isFixed_15 (by decide) ?_
    refine lv_icmp_eq (tgt := 37) hx hb dS_isFixed_16 (by decide) (fun hc => ?_) (fun hc => ?_)
    · replace hw := hw.1 hc
      exact LS_isFixed_37 X hr f a b hw _ _ K _ (lv_sub hl [] rfl)
    · replace hw := hw.2 hc
      refine lv_aload_n hx hb dS_isFixed_19 rfl (lv_at hl 0 rfl) ?_
      refine lv_iload_n hx hb dS_isFixed_20 rfl (lv_at hl 1 rfl) ?_
      refine lv_aload_n hx hb dS_isFixed_21 rfl (lv_at hl 0 rfl) ?_
      refine gGet X K (o := 0) (k := 4) (v := .ref (ad 5)) (by decide) kS_o0 rfl inS_o0 (by decide) (tm1 (i := 86) rfl rfl) rfl dS_isFixed_22 ?_
      refine lv_iload_n hx hb dS_isFixed_25 rfl (lv_at hl 1 rfl) ?_
      obtain ⟨hi, hw⟩ := hw
      refine gild X K (o := 5) (t0 := 0) (by decide) kS_c5 rfl hi dS_isFixed_26 ?_
      refine gcI X K (n0 := 2) (As := [.int x1, .int (a 5 x1.toNatClampNeg)]) (rest := []) (hM := (met_S_canFill hl9 D ad ca sa _ x1 (a 5 x1.toNatClampNeg) f a b _ hw)) (o := 0) (ho := by decide) (hko := kS_o0) (hci := rfl) (hg := wl_good) (w1 := (tm2 (i := 144) rfl rfl)) (w2 := (tm2 (i := 146) rfl rfl)) (w3 := (tm0 (i := 10) rfl rfl)) (w4 := (tm1 (i := 1) rfl rfl)) (w5 := (tm2 (i := 147) rfl rfl)) (hd := ⟨rfl, by decide, by decide, by decide +kernel⟩) (hrc := rfl) (hrs := rfl) (hR := ⟨Nat.le_of_ble_eq_true rfl, Nat.le_of_ble_eq_true rfl⟩) (hn := rfl) (hsz := hl.1) (hst := rfl) (hW := Nat.le_of_ble_eq_true rfl) (hdg := dS_isFixed_27) (hf := ⟨Nat.le_of_ble_eq_true rfl, Nat.le_of_ble_eq_true rfl⟩) (fun _ _ _ _ _ _ _ _ hw => hw.elim) (fun r27 f27 a27 b27 H locs hw K => ?_)
      refine lv_if_eq (tgt := 37) hx hb dS_isFixed_30 (by decide) (fun hc => ?_) (fun hc => ?_)
      · replace hw := hw.1 hc
        exact LS_isFixed_37 X hr f27 a27 b27 hw _ _ K _ (lv_sub hl [] rfl)
      · replace hw := hw.2 hc
        refine lv_iconst (v := (1 : Int32)) hx hb dS_isFixed_33 (by decide) ?_
        refine lv_goto (tgt := 38) hx hb dS_isFixed_34 (by decide) ?_
        exact LS_isFixed_38 X hr (1 : Int32) f27 a27 b27 hw _ _ K _ (lv_sub hl [] rfl)
set_option maxHeartbeats 4000000 in
set_option maxRecDepth 100000 in
theorem LS_hasFixedUnit_28 {p : Program} {l : Launch} {e : Env} {s : State} {m : MethodId} {below : List Frame} {meth : Method} {c : Code} {D : va_G} {sa : Nat → Nat} {ad : Nat → Nat} {ca : Nat → ClassId} {sz : Nat} {f0 : wF} {a0 : wA} {b0 : wB} {y1 : Int32} {po : Int32 → wF → wA → wB → Prop} (X : cx Wl (tyS ca) txS D vwCl sa (va_A (ww nS kS ad ca f0 a0 b0) sz) p l s m ([.ref (ad 0), .int y1] : List Value).toArray meth c cS_hasFixedUnit 2 "SendBest") (hr : meth.sig.returnType = (some .boolean)) : ∀ (k0 : Int32) (f : wF) (a : wA) (b : wB), wp_S_hasFixedUnit_28 po k0 f a b → ∀ (H : Heap) (locs : List Loc), wd nS kS D vwCl ad ca (va_A (ww nS kS ad ca f0 a0 b0) sz) s H locs f a b → ∀ (ls : Array Slot), lv_has ls 2 [] → W p l e ({ frames := 3, cells := 0, slots := 0, locals := 67 }) s m ([.ref (ad 0), .int y1] : List Value).toArray below meth c H locs 0 0 (vx_MQ below (va_Qi (fun r (u : wF × wA × wB) => po r u.1 u.2.1 u.2.2) (sPost nS kS D vwCl ad ca (va_A (ww nS kS ad ca f0 a0 b0) sz)) (va_A (ww nS kS ad ca f0 a0 b0) sz)) (sX nS kS D vwCl ad ca (va_A (ww nS kS ad ca f0 a0 b0) sz) (fun _ _ _ _ => False)) ([.ref (ad 0), .int y1] : List Value).toArray s 0 0 (va_A (ww nS kS ad ca f0 a0 b0) sz)) (F0 m 28 ls [.int k0]) := by
  obtain ⟨hx, hb, hml, hown, hts, hK, hA, hth, hlk, hl9, hex⟩ := id X
  intro k0 f a b hw H locs K ls hl
  dsimp only [wp_S_hasFixedUnit_28] at hw
  exact endI X K hr hw.1 hw.2 (by decide) (by decide) dS_hasFixedUnit_28
set_option maxHeartbeats 4000000 in
set_option maxRecDepth 100000 in
theorem LS_hasFixedUnit_27 {p : Program} {l : Launch} {e : Env} {s : State} {m : MethodId} {below : List Frame} {meth : Method} {c : Code} {D : va_G} {sa : Nat → Nat} {ad : Nat → Nat} {ca : Nat → ClassId} {sz : Nat} {f0 : wF} {a0 : wA} {b0 : wB} {y1 : Int32} {po : Int32 → wF → wA → wB → Prop} (X : cx Wl (tyS ca) txS D vwCl sa (va_A (ww nS kS ad ca f0 a0 b0) sz) p l s m ([.ref (ad 0), .int y1] : List Value).toArray meth c cS_hasFixedUnit 2 "SendBest") (hr : meth.sig.returnType = (some .boolean)) : ∀ (f : wF) (a : wA) (b : wB), wp_S_hasFixedUnit_27 po f a b → ∀ (H : Heap) (locs : List Loc), wd nS kS D vwCl ad ca (va_A (ww nS kS ad ca f0 a0 b0) sz) s H locs f a b → ∀ (ls : Array Slot), lv_has ls 2 [] → W p l e ({ frames := 3, cells := 0, slots := 0, locals := 67 }) s m ([.ref (ad 0), .int y1] : List Value).toArray below meth c H locs 0 0 (vx_MQ below (va_Qi (fun r (u : wF × wA × wB) => po r u.1 u.2.1 u.2.2) (sPost nS kS D vwCl ad ca (va_A (ww nS kS ad ca f0 a0 b0) sz)) (va_A (ww nS kS ad ca f0 a0 b0) sz)) (sX nS kS D vwCl ad ca (va_A (ww nS kS ad ca f0 a0 b0) sz) (fun _ _ _ _ => False)) ([.ref (ad 0), .int y1] : List Value).toArray s 0 0 (va_A (ww nS kS ad ca f0 a0 b0) sz)) (F0 m 27 ls []) := by
  obtain ⟨hx, hb, hml, hown, hts, hK, hA, hth, hlk, hl9, hex⟩ := id X
  intro  f a b hw H locs K ls hl
  dsimp only [wp_S_hasFixedUnit_27] at hw
  refine lv_iconst (v := (0 : Int32)) hx hb dS_hasFixedUnit_27 (by decide) ?_
  exact LS_hasFixedUnit_28 X hr (0 : Int32) f a b hw _ _ K _ (lv_sub hl [] rfl)
set_option maxHeartbeats 4000000 in
set_option maxRecDepth 100000 in
theorem met_S_hasFixedUnit {l : Launch} (hl9 : l.stackTraces = false) (D : va_G) (ad : Nat → Nat) (ca : Nat → ClassId) (sa : Nat → Nat) (sz : Nat) (x1 : Int32) (f : wF) (a : wA) (b : wB) (po : Int32 → wF → wA → wB → Prop) (hw : wp_S_hasFixedUnit po x1 f a b) : mI nS kS (tyS ca) txS D vwCl l yS_hasFixedUnit (Cond.code yS_hasFixedUnit cS_hasFixedUnit 2 (some .boolean) :: Wl) ({ frames := 3, cells := 0, slots := 0, locals := 67 }) [.ref (ad 0), .int x1] ad ca sa sz f a b po (fun _ _ _ _ => False) 0 0 := by
  refine ofI (by decide) hl9 (Nat.le_of_ble_eq_true rfl) ?_
  intro p e s m below meth c ls X hr K hl
  obtain ⟨hx, hb, hml, hown, hts, hK, hA, hth, hlk, hl9, hex⟩ := id X
  have hl : lv_has ls 2 [(0, .ref (ad 0)), (1, .int x1)] := hl
  dsimp only [wp_S_hasFixedUnit] at hw
  refine lv_aload_n hx hb dS_hasFixedUnit_0 rfl (lv_at hl 0 rfl) ?_
  refine gGet X K (o := 0) (k := 12) (v := .ref (ad 11)) (by decide) kS_o0 rfl inS_o0 (by decide) (tm1 (i := 94) rfl rfl) rfl dS_hasFixedUnit_1 ?_
  refine lv_iload_n hx hb dS_hasFixedUnit_4 rfl (lv_at hl 1 rfl) ?_
  obtain ⟨hi, hw⟩ := hw
  refine gild X K (o := 11) (t0 := 0) (by decide) kS_c11 rfl hi dS_hasFixedUnit_5 ?_
  refine lv_iconst (v := (-1 : Int32)) hx hb dS_hasFixedUnit_6 (by decide) ?_
  refine lv_icmp_eq (tgt := 27) hx hb dS_hasFixedUnit_7 (by decide) (fun hc => ?_) (fun hc => ?_)
  · replace hw := hw.1 hc
    exact LS_hasFixedUnit_27 X hr f a b hw _ _ K _ (lv_sub hl [] rfl)
  · replace hw := hw.2 hc
    refine lv_aload_n hx hb dS_hasFixedUnit_10 rfl (lv_at hl 0 rfl) ?_
    refine lv_aload_n hx hb dS_hasFixedUnit_11 rfl (lv_at hl 0 rfl) ?_
    refine gGet X K (o := 0) (k := 12) (v := .ref (ad 11)) (by decide) kS_o0 rfl inS_o0 (by decide) (tm1 (i := 94) rfl rfl) rfl dS_hasFixedUnit_12 ?_
    refine lv_iload_n hx hb dS_hasFixedUnit_15 rfl (lv_at hl 1 rfl) ?_
    obtain ⟨hi, hw⟩ := hw
    refine gild X K (o := 11) (t0 := 0) (by decide) kS_c11 rfl hi dS_hasFixedUnit_16 ?_
    refine gcI X K (n0 := 1) (As := [.int (a 11 x1.toNatClampNeg)]) (rest := []) (hM := (met_S_isFixed hl9 D ad ca sa _ (a 11 x1.toNatClampNeg) f a b _ hw)) (o := 0) (ho := by decide) (hko := kS_o0) (hci := rfl) (hg := wl_good) (w1 := (tm2 (i := 140) rfl rfl)) (w2 := (tm2 (i := 142) rfl rfl)) (w3 := (tm0 (i := 9) rfl rfl)) (w4 := (tm1 (i := 1) rfl rfl)) (w5 := (tm2 (i := 143) rfl rfl)) (hd := ⟨rfl, by decide, by decide, by decide +kernel⟩) (hrc := rfl) (hrs := rfl) (hR := ⟨Nat.le_of_ble_eq_true rfl, Nat.le_of_ble_eq_true rfl⟩) (hn := rfl) (hsz := hl.1) (hst := rfl) (hW := Nat.le_of_ble_eq_true rfl) (hdg := dS_hasFixedUnit_17) (hf := ⟨Nat.le_of_ble_eq_true rfl, Nat.le_of_ble_eq_true rfl⟩) (fun _ _ _ _ _ _ _ _ hw => hw.elim) (fun r17 f17 a17 b17 H locs hw K => ?_)
    refine lv_if_eq (tgt := 27) hx hb dS_hasFixedUnit_20 (by decide) (fun hc => ?_) (fun hc => ?_)
    · replace hw := hw.1 hc
      exact LS_hasFixedUnit_27 X hr f17 a17 b17 hw _ _ K _ (lv_sub hl [] rfl)
    · replace hw := hw.2 hc
      refine lv_iconst (v := (1 : Int32)) hx hb dS_hasFixedUnit_23 (by decide) ?_
      refine lv_goto (tgt := 28) hx hb dS_hasFixedUnit_24 (by decide) ?_
      exact LS_hasFixedUnit_28 X hr (1 : Int32) f17 a17 b17 hw _ _ K _ (lv_sub hl [] rfl)
set_option maxHeartbeats 4000000 in
set_option maxRecDepth 100000 in
theorem met_S_rankOfNeed {l : Launch} (hl9 : l.stackTraces = false) (D : va_G) (ad : Nat → Nat) (ca : Nat → ClassId) (sa : Nat → Nat) (sz : Nat) (x1 : Int32) (f : wF) (a : wA) (b : wB) (po : Int32 → wF → wA → wB → Prop) (hw : wp_S_rankOfNeed po x1 f a b) : mI nS kS (tyS ca) txS D vwCl l yS_rankOfNeed (Cond.code yS_rankOfNeed cS_rankOfNeed 2 (some .int) :: Wl) ({ frames := 0, cells := 0, slots := 0, locals := 0 }) [.ref (ad 0), .int x1] ad ca sa sz f a b po (fun _ _ _ _ => False) 0 0 := by
  refine ofI (by decide) hl9 (Nat.le_of_ble_eq_true rfl) ?_
  intro p e s m below meth c ls X hr K hl
  obtain ⟨hx, hb, hml, hown, hts, hK, hA, hth, hlk, hl9, hex⟩ := id X
  have hl : lv_has ls 2 [(0, .ref (ad 0)), (1, .int x1)] := hl
  dsimp only [wp_S_rankOfNeed] at hw
  refine lv_aload_n hx hb dS_rankOfNeed_0 rfl (lv_at hl 0 rfl) ?_
  refine gGet X K (o := 0) (k := 7) (v := .ref (ad 7)) (by decide) kS_o0 rfl inS_o0 (by decide) (tm1 (i := 89) rfl rfl) rfl dS_rankOfNeed_1 ?_
  refine lv_aload_n hx hb dS_rankOfNeed_4 rfl (lv_at hl 0 rfl) ?_
  refine gGet X K (o := 0) (k := 10) (v := .ref (ad 9)) (by decide) kS_o0 rfl inS_o0 (by decide) (tm1 (i := 92) rfl rfl) rfl dS_rankOfNeed_5 ?_
  refine lv_iload_n hx hb dS_rankOfNeed_8 rfl (lv_at hl 1 rfl) ?_
  obtain ⟨hi, hw⟩ := hw
  refine gild X K (o := 9) (t0 := 0) (by decide) kS_c9 rfl hi dS_rankOfNeed_9 ?_
  obtain ⟨hi, hw⟩ := hw
  refine gild X K (o := 7) (t0 := 0) (by decide) kS_c7 rfl hi dS_rankOfNeed_10 ?_
  exact endI X K hr rfl hw (by decide) (by decide) dS_rankOfNeed_11
set_option maxHeartbeats 4000000 in
set_option maxRecDepth 100000 in
theorem met_P_addRow {l : Launch} (hl9 : l.stackTraces = false) (D : va_G) (ad : Nat → Nat) (ca : Nat → ClassId) (sa : Nat → Nat) (sz : Nat) (x1 : Int32) (f : wF) (a : wA) (b : wB) (po : Int32 → wF → wA → wB → Prop) (hw : wp_P_addRow po x1 f a b) : mI nS kS (tyS ca) txS D vwCl l yP_addRow (Cond.code yP_addRow cP_addRow 2 (some .int) :: Wl) ({ frames := 0, cells := 0, slots := 0, locals := 0 }) [.ref (ad 1), .int x1] ad ca sa sz f a b po (fun _ _ _ _ => False) 0 0 := by
  refine ofI (by decide) hl9 (Nat.le_of_ble_eq_true rfl) ?_
  intro p e s m below meth c ls X hr K hl
  obtain ⟨hx, hb, hml, hown, hts, hK, hA, hth, hlk, hl9, hex⟩ := id X
  have hl : lv_has ls 2 [(0, .ref (ad 1)), (1, .int x1)] := hl
  dsimp only [wp_P_addRow] at hw
  refine lv_aload_n hx hb dP_addRow_0 rfl (lv_at hl 0 rfl) ?_
  refine gGet X K (o := 1) (k := 2) (v := .ref (ad 13)) (by decide) kS_o1 rfl inS_o1 (by decide) (tm1 (i := 35) rfl rfl) rfl dP_addRow_1 ?_
  refine lv_aload_n hx hb dP_addRow_4 rfl (lv_at hl 0 rfl) ?_
  refine gGet X K (o := 1) (k := 0) (v := .int (f 5)) (by decide) kS_o1 rfl inS_o1 (by decide) (tm1 (i := 33) rfl rfl) rfl dP_addRow_5 ?_
  refine lv_iload_n hx hb dP_addRow_8 rfl (lv_at hl 1 rfl) ?_
  obtain ⟨hi, hw⟩ := hw
  refine gist X K (o := 13) (t0 := 0) (by decide) kS_c13 rfl hi dP_addRow_9 kS_p13 (fun H locs K => ?_)
  refine lv_aload_n hx hb dP_addRow_10 rfl (lv_at hl 0 rfl) ?_
  refine lv_dup hx hb dP_addRow_11 rfl ?_
  refine gGet X K (o := 1) (k := 0) (v := .int (f 5)) (by decide) kS_o1 rfl inS_o1 (by decide) (tm1 (i := 33) rfl rfl) rfl dP_addRow_12 ?_
  refine lv_iconst (v := (1 : Int32)) hx hb dP_addRow_15 (by decide) ?_
  refine lv_iadd hx hb dP_addRow_16 ?_
  refine gPut X K (o := 1) (k := 0) (v := .int ((f 5) + (1 : Int32))) (ty := .int) tS_o1 tS_o1_ok nS_o1 (by decide) kS_o1 rfl inS_o1 (by decide) (tm1 (i := 33) rfl rfl) rfl rfl rfl rfl (by simp [flS_o1]) dP_addRow_17 kS_u1_0 (fun H locs K => ?_)
  refine lv_aload_n hx hb dP_addRow_20 rfl (lv_at hl 0 rfl) ?_
  refine gGet X K (o := 1) (k := 0) (v := .int ((va_up f 5 ((f 5) + (1 : Int32))) 5)) (by decide) kS_o1 rfl inS_o1 (by decide) (tm1 (i := 33) rfl rfl) rfl dP_addRow_21 ?_
  refine lv_iconst (v := (1 : Int32)) hx hb dP_addRow_24 (by decide) ?_
  refine lv_isub hx hb dP_addRow_25 ?_
  exact endI X K hr rfl hw (by decide) (by decide) dP_addRow_26
set_option maxHeartbeats 4000000 in
set_option maxRecDepth 100000 in
theorem met_P_allow {l : Launch} (hl9 : l.stackTraces = false) (D : va_G) (ad : Nat → Nat) (ca : Nat → ClassId) (sa : Nat → Nat) (sz : Nat) (x1 : Int32) (x2 : Int32) (x3 : Int32) (x4 : Int32) (f : wF) (a : wA) (b : wB) (po : wF → wA → wB → Prop) (hw : wp_P_allow po x1 x2 x3 x4 f a b) : mV nS kS (tyS ca) txS D vwCl l yP_allow (Cond.code yP_allow cP_allow 5 none :: Wl) ({ frames := 0, cells := 0, slots := 0, locals := 0 }) [.ref (ad 1), .int x1, .int x2, .int x3, .int x4] ad ca sa sz f a b po (fun _ _ _ _ => False) 0 0 := by
  refine ofV (by decide) hl9 (Nat.le_of_ble_eq_true rfl) ?_
  intro p e s m below meth c ls X hr K hl
  obtain ⟨hx, hb, hml, hown, hts, hK, hA, hth, hlk, hl9, hex⟩ := id X
  have hl : lv_has ls 5 [(0, .ref (ad 1)), (1, .int x1), (2, .int x2), (3, .int x3), (4, .int x4)] := hl
  dsimp only [wp_P_allow] at hw
  refine lv_aload_n hx hb dP_allow_0 rfl (lv_at hl 0 rfl) ?_
  refine gGet X K (o := 1) (k := 3) (v := .ref (ad 14)) (by decide) kS_o1 rfl inS_o1 (by decide) (tm1 (i := 36) rfl rfl) rfl dP_allow_1 ?_
  refine lv_iload_n hx hb dP_allow_4 rfl (lv_at hl 1 rfl) ?_
  obtain ⟨hi_cost, hw⟩ := hw
  refine gald X K (o := 14) (t0 := 4) (by decide) kS_c14 rfl hi_cost dP_allow_5 ?_
  refine lv_iload_n hx hb dP_allow_6 rfl (lv_at hl 2 rfl) ?_
  refine lv_iload_n hx hb dP_allow_7 rfl (lv_at hl 3 rfl) ?_
  refine lv_i2l (v := x3.toInt64) hx hb dP_allow_8 rfl ?_
  refine lv_iload hx hb dP_allow_9 (lv_at hl 4 rfl) ?_
  refine lv_i2l (v := x4.toInt64) hx hb dP_allow_11 rfl ?_
  refine lv_ldc2 (v := (100000000 : Int64)) hx hb hown (hts _ (tm2 (i := 168) rfl rfl)) dP_allow_12 ?_
  refine lv_lsub hx hb dP_allow_15 ?_
  refine lv_lmul hx hb dP_allow_16 ?_
  obtain ⟨hi, hw⟩ := hw
  refine glst X K (o := (37 + x1.toNatClampNeg)) (t0 := 2) (rS_cost_lt hi_cost) (kS_r_cost hi_cost) rfl hi dP_allow_17 (kS_q_cost hi_cost) (fun H locs K => ?_)
  exact endV X K hr hw (by decide) (by decide) dP_allow_18
set_option maxHeartbeats 4000000 in
set_option maxRecDepth 100000 in
theorem LS_addNeed_56 {p : Program} {l : Launch} {e : Env} {s : State} {m : MethodId} {below : List Frame} {meth : Method} {c : Code} {D : va_G} {sa : Nat → Nat} {ad : Nat → Nat} {ca : Nat → ClassId} {sz : Nat} {f0 : wF} {a0 : wA} {b0 : wB} {y1 : Int32} {po : wF → wA → wB → Prop} (X : cx Wl (tyS ca) txS D vwCl sa (va_A (ww nS kS ad ca f0 a0 b0) sz) p l s m ([.ref (ad 0), .int y1] : List Value).toArray meth c cS_addNeed 4 "SendBest") (hr : meth.sig.returnType = none) (J11 : Int32 → Int32 → Int32 → wF → wA → wB → Prop) (hJ11 : ∀ (x1 : Int32) (x2 : Int32) (x3 : Int32) (f : wF) (a : wA) (b : wB), J11 x1 x2 x3 f a b → ∀ (H : Heap) (locs : List Loc), wd nS kS D vwCl ad ca (va_A (ww nS kS ad ca f0 a0 b0) sz) s H locs f a b → ∀ (ls : Array Slot), lv_has ls 4 [(0, .ref (ad 0)), (1, .int x1), (2, .int x2), (3, .int x3)] → W p l e ({ frames := 3, cells := 0, slots := 0, locals := 67 }) s m ([.ref (ad 0), .int y1] : List Value).toArray below meth c H locs 0 0 (vx_MQ below (va_Qv (fun (u : wF × wA × wB) => po u.1 u.2.1 u.2.2) (sPost nS kS D vwCl ad ca (va_A (ww nS kS ad ca f0 a0 b0) sz)) (va_A (ww nS kS ad ca f0 a0 b0) sz)) (sX nS kS D vwCl ad ca (va_A (ww nS kS ad ca f0 a0 b0) sz) (fun _ _ _ _ => False)) ([.ref (ad 0), .int y1] : List Value).toArray s 0 0 (va_A (ww nS kS ad ca f0 a0 b0) sz)) (F0 m 11 ls [])) : ∀ (x1 : Int32) (x2 : Int32) (x3 : Int32) (f : wF) (a : wA) (b : wB), wp_S_addNeed_56 po J11 x1 x2 x3 f a b → ∀ (H : Heap) (locs : List Loc), wd nS kS D vwCl ad ca (va_A (ww nS kS ad ca f0 a0 b0) sz) s H locs f a b → ∀ (ls : Array Slot), lv_has ls 4 [(0, .ref (ad 0)), (1, .int x1), (2, .int x2), (3, .int x3)] → W p l e ({ frames := 3, cells := 0, slots := 0, locals := 67 }) s m ([.ref (ad 0), .int y1] : List Value).toArray below meth c H locs 0 0 (vx_MQ below (va_Qv (fun (u : wF × wA × wB) => po u.1 u.2.1 u.2.2) (sPost nS kS D vwCl ad ca (va_A (ww nS kS ad ca f0 a0 b0) sz)) (va_A (ww nS kS ad ca f0 a0 b0) sz)) (sX nS kS D vwCl ad ca (va_A (ww nS kS ad ca f0 a0 b0) sz) (fun _ _ _ _ => False)) ([.ref (ad 0), .int y1] : List Value).toArray s 0 0 (va_A (ww nS kS ad ca f0 a0 b0) sz)) (F0 m 56 ls []) := by
  obtain ⟨hx, hb, hml, hown, hts, hK, hA, hth, hlk, hl9, hex⟩ := id X
  intro x1 x2 x3 f a b hw H locs K ls hl
  dsimp only [wp_S_addNeed_56] at hw
  refine lv_iinc (v := (x3 + (1 : Int32))) (lv' := [(3, .int (x3 + (1 : Int32))), (0, .ref (ad 0)), (1, .int x1), (2, .int x2)]) hx hb dS_addNeed_56 hl (k := 3) rfl rfl (by decide) rfl (fun ls hl => ?_)
  refine lv_goto (tgt := 11) hx hb dS_addNeed_59 (by decide) ?_
  exact hJ11 x1 x2 (x3 + (1 : Int32)) f a b hw _ _ K _ (lv_sub hl [1, 2, 3, 0] rfl)
set_option maxHeartbeats 4000000 in
set_option maxRecDepth 100000 in
theorem LS_addNeed_11 {p : Program} {l : Launch} {e : Env} {s : State} {m : MethodId} {below : List Frame} {meth : Method} {c : Code} {D : va_G} {sa : Nat → Nat} {ad : Nat → Nat} {ca : Nat → ClassId} {sz : Nat} {f0 : wF} {a0 : wA} {b0 : wB} {y1 : Int32} {po : wF → wA → wB → Prop} (X : cx Wl (tyS ca) txS D vwCl sa (va_A (ww nS kS ad ca f0 a0 b0) sz) p l s m ([.ref (ad 0), .int y1] : List Value).toArray meth c cS_addNeed 4 "SendBest") (hr : meth.sig.returnType = none) : ∀ n : Nat, ∀ (x1 : Int32) (x2 : Int32) (x3 : Int32) (f : wF) (a : wA) (b : wB), wp_S_addNeed_11 po n x1 x2 x3 f a b → ∀ (H : Heap) (locs : List Loc), wd nS kS D vwCl ad ca (va_A (ww nS kS ad ca f0 a0 b0) sz) s H locs f a b → ∀ (ls : Array Slot), lv_has ls 4 [(0, .ref (ad 0)), (1, .int x1), (2, .int x2), (3, .int x3)] → W p l e ({ frames := 3, cells := 0, slots := 0, locals := 67 }) s m ([.ref (ad 0), .int y1] : List Value).toArray below meth c H locs 0 0 (vx_MQ below (va_Qv (fun (u : wF × wA × wB) => po u.1 u.2.1 u.2.2) (sPost nS kS D vwCl ad ca (va_A (ww nS kS ad ca f0 a0 b0) sz)) (va_A (ww nS kS ad ca f0 a0 b0) sz)) (sX nS kS D vwCl ad ca (va_A (ww nS kS ad ca f0 a0 b0) sz) (fun _ _ _ _ => False)) ([.ref (ad 0), .int y1] : List Value).toArray s 0 0 (va_A (ww nS kS ad ca f0 a0 b0) sz)) (F0 m 11 ls []) := by
  obtain ⟨hx, hb, hml, hown, hts, hK, hA, hth, hlk, hl9, hex⟩ := id X
  intro n
  induction n with
  | zero => intro x1 x2 x3 f a b hw; exact hw.elim
  | succ n ih =>
    intro x1 x2 x3 f a b hw H locs K ls hl
    dsimp only [wp_S_addNeed_11] at hw
    refine lv_iload_n hx hb dS_addNeed_11 rfl (lv_at hl 3 rfl) ?_
    refine lv_aload_n hx hb dS_addNeed_12 rfl (lv_at hl 0 rfl) ?_
    refine gGet X K (o := 0) (k := 0) (v := .int (f 0)) (by decide) kS_o0 rfl inS_o0 (by decide) (tm1 (i := 82) rfl rfl) rfl dS_addNeed_13 ?_
    refine lv_icmp_ge (tgt := 62) hx hb dS_addNeed_16 (by decide) (fun hc => ?_) (fun hc => ?_)
    · replace hw := hw.1 hc
      exact endV X K hr hw (by decide) (by decide) dS_addNeed_62
    · replace hw := hw.2 hc
      refine lv_aload_n hx hb dS_addNeed_19 rfl (lv_at hl 0 rfl) ?_
      refine lv_iload_n hx hb dS_addNeed_20 rfl (lv_at hl 3 rfl) ?_
      refine gcI X K (n0 := 1) (As := [.int x3]) (rest := []) (hM := (met_S_isFixed hl9 D ad ca sa _ x3 f a b _ hw)) (o := 0) (ho := by decide) (hko := kS_o0) (hci := rfl) (hg := wl_good) (w1 := (tm2 (i := 140) rfl rfl)) (w2 := (tm2 (i := 142) rfl rfl)) (w3 := (tm0 (i := 9) rfl rfl)) (w4 := (tm1 (i := 1) rfl rfl)) (w5 := (tm2 (i := 143) rfl rfl)) (hd := ⟨rfl, by decide, by decide, by decide +kernel⟩) (hrc := rfl) (hrs := rfl) (hR := ⟨Nat.le_of_ble_eq_true rfl, Nat.le_of_ble_eq_true rfl⟩) (hn := rfl) (hsz := hl.1) (hst := rfl) (hW := Nat.le_of_ble_eq_true rfl) (hdg := dS_addNeed_21) (hf := ⟨Nat.le_of_ble_eq_true rfl, Nat.le_of_ble_eq_true rfl⟩) (fun _ _ _ _ _ _ _ _ hw => hw.elim) (fun r21 f21 a21 b21 H locs hw K => ?_)
      refine lv_if_ne (tgt := 56) hx hb dS_addNeed_24 (by decide) (fun hc => ?_) (fun hc => ?_)
      · replace hw := hw.1 hc
        exact LS_addNeed_56 X hr (wp_S_addNeed_11 po n) ih x1 x2 x3 f21 a21 b21 hw _ _ K _ (lv_sub hl [0, 1, 2, 3] rfl)
      · replace hw := hw.2 hc
        refine lv_aload_n hx hb dS_addNeed_27 rfl (lv_at hl 0 rfl) ?_
        refine lv_iload_n hx hb dS_addNeed_28 rfl (lv_at hl 3 rfl) ?_
        refine lv_iload_n hx hb dS_addNeed_29 rfl (lv_at hl 1 rfl) ?_
        refine gcI X K (n0 := 2) (As := [.int x3, .int x1]) (rest := []) (hM := (met_S_canFill hl9 D ad ca sa _ x3 x1 f21 a21 b21 _ hw)) (o := 0) (ho := by decide) (hko := kS_o0) (hci := rfl) (hg := wl_good) (w1 := (tm2 (i := 144) rfl rfl)) (w2 := (tm2 (i := 146) rfl rfl)) (w3 := (tm0 (i := 10) rfl rfl)) (w4 := (tm1 (i := 1) rfl rfl)) (w5 := (tm2 (i := 147) rfl rfl)) (hd := ⟨rfl, by decide, by decide, by decide +kernel⟩) (hrc := rfl) (hrs := rfl) (hR := ⟨Nat.le_of_ble_eq_true rfl, Nat.le_of_ble_eq_true rfl⟩) (hn := rfl) (hsz := hl.1) (hst := rfl) (hW := Nat.le_of_ble_eq_true rfl) (hdg := dS_addNeed_30) (hf := ⟨Nat.le_of_ble_eq_true rfl, Nat.le_of_ble_eq_true rfl⟩) (fun _ _ _ _ _ _ _ _ hw => hw.elim) (fun r30 f30 a30 b30 H locs hw K => ?_)
        refine lv_if_eq (tgt := 56) hx hb dS_addNeed_33 (by decide) (fun hc => ?_) (fun hc => ?_)
        · replace hw := hw.1 hc
          exact LS_addNeed_56 X hr (wp_S_addNeed_11 po n) ih x1 x2 x3 f30 a30 b30 hw _ _ K _ (lv_sub hl [0, 1, 2, 3] rfl)
        · replace hw := hw.2 hc
          refine lv_aload_n hx hb dS_addNeed_36 rfl (lv_at hl 0 rfl) ?_
          refine gGet X K (o := 0) (k := 16) (v := .ref (ad 1)) (by decide) kS_o0 rfl inS_o0 (by decide) (tm1 (i := 98) rfl rfl) rfl dS_addNeed_37 ?_
          refine lv_iload_n hx hb dS_addNeed_40 rfl (lv_at hl 2 rfl) ?_
          refine lv_iload_n hx hb dS_addNeed_41 rfl (lv_at hl 3 rfl) ?_
          refine lv_aload_n hx hb dS_addNeed_42 rfl (lv_at hl 0 rfl) ?_
          refine lv_iload_n hx hb dS_addNeed_43 rfl (lv_at hl 1 rfl) ?_
          refine gcI X K (n0 := 1) (As := [.int x1]) (rest := [.int x3, .int x2, .ref (ad 1)]) (hM := (met_S_rankOfNeed hl9 D ad ca sa _ x1 f30 a30 b30 _ hw)) (o := 0) (ho := by decide) (hko := kS_o0) (hci := rfl) (hg := wl_good) (w1 := (tm2 (i := 152) rfl rfl)) (w2 := (tm2 (i := 154) rfl rfl)) (w3 := (tm0 (i := 12) rfl rfl)) (w4 := (tm1 (i := 1) rfl rfl)) (w5 := (tm2 (i := 155) rfl rfl)) (hd := ⟨rfl, by decide, by decide, by decide +kernel⟩) (hrc := rfl) (hrs := rfl) (hR := ⟨Nat.le_of_ble_eq_true rfl, Nat.le_of_ble_eq_true rfl⟩) (hn := rfl) (hsz := hl.1) (hst := rfl) (hW := Nat.le_of_ble_eq_true rfl) (hdg := dS_addNeed_44) (hf := ⟨Nat.le_of_ble_eq_true rfl, Nat.le_of_ble_eq_true rfl⟩) (fun _ _ _ _ _ _ _ _ hw => hw.elim) (fun r44 f44 a44 b44 H locs hw K => ?_)
          refine lv_aload_n hx hb dS_addNeed_47 rfl (lv_at hl 0 rfl) ?_
          refine lv_iload_n hx hb dS_addNeed_48 rfl (lv_at hl 3 rfl) ?_
          refine lv_iload_n hx hb dS_addNeed_49 rfl (lv_at hl 1 rfl) ?_
          refine gcI X K (n0 := 2) (As := [.int x3, .int x1]) (rest := [.int r44, .int x3, .int x2, .ref (ad 1)]) (hM := (met_S_secondsTo hl9 D ad ca sa _ x3 x1 f44 a44 b44 _ hw)) (o := 0) (ho := by decide) (hko := kS_o0) (hci := rfl) (hg := wl_good) (w1 := (tm2 (i := 148) rfl rfl)) (w2 := (tm2 (i := 150) rfl rfl)) (w3 := (tm0 (i := 11) rfl rfl)) (w4 := (tm1 (i := 1) rfl rfl)) (w5 := (tm2 (i := 151) rfl rfl)) (hd := ⟨rfl, by decide, by decide, by decide +kernel⟩) (hrc := rfl) (hrs := rfl) (hR := ⟨Nat.le_of_ble_eq_true rfl, Nat.le_of_ble_eq_true rfl⟩) (hn := rfl) (hsz := hl.1) (hst := rfl) (hW := Nat.le_of_ble_eq_true rfl) (hdg := dS_addNeed_50) (hf := ⟨Nat.le_of_ble_eq_true rfl, Nat.le_of_ble_eq_true rfl⟩) (fun _ _ _ _ _ _ _ _ hw => hw.elim) (fun r50 f50 a50 b50 H locs hw K => ?_)
          refine gcV X K (n0 := 4) (As := [.int x2, .int x3, .int r44, .int r50]) (rest := []) (hM := (met_P_allow hl9 D ad ca sa _ x2 x3 r44 r50 f50 a50 b50 _ hw)) (o := 1) (ho := by decide) (hko := kS_o1) (hci := rfl) (hg := wl_good) (w1 := (tm2 (i := 164) rfl rfl)) (w2 := (tm2 (i := 165) rfl rfl)) (w3 := (tm2 (i := 166) rfl rfl)) (w4 := (tm1 (i := 2) rfl rfl)) (w5 := (tm2 (i := 167) rfl rfl)) (hd := ⟨rfl, by decide, by decide, by decide +kernel⟩) (hrc := rfl) (hrs := rfl) (hR := ⟨Nat.le_of_ble_eq_true rfl, Nat.le_of_ble_eq_true rfl⟩) (hn := rfl) (hsz := hl.1) (hst := rfl) (hW := Nat.le_of_ble_eq_true rfl) (hdg := dS_addNeed_53) (hf := ⟨Nat.le_of_ble_eq_true rfl, Nat.le_of_ble_eq_true rfl⟩) (fun _ _ _ _ _ _ _ _ hw => hw.elim) (fun f53 a53 b53 H locs hw K => ?_)
          exact LS_addNeed_56 X hr (wp_S_addNeed_11 po n) ih x1 x2 x3 f53 a53 b53 hw _ _ K _ (lv_sub hl [0, 1, 2, 3] rfl)
set_option maxHeartbeats 4000000 in
set_option maxRecDepth 100000 in
theorem met_S_addNeed {l : Launch} (hl9 : l.stackTraces = false) (D : va_G) (ad : Nat → Nat) (ca : Nat → ClassId) (sa : Nat → Nat) (sz : Nat) (x1 : Int32) (f : wF) (a : wA) (b : wB) (po : wF → wA → wB → Prop) (hw : wp_S_addNeed po x1 f a b) : mV nS kS (tyS ca) txS D vwCl l yS_addNeed (Cond.code yS_addNeed cS_addNeed 4 none :: Wl) ({ frames := 3, cells := 0, slots := 0, locals := 67 }) [.ref (ad 0), .int x1] ad ca sa sz f a b po (fun _ _ _ _ => False) 0 0 := by
  refine ofV (by decide) hl9 (Nat.le_of_ble_eq_true rfl) ?_
  intro p e s m below meth c ls X hr K hl
  obtain ⟨hx, hb, hml, hown, hts, hK, hA, hth, hlk, hl9, hex⟩ := id X
  have hl : lv_has ls 4 [(0, .ref (ad 0)), (1, .int x1)] := hl
  dsimp only [wp_S_addNeed] at hw
  refine lv_aload_n hx hb dS_addNeed_0 rfl (lv_at hl 0 rfl) ?_
  refine gGet X K (o := 0) (k := 16) (v := .ref (ad 1)) (by decide) kS_o0 rfl inS_o0 (by decide) (tm1 (i := 98) rfl rfl) rfl dS_addNeed_1 ?_
  refine lv_iload_n hx hb dS_addNeed_4 rfl (lv_at hl 1 rfl) ?_
  refine gcI X K (n0 := 1) (As := [.int x1]) (rest := []) (hM := (met_P_addRow hl9 D ad ca sa _ x1 f a b _ hw)) (o := 1) (ho := by decide) (hko := kS_o1) (hci := rfl) (hg := wl_good) (w1 := (tm2 (i := 160) rfl rfl)) (w2 := (tm2 (i := 161) rfl rfl)) (w3 := (tm2 (i := 162) rfl rfl)) (w4 := (tm1 (i := 2) rfl rfl)) (w5 := (tm2 (i := 163) rfl rfl)) (hd := ⟨rfl, by decide, by decide, by decide +kernel⟩) (hrc := rfl) (hrs := rfl) (hR := ⟨Nat.le_of_ble_eq_true rfl, Nat.le_of_ble_eq_true rfl⟩) (hn := rfl) (hsz := hl.1) (hst := rfl) (hW := Nat.le_of_ble_eq_true rfl) (hdg := dS_addNeed_5) (hf := ⟨Nat.le_of_ble_eq_true rfl, Nat.le_of_ble_eq_true rfl⟩) (fun _ _ _ _ _ _ _ _ hw => hw.elim) (fun r5 f5 a5 b5 H locs hw K => ?_)
  refine lv_istore_n (lv' := [(2, .int r5), (0, .ref (ad 0)), (1, .int x1)]) hx hb dS_addNeed_8 rfl hl (by decide) rfl (fun ls hl => ?_)
  refine lv_iconst (v := (0 : Int32)) hx hb dS_addNeed_9 (by decide) ?_
  refine lv_istore_n (lv' := [(3, .int (0 : Int32)), (2, .int r5), (0, .ref (ad 0)), (1, .int x1)]) hx hb dS_addNeed_10 rfl hl (by decide) rfl (fun ls hl => ?_)
  obtain ⟨n9, hw⟩ := hw
  exact LS_addNeed_11 X hr n9 x1 r5 (0 : Int32) f5 a5 b5 hw _ _ K _ (lv_sub hl [2, 3, 1, 0] rfl)
end
section
set_option maxHeartbeats 4000000 in
set_option maxRecDepth 100000 in
theorem LS_addNeeds_52 {p : Program} {l : Launch} {e : Env} {s : State} {m : MethodId} {below : List Frame} {meth : Method} {c : Code} {D : va_G} {sa : Nat → Nat} {ad : Nat → Nat} {ca : Nat → ClassId} {sz : Nat} {f0 : wF} {a0 : wA} {b0 : wB} {y1 : Int32} {po : wF → wA → wB → Prop} (X : cx Wl (tyS ca) txS D vwCl sa (va_A (ww nS kS ad ca f0 a0 b0) sz) p l s m ([.ref (ad 0), .int y1] : List Value).toArray meth c cS_addNeeds 3 "SendBest") (hr : meth.sig.returnType = none) (J2 : Int32 → Int32 → wF → wA → wB → Prop) (hJ2 : ∀ (x1 : Int32) (x2 : Int32) (f : wF) (a : wA) (b : wB), J2 x1 x2 f a b → ∀ (H : Heap) (locs : List Loc), wd nS kS D vwCl ad ca (va_A (ww nS kS ad ca f0 a0 b0) sz) s H locs f a b → ∀ (ls : Array Slot), lv_has ls 3 [(0, .ref (ad 0)), (1, .int x1), (2, .int x2)] → W p l e ({ frames := 4, cells := 0, slots := 0, locals := 90 }) s m ([.ref (ad 0), .int y1] : List Value).toArray below meth c H locs 0 0 (vx_MQ below (va_Qv (fun (u : wF × wA × wB) => po u.1 u.2.1 u.2.2) (sPost nS kS D vwCl ad ca (va_A (ww nS kS ad ca f0 a0 b0) sz)) (va_A (ww nS kS ad ca f0 a0 b0) sz)) (sX nS kS D vwCl ad ca (va_A (ww nS kS ad ca f0 a0 b0) sz) (fun _ _ _ _ => False)) ([.ref (ad 0), .int y1] : List Value).toArray s 0 0 (va_A (ww nS kS ad ca f0 a0 b0) sz)) (F0 m 2 ls [])) : ∀ (x1 : Int32) (x2 : Int32) (f : wF) (a : wA) (b : wB), wp_S_addNeeds_52 po J2 x1 x2 f a b → ∀ (H : Heap) (locs : List Loc), wd nS kS D vwCl ad ca (va_A (ww nS kS ad ca f0 a0 b0) sz) s H locs f a b → ∀ (ls : Array Slot), lv_has ls 3 [(0, .ref (ad 0)), (1, .int x1), (2, .int x2)] → W p l e ({ frames := 4, cells := 0, slots := 0, locals := 90 }) s m ([.ref (ad 0), .int y1] : List Value).toArray below meth c H locs 0 0 (vx_MQ below (va_Qv (fun (u : wF × wA × wB) => po u.1 u.2.1 u.2.2) (sPost nS kS D vwCl ad ca (va_A (ww nS kS ad ca f0 a0 b0) sz)) (va_A (ww nS kS ad ca f0 a0 b0) sz)) (sX nS kS D vwCl ad ca (va_A (ww nS kS ad ca f0 a0 b0) sz) (fun _ _ _ _ => False)) ([.ref (ad 0), .int y1] : List Value).toArray s 0 0 (va_A (ww nS kS ad ca f0 a0 b0) sz)) (F0 m 52 ls []) := by
  obtain ⟨hx, hb, hml, hown, hts, hK, hA, hth, hlk, hl9, hex⟩ := id X
  intro x1 x2 f a b hw H locs K ls hl
  dsimp only [wp_S_addNeeds_52] at hw
  refine lv_iinc (v := (x2 + (1 : Int32))) (lv' := [(2, .int (x2 + (1 : Int32))), (0, .ref (ad 0)), (1, .int x1)]) hx hb dS_addNeeds_52 hl (k := 2) rfl rfl (by decide) rfl (fun ls hl => ?_)
  refine lv_goto (tgt := 2) hx hb dS_addNeeds_55 (by decide) ?_
  exact hJ2 x1 (x2 + (1 : Int32)) f a b hw _ _ K _ (lv_sub hl [1, 2, 0] rfl)
set_option maxHeartbeats 4000000 in
set_option maxRecDepth 100000 in
theorem LS_addNeeds_43 {p : Program} {l : Launch} {e : Env} {s : State} {m : MethodId} {below : List Frame} {meth : Method} {c : Code} {D : va_G} {sa : Nat → Nat} {ad : Nat → Nat} {ca : Nat → ClassId} {sz : Nat} {f0 : wF} {a0 : wA} {b0 : wB} {y1 : Int32} {po : wF → wA → wB → Prop} (X : cx Wl (tyS ca) txS D vwCl sa (va_A (ww nS kS ad ca f0 a0 b0) sz) p l s m ([.ref (ad 0), .int y1] : List Value).toArray meth c cS_addNeeds 3 "SendBest") (hr : meth.sig.returnType = none) (J2 : Int32 → Int32 → wF → wA → wB → Prop) (hJ2 : ∀ (x1 : Int32) (x2 : Int32) (f : wF) (a : wA) (b : wB), J2 x1 x2 f a b → ∀ (H : Heap) (locs : List Loc), wd nS kS D vwCl ad ca (va_A (ww nS kS ad ca f0 a0 b0) sz) s H locs f a b → ∀ (ls : Array Slot), lv_has ls 3 [(0, .ref (ad 0)), (1, .int x1), (2, .int x2)] → W p l e ({ frames := 4, cells := 0, slots := 0, locals := 90 }) s m ([.ref (ad 0), .int y1] : List Value).toArray below meth c H locs 0 0 (vx_MQ below (va_Qv (fun (u : wF × wA × wB) => po u.1 u.2.1 u.2.2) (sPost nS kS D vwCl ad ca (va_A (ww nS kS ad ca f0 a0 b0) sz)) (va_A (ww nS kS ad ca f0 a0 b0) sz)) (sX nS kS D vwCl ad ca (va_A (ww nS kS ad ca f0 a0 b0) sz) (fun _ _ _ _ => False)) ([.ref (ad 0), .int y1] : List Value).toArray s 0 0 (va_A (ww nS kS ad ca f0 a0 b0) sz)) (F0 m 2 ls [])) : ∀ (k0 : Int32) (x1 : Int32) (x2 : Int32) (f : wF) (a : wA) (b : wB), wp_S_addNeeds_43 po J2 k0 x1 x2 f a b → ∀ (H : Heap) (locs : List Loc), wd nS kS D vwCl ad ca (va_A (ww nS kS ad ca f0 a0 b0) sz) s H locs f a b → ∀ (ls : Array Slot), lv_has ls 3 [(0, .ref (ad 0)), (1, .int x1), (2, .int x2)] → W p l e ({ frames := 4, cells := 0, slots := 0, locals := 90 }) s m ([.ref (ad 0), .int y1] : List Value).toArray below meth c H locs 0 0 (vx_MQ below (va_Qv (fun (u : wF × wA × wB) => po u.1 u.2.1 u.2.2) (sPost nS kS D vwCl ad ca (va_A (ww nS kS ad ca f0 a0 b0) sz)) (va_A (ww nS kS ad ca f0 a0 b0) sz)) (sX nS kS D vwCl ad ca (va_A (ww nS kS ad ca f0 a0 b0) sz) (fun _ _ _ _ => False)) ([.ref (ad 0), .int y1] : List Value).toArray s 0 0 (va_A (ww nS kS ad ca f0 a0 b0) sz)) (F0 m 43 ls [.int k0]) := by
  obtain ⟨hx, hb, hml, hown, hts, hK, hA, hth, hlk, hl9, hex⟩ := id X
  intro k0 x1 x2 f a b hw H locs K ls hl
  dsimp only [wp_S_addNeeds_43] at hw
  refine lv_iload_n hx hb dS_addNeeds_43 rfl (lv_at hl 1 rfl) ?_
  refine lv_icmp_ne (tgt := 52) hx hb dS_addNeeds_44 (by decide) (fun hc => ?_) (fun hc => ?_)
  · replace hw := hw.1 hc
    exact LS_addNeeds_52 X hr J2 hJ2 x1 x2 f a b hw _ _ K _ (lv_sub hl [0, 1, 2] rfl)
  · replace hw := hw.2 hc
    refine lv_aload_n hx hb dS_addNeeds_47 rfl (lv_at hl 0 rfl) ?_
    refine lv_iload_n hx hb dS_addNeeds_48 rfl (lv_at hl 2 rfl) ?_
    refine gcV X K (n0 := 1) (As := [.int x2]) (rest := []) (hM := (met_S_addNeed hl9 D ad ca sa _ x2 f a b _ hw)) (o := 0) (ho := by decide) (hko := kS_o0) (hci := rfl) (hg := wl_good) (w1 := (tm2 (i := 156) rfl rfl)) (w2 := (tm2 (i := 158) rfl rfl)) (w3 := (tm0 (i := 13) rfl rfl)) (w4 := (tm1 (i := 1) rfl rfl)) (w5 := (tm2 (i := 159) rfl rfl)) (hd := ⟨rfl, by decide, by decide, by decide +kernel⟩) (hrc := rfl) (hrs := rfl) (hR := ⟨Nat.le_of_ble_eq_true rfl, Nat.le_of_ble_eq_true rfl⟩) (hn := rfl) (hsz := hl.1) (hst := rfl) (hW := Nat.le_of_ble_eq_true rfl) (hdg := dS_addNeeds_49) (hf := ⟨Nat.le_of_ble_eq_true rfl, Nat.le_of_ble_eq_true rfl⟩) (fun _ _ _ _ _ _ _ _ hw => hw.elim) (fun f49 a49 b49 H locs hw K => ?_)
    exact LS_addNeeds_52 X hr J2 hJ2 x1 x2 f49 a49 b49 hw _ _ K _ (lv_sub hl [0, 1, 2] rfl)
set_option maxHeartbeats 4000000 in
set_option maxRecDepth 100000 in
theorem LS_addNeeds_2 {p : Program} {l : Launch} {e : Env} {s : State} {m : MethodId} {below : List Frame} {meth : Method} {c : Code} {D : va_G} {sa : Nat → Nat} {ad : Nat → Nat} {ca : Nat → ClassId} {sz : Nat} {f0 : wF} {a0 : wA} {b0 : wB} {y1 : Int32} {po : wF → wA → wB → Prop} (X : cx Wl (tyS ca) txS D vwCl sa (va_A (ww nS kS ad ca f0 a0 b0) sz) p l s m ([.ref (ad 0), .int y1] : List Value).toArray meth c cS_addNeeds 3 "SendBest") (hr : meth.sig.returnType = none) : ∀ n : Nat, ∀ (x1 : Int32) (x2 : Int32) (f : wF) (a : wA) (b : wB), wp_S_addNeeds_2 po n x1 x2 f a b → ∀ (H : Heap) (locs : List Loc), wd nS kS D vwCl ad ca (va_A (ww nS kS ad ca f0 a0 b0) sz) s H locs f a b → ∀ (ls : Array Slot), lv_has ls 3 [(0, .ref (ad 0)), (1, .int x1), (2, .int x2)] → W p l e ({ frames := 4, cells := 0, slots := 0, locals := 90 }) s m ([.ref (ad 0), .int y1] : List Value).toArray below meth c H locs 0 0 (vx_MQ below (va_Qv (fun (u : wF × wA × wB) => po u.1 u.2.1 u.2.2) (sPost nS kS D vwCl ad ca (va_A (ww nS kS ad ca f0 a0 b0) sz)) (va_A (ww nS kS ad ca f0 a0 b0) sz)) (sX nS kS D vwCl ad ca (va_A (ww nS kS ad ca f0 a0 b0) sz) (fun _ _ _ _ => False)) ([.ref (ad 0), .int y1] : List Value).toArray s 0 0 (va_A (ww nS kS ad ca f0 a0 b0) sz)) (F0 m 2 ls []) := by
  obtain ⟨hx, hb, hml, hown, hts, hK, hA, hth, hlk, hl9, hex⟩ := id X
  intro n
  induction n with
  | zero => intro x1 x2 f a b hw; exact hw.elim
  | succ n ih =>
    intro x1 x2 f a b hw H locs K ls hl
    dsimp only [wp_S_addNeeds_2] at hw
    refine lv_iload_n hx hb dS_addNeeds_2 rfl (lv_at hl 2 rfl) ?_
    refine lv_aload_n hx hb dS_addNeeds_3 rfl (lv_at hl 0 rfl) ?_
    refine gGet X K (o := 0) (k := 9) (v := .int (f 2)) (by decide) kS_o0 rfl inS_o0 (by decide) (tm1 (i := 91) rfl rfl) rfl dS_addNeeds_4 ?_
    refine lv_icmp_ge (tgt := 58) hx hb dS_addNeeds_7 (by decide) (fun hc => ?_) (fun hc => ?_)
    · replace hw := hw.1 hc
      exact endV X K hr hw (by decide) (by decide) dS_addNeeds_58
    · replace hw := hw.2 hc
      refine lv_aload_n hx hb dS_addNeeds_10 rfl (lv_at hl 0 rfl) ?_
      refine lv_iload_n hx hb dS_addNeeds_11 rfl (lv_at hl 2 rfl) ?_
      refine gcI X K (n0 := 1) (As := [.int x2]) (rest := []) (hM := (met_S_isOpenNeed hl9 D ad ca sa _ x2 f a b _ hw)) (o := 0) (ho := by decide) (hko := kS_o0) (hci := rfl) (hg := wl_good) (w1 := (tm2 (i := 132) rfl rfl)) (w2 := (tm2 (i := 134) rfl rfl)) (w3 := (tm0 (i := 7) rfl rfl)) (w4 := (tm1 (i := 1) rfl rfl)) (w5 := (tm2 (i := 135) rfl rfl)) (hd := ⟨rfl, by decide, by decide, by decide +kernel⟩) (hrc := rfl) (hrs := rfl) (hR := ⟨Nat.le_of_ble_eq_true rfl, Nat.le_of_ble_eq_true rfl⟩) (hn := rfl) (hsz := hl.1) (hst := rfl) (hW := Nat.le_of_ble_eq_true rfl) (hdg := dS_addNeeds_12) (hf := ⟨Nat.le_of_ble_eq_true rfl, Nat.le_of_ble_eq_true rfl⟩) (fun _ _ _ _ _ _ _ _ hw => hw.elim) (fun r12 f12 a12 b12 H locs hw K => ?_)
      refine lv_if_eq (tgt := 52) hx hb dS_addNeeds_15 (by decide) (fun hc => ?_) (fun hc => ?_)
      · replace hw := hw.1 hc
        exact LS_addNeeds_52 X hr (wp_S_addNeeds_2 po n) ih x1 x2 f12 a12 b12 hw _ _ K _ (lv_sub hl [0, 1, 2] rfl)
      · replace hw := hw.2 hc
        refine lv_aload_n hx hb dS_addNeeds_18 rfl (lv_at hl 0 rfl) ?_
        refine lv_iload_n hx hb dS_addNeeds_19 rfl (lv_at hl 2 rfl) ?_
        refine gcI X K (n0 := 1) (As := [.int x2]) (rest := []) (hM := (met_S_hasFixedUnit hl9 D ad ca sa _ x2 f12 a12 b12 _ hw)) (o := 0) (ho := by decide) (hko := kS_o0) (hci := rfl) (hg := wl_good) (w1 := (tm2 (i := 136) rfl rfl)) (w2 := (tm2 (i := 138) rfl rfl)) (w3 := (tm0 (i := 8) rfl rfl)) (w4 := (tm1 (i := 1) rfl rfl)) (w5 := (tm2 (i := 139) rfl rfl)) (hd := ⟨rfl, by decide, by decide, by decide +kernel⟩) (hrc := rfl) (hrs := rfl) (hR := ⟨Nat.le_of_ble_eq_true rfl, Nat.le_of_ble_eq_true rfl⟩) (hn := rfl) (hsz := hl.1) (hst := rfl) (hW := Nat.le_of_ble_eq_true rfl) (hdg := dS_addNeeds_20) (hf := ⟨Nat.le_of_ble_eq_true rfl, Nat.le_of_ble_eq_true rfl⟩) (fun _ _ _ _ _ _ _ _ hw => hw.elim) (fun r20 f20 a20 b20 H locs hw K => ?_)
        refine lv_if_ne (tgt := 52) hx hb dS_addNeeds_23 (by decide) (fun hc => ?_) (fun hc => ?_)
        · replace hw := hw.1 hc
          exact LS_addNeeds_52 X hr (wp_S_addNeeds_2 po n) ih x1 x2 f20 a20 b20 hw _ _ K _ (lv_sub hl [0, 1, 2] rfl)
        · replace hw := hw.2 hc
          refine lv_aload_n hx hb dS_addNeeds_26 rfl (lv_at hl 0 rfl) ?_
          refine lv_iload_n hx hb dS_addNeeds_27 rfl (lv_at hl 2 rfl) ?_
          refine gcI X K (n0 := 1) (As := [.int x2]) (rest := []) (hM := (met_S_rankOfNeed hl9 D ad ca sa _ x2 f20 a20 b20 _ hw)) (o := 0) (ho := by decide) (hko := kS_o0) (hci := rfl) (hg := wl_good) (w1 := (tm2 (i := 152) rfl rfl)) (w2 := (tm2 (i := 154) rfl rfl)) (w3 := (tm0 (i := 12) rfl rfl)) (w4 := (tm1 (i := 1) rfl rfl)) (w5 := (tm2 (i := 155) rfl rfl)) (hd := ⟨rfl, by decide, by decide, by decide +kernel⟩) (hrc := rfl) (hrs := rfl) (hR := ⟨Nat.le_of_ble_eq_true rfl, Nat.le_of_ble_eq_true rfl⟩) (hn := rfl) (hsz := hl.1) (hst := rfl) (hW := Nat.le_of_ble_eq_true rfl) (hdg := dS_addNeeds_28) (hf := ⟨Nat.le_of_ble_eq_true rfl, Nat.le_of_ble_eq_true rfl⟩) (fun _ _ _ _ _ _ _ _ hw => hw.elim) (fun r28 f28 a28 b28 H locs hw K => ?_)
          refine lv_aload_n hx hb dS_addNeeds_31 rfl (lv_at hl 0 rfl) ?_
          refine gGet X K (o := 0) (k := 15) (v := .int (f28 4)) (by decide) kS_o0 rfl inS_o0 (by decide) (tm1 (i := 97) rfl rfl) rfl dS_addNeeds_32 ?_
          refine lv_icmp_lt (tgt := 42) hx hb dS_addNeeds_35 (by decide) (fun hc => ?_) (fun hc => ?_)
          · replace hw := hw.1 hc
            refine lv_iconst (v := (0 : Int32)) hx hb dS_addNeeds_42 (by decide) ?_
            exact LS_addNeeds_43 X hr (wp_S_addNeeds_2 po n) ih (0 : Int32) x1 x2 f28 a28 b28 hw _ _ K _ (lv_sub hl [0, 1, 2] rfl)
          · replace hw := hw.2 hc
            refine lv_iconst (v := (1 : Int32)) hx hb dS_addNeeds_38 (by decide) ?_
            refine lv_goto (tgt := 43) hx hb dS_addNeeds_39 (by decide) ?_
            exact LS_addNeeds_43 X hr (wp_S_addNeeds_2 po n) ih (1 : Int32) x1 x2 f28 a28 b28 hw _ _ K _ (lv_sub hl [0, 1, 2] rfl)
set_option maxHeartbeats 4000000 in
set_option maxRecDepth 100000 in
theorem met_S_addNeeds {l : Launch} (hl9 : l.stackTraces = false) (D : va_G) (ad : Nat → Nat) (ca : Nat → ClassId) (sa : Nat → Nat) (sz : Nat) (x1 : Int32) (f : wF) (a : wA) (b : wB) (po : wF → wA → wB → Prop) (hw : wp_S_addNeeds po x1 f a b) : mV nS kS (tyS ca) txS D vwCl l yS_addNeeds (Cond.code yS_addNeeds cS_addNeeds 3 none :: Wl) ({ frames := 4, cells := 0, slots := 0, locals := 90 }) [.ref (ad 0), .int x1] ad ca sa sz f a b po (fun _ _ _ _ => False) 0 0 := by
  refine ofV (by decide) hl9 (Nat.le_of_ble_eq_true rfl) ?_
  intro p e s m below meth c ls X hr K hl
  obtain ⟨hx, hb, hml, hown, hts, hK, hA, hth, hlk, hl9, hex⟩ := id X
  have hl : lv_has ls 3 [(0, .ref (ad 0)), (1, .int x1)] := hl
  dsimp only [wp_S_addNeeds] at hw
  refine lv_iconst (v := (0 : Int32)) hx hb dS_addNeeds_0 (by decide) ?_
  refine lv_istore_n (lv' := [(2, .int (0 : Int32)), (0, .ref (ad 0)), (1, .int x1)]) hx hb dS_addNeeds_1 rfl hl (by decide) rfl (fun ls hl => ?_)
  obtain ⟨n9, hw⟩ := hw
  exact LS_addNeeds_2 X hr n9 x1 (0 : Int32) f a b hw _ _ K _ (lv_sub hl [1, 2, 0] rfl)
set_option maxHeartbeats 4000000 in
set_option maxRecDepth 100000 in
theorem met_P_endUnbound {l : Launch} (hl9 : l.stackTraces = false) (D : va_G) (ad : Nat → Nat) (ca : Nat → ClassId) (sa : Nat → Nat) (sz : Nat)  (f : wF) (a : wA) (b : wB) (po : wF → wA → wB → Prop) (hw : wp_P_endUnbound po f a b) : mV nS kS (tyS ca) txS D vwCl l yP_endUnbound (Cond.code yP_endUnbound cP_endUnbound 1 none :: Wl) ({ frames := 0, cells := 0, slots := 0, locals := 0 }) [.ref (ad 1)] ad ca sa sz f a b po (fun _ _ _ _ => False) 0 0 := by
  refine ofV (by decide) hl9 (Nat.le_of_ble_eq_true rfl) ?_
  intro p e s m below meth c ls X hr K hl
  obtain ⟨hx, hb, hml, hown, hts, hK, hA, hth, hlk, hl9, hex⟩ := id X
  have hl : lv_has ls 1 [(0, .ref (ad 1))] := hl
  dsimp only [wp_P_endUnbound] at hw
  refine lv_aload_n hx hb dP_endUnbound_0 rfl (lv_at hl 0 rfl) ?_
  refine lv_aload_n hx hb dP_endUnbound_1 rfl (lv_at hl 0 rfl) ?_
  refine gGet X K (o := 1) (k := 0) (v := .int (f 5)) (by decide) kS_o1 rfl inS_o1 (by decide) (tm1 (i := 33) rfl rfl) rfl dP_endUnbound_2 ?_
  refine gPut X K (o := 1) (k := 1) (v := .int (f 5)) (ty := .int) tS_o1 tS_o1_ok nS_o1 (by decide) kS_o1 rfl inS_o1 (by decide) (tm1 (i := 34) rfl rfl) rfl rfl rfl rfl (by simp [flS_o1]) dP_endUnbound_5 kS_u1_1 (fun H locs K => ?_)
  exact endV X K hr hw (by decide) (by decide) dP_endUnbound_8
set_option maxHeartbeats 4000000 in
set_option maxRecDepth 100000 in
theorem met_S_layOutNeeds {l : Launch} (hl9 : l.stackTraces = false) (D : va_G) (ad : Nat → Nat) (ca : Nat → ClassId) (sa : Nat → Nat) (sz : Nat)  (f : wF) (a : wA) (b : wB) (po : wF → wA → wB → Prop) (hw : wp_S_layOutNeeds po f a b) : mV nS kS (tyS ca) txS D vwCl l yS_layOutNeeds (Cond.code yS_layOutNeeds cS_layOutNeeds 1 none :: Wl) ({ frames := 5, cells := 0, slots := 0, locals := 112 }) [.ref (ad 0)] ad ca sa sz f a b po (fun _ _ _ _ => False) 0 0 := by
  refine ofV (by decide) hl9 (Nat.le_of_ble_eq_true rfl) ?_
  intro p e s m below meth c ls X hr K hl
  obtain ⟨hx, hb, hml, hown, hts, hK, hA, hth, hlk, hl9, hex⟩ := id X
  have hl : lv_has ls 1 [(0, .ref (ad 0))] := hl
  dsimp only [wp_S_layOutNeeds] at hw
  refine lv_aload_n hx hb dS_layOutNeeds_0 rfl (lv_at hl 0 rfl) ?_
  refine gGet X K (o := 0) (k := 16) (v := .ref (ad 1)) (by decide) kS_o0 rfl inS_o0 (by decide) (tm1 (i := 98) rfl rfl) rfl dS_layOutNeeds_1 ?_
  refine gcV X K (n0 := 0) (As := []) (rest := []) (hM := (met_P_clear hl9 D ad ca sa _ f a b _ hw)) (o := 1) (ho := by decide) (hko := kS_o1) (hci := rfl) (hg := wl_good) (w1 := (tm2 (i := 121) rfl rfl)) (w2 := (tm2 (i := 122) rfl rfl)) (w3 := (tm2 (i := 123) rfl rfl)) (w4 := (tm1 (i := 2) rfl rfl)) (w5 := (tm2 (i := 124) rfl rfl)) (hd := ⟨rfl, by decide, by decide, by decide +kernel⟩) (hrc := rfl) (hrs := rfl) (hR := ⟨Nat.le_of_ble_eq_true rfl, Nat.le_of_ble_eq_true rfl⟩) (hn := rfl) (hsz := hl.1) (hst := rfl) (hW := Nat.le_of_ble_eq_true rfl) (hdg := dS_layOutNeeds_4) (hf := ⟨Nat.le_of_ble_eq_true rfl, Nat.le_of_ble_eq_true rfl⟩) (fun _ _ _ _ _ _ _ _ hw => hw.elim) (fun f4 a4 b4 H locs hw K => ?_)
  refine lv_aload_n hx hb dS_layOutNeeds_7 rfl (lv_at hl 0 rfl) ?_
  refine lv_iconst (v := (1 : Int32)) hx hb dS_layOutNeeds_8 (by decide) ?_
  refine gcV X K (n0 := 1) (As := [.int (1 : Int32)]) (rest := []) (hM := (met_S_addNeeds hl9 D ad ca sa _ (1 : Int32) f4 a4 b4 _ hw)) (o := 0) (ho := by decide) (hko := kS_o0) (hci := rfl) (hg := wl_good) (w1 := (tm2 (i := 128) rfl rfl)) (w2 := (tm2 (i := 130) rfl rfl)) (w3 := (tm0 (i := 6) rfl rfl)) (w4 := (tm1 (i := 1) rfl rfl)) (w5 := (tm2 (i := 131) rfl rfl)) (hd := ⟨rfl, by decide, by decide, by decide +kernel⟩) (hrc := rfl) (hrs := rfl) (hR := ⟨Nat.le_of_ble_eq_true rfl, Nat.le_of_ble_eq_true rfl⟩) (hn := rfl) (hsz := hl.1) (hst := rfl) (hW := Nat.le_of_ble_eq_true rfl) (hdg := dS_layOutNeeds_9) (hf := ⟨Nat.le_of_ble_eq_true rfl, Nat.le_of_ble_eq_true rfl⟩) (fun _ _ _ _ _ _ _ _ hw => hw.elim) (fun f9 a9 b9 H locs hw K => ?_)
  refine lv_aload_n hx hb dS_layOutNeeds_12 rfl (lv_at hl 0 rfl) ?_
  refine gGet X K (o := 0) (k := 16) (v := .ref (ad 1)) (by decide) kS_o0 rfl inS_o0 (by decide) (tm1 (i := 98) rfl rfl) rfl dS_layOutNeeds_13 ?_
  refine gcV X K (n0 := 0) (As := []) (rest := []) (hM := (met_P_endUnbound hl9 D ad ca sa _ f9 a9 b9 _ hw)) (o := 1) (ho := by decide) (hko := kS_o1) (hci := rfl) (hg := wl_good) (w1 := (tm2 (i := 169) rfl rfl)) (w2 := (tm2 (i := 170) rfl rfl)) (w3 := (tm2 (i := 171) rfl rfl)) (w4 := (tm1 (i := 2) rfl rfl)) (w5 := (tm2 (i := 172) rfl rfl)) (hd := ⟨rfl, by decide, by decide, by decide +kernel⟩) (hrc := rfl) (hrs := rfl) (hR := ⟨Nat.le_of_ble_eq_true rfl, Nat.le_of_ble_eq_true rfl⟩) (hn := rfl) (hsz := hl.1) (hst := rfl) (hW := Nat.le_of_ble_eq_true rfl) (hdg := dS_layOutNeeds_16) (hf := ⟨Nat.le_of_ble_eq_true rfl, Nat.le_of_ble_eq_true rfl⟩) (fun _ _ _ _ _ _ _ _ hw => hw.elim) (fun f16 a16 b16 H locs hw K => ?_)
  refine lv_aload_n hx hb dS_layOutNeeds_19 rfl (lv_at hl 0 rfl) ?_
  refine lv_iconst (v := (0 : Int32)) hx hb dS_layOutNeeds_20 (by decide) ?_
  refine gcV X K (n0 := 1) (As := [.int (0 : Int32)]) (rest := []) (hM := (met_S_addNeeds hl9 D ad ca sa _ (0 : Int32) f16 a16 b16 _ hw)) (o := 0) (ho := by decide) (hko := kS_o0) (hci := rfl) (hg := wl_good) (w1 := (tm2 (i := 128) rfl rfl)) (w2 := (tm2 (i := 130) rfl rfl)) (w3 := (tm0 (i := 6) rfl rfl)) (w4 := (tm1 (i := 1) rfl rfl)) (w5 := (tm2 (i := 131) rfl rfl)) (hd := ⟨rfl, by decide, by decide, by decide +kernel⟩) (hrc := rfl) (hrs := rfl) (hR := ⟨Nat.le_of_ble_eq_true rfl, Nat.le_of_ble_eq_true rfl⟩) (hn := rfl) (hsz := hl.1) (hst := rfl) (hW := Nat.le_of_ble_eq_true rfl) (hdg := dS_layOutNeeds_21) (hf := ⟨Nat.le_of_ble_eq_true rfl, Nat.le_of_ble_eq_true rfl⟩) (fun _ _ _ _ _ _ _ _ hw => hw.elim) (fun f21 a21 b21 H locs hw K => ?_)
  exact endV X K hr hw (by decide) (by decide) dS_layOutNeeds_24
set_option maxHeartbeats 4000000 in
set_option maxRecDepth 100000 in
theorem LS_spareUnits_36 {p : Program} {l : Launch} {e : Env} {s : State} {m : MethodId} {below : List Frame} {meth : Method} {c : Code} {D : va_G} {sa : Nat → Nat} {ad : Nat → Nat} {ca : Nat → ClassId} {sz : Nat} {f0 : wF} {a0 : wA} {b0 : wB} {po : Int32 → wF → wA → wB → Prop} (X : cx Wl (tyS ca) txS D vwCl sa (va_A (ww nS kS ad ca f0 a0 b0) sz) p l s m ([.ref (ad 0)] : List Value).toArray meth c cS_spareUnits 3 "SendBest") (hr : meth.sig.returnType = (some .int)) (J8 : Int32 → Int32 → wF → wA → wB → Prop) (hJ8 : ∀ (x1 : Int32) (x2 : Int32) (f : wF) (a : wA) (b : wB), J8 x1 x2 f a b → ∀ (H : Heap) (locs : List Loc), wd nS kS D vwCl ad ca (va_A (ww nS kS ad ca f0 a0 b0) sz) s H locs f a b → ∀ (ls : Array Slot), lv_has ls 3 [(0, .ref (ad 0)), (1, .int x1), (2, .int x2)] → W p l e ({ frames := 3, cells := 0, slots := 0, locals := 67 }) s m ([.ref (ad 0)] : List Value).toArray below meth c H locs 0 0 (vx_MQ below (va_Qi (fun r (u : wF × wA × wB) => po r u.1 u.2.1 u.2.2) (sPost nS kS D vwCl ad ca (va_A (ww nS kS ad ca f0 a0 b0) sz)) (va_A (ww nS kS ad ca f0 a0 b0) sz)) (sX nS kS D vwCl ad ca (va_A (ww nS kS ad ca f0 a0 b0) sz) (fun _ _ _ _ => False)) ([.ref (ad 0)] : List Value).toArray s 0 0 (va_A (ww nS kS ad ca f0 a0 b0) sz)) (F0 m 8 ls [])) : ∀ (x1 : Int32) (x2 : Int32) (f : wF) (a : wA) (b : wB), wp_S_spareUnits_36 po J8 x1 x2 f a b → ∀ (H : Heap) (locs : List Loc), wd nS kS D vwCl ad ca (va_A (ww nS kS ad ca f0 a0 b0) sz) s H locs f a b → ∀ (ls : Array Slot), lv_has ls 3 [(0, .ref (ad 0)), (1, .int x1), (2, .int x2)] → W p l e ({ frames := 3, cells := 0, slots := 0, locals := 67 }) s m ([.ref (ad 0)] : List Value).toArray below meth c H locs 0 0 (vx_MQ below (va_Qi (fun r (u : wF × wA × wB) => po r u.1 u.2.1 u.2.2) (sPost nS kS D vwCl ad ca (va_A (ww nS kS ad ca f0 a0 b0) sz)) (va_A (ww nS kS ad ca f0 a0 b0) sz)) (sX nS kS D vwCl ad ca (va_A (ww nS kS ad ca f0 a0 b0) sz) (fun _ _ _ _ => False)) ([.ref (ad 0)] : List Value).toArray s 0 0 (va_A (ww nS kS ad ca f0 a0 b0) sz)) (F0 m 36 ls []) := by
  obtain ⟨hx, hb, hml, hown, hts, hK, hA, hth, hlk, hl9, hex⟩ := id X
  intro x1 x2 f a b hw H locs K ls hl
  dsimp only [wp_S_spareUnits_36] at hw
  refine lv_iinc (v := (x2 + (1 : Int32))) (lv' := [(2, .int (x2 + (1 : Int32))), (0, .ref (ad 0)), (1, .int x1)]) hx hb dS_spareUnits_36 hl (k := 2) rfl rfl (by decide) rfl (fun ls hl => ?_)
  refine lv_goto (tgt := 8) hx hb dS_spareUnits_39 (by decide) ?_
  exact hJ8 x1 (x2 + (1 : Int32)) f a b hw _ _ K _ (lv_sub hl [1, 2, 0] rfl)
set_option maxHeartbeats 4000000 in
set_option maxRecDepth 100000 in
theorem LS_spareUnits_8 {p : Program} {l : Launch} {e : Env} {s : State} {m : MethodId} {below : List Frame} {meth : Method} {c : Code} {D : va_G} {sa : Nat → Nat} {ad : Nat → Nat} {ca : Nat → ClassId} {sz : Nat} {f0 : wF} {a0 : wA} {b0 : wB} {po : Int32 → wF → wA → wB → Prop} (X : cx Wl (tyS ca) txS D vwCl sa (va_A (ww nS kS ad ca f0 a0 b0) sz) p l s m ([.ref (ad 0)] : List Value).toArray meth c cS_spareUnits 3 "SendBest") (hr : meth.sig.returnType = (some .int)) : ∀ n : Nat, ∀ (x1 : Int32) (x2 : Int32) (f : wF) (a : wA) (b : wB), wp_S_spareUnits_8 po n x1 x2 f a b → ∀ (H : Heap) (locs : List Loc), wd nS kS D vwCl ad ca (va_A (ww nS kS ad ca f0 a0 b0) sz) s H locs f a b → ∀ (ls : Array Slot), lv_has ls 3 [(0, .ref (ad 0)), (1, .int x1), (2, .int x2)] → W p l e ({ frames := 3, cells := 0, slots := 0, locals := 67 }) s m ([.ref (ad 0)] : List Value).toArray below meth c H locs 0 0 (vx_MQ below (va_Qi (fun r (u : wF × wA × wB) => po r u.1 u.2.1 u.2.2) (sPost nS kS D vwCl ad ca (va_A (ww nS kS ad ca f0 a0 b0) sz)) (va_A (ww nS kS ad ca f0 a0 b0) sz)) (sX nS kS D vwCl ad ca (va_A (ww nS kS ad ca f0 a0 b0) sz) (fun _ _ _ _ => False)) ([.ref (ad 0)] : List Value).toArray s 0 0 (va_A (ww nS kS ad ca f0 a0 b0) sz)) (F0 m 8 ls []) := by
  obtain ⟨hx, hb, hml, hown, hts, hK, hA, hth, hlk, hl9, hex⟩ := id X
  intro n
  induction n with
  | zero => intro x1 x2 f a b hw; exact hw.elim
  | succ n ih =>
    intro x1 x2 f a b hw H locs K ls hl
    dsimp only [wp_S_spareUnits_8] at hw
    refine lv_iload_n hx hb dS_spareUnits_8 rfl (lv_at hl 2 rfl) ?_
    refine lv_aload_n hx hb dS_spareUnits_9 rfl (lv_at hl 0 rfl) ?_
    refine gGet X K (o := 0) (k := 0) (v := .int (f 0)) (by decide) kS_o0 rfl inS_o0 (by decide) (tm1 (i := 82) rfl rfl) rfl dS_spareUnits_10 ?_
    refine lv_icmp_ge (tgt := 42) hx hb dS_spareUnits_13 (by decide) (fun hc => ?_) (fun hc => ?_)
    · replace hw := hw.1 hc
      refine lv_iload_n hx hb dS_spareUnits_42 rfl (lv_at hl 1 rfl) ?_
      exact endI X K hr rfl hw (by decide) (by decide) dS_spareUnits_43
    · replace hw := hw.2 hc
      refine lv_aload_n hx hb dS_spareUnits_16 rfl (lv_at hl 0 rfl) ?_
      refine gGet X K (o := 0) (k := 2) (v := .ref (ad 3)) (by decide) kS_o0 rfl inS_o0 (by decide) (tm1 (i := 84) rfl rfl) rfl dS_spareUnits_17 ?_
      refine lv_iload_n hx hb dS_spareUnits_20 rfl (lv_at hl 2 rfl) ?_
      obtain ⟨hi, hw⟩ := hw
      refine gzld X K (o := 3) (t0 := 1) (by decide) kS_c3 rfl hi dS_spareUnits_21 ?_
      refine lv_if_ne (tgt := 36) hx hb dS_spareUnits_22 (by decide) (fun hc => ?_) (fun hc => ?_)
      · replace hw := hw.1 hc
        exact LS_spareUnits_36 X hr (wp_S_spareUnits_8 po n) ih x1 x2 f a b hw _ _ K _ (lv_sub hl [0, 1, 2] rfl)
      · replace hw := hw.2 hc
        refine lv_aload_n hx hb dS_spareUnits_25 rfl (lv_at hl 0 rfl) ?_
        refine lv_iload_n hx hb dS_spareUnits_26 rfl (lv_at hl 2 rfl) ?_
        refine gcI X K (n0 := 1) (As := [.int x2]) (rest := []) (hM := (met_S_isFixed hl9 D ad ca sa _ x2 f a b _ hw)) (o := 0) (ho := by decide) (hko := kS_o0) (hci := rfl) (hg := wl_good) (w1 := (tm2 (i := 140) rfl rfl)) (w2 := (tm2 (i := 142) rfl rfl)) (w3 := (tm0 (i := 9) rfl rfl)) (w4 := (tm1 (i := 1) rfl rfl)) (w5 := (tm2 (i := 143) rfl rfl)) (hd := ⟨rfl, by decide, by decide, by decide +kernel⟩) (hrc := rfl) (hrs := rfl) (hR := ⟨Nat.le_of_ble_eq_true rfl, Nat.le_of_ble_eq_true rfl⟩) (hn := rfl) (hsz := hl.1) (hst := rfl) (hW := Nat.le_of_ble_eq_true rfl) (hdg := dS_spareUnits_27) (hf := ⟨Nat.le_of_ble_eq_true rfl, Nat.le_of_ble_eq_true rfl⟩) (fun _ _ _ _ _ _ _ _ hw => hw.elim) (fun r27 f27 a27 b27 H locs hw K => ?_)
        refine lv_if_ne (tgt := 36) hx hb dS_spareUnits_30 (by decide) (fun hc => ?_) (fun hc => ?_)
        · replace hw := hw.1 hc
          exact LS_spareUnits_36 X hr (wp_S_spareUnits_8 po n) ih x1 x2 f27 a27 b27 hw _ _ K _ (lv_sub hl [0, 1, 2] rfl)
        · replace hw := hw.2 hc
          refine lv_iinc (v := (x1 + (1 : Int32))) (lv' := [(1, .int (x1 + (1 : Int32))), (0, .ref (ad 0)), (2, .int x2)]) hx hb dS_spareUnits_33 hl (k := 1) rfl rfl (by decide) rfl (fun ls hl => ?_)
          exact LS_spareUnits_36 X hr (wp_S_spareUnits_8 po n) ih (x1 + (1 : Int32)) x2 f27 a27 b27 hw _ _ K _ (lv_sub hl [1, 0, 2] rfl)
set_option maxHeartbeats 4000000 in
set_option maxRecDepth 100000 in
theorem met_S_spareUnits {l : Launch} (hl9 : l.stackTraces = false) (D : va_G) (ad : Nat → Nat) (ca : Nat → ClassId) (sa : Nat → Nat) (sz : Nat)  (f : wF) (a : wA) (b : wB) (po : Int32 → wF → wA → wB → Prop) (hw : wp_S_spareUnits po f a b) : mI nS kS (tyS ca) txS D vwCl l yS_spareUnits (Cond.code yS_spareUnits cS_spareUnits 3 (some .int) :: Wl) ({ frames := 3, cells := 0, slots := 0, locals := 67 }) [.ref (ad 0)] ad ca sa sz f a b po (fun _ _ _ _ => False) 0 0 := by
  refine ofI (by decide) hl9 (Nat.le_of_ble_eq_true rfl) ?_
  intro p e s m below meth c ls X hr K hl
  obtain ⟨hx, hb, hml, hown, hts, hK, hA, hth, hlk, hl9, hex⟩ := id X
  have hl : lv_has ls 3 [(0, .ref (ad 0))] := hl
  dsimp only [wp_S_spareUnits] at hw
  refine lv_aload_n hx hb dS_spareUnits_0 rfl (lv_at hl 0 rfl) ?_
  refine gGet X K (o := 0) (k := 14) (v := .int (f 3)) (by decide) kS_o0 rfl inS_o0 (by decide) (tm1 (i := 96) rfl rfl) rfl dS_spareUnits_1 ?_
  refine lv_ineg hx hb dS_spareUnits_4 ?_
  refine lv_istore_n (lv' := [(1, .int (-(f 3))), (0, .ref (ad 0))]) hx hb dS_spareUnits_5 rfl hl (by decide) rfl (fun ls hl => ?_)
  refine lv_iconst (v := (0 : Int32)) hx hb dS_spareUnits_6 (by decide) ?_
  refine lv_istore_n (lv' := [(2, .int (0 : Int32)), (1, .int (-(f 3))), (0, .ref (ad 0))]) hx hb dS_spareUnits_7 rfl hl (by decide) rfl (fun ls hl => ?_)
  obtain ⟨n9, hw⟩ := hw
  exact LS_spareUnits_8 X hr n9 (-(f 3)) (0 : Int32) f a b hw _ _ K _ (lv_sub hl [2, 1, 0] rfl)
set_option maxHeartbeats 4000000 in
set_option maxRecDepth 100000 in
theorem LP_isLess_26 {p : Program} {l : Launch} {e : Env} {s : State} {m : MethodId} {below : List Frame} {meth : Method} {c : Code} {D : va_G} {sa : Nat → Nat} {ad : Nat → Nat} {ca : Nat → ClassId} {sz : Nat} {f0 : wF} {a0 : wA} {b0 : wB} {y0 : Int64} {y2 : Int64} {y4 : Int64} {y6 : Int64} {po : Int32 → wF → wA → wB → Prop} (X : cx Wl (tyS ca) txS D vwCl sa (va_A (ww nS kS ad ca f0 a0 b0) sz) p l s m ([.long y0, .long y2, .long y4, .long y6] : List Value).toArray meth c cP_isLess 8 "SendBest$Pairing") (hr : meth.sig.returnType = (some .boolean)) : ∀ (k0 : Int32) (f : wF) (a : wA) (b : wB), wp_P_isLess_26 po k0 f a b → ∀ (H : Heap) (locs : List Loc), wd nS kS D vwCl ad ca (va_A (ww nS kS ad ca f0 a0 b0) sz) s H locs f a b → ∀ (ls : Array Slot), lv_has ls 8 [] → W p l e ({ frames := 0, cells := 0, slots := 0, locals := 0 }) s m ([.long y0, .long y2, .long y4, .long y6] : List Value).toArray below meth c H locs 0 0 (vx_MQ below (va_Qi (fun r (u : wF × wA × wB) => po r u.1 u.2.1 u.2.2) (sPost nS kS D vwCl ad ca (va_A (ww nS kS ad ca f0 a0 b0) sz)) (va_A (ww nS kS ad ca f0 a0 b0) sz)) (sX nS kS D vwCl ad ca (va_A (ww nS kS ad ca f0 a0 b0) sz) (fun _ _ _ _ => False)) ([.long y0, .long y2, .long y4, .long y6] : List Value).toArray s 0 0 (va_A (ww nS kS ad ca f0 a0 b0) sz)) (F0 m 26 ls [.int k0]) := by
  obtain ⟨hx, hb, hml, hown, hts, hK, hA, hth, hlk, hl9, hex⟩ := id X
  intro k0 f a b hw H locs K ls hl
  dsimp only [wp_P_isLess_26] at hw
  exact endI X K hr hw.1 hw.2 (by decide) (by decide) dP_isLess_26
set_option maxHeartbeats 4000000 in
set_option maxRecDepth 100000 in
theorem LP_isLess_25 {p : Program} {l : Launch} {e : Env} {s : State} {m : MethodId} {below : List Frame} {meth : Method} {c : Code} {D : va_G} {sa : Nat → Nat} {ad : Nat → Nat} {ca : Nat → ClassId} {sz : Nat} {f0 : wF} {a0 : wA} {b0 : wB} {y0 : Int64} {y2 : Int64} {y4 : Int64} {y6 : Int64} {po : Int32 → wF → wA → wB → Prop} (X : cx Wl (tyS ca) txS D vwCl sa (va_A (ww nS kS ad ca f0 a0 b0) sz) p l s m ([.long y0, .long y2, .long y4, .long y6] : List Value).toArray meth c cP_isLess 8 "SendBest$Pairing") (hr : meth.sig.returnType = (some .boolean)) : ∀ (f : wF) (a : wA) (b : wB), wp_P_isLess_25 po f a b → ∀ (H : Heap) (locs : List Loc), wd nS kS D vwCl ad ca (va_A (ww nS kS ad ca f0 a0 b0) sz) s H locs f a b → ∀ (ls : Array Slot), lv_has ls 8 [] → W p l e ({ frames := 0, cells := 0, slots := 0, locals := 0 }) s m ([.long y0, .long y2, .long y4, .long y6] : List Value).toArray below meth c H locs 0 0 (vx_MQ below (va_Qi (fun r (u : wF × wA × wB) => po r u.1 u.2.1 u.2.2) (sPost nS kS D vwCl ad ca (va_A (ww nS kS ad ca f0 a0 b0) sz)) (va_A (ww nS kS ad ca f0 a0 b0) sz)) (sX nS kS D vwCl ad ca (va_A (ww nS kS ad ca f0 a0 b0) sz) (fun _ _ _ _ => False)) ([.long y0, .long y2, .long y4, .long y6] : List Value).toArray s 0 0 (va_A (ww nS kS ad ca f0 a0 b0) sz)) (F0 m 25 ls []) := by
  obtain ⟨hx, hb, hml, hown, hts, hK, hA, hth, hlk, hl9, hex⟩ := id X
  intro  f a b hw H locs K ls hl
  dsimp only [wp_P_isLess_25] at hw
  refine lv_iconst (v := (0 : Int32)) hx hb dP_isLess_25 (by decide) ?_
  exact LP_isLess_26 X hr (0 : Int32) f a b hw _ _ K _ (lv_sub hl [] rfl)
set_option maxHeartbeats 4000000 in
set_option maxRecDepth 100000 in
theorem LP_isLess_21 {p : Program} {l : Launch} {e : Env} {s : State} {m : MethodId} {below : List Frame} {meth : Method} {c : Code} {D : va_G} {sa : Nat → Nat} {ad : Nat → Nat} {ca : Nat → ClassId} {sz : Nat} {f0 : wF} {a0 : wA} {b0 : wB} {y0 : Int64} {y2 : Int64} {y4 : Int64} {y6 : Int64} {po : Int32 → wF → wA → wB → Prop} (X : cx Wl (tyS ca) txS D vwCl sa (va_A (ww nS kS ad ca f0 a0 b0) sz) p l s m ([.long y0, .long y2, .long y4, .long y6] : List Value).toArray meth c cP_isLess 8 "SendBest$Pairing") (hr : meth.sig.returnType = (some .boolean)) : ∀ (f : wF) (a : wA) (b : wB), wp_P_isLess_21 po f a b → ∀ (H : Heap) (locs : List Loc), wd nS kS D vwCl ad ca (va_A (ww nS kS ad ca f0 a0 b0) sz) s H locs f a b → ∀ (ls : Array Slot), lv_has ls 8 [] → W p l e ({ frames := 0, cells := 0, slots := 0, locals := 0 }) s m ([.long y0, .long y2, .long y4, .long y6] : List Value).toArray below meth c H locs 0 0 (vx_MQ below (va_Qi (fun r (u : wF × wA × wB) => po r u.1 u.2.1 u.2.2) (sPost nS kS D vwCl ad ca (va_A (ww nS kS ad ca f0 a0 b0) sz)) (va_A (ww nS kS ad ca f0 a0 b0) sz)) (sX nS kS D vwCl ad ca (va_A (ww nS kS ad ca f0 a0 b0) sz) (fun _ _ _ _ => False)) ([.long y0, .long y2, .long y4, .long y6] : List Value).toArray s 0 0 (va_A (ww nS kS ad ca f0 a0 b0) sz)) (F0 m 21 ls []) := by
  obtain ⟨hx, hb, hml, hown, hts, hK, hA, hth, hlk, hl9, hex⟩ := id X
  intro  f a b hw H locs K ls hl
  dsimp only [wp_P_isLess_21] at hw
  refine lv_iconst (v := (1 : Int32)) hx hb dP_isLess_21 (by decide) ?_
  refine lv_goto (tgt := 26) hx hb dP_isLess_22 (by decide) ?_
  exact LP_isLess_26 X hr (1 : Int32) f a b hw _ _ K _ (lv_sub hl [] rfl)
set_option maxHeartbeats 4000000 in
set_option maxRecDepth 100000 in
theorem met_P_isLess {l : Launch} (hl9 : l.stackTraces = false) (D : va_G) (ad : Nat → Nat) (ca : Nat → ClassId) (sa : Nat → Nat) (sz : Nat) (x0 : Int64) (x2 : Int64) (x4 : Int64) (x6 : Int64) (f : wF) (a : wA) (b : wB) (po : Int32 → wF → wA → wB → Prop) (hw : wp_P_isLess po x0 x2 x4 x6 f a b) : mI nS kS (tyS ca) txS D vwCl l yP_isLess (Cond.code yP_isLess cP_isLess 8 (some .boolean) :: Wl) ({ frames := 0, cells := 0, slots := 0, locals := 0 }) [.long x0, .long x2, .long x4, .long x6] ad ca sa sz f a b po (fun _ _ _ _ => False) 0 0 := by
  refine ofI (by decide) hl9 (Nat.le_of_ble_eq_true rfl) ?_
  intro p e s m below meth c ls X hr K hl
  obtain ⟨hx, hb, hml, hown, hts, hK, hA, hth, hlk, hl9, hex⟩ := id X
  have hl : lv_has ls 8 [(0, .long x0), (2, .long x2), (4, .long x4), (6, .long x6)] := hl
  dsimp only [wp_P_isLess] at hw
  refine lv_lload_n hx hb dP_isLess_0 rfl (lv_at hl 0 rfl) ?_
  refine lv_lload hx hb dP_isLess_1 (lv_at hl 2 rfl) ?_
  refine W.lcmp hx hb dP_isLess_3 ?_
  refine lv_if_lt (tgt := 21) hx hb dP_isLess_4 (by decide) (fun hc => ?_) (fun hc => ?_)
  · replace hw := hw.1 hc
    exact LP_isLess_21 X hr f a b hw _ _ K _ (lv_sub hl [] rfl)
  · replace hw := hw.2 hc
    refine lv_lload_n hx hb dP_isLess_7 rfl (lv_at hl 0 rfl) ?_
    refine lv_lload hx hb dP_isLess_8 (lv_at hl 2 rfl) ?_
    refine W.lcmp hx hb dP_isLess_10 ?_
    refine lv_if_ne (tgt := 25) hx hb dP_isLess_11 (by decide) (fun hc => ?_) (fun hc => ?_)
    · replace hw := hw.1 hc
      exact LP_isLess_25 X hr f a b hw _ _ K _ (lv_sub hl [] rfl)
    · replace hw := hw.2 hc
      refine lv_lload_n hx hb dP_isLess_14 rfl (lv_at hl 1 rfl) ?_
      refine lv_lload hx hb dP_isLess_15 (lv_at hl 3 rfl) ?_
      refine W.lcmp hx hb dP_isLess_17 ?_
      refine lv_if_ge (tgt := 25) hx hb dP_isLess_18 (by decide) (fun hc => ?_) (fun hc => ?_)
      · replace hw := hw.1 hc
        exact LP_isLess_25 X hr f a b hw _ _ K _ (lv_sub hl [] rfl)
      · replace hw := hw.2 hc
        exact LP_isLess_21 X hr f a b hw _ _ K _ (lv_sub hl [] rfl)
set_option maxHeartbeats 4000000 in
set_option maxRecDepth 100000 in
theorem LP_reach_146 {p : Program} {l : Launch} {e : Env} {s : State} {m : MethodId} {below : List Frame} {meth : Method} {c : Code} {D : va_G} {sa : Nat → Nat} {ad : Nat → Nat} {ca : Nat → ClassId} {sz : Nat} {f0 : wF} {a0 : wA} {b0 : wB} {y1 : Int32} {y2 : Int32} {po : wF → wA → wB → Prop} (X : cx Wl (tyS ca) txS D vwCl sa (va_A (ww nS kS ad ca f0 a0 b0) sz) p l s m ([.ref (ad 1), .int y1, .int y2] : List Value).toArray meth c cP_reach 8 "SendBest$Pairing") (hr : meth.sig.returnType = none) : ∀ (f : wF) (a : wA) (b : wB), wp_P_reach_146 po f a b → ∀ (H : Heap) (locs : List Loc), wd nS kS D vwCl ad ca (va_A (ww nS kS ad ca f0 a0 b0) sz) s H locs f a b → ∀ (ls : Array Slot), lv_has ls 8 [] → W p l e ({ frames := 1, cells := 0, slots := 0, locals := 27 }) s m ([.ref (ad 1), .int y1, .int y2] : List Value).toArray below meth c H locs 0 0 (vx_MQ below (va_Qv (fun (u : wF × wA × wB) => po u.1 u.2.1 u.2.2) (sPost nS kS D vwCl ad ca (va_A (ww nS kS ad ca f0 a0 b0) sz)) (va_A (ww nS kS ad ca f0 a0 b0) sz)) (sX nS kS D vwCl ad ca (va_A (ww nS kS ad ca f0 a0 b0) sz) (fun _ _ _ _ => False)) ([.ref (ad 1), .int y1, .int y2] : List Value).toArray s 0 0 (va_A (ww nS kS ad ca f0 a0 b0) sz)) (F0 m 146 ls []) := by
  obtain ⟨hx, hb, hml, hown, hts, hK, hA, hth, hlk, hl9, hex⟩ := id X
  intro  f a b hw H locs K ls hl
  dsimp only [wp_P_reach_146] at hw
  exact endV X K hr hw (by decide) (by decide) dP_reach_146
set_option maxHeartbeats 4000000 in
set_option maxRecDepth 100000 in
theorem LP_reach_65 {p : Program} {l : Launch} {e : Env} {s : State} {m : MethodId} {below : List Frame} {meth : Method} {c : Code} {D : va_G} {sa : Nat → Nat} {ad : Nat → Nat} {ca : Nat → ClassId} {sz : Nat} {f0 : wF} {a0 : wA} {b0 : wB} {y1 : Int32} {y2 : Int32} {po : wF → wA → wB → Prop} (X : cx Wl (tyS ca) txS D vwCl sa (va_A (ww nS kS ad ca f0 a0 b0) sz) p l s m ([.ref (ad 1), .int y1, .int y2] : List Value).toArray meth c cP_reach 8 "SendBest$Pairing") (hr : meth.sig.returnType = none) : ∀ (x1 : Int32) (x2 : Int32) (x3 : Int64) (x5 : Int64) (f : wF) (a : wA) (b : wB), wp_P_reach_65 po x1 x2 x3 x5 f a b → ∀ (H : Heap) (locs : List Loc), wd nS kS D vwCl ad ca (va_A (ww nS kS ad ca f0 a0 b0) sz) s H locs f a b → ∀ (ls : Array Slot), lv_has ls 8 [(0, .ref (ad 1)), (1, .int x1), (2, .int x2), (3, .long x3), (5, .long x5)] → W p l e ({ frames := 1, cells := 0, slots := 0, locals := 27 }) s m ([.ref (ad 1), .int y1, .int y2] : List Value).toArray below meth c H locs 0 0 (vx_MQ below (va_Qv (fun (u : wF × wA × wB) => po u.1 u.2.1 u.2.2) (sPost nS kS D vwCl ad ca (va_A (ww nS kS ad ca f0 a0 b0) sz)) (va_A (ww nS kS ad ca f0 a0 b0) sz)) (sX nS kS D vwCl ad ca (va_A (ww nS kS ad ca f0 a0 b0) sz) (fun _ _ _ _ => False)) ([.ref (ad 1), .int y1, .int y2] : List Value).toArray s 0 0 (va_A (ww nS kS ad ca f0 a0 b0) sz)) (F0 m 65 ls []) := by
  obtain ⟨hx, hb, hml, hown, hts, hK, hA, hth, hlk, hl9, hex⟩ := id X
  intro x1 x2 x3 x5 f a b hw H locs K ls hl
  dsimp only [wp_P_reach_65] at hw
  refine lv_aload_n hx hb dP_reach_65 rfl (lv_at hl 0 rfl) ?_
  refine gGet X K (o := 1) (k := 11) (v := .ref (ad 22)) (by decide) kS_o1 rfl inS_o1 (by decide) (tm1 (i := 44) rfl rfl) rfl dP_reach_66 ?_
  refine lv_iload_n hx hb dP_reach_69 rfl (lv_at hl 1 rfl) ?_
  refine lv_iload_n hx hb dP_reach_70 rfl (lv_at hl 2 rfl) ?_
  obtain ⟨hi, hw⟩ := hw
  refine gist X K (o := 22) (t0 := 0) (by decide) kS_c22 rfl hi dP_reach_71 kS_p22 (fun H locs K => ?_)
  refine lv_aload_n hx hb dP_reach_72 rfl (lv_at hl 0 rfl) ?_
  refine gGet X K (o := 1) (k := 12) (v := .ref (ad 23)) (by decide) kS_o1 rfl inS_o1 (by decide) (tm1 (i := 45) rfl rfl) rfl dP_reach_73 ?_
  refine lv_iload_n hx hb dP_reach_76 rfl (lv_at hl 1 rfl) ?_
  refine lv_lload_n hx hb dP_reach_77 rfl (lv_at hl 3 rfl) ?_
  obtain ⟨hi, hw⟩ := hw
  refine glst X K (o := 23) (t0 := 2) (by decide) kS_c23 rfl hi dP_reach_78 kS_p23 (fun H locs K => ?_)
  refine lv_aload_n hx hb dP_reach_79 rfl (lv_at hl 0 rfl) ?_
  refine gGet X K (o := 1) (k := 13) (v := .ref (ad 24)) (by decide) kS_o1 rfl inS_o1 (by decide) (tm1 (i := 46) rfl rfl) rfl dP_reach_80 ?_
  refine lv_iload_n hx hb dP_reach_83 rfl (lv_at hl 1 rfl) ?_
  refine lv_lload hx hb dP_reach_84 (lv_at hl 4 rfl) ?_
  obtain ⟨hi, hw⟩ := hw
  refine glst X K (o := 24) (t0 := 2) (by decide) kS_c24 rfl hi dP_reach_86 kS_p24 (fun H locs K => ?_)
  refine lv_aload_n hx hb dP_reach_87 rfl (lv_at hl 0 rfl) ?_
  refine gGet X K (o := 1) (k := 6) (v := .ref (ad 17)) (by decide) kS_o1 rfl inS_o1 (by decide) (tm1 (i := 39) rfl rfl) rfl dP_reach_88 ?_
  refine lv_iload_n hx hb dP_reach_91 rfl (lv_at hl 1 rfl) ?_
  obtain ⟨hi, hw⟩ := hw
  refine gild X K (o := 17) (t0 := 0) (by decide) kS_c17 rfl hi dP_reach_92 ?_
  refine lv_istore (lv' := [(7, .int ((va_up a 22 (upd (a 22) x1.toNatClampNeg x2)) 17 x1.toNatClampNeg)), (0, .ref (ad 1)), (1, .int x1), (2, .int x2), (3, .long x3), (5, .long x5)]) hx hb dP_reach_93 hl (by decide) rfl (fun ls hl => ?_)
  refine lv_iload hx hb dP_reach_95 (lv_at hl 0 rfl) ?_
  refine lv_iconst (v := (-1 : Int32)) hx hb dP_reach_97 (by decide) ?_
  refine lv_icmp_eq (tgt := 146) hx hb dP_reach_98 (by decide) (fun hc => ?_) (fun hc => ?_)
  · replace hw := hw.1 hc
    exact LP_reach_146 X hr f (va_up a 22 (upd (a 22) x1.toNatClampNeg x2)) (va_up (va_up b 23 (vp_updL (b 23) x1.toNatClampNeg x3)) 24 (vp_updL ((va_up b 23 (vp_updL (b 23) x1.toNatClampNeg x3)) 24) x1.toNatClampNeg x5)) hw _ _ K _ (lv_sub hl [] rfl)
  · replace hw := hw.2 hc
    refine lv_aload_n hx hb dP_reach_101 rfl (lv_at hl 1 rfl) ?_
    refine gGet X K (o := 1) (k := 9) (v := .ref (ad 20)) (by decide) kS_o1 rfl inS_o1 (by decide) (tm1 (i := 42) rfl rfl) rfl dP_reach_102 ?_
    refine lv_iload hx hb dP_reach_105 (lv_at hl 0 rfl) ?_
    refine lv_lload_n hx hb dP_reach_107 rfl (lv_at hl 4 rfl) ?_
    refine lv_aload_n hx hb dP_reach_108 rfl (lv_at hl 1 rfl) ?_
    refine gGet X K (o := 1) (k := 3) (v := .ref (ad 14)) (by decide) kS_o1 rfl inS_o1 (by decide) (tm1 (i := 36) rfl rfl) rfl dP_reach_109 ?_
    refine lv_iload hx hb dP_reach_112 (lv_at hl 0 rfl) ?_
    obtain ⟨hi_cost, hw⟩ := hw
    refine gald X K (o := 14) (t0 := 4) (by decide) kS_c14 rfl hi_cost dP_reach_114 ?_
    refine lv_iload_n hx hb dP_reach_115 rfl (lv_at hl 2 rfl) ?_
    obtain ⟨hi, hw⟩ := hw
    refine glld X K (o := (37 + ((va_up a 22 (upd (a 22) x1.toNatClampNeg x2)) 17 x1.toNatClampNeg).toNatClampNeg)) (t0 := 2) (rS_cost_lt hi_cost) (kS_r_cost hi_cost) rfl hi dP_reach_116 ?_
    refine lv_lsub hx hb dP_reach_117 ?_
    obtain ⟨hi, hw⟩ := hw
    refine glst X K (o := 20) (t0 := 2) (by decide) kS_c20 rfl hi dP_reach_118 kS_p20 (fun H locs K => ?_)
    refine lv_aload_n hx hb dP_reach_119 rfl (lv_at hl 1 rfl) ?_
    refine gGet X K (o := 1) (k := 10) (v := .ref (ad 21)) (by decide) kS_o1 rfl inS_o1 (by decide) (tm1 (i := 43) rfl rfl) rfl dP_reach_120 ?_
    refine lv_iload hx hb dP_reach_123 (lv_at hl 0 rfl) ?_
    refine lv_lload hx hb dP_reach_125 (lv_at hl 5 rfl) ?_
    refine lv_aload_n hx hb dP_reach_127 rfl (lv_at hl 1 rfl) ?_
    refine gGet X K (o := 1) (k := 4) (v := .ref (ad 15)) (by decide) kS_o1 rfl inS_o1 (by decide) (tm1 (i := 37) rfl rfl) rfl dP_reach_128 ?_
    refine lv_iload hx hb dP_reach_131 (lv_at hl 0 rfl) ?_
    obtain ⟨hi_tie, hw⟩ := hw
    refine gald X K (o := 15) (t0 := 4) (by decide) kS_c15 rfl hi_tie dP_reach_133 ?_
    refine lv_iload_n hx hb dP_reach_134 rfl (lv_at hl 2 rfl) ?_
    obtain ⟨hi, hw⟩ := hw
    refine glld X K (o := (47 + ((va_up a 22 (upd (a 22) x1.toNatClampNeg x2)) 17 x1.toNatClampNeg).toNatClampNeg)) (t0 := 2) (rS_tie_lt hi_tie) (kS_r_tie hi_tie) rfl hi dP_reach_135 ?_
    refine lv_lsub hx hb dP_reach_136 ?_
    obtain ⟨hi, hw⟩ := hw
    refine glst X K (o := 21) (t0 := 2) (by decide) kS_c21 rfl hi dP_reach_137 kS_p21 (fun H locs K => ?_)
    refine lv_aload_n hx hb dP_reach_138 rfl (lv_at hl 1 rfl) ?_
    refine gGet X K (o := 1) (k := 8) (v := .ref (ad 19)) (by decide) kS_o1 rfl inS_o1 (by decide) (tm1 (i := 41) rfl rfl) rfl dP_reach_139 ?_
    refine lv_iload hx hb dP_reach_142 (lv_at hl 0 rfl) ?_
    refine lv_iconst (v := (1 : Int32)) hx hb dP_reach_144 (by decide) ?_
    obtain ⟨hi, hw⟩ := hw
    refine gzst X K (o := 19) (t0 := 1) (by decide) kS_c19 rfl hi dP_reach_145 kS_p19 (fun H locs K => ?_)
    exact LP_reach_146 X hr f (va_up (va_up a 22 (upd (a 22) x1.toNatClampNeg x2)) 19 (upd ((va_up a 22 (upd (a 22) x1.toNatClampNeg x2)) 19) ((va_up a 22 (upd (a 22) x1.toNatClampNeg x2)) 17 x1.toNatClampNeg).toNatClampNeg (vp_nar .boolean (1 : Int32)))) (va_up (va_up (va_up (va_up b 23 (vp_updL (b 23) x1.toNatClampNeg x3)) 24 (vp_updL ((va_up b 23 (vp_updL (b 23) x1.toNatClampNeg x3)) 24) x1.toNatClampNeg x5)) 20 (vp_updL ((va_up (va_up b 23 (vp_updL (b 23) x1.toNatClampNeg x3)) 24 (vp_updL ((va_up b 23 (vp_updL (b 23) x1.toNatClampNeg x3)) 24) x1.toNatClampNeg x5)) 20) ((va_up a 22 (upd (a 22) x1.toNatClampNeg x2)) 17 x1.toNatClampNeg).toNatClampNeg (x3 - ((va_up (va_up b 23 (vp_updL (b 23) x1.toNatClampNeg x3)) 24 (vp_updL ((va_up b 23 (vp_updL (b 23) x1.toNatClampNeg x3)) 24) x1.toNatClampNeg x5)) (37 + ((va_up a 22 (upd (a 22) x1.toNatClampNeg x2)) 17 x1.toNatClampNeg).toNatClampNeg) x1.toNatClampNeg)))) 21 (vp_updL ((va_up (va_up (va_up b 23 (vp_updL (b 23) x1.toNatClampNeg x3)) 24 (vp_updL ((va_up b 23 (vp_updL (b 23) x1.toNatClampNeg x3)) 24) x1.toNatClampNeg x5)) 20 (vp_updL ((va_up (va_up b 23 (vp_updL (b 23) x1.toNatClampNeg x3)) 24 (vp_updL ((va_up b 23 (vp_updL (b 23) x1.toNatClampNeg x3)) 24) x1.toNatClampNeg x5)) 20) ((va_up a 22 (upd (a 22) x1.toNatClampNeg x2)) 17 x1.toNatClampNeg).toNatClampNeg (x3 - ((va_up (va_up b 23 (vp_updL (b 23) x1.toNatClampNeg x3)) 24 (vp_updL ((va_up b 23 (vp_updL (b 23) x1.toNatClampNeg x3)) 24) x1.toNatClampNeg x5)) (37 + ((va_up a 22 (upd (a 22) x1.toNatClampNeg x2)) 17 x1.toNatClampNeg).toNatClampNeg) x1.toNatClampNeg)))) 21) ((va_up a 22 (upd (a 22) x1.toNatClampNeg x2)) 17 x1.toNatClampNeg).toNatClampNeg (x5 - ((va_up (va_up (va_up b 23 (vp_updL (b 23) x1.toNatClampNeg x3)) 24 (vp_updL ((va_up b 23 (vp_updL (b 23) x1.toNatClampNeg x3)) 24) x1.toNatClampNeg x5)) 20 (vp_updL ((va_up (va_up b 23 (vp_updL (b 23) x1.toNatClampNeg x3)) 24 (vp_updL ((va_up b 23 (vp_updL (b 23) x1.toNatClampNeg x3)) 24) x1.toNatClampNeg x5)) 20) ((va_up a 22 (upd (a 22) x1.toNatClampNeg x2)) 17 x1.toNatClampNeg).toNatClampNeg (x3 - ((va_up (va_up b 23 (vp_updL (b 23) x1.toNatClampNeg x3)) 24 (vp_updL ((va_up b 23 (vp_updL (b 23) x1.toNatClampNeg x3)) 24) x1.toNatClampNeg x5)) (37 + ((va_up a 22 (upd (a 22) x1.toNatClampNeg x2)) 17 x1.toNatClampNeg).toNatClampNeg) x1.toNatClampNeg)))) (47 + ((va_up a 22 (upd (a 22) x1.toNatClampNeg x2)) 17 x1.toNatClampNeg).toNatClampNeg) x1.toNatClampNeg)))) hw _ _ K _ (lv_sub hl [] rfl)
set_option maxHeartbeats 4000000 in
set_option maxRecDepth 100000 in
theorem met_P_reach {l : Launch} (hl9 : l.stackTraces = false) (D : va_G) (ad : Nat → Nat) (ca : Nat → ClassId) (sa : Nat → Nat) (sz : Nat) (x1 : Int32) (x2 : Int32) (f : wF) (a : wA) (b : wB) (po : wF → wA → wB → Prop) (hw : wp_P_reach po x1 x2 f a b) : mV nS kS (tyS ca) txS D vwCl l yP_reach (Cond.code yP_reach cP_reach 8 none :: Wl) ({ frames := 1, cells := 0, slots := 0, locals := 27 }) [.ref (ad 1), .int x1, .int x2] ad ca sa sz f a b po (fun _ _ _ _ => False) 0 0 := by
  refine ofV (by decide) hl9 (Nat.le_of_ble_eq_true rfl) ?_
  intro p e s m below meth c ls X hr K hl
  obtain ⟨hx, hb, hml, hown, hts, hK, hA, hth, hlk, hl9, hex⟩ := id X
  have hl : lv_has ls 8 [(0, .ref (ad 1)), (1, .int x1), (2, .int x2)] := hl
  dsimp only [wp_P_reach] at hw
  refine lv_aload_n hx hb dP_reach_0 rfl (lv_at hl 0 rfl) ?_
  refine gGet X K (o := 1) (k := 9) (v := .ref (ad 20)) (by decide) kS_o1 rfl inS_o1 (by decide) (tm1 (i := 42) rfl rfl) rfl dP_reach_1 ?_
  refine lv_iload_n hx hb dP_reach_4 rfl (lv_at hl 2 rfl) ?_
  obtain ⟨hi, hw⟩ := hw
  refine glld X K (o := 20) (t0 := 2) (by decide) kS_c20 rfl hi dP_reach_5 ?_
  refine lv_aload_n hx hb dP_reach_6 rfl (lv_at hl 0 rfl) ?_
  refine gGet X K (o := 1) (k := 3) (v := .ref (ad 14)) (by decide) kS_o1 rfl inS_o1 (by decide) (tm1 (i := 36) rfl rfl) rfl dP_reach_7 ?_
  refine lv_iload_n hx hb dP_reach_10 rfl (lv_at hl 2 rfl) ?_
  obtain ⟨hi_cost, hw⟩ := hw
  refine gald X K (o := 14) (t0 := 4) (by decide) kS_c14 rfl hi_cost dP_reach_11 ?_
  refine lv_iload_n hx hb dP_reach_12 rfl (lv_at hl 1 rfl) ?_
  obtain ⟨hi, hw⟩ := hw
  refine glld X K (o := (37 + x2.toNatClampNeg)) (t0 := 2) (rS_cost_lt hi_cost) (kS_r_cost hi_cost) rfl hi dP_reach_13 ?_
  refine lv_ladd hx hb dP_reach_14 ?_
  refine lv_lstore_n (lv' := [(3, .long ((b 20 x2.toNatClampNeg) + (b (37 + x2.toNatClampNeg) x1.toNatClampNeg))), (0, .ref (ad 1)), (1, .int x1), (2, .int x2)]) hx hb dP_reach_15 rfl hl (by decide) rfl (fun ls hl => ?_)
  refine lv_aload_n hx hb dP_reach_16 rfl (lv_at hl 1 rfl) ?_
  refine gGet X K (o := 1) (k := 10) (v := .ref (ad 21)) (by decide) kS_o1 rfl inS_o1 (by decide) (tm1 (i := 43) rfl rfl) rfl dP_reach_17 ?_
  refine lv_iload_n hx hb dP_reach_20 rfl (lv_at hl 3 rfl) ?_
  obtain ⟨hi, hw⟩ := hw
  refine glld X K (o := 21) (t0 := 2) (by decide) kS_c21 rfl hi dP_reach_21 ?_
  refine lv_aload_n hx hb dP_reach_22 rfl (lv_at hl 1 rfl) ?_
  refine gGet X K (o := 1) (k := 4) (v := .ref (ad 15)) (by decide) kS_o1 rfl inS_o1 (by decide) (tm1 (i := 37) rfl rfl) rfl dP_reach_23 ?_
  refine lv_iload_n hx hb dP_reach_26 rfl (lv_at hl 3 rfl) ?_
  obtain ⟨hi_tie, hw⟩ := hw
  refine gald X K (o := 15) (t0 := 4) (by decide) kS_c15 rfl hi_tie dP_reach_27 ?_
  refine lv_iload_n hx hb dP_reach_28 rfl (lv_at hl 2 rfl) ?_
  obtain ⟨hi, hw⟩ := hw
  refine glld X K (o := (47 + x2.toNatClampNeg)) (t0 := 2) (rS_tie_lt hi_tie) (kS_r_tie hi_tie) rfl hi dP_reach_29 ?_
  refine lv_ladd hx hb dP_reach_30 ?_
  refine lv_lstore (lv' := [(5, .long ((b 21 x2.toNatClampNeg) + (b (47 + x2.toNatClampNeg) x1.toNatClampNeg))), (3, .long ((b 20 x2.toNatClampNeg) + (b (37 + x2.toNatClampNeg) x1.toNatClampNeg))), (0, .ref (ad 1)), (1, .int x1), (2, .int x2)]) hx hb dP_reach_31 hl (by decide) rfl (fun ls hl => ?_)
  refine lv_aload_n hx hb dP_reach_33 rfl (lv_at hl 2 rfl) ?_
  refine gGet X K (o := 1) (k := 11) (v := .ref (ad 22)) (by decide) kS_o1 rfl inS_o1 (by decide) (tm1 (i := 44) rfl rfl) rfl dP_reach_34 ?_
  refine lv_iload_n hx hb dP_reach_37 rfl (lv_at hl 3 rfl) ?_
  obtain ⟨hi, hw⟩ := hw
  refine gild X K (o := 22) (t0 := 0) (by decide) kS_c22 rfl hi dP_reach_38 ?_
  refine lv_iconst (v := (-1 : Int32)) hx hb dP_reach_39 (by decide) ?_
  refine lv_icmp_eq (tgt := 65) hx hb dP_reach_40 (by decide) (fun hc => ?_) (fun hc => ?_)
  · replace hw := hw.1 hc
    exact LP_reach_65 X hr x1 x2 ((b 20 x2.toNatClampNeg) + (b (37 + x2.toNatClampNeg) x1.toNatClampNeg)) ((b 21 x2.toNatClampNeg) + (b (47 + x2.toNatClampNeg) x1.toNatClampNeg)) f a b hw _ _ K _ (lv_sub hl [2, 3, 4, 1, 0] rfl)
  · replace hw := hw.2 hc
    refine lv_lload_n hx hb dP_reach_43 rfl (lv_at hl 1 rfl) ?_
    refine lv_lload hx hb dP_reach_44 (lv_at hl 0 rfl) ?_
    refine lv_aload_n hx hb dP_reach_46 rfl (lv_at hl 2 rfl) ?_
    refine gGet X K (o := 1) (k := 12) (v := .ref (ad 23)) (by decide) kS_o1 rfl inS_o1 (by decide) (tm1 (i := 45) rfl rfl) rfl dP_reach_47 ?_
    refine lv_iload_n hx hb dP_reach_50 rfl (lv_at hl 3 rfl) ?_
    obtain ⟨hi, hw⟩ := hw
    refine glld X K (o := 23) (t0 := 2) (by decide) kS_c23 rfl hi dP_reach_51 ?_
    refine lv_aload_n hx hb dP_reach_52 rfl (lv_at hl 2 rfl) ?_
    refine gGet X K (o := 1) (k := 13) (v := .ref (ad 24)) (by decide) kS_o1 rfl inS_o1 (by decide) (tm1 (i := 46) rfl rfl) rfl dP_reach_53 ?_
    refine lv_iload_n hx hb dP_reach_56 rfl (lv_at hl 3 rfl) ?_
    obtain ⟨hi, hw⟩ := hw
    refine glld X K (o := 24) (t0 := 2) (by decide) kS_c24 rfl hi dP_reach_57 ?_
    refine gcSI X K (n0 := 4) (As := [.long ((b 20 x2.toNatClampNeg) + (b (37 + x2.toNatClampNeg) x1.toNatClampNeg)), .long ((b 21 x2.toNatClampNeg) + (b (47 + x2.toNatClampNeg) x1.toNatClampNeg)), .long (b 23 x1.toNatClampNeg), .long (b 24 x1.toNatClampNeg)]) (rest := []) (hM := (met_P_isLess hl9 D ad ca sa _ ((b 20 x2.toNatClampNeg) + (b (37 + x2.toNatClampNeg) x1.toNatClampNeg)) ((b 21 x2.toNatClampNeg) + (b (47 + x2.toNatClampNeg) x1.toNatClampNeg)) (b 23 x1.toNatClampNeg) (b 24 x1.toNatClampNeg) f a b _ hw)) (hg := wl_good) (w1 := (tm2 (i := 198) rfl rfl)) (w2 := (tm2 (i := 199) rfl rfl)) (w4 := (tm1 (i := 2) rfl rfl)) (w5 := (tm2 (i := 200) rfl rfl)) (hd := ⟨by decide, by decide, by decide +kernel⟩) (hrc := rfl) (hrs := rfl) (hR := ⟨Nat.le_of_ble_eq_true rfl, Nat.le_of_ble_eq_true rfl⟩) (hn := rfl) (hsz := hl.1) (hst := rfl) (hW := Nat.le_of_ble_eq_true rfl) (hdg := dP_reach_58) (hf := ⟨Nat.le_of_ble_eq_true rfl, Nat.le_of_ble_eq_true rfl⟩) (fun _ _ _ _ _ _ _ _ hw => hw.elim) (fun r58 f58 a58 b58 H locs hw K => ?_)
    refine lv_if_ne (tgt := 65) hx hb dP_reach_61 (by decide) (fun hc => ?_) (fun hc => ?_)
    · replace hw := hw.1 hc
      exact LP_reach_65 X hr x1 x2 ((b 20 x2.toNatClampNeg) + (b (37 + x2.toNatClampNeg) x1.toNatClampNeg)) ((b 21 x2.toNatClampNeg) + (b (47 + x2.toNatClampNeg) x1.toNatClampNeg)) f58 a58 b58 hw _ _ K _ (lv_sub hl [2, 3, 4, 1, 0] rfl)
    · replace hw := hw.2 hc
      exact endV X K hr hw (by decide) (by decide) dP_reach_64
set_option maxHeartbeats 4000000 in
set_option maxRecDepth 100000 in
theorem LP_spread_37 {p : Program} {l : Launch} {e : Env} {s : State} {m : MethodId} {below : List Frame} {meth : Method} {c : Code} {D : va_G} {sa : Nat → Nat} {ad : Nat → Nat} {ca : Nat → ClassId} {sz : Nat} {f0 : wF} {a0 : wA} {b0 : wB} {y1 : Int32} {po : wF → wA → wB → Prop} (X : cx Wl (tyS ca) txS D vwCl sa (va_A (ww nS kS ad ca f0 a0 b0) sz) p l s m ([.ref (ad 1), .int y1] : List Value).toArray meth c cP_spread 3 "SendBest$Pairing") (hr : meth.sig.returnType = none) (J2 : Int32 → Int32 → wF → wA → wB → Prop) (hJ2 : ∀ (x1 : Int32) (x2 : Int32) (f : wF) (a : wA) (b : wB), J2 x1 x2 f a b → ∀ (H : Heap) (locs : List Loc), wd nS kS D vwCl ad ca (va_A (ww nS kS ad ca f0 a0 b0) sz) s H locs f a b → ∀ (ls : Array Slot), lv_has ls 3 [(0, .ref (ad 1)), (1, .int x1), (2, .int x2)] → W p l e ({ frames := 2, cells := 0, slots := 0, locals := 54 }) s m ([.ref (ad 1), .int y1] : List Value).toArray below meth c H locs 0 0 (vx_MQ below (va_Qv (fun (u : wF × wA × wB) => po u.1 u.2.1 u.2.2) (sPost nS kS D vwCl ad ca (va_A (ww nS kS ad ca f0 a0 b0) sz)) (va_A (ww nS kS ad ca f0 a0 b0) sz)) (sX nS kS D vwCl ad ca (va_A (ww nS kS ad ca f0 a0 b0) sz) (fun _ _ _ _ => False)) ([.ref (ad 1), .int y1] : List Value).toArray s 0 0 (va_A (ww nS kS ad ca f0 a0 b0) sz)) (F0 m 2 ls [])) : ∀ (x1 : Int32) (x2 : Int32) (f : wF) (a : wA) (b : wB), wp_P_spread_37 po J2 x1 x2 f a b → ∀ (H : Heap) (locs : List Loc), wd nS kS D vwCl ad ca (va_A (ww nS kS ad ca f0 a0 b0) sz) s H locs f a b → ∀ (ls : Array Slot), lv_has ls 3 [(0, .ref (ad 1)), (1, .int x1), (2, .int x2)] → W p l e ({ frames := 2, cells := 0, slots := 0, locals := 54 }) s m ([.ref (ad 1), .int y1] : List Value).toArray below meth c H locs 0 0 (vx_MQ below (va_Qv (fun (u : wF × wA × wB) => po u.1 u.2.1 u.2.2) (sPost nS kS D vwCl ad ca (va_A (ww nS kS ad ca f0 a0 b0) sz)) (va_A (ww nS kS ad ca f0 a0 b0) sz)) (sX nS kS D vwCl ad ca (va_A (ww nS kS ad ca f0 a0 b0) sz) (fun _ _ _ _ => False)) ([.ref (ad 1), .int y1] : List Value).toArray s 0 0 (va_A (ww nS kS ad ca f0 a0 b0) sz)) (F0 m 37 ls []) := by
  obtain ⟨hx, hb, hml, hown, hts, hK, hA, hth, hlk, hl9, hex⟩ := id X
  intro x1 x2 f a b hw H locs K ls hl
  dsimp only [wp_P_spread_37] at hw
  refine lv_iinc (v := (x2 + (1 : Int32))) (lv' := [(2, .int (x2 + (1 : Int32))), (0, .ref (ad 1)), (1, .int x1)]) hx hb dP_spread_37 hl (k := 2) rfl rfl (by decide) rfl (fun ls hl => ?_)
  refine lv_goto (tgt := 2) hx hb dP_spread_40 (by decide) ?_
  exact hJ2 x1 (x2 + (1 : Int32)) f a b hw _ _ K _ (lv_sub hl [1, 2, 0] rfl)
set_option maxHeartbeats 4000000 in
set_option maxRecDepth 100000 in
theorem LP_spread_2 {p : Program} {l : Launch} {e : Env} {s : State} {m : MethodId} {below : List Frame} {meth : Method} {c : Code} {D : va_G} {sa : Nat → Nat} {ad : Nat → Nat} {ca : Nat → ClassId} {sz : Nat} {f0 : wF} {a0 : wA} {b0 : wB} {y1 : Int32} {po : wF → wA → wB → Prop} (X : cx Wl (tyS ca) txS D vwCl sa (va_A (ww nS kS ad ca f0 a0 b0) sz) p l s m ([.ref (ad 1), .int y1] : List Value).toArray meth c cP_spread 3 "SendBest$Pairing") (hr : meth.sig.returnType = none) : ∀ n : Nat, ∀ (x1 : Int32) (x2 : Int32) (f : wF) (a : wA) (b : wB), wp_P_spread_2 po n x1 x2 f a b → ∀ (H : Heap) (locs : List Loc), wd nS kS D vwCl ad ca (va_A (ww nS kS ad ca f0 a0 b0) sz) s H locs f a b → ∀ (ls : Array Slot), lv_has ls 3 [(0, .ref (ad 1)), (1, .int x1), (2, .int x2)] → W p l e ({ frames := 2, cells := 0, slots := 0, locals := 54 }) s m ([.ref (ad 1), .int y1] : List Value).toArray below meth c H locs 0 0 (vx_MQ below (va_Qv (fun (u : wF × wA × wB) => po u.1 u.2.1 u.2.2) (sPost nS kS D vwCl ad ca (va_A (ww nS kS ad ca f0 a0 b0) sz)) (va_A (ww nS kS ad ca f0 a0 b0) sz)) (sX nS kS D vwCl ad ca (va_A (ww nS kS ad ca f0 a0 b0) sz) (fun _ _ _ _ => False)) ([.ref (ad 1), .int y1] : List Value).toArray s 0 0 (va_A (ww nS kS ad ca f0 a0 b0) sz)) (F0 m 2 ls []) := by
  obtain ⟨hx, hb, hml, hown, hts, hK, hA, hth, hlk, hl9, hex⟩ := id X
  intro n
  induction n with
  | zero => intro x1 x2 f a b hw; exact hw.elim
  | succ n ih =>
    intro x1 x2 f a b hw H locs K ls hl
    dsimp only [wp_P_spread_2] at hw
    refine lv_iload_n hx hb dP_spread_2 rfl (lv_at hl 2 rfl) ?_
    refine lv_bipush (v := (12 : Int32)) hx hb dP_spread_3 (by decide) ?_
    refine lv_icmp_ge (tgt := 43) hx hb dP_spread_5 (by decide) (fun hc => ?_) (fun hc => ?_)
    · replace hw := hw.1 hc
      exact endV X K hr hw (by decide) (by decide) dP_spread_43
    · replace hw := hw.2 hc
      refine lv_aload_n hx hb dP_spread_8 rfl (lv_at hl 0 rfl) ?_
      refine gGet X K (o := 1) (k := 3) (v := .ref (ad 14)) (by decide) kS_o1 rfl inS_o1 (by decide) (tm1 (i := 36) rfl rfl) rfl dP_spread_9 ?_
      refine lv_iload_n hx hb dP_spread_12 rfl (lv_at hl 1 rfl) ?_
      obtain ⟨hi_cost, hw⟩ := hw
      refine gald X K (o := 14) (t0 := 4) (by decide) kS_c14 rfl hi_cost dP_spread_13 ?_
      refine lv_iload_n hx hb dP_spread_14 rfl (lv_at hl 2 rfl) ?_
      obtain ⟨hi, hw⟩ := hw
      refine glld X K (o := (37 + x1.toNatClampNeg)) (t0 := 2) (rS_cost_lt hi_cost) (kS_r_cost hi_cost) rfl hi dP_spread_15 ?_
      refine lv_lconst (v := (0 : Int64)) hx hb dP_spread_16 (by decide) ?_
      refine W.lcmp hx hb dP_spread_17 ?_
      refine lv_if_eq (tgt := 37) hx hb dP_spread_18 (by decide) (fun hc => ?_) (fun hc => ?_)
      · replace hw := hw.1 hc
        exact LP_spread_37 X hr (wp_P_spread_2 po n) ih x1 x2 f a b hw _ _ K _ (lv_sub hl [0, 1, 2] rfl)
      · replace hw := hw.2 hc
        refine lv_aload_n hx hb dP_spread_21 rfl (lv_at hl 0 rfl) ?_
        refine gGet X K (o := 1) (k := 5) (v := .ref (ad 16)) (by decide) kS_o1 rfl inS_o1 (by decide) (tm1 (i := 38) rfl rfl) rfl dP_spread_22 ?_
        refine lv_iload_n hx hb dP_spread_25 rfl (lv_at hl 1 rfl) ?_
        obtain ⟨hi, hw⟩ := hw
        refine gild X K (o := 16) (t0 := 0) (by decide) kS_c16 rfl hi dP_spread_26 ?_
        refine lv_iload_n hx hb dP_spread_27 rfl (lv_at hl 2 rfl) ?_
        refine lv_icmp_eq (tgt := 37) hx hb dP_spread_28 (by decide) (fun hc => ?_) (fun hc => ?_)
        · replace hw := hw.1 hc
          exact LP_spread_37 X hr (wp_P_spread_2 po n) ih x1 x2 f a b hw _ _ K _ (lv_sub hl [0, 1, 2] rfl)
        · replace hw := hw.2 hc
          refine lv_aload_n hx hb dP_spread_31 rfl (lv_at hl 0 rfl) ?_
          refine lv_iload_n hx hb dP_spread_32 rfl (lv_at hl 2 rfl) ?_
          refine lv_iload_n hx hb dP_spread_33 rfl (lv_at hl 1 rfl) ?_
          refine gcV X K (n0 := 2) (As := [.int x2, .int x1]) (rest := []) (hM := (met_P_reach hl9 D ad ca sa _ x2 x1 f a b _ hw)) (o := 1) (ho := by decide) (hko := kS_o1) (hci := rfl) (hg := wl_good) (w1 := (tm2 (i := 194) rfl rfl)) (w2 := (tm2 (i := 196) rfl rfl)) (w3 := (tm0 (i := 18) rfl rfl)) (w4 := (tm1 (i := 2) rfl rfl)) (w5 := (tm2 (i := 197) rfl rfl)) (hd := ⟨rfl, by decide, by decide, by decide +kernel⟩) (hrc := rfl) (hrs := rfl) (hR := ⟨Nat.le_of_ble_eq_true rfl, Nat.le_of_ble_eq_true rfl⟩) (hn := rfl) (hsz := hl.1) (hst := rfl) (hW := Nat.le_of_ble_eq_true rfl) (hdg := dP_spread_34) (hf := ⟨Nat.le_of_ble_eq_true rfl, Nat.le_of_ble_eq_true rfl⟩) (fun _ _ _ _ _ _ _ _ hw => hw.elim) (fun f34 a34 b34 H locs hw K => ?_)
          exact LP_spread_37 X hr (wp_P_spread_2 po n) ih x1 x2 f34 a34 b34 hw _ _ K _ (lv_sub hl [0, 1, 2] rfl)
set_option maxHeartbeats 4000000 in
set_option maxRecDepth 100000 in
theorem met_P_spread {l : Launch} (hl9 : l.stackTraces = false) (D : va_G) (ad : Nat → Nat) (ca : Nat → ClassId) (sa : Nat → Nat) (sz : Nat) (x1 : Int32) (f : wF) (a : wA) (b : wB) (po : wF → wA → wB → Prop) (hw : wp_P_spread po x1 f a b) : mV nS kS (tyS ca) txS D vwCl l yP_spread (Cond.code yP_spread cP_spread 3 none :: Wl) ({ frames := 2, cells := 0, slots := 0, locals := 54 }) [.ref (ad 1), .int x1] ad ca sa sz f a b po (fun _ _ _ _ => False) 0 0 := by
  refine ofV (by decide) hl9 (Nat.le_of_ble_eq_true rfl) ?_
  intro p e s m below meth c ls X hr K hl
  obtain ⟨hx, hb, hml, hown, hts, hK, hA, hth, hlk, hl9, hex⟩ := id X
  have hl : lv_has ls 3 [(0, .ref (ad 1)), (1, .int x1)] := hl
  dsimp only [wp_P_spread] at hw
  refine lv_iconst (v := (0 : Int32)) hx hb dP_spread_0 (by decide) ?_
  refine lv_istore_n (lv' := [(2, .int (0 : Int32)), (0, .ref (ad 1)), (1, .int x1)]) hx hb dP_spread_1 rfl hl (by decide) rfl (fun ls hl => ?_)
  obtain ⟨n9, hw⟩ := hw
  exact LP_spread_2 X hr n9 x1 (0 : Int32) f a b hw _ _ K _ (lv_sub hl [1, 2, 0] rfl)
set_option maxHeartbeats 4000000 in
set_option maxRecDepth 100000 in
theorem LP_findPaths_118 {p : Program} {l : Launch} {e : Env} {s : State} {m : MethodId} {below : List Frame} {meth : Method} {c : Code} {D : va_G} {sa : Nat → Nat} {ad : Nat → Nat} {ca : Nat → ClassId} {sz : Nat} {f0 : wF} {a0 : wA} {b0 : wB} {y1 : Int32} {po : wF → wA → wB → Prop} (X : cx Wl (tyS ca) txS D vwCl sa (va_A (ww nS kS ad ca f0 a0 b0) sz) p l s m ([.ref (ad 1), .int y1] : List Value).toArray meth c cP_findPaths 5 "SendBest$Pairing") (hr : meth.sig.returnType = none) : ∀ (f : wF) (a : wA) (b : wB), wp_P_findPaths_118 po f a b → ∀ (H : Heap) (locs : List Loc), wd nS kS D vwCl ad ca (va_A (ww nS kS ad ca f0 a0 b0) sz) s H locs f a b → ∀ (ls : Array Slot), lv_has ls 5 [] → W p l e ({ frames := 3, cells := 0, slots := 0, locals := 76 }) s m ([.ref (ad 1), .int y1] : List Value).toArray below meth c H locs 0 0 (vx_MQ below (va_Qv (fun (u : wF × wA × wB) => po u.1 u.2.1 u.2.2) (sPost nS kS D vwCl ad ca (va_A (ww nS kS ad ca f0 a0 b0) sz)) (va_A (ww nS kS ad ca f0 a0 b0) sz)) (sX nS kS D vwCl ad ca (va_A (ww nS kS ad ca f0 a0 b0) sz) (fun _ _ _ _ => False)) ([.ref (ad 1), .int y1] : List Value).toArray s 0 0 (va_A (ww nS kS ad ca f0 a0 b0) sz)) (F0 m 118 ls []) := by
  obtain ⟨hx, hb, hml, hown, hts, hK, hA, hth, hlk, hl9, hex⟩ := id X
  intro  f a b hw H locs K ls hl
  dsimp only [wp_P_findPaths_118] at hw
  exact endV X K hr hw (by decide) (by decide) dP_findPaths_118
set_option maxHeartbeats 4000000 in
set_option maxRecDepth 100000 in
theorem LP_findPaths_106 {p : Program} {l : Launch} {e : Env} {s : State} {m : MethodId} {below : List Frame} {meth : Method} {c : Code} {D : va_G} {sa : Nat → Nat} {ad : Nat → Nat} {ca : Nat → ClassId} {sz : Nat} {f0 : wF} {a0 : wA} {b0 : wB} {y1 : Int32} {po : wF → wA → wB → Prop} (X : cx Wl (tyS ca) txS D vwCl sa (va_A (ww nS kS ad ca f0 a0 b0) sz) p l s m ([.ref (ad 1), .int y1] : List Value).toArray meth c cP_findPaths 5 "SendBest$Pairing") (hr : meth.sig.returnType = none) (J60 : Int32 → Int32 → Int32 → wF → wA → wB → Prop) (J74 : Int32 → Int32 → Int32 → Int32 → wF → wA → wB → Prop) (hJ60 : ∀ (x1 : Int32) (x2 : Int32) (x3 : Int32) (f : wF) (a : wA) (b : wB), J60 x1 x2 x3 f a b → ∀ (H : Heap) (locs : List Loc), wd nS kS D vwCl ad ca (va_A (ww nS kS ad ca f0 a0 b0) sz) s H locs f a b → ∀ (ls : Array Slot), lv_has ls 5 [(0, .ref (ad 1)), (1, .int x1), (2, .int x2), (3, .int x3)] → W p l e ({ frames := 3, cells := 0, slots := 0, locals := 76 }) s m ([.ref (ad 1), .int y1] : List Value).toArray below meth c H locs 0 0 (vx_MQ below (va_Qv (fun (u : wF × wA × wB) => po u.1 u.2.1 u.2.2) (sPost nS kS D vwCl ad ca (va_A (ww nS kS ad ca f0 a0 b0) sz)) (va_A (ww nS kS ad ca f0 a0 b0) sz)) (sX nS kS D vwCl ad ca (va_A (ww nS kS ad ca f0 a0 b0) sz) (fun _ _ _ _ => False)) ([.ref (ad 1), .int y1] : List Value).toArray s 0 0 (va_A (ww nS kS ad ca f0 a0 b0) sz)) (F0 m 60 ls [])) (hJ74 : ∀ (x1 : Int32) (x2 : Int32) (x3 : Int32) (x4 : Int32) (f : wF) (a : wA) (b : wB), J74 x1 x2 x3 x4 f a b → ∀ (H : Heap) (locs : List Loc), wd nS kS D vwCl ad ca (va_A (ww nS kS ad ca f0 a0 b0) sz) s H locs f a b → ∀ (ls : Array Slot), lv_has ls 5 [(0, .ref (ad 1)), (1, .int x1), (2, .int x2), (3, .int x3), (4, .int x4)] → W p l e ({ frames := 3, cells := 0, slots := 0, locals := 76 }) s m ([.ref (ad 1), .int y1] : List Value).toArray below meth c H locs 0 0 (vx_MQ below (va_Qv (fun (u : wF × wA × wB) => po u.1 u.2.1 u.2.2) (sPost nS kS D vwCl ad ca (va_A (ww nS kS ad ca f0 a0 b0) sz)) (va_A (ww nS kS ad ca f0 a0 b0) sz)) (sX nS kS D vwCl ad ca (va_A (ww nS kS ad ca f0 a0 b0) sz) (fun _ _ _ _ => False)) ([.ref (ad 1), .int y1] : List Value).toArray s 0 0 (va_A (ww nS kS ad ca f0 a0 b0) sz)) (F0 m 74 ls [])) : ∀ (x1 : Int32) (x2 : Int32) (x3 : Int32) (x4 : Int32) (f : wF) (a : wA) (b : wB), wp_P_findPaths_106 po J60 J74 x1 x2 x3 x4 f a b → ∀ (H : Heap) (locs : List Loc), wd nS kS D vwCl ad ca (va_A (ww nS kS ad ca f0 a0 b0) sz) s H locs f a b → ∀ (ls : Array Slot), lv_has ls 5 [(0, .ref (ad 1)), (1, .int x1), (2, .int x2), (3, .int x3), (4, .int x4)] → W p l e ({ frames := 3, cells := 0, slots := 0, locals := 76 }) s m ([.ref (ad 1), .int y1] : List Value).toArray below meth c H locs 0 0 (vx_MQ below (va_Qv (fun (u : wF × wA × wB) => po u.1 u.2.1 u.2.2) (sPost nS kS D vwCl ad ca (va_A (ww nS kS ad ca f0 a0 b0) sz)) (va_A (ww nS kS ad ca f0 a0 b0) sz)) (sX nS kS D vwCl ad ca (va_A (ww nS kS ad ca f0 a0 b0) sz) (fun _ _ _ _ => False)) ([.ref (ad 1), .int y1] : List Value).toArray s 0 0 (va_A (ww nS kS ad ca f0 a0 b0) sz)) (F0 m 106 ls []) := by
  obtain ⟨hx, hb, hml, hown, hts, hK, hA, hth, hlk, hl9, hex⟩ := id X
  intro x1 x2 x3 x4 f a b hw H locs K ls hl
  dsimp only [wp_P_findPaths_106] at hw
  refine lv_iinc (v := (x4 + (1 : Int32))) (lv' := [(4, .int (x4 + (1 : Int32))), (0, .ref (ad 1)), (1, .int x1), (2, .int x2), (3, .int x3)]) hx hb dP_findPaths_106 hl (k := 4) rfl rfl (by decide) rfl (fun ls hl => ?_)
  refine lv_goto (tgt := 74) hx hb dP_findPaths_109 (by decide) ?_
  exact hJ74 x1 x2 x3 (x4 + (1 : Int32)) f a b hw _ _ K _ (lv_sub hl [1, 2, 3, 4, 0] rfl)
set_option maxHeartbeats 4000000 in
set_option maxRecDepth 100000 in
theorem LP_findPaths_74 {p : Program} {l : Launch} {e : Env} {s : State} {m : MethodId} {below : List Frame} {meth : Method} {c : Code} {D : va_G} {sa : Nat → Nat} {ad : Nat → Nat} {ca : Nat → ClassId} {sz : Nat} {f0 : wF} {a0 : wA} {b0 : wB} {y1 : Int32} {po : wF → wA → wB → Prop} (X : cx Wl (tyS ca) txS D vwCl sa (va_A (ww nS kS ad ca f0 a0 b0) sz) p l s m ([.ref (ad 1), .int y1] : List Value).toArray meth c cP_findPaths 5 "SendBest$Pairing") (hr : meth.sig.returnType = none) (J60 : Int32 → Int32 → Int32 → wF → wA → wB → Prop) (hJ60 : ∀ (x1 : Int32) (x2 : Int32) (x3 : Int32) (f : wF) (a : wA) (b : wB), J60 x1 x2 x3 f a b → ∀ (H : Heap) (locs : List Loc), wd nS kS D vwCl ad ca (va_A (ww nS kS ad ca f0 a0 b0) sz) s H locs f a b → ∀ (ls : Array Slot), lv_has ls 5 [(0, .ref (ad 1)), (1, .int x1), (2, .int x2), (3, .int x3)] → W p l e ({ frames := 3, cells := 0, slots := 0, locals := 76 }) s m ([.ref (ad 1), .int y1] : List Value).toArray below meth c H locs 0 0 (vx_MQ below (va_Qv (fun (u : wF × wA × wB) => po u.1 u.2.1 u.2.2) (sPost nS kS D vwCl ad ca (va_A (ww nS kS ad ca f0 a0 b0) sz)) (va_A (ww nS kS ad ca f0 a0 b0) sz)) (sX nS kS D vwCl ad ca (va_A (ww nS kS ad ca f0 a0 b0) sz) (fun _ _ _ _ => False)) ([.ref (ad 1), .int y1] : List Value).toArray s 0 0 (va_A (ww nS kS ad ca f0 a0 b0) sz)) (F0 m 60 ls [])) : ∀ n : Nat, ∀ (x1 : Int32) (x2 : Int32) (x3 : Int32) (x4 : Int32) (f : wF) (a : wA) (b : wB), wp_P_findPaths_74 po J60 n x1 x2 x3 x4 f a b → ∀ (H : Heap) (locs : List Loc), wd nS kS D vwCl ad ca (va_A (ww nS kS ad ca f0 a0 b0) sz) s H locs f a b → ∀ (ls : Array Slot), lv_has ls 5 [(0, .ref (ad 1)), (1, .int x1), (2, .int x2), (3, .int x3), (4, .int x4)] → W p l e ({ frames := 3, cells := 0, slots := 0, locals := 76 }) s m ([.ref (ad 1), .int y1] : List Value).toArray below meth c H locs 0 0 (vx_MQ below (va_Qv (fun (u : wF × wA × wB) => po u.1 u.2.1 u.2.2) (sPost nS kS D vwCl ad ca (va_A (ww nS kS ad ca f0 a0 b0) sz)) (va_A (ww nS kS ad ca f0 a0 b0) sz)) (sX nS kS D vwCl ad ca (va_A (ww nS kS ad ca f0 a0 b0) sz) (fun _ _ _ _ => False)) ([.ref (ad 1), .int y1] : List Value).toArray s 0 0 (va_A (ww nS kS ad ca f0 a0 b0) sz)) (F0 m 74 ls []) := by
  obtain ⟨hx, hb, hml, hown, hts, hK, hA, hth, hlk, hl9, hex⟩ := id X
  intro n
  induction n with
  | zero => intro x1 x2 x3 x4 f a b hw; exact hw.elim
  | succ n ih =>
    intro x1 x2 x3 x4 f a b hw H locs K ls hl
    dsimp only [wp_P_findPaths_74] at hw
    refine lv_iload hx hb dP_findPaths_74 (lv_at hl 4 rfl) ?_
    refine lv_iload_n hx hb dP_findPaths_76 rfl (lv_at hl 1 rfl) ?_
    refine lv_icmp_ge (tgt := 112) hx hb dP_findPaths_77 (by decide) (fun hc => ?_) (fun hc => ?_)
    · replace hw := hw.1 hc
      refine lv_iinc (v := (x3 + (1 : Int32))) (lv' := [(3, .int (x3 + (1 : Int32))), (0, .ref (ad 1)), (1, .int x1), (2, .int x2), (4, .int x4)]) hx hb dP_findPaths_112 hl (k := 3) rfl rfl (by decide) rfl (fun ls hl => ?_)
      refine lv_goto (tgt := 60) hx hb dP_findPaths_115 (by decide) ?_
      exact hJ60 x1 x2 (x3 + (1 : Int32)) f a b hw _ _ K _ (lv_sub hl [1, 2, 3, 0] rfl)
    · replace hw := hw.2 hc
      refine lv_aload_n hx hb dP_findPaths_80 rfl (lv_at hl 0 rfl) ?_
      refine gGet X K (o := 1) (k := 8) (v := .ref (ad 19)) (by decide) kS_o1 rfl inS_o1 (by decide) (tm1 (i := 41) rfl rfl) rfl dP_findPaths_81 ?_
      refine lv_iload hx hb dP_findPaths_84 (lv_at hl 4 rfl) ?_
      obtain ⟨hi, hw⟩ := hw
      refine gzld X K (o := 19) (t0 := 1) (by decide) kS_c19 rfl hi dP_findPaths_86 ?_
      refine lv_if_eq (tgt := 106) hx hb dP_findPaths_87 (by decide) (fun hc => ?_) (fun hc => ?_)
      · replace hw := hw.1 hc
        exact LP_findPaths_106 X hr J60 (wp_P_findPaths_74 po J60 n) hJ60 ih x1 x2 x3 x4 f a b hw _ _ K _ (lv_sub hl [0, 1, 2, 3, 4] rfl)
      · replace hw := hw.2 hc
        refine lv_aload_n hx hb dP_findPaths_90 rfl (lv_at hl 0 rfl) ?_
        refine gGet X K (o := 1) (k := 8) (v := .ref (ad 19)) (by decide) kS_o1 rfl inS_o1 (by decide) (tm1 (i := 41) rfl rfl) rfl dP_findPaths_91 ?_
        refine lv_iload hx hb dP_findPaths_94 (lv_at hl 4 rfl) ?_
        refine lv_iconst (v := (0 : Int32)) hx hb dP_findPaths_96 (by decide) ?_
        obtain ⟨hi, hw⟩ := hw
        refine gzst X K (o := 19) (t0 := 1) (by decide) kS_c19 rfl hi dP_findPaths_97 kS_p19 (fun H locs K => ?_)
        refine lv_aload_n hx hb dP_findPaths_98 rfl (lv_at hl 0 rfl) ?_
        refine lv_iload hx hb dP_findPaths_99 (lv_at hl 4 rfl) ?_
        refine gcV X K (n0 := 1) (As := [.int x4]) (rest := []) (hM := (met_P_spread hl9 D ad ca sa _ x4 f (va_up a 19 (upd (a 19) x4.toNatClampNeg (vp_nar .boolean (0 : Int32)))) b _ hw)) (o := 1) (ho := by decide) (hko := kS_o1) (hci := rfl) (hg := wl_good) (w1 := (tm2 (i := 190) rfl rfl)) (w2 := (tm2 (i := 192) rfl rfl)) (w3 := (tm0 (i := 17) rfl rfl)) (w4 := (tm1 (i := 2) rfl rfl)) (w5 := (tm2 (i := 193) rfl rfl)) (hd := ⟨rfl, by decide, by decide, by decide +kernel⟩) (hrc := rfl) (hrs := rfl) (hR := ⟨Nat.le_of_ble_eq_true rfl, Nat.le_of_ble_eq_true rfl⟩) (hn := rfl) (hsz := hl.1) (hst := rfl) (hW := Nat.le_of_ble_eq_true rfl) (hdg := dP_findPaths_101) (hf := ⟨Nat.le_of_ble_eq_true rfl, Nat.le_of_ble_eq_true rfl⟩) (fun _ _ _ _ _ _ _ _ hw => hw.elim) (fun f101 a101 b101 H locs hw K => ?_)
        refine lv_iconst (v := (1 : Int32)) hx hb dP_findPaths_104 (by decide) ?_
        refine lv_istore_n (lv' := [(2, .int (1 : Int32)), (0, .ref (ad 1)), (1, .int x1), (3, .int x3), (4, .int x4)]) hx hb dP_findPaths_105 rfl hl (by decide) rfl (fun ls hl => ?_)
        exact LP_findPaths_106 X hr J60 (wp_P_findPaths_74 po J60 n) hJ60 ih x1 (1 : Int32) x3 x4 f101 a101 b101 hw _ _ K _ (lv_sub hl [1, 2, 0, 3, 4] rfl)
set_option maxHeartbeats 4000000 in
set_option maxRecDepth 100000 in
theorem LP_findPaths_60 {p : Program} {l : Launch} {e : Env} {s : State} {m : MethodId} {below : List Frame} {meth : Method} {c : Code} {D : va_G} {sa : Nat → Nat} {ad : Nat → Nat} {ca : Nat → ClassId} {sz : Nat} {f0 : wF} {a0 : wA} {b0 : wB} {y1 : Int32} {po : wF → wA → wB → Prop} (X : cx Wl (tyS ca) txS D vwCl sa (va_A (ww nS kS ad ca f0 a0 b0) sz) p l s m ([.ref (ad 1), .int y1] : List Value).toArray meth c cP_findPaths 5 "SendBest$Pairing") (hr : meth.sig.returnType = none) : ∀ n : Nat, ∀ (x1 : Int32) (x2 : Int32) (x3 : Int32) (f : wF) (a : wA) (b : wB), wp_P_findPaths_60 po n x1 x2 x3 f a b → ∀ (H : Heap) (locs : List Loc), wd nS kS D vwCl ad ca (va_A (ww nS kS ad ca f0 a0 b0) sz) s H locs f a b → ∀ (ls : Array Slot), lv_has ls 5 [(0, .ref (ad 1)), (1, .int x1), (2, .int x2), (3, .int x3)] → W p l e ({ frames := 3, cells := 0, slots := 0, locals := 76 }) s m ([.ref (ad 1), .int y1] : List Value).toArray below meth c H locs 0 0 (vx_MQ below (va_Qv (fun (u : wF × wA × wB) => po u.1 u.2.1 u.2.2) (sPost nS kS D vwCl ad ca (va_A (ww nS kS ad ca f0 a0 b0) sz)) (va_A (ww nS kS ad ca f0 a0 b0) sz)) (sX nS kS D vwCl ad ca (va_A (ww nS kS ad ca f0 a0 b0) sz) (fun _ _ _ _ => False)) ([.ref (ad 1), .int y1] : List Value).toArray s 0 0 (va_A (ww nS kS ad ca f0 a0 b0) sz)) (F0 m 60 ls []) := by
  obtain ⟨hx, hb, hml, hown, hts, hK, hA, hth, hlk, hl9, hex⟩ := id X
  intro n
  induction n with
  | zero => intro x1 x2 x3 f a b hw; exact hw.elim
  | succ n ih =>
    intro x1 x2 x3 f a b hw H locs K ls hl
    dsimp only [wp_P_findPaths_60] at hw
    refine lv_iload_n hx hb dP_findPaths_60 rfl (lv_at hl 3 rfl) ?_
    refine lv_iload_n hx hb dP_findPaths_61 rfl (lv_at hl 1 rfl) ?_
    refine lv_icmp_ge (tgt := 118) hx hb dP_findPaths_62 (by decide) (fun hc => ?_) (fun hc => ?_)
    · replace hw := hw.1 hc
      exact LP_findPaths_118 X hr f a b hw _ _ K _ (lv_sub hl [] rfl)
    · replace hw := hw.2 hc
      refine lv_iload_n hx hb dP_findPaths_65 rfl (lv_at hl 2 rfl) ?_
      refine lv_if_eq (tgt := 118) hx hb dP_findPaths_66 (by decide) (fun hc => ?_) (fun hc => ?_)
      · replace hw := hw.1 hc
        exact LP_findPaths_118 X hr f a b hw _ _ K _ (lv_sub hl [] rfl)
      · replace hw := hw.2 hc
        refine lv_iconst (v := (0 : Int32)) hx hb dP_findPaths_69 (by decide) ?_
        refine lv_istore_n (lv' := [(2, .int (0 : Int32)), (0, .ref (ad 1)), (1, .int x1), (3, .int x3)]) hx hb dP_findPaths_70 rfl hl (by decide) rfl (fun ls hl => ?_)
        refine lv_iconst (v := (0 : Int32)) hx hb dP_findPaths_71 (by decide) ?_
        refine lv_istore (lv' := [(4, .int (0 : Int32)), (2, .int (0 : Int32)), (0, .ref (ad 1)), (1, .int x1), (3, .int x3)]) hx hb dP_findPaths_72 hl (by decide) rfl (fun ls hl => ?_)
        obtain ⟨n9, hw⟩ := hw
        exact LP_findPaths_74 X hr (wp_P_findPaths_60 po n) ih n9 x1 (0 : Int32) x3 (0 : Int32) f a b hw _ _ K _ (lv_sub hl [2, 3, 1, 4, 0] rfl)
set_option maxHeartbeats 4000000 in
set_option maxRecDepth 100000 in
theorem LP_findPaths_35 {p : Program} {l : Launch} {e : Env} {s : State} {m : MethodId} {below : List Frame} {meth : Method} {c : Code} {D : va_G} {sa : Nat → Nat} {ad : Nat → Nat} {ca : Nat → ClassId} {sz : Nat} {f0 : wF} {a0 : wA} {b0 : wB} {y1 : Int32} {po : wF → wA → wB → Prop} (X : cx Wl (tyS ca) txS D vwCl sa (va_A (ww nS kS ad ca f0 a0 b0) sz) p l s m ([.ref (ad 1), .int y1] : List Value).toArray meth c cP_findPaths 5 "SendBest$Pairing") (hr : meth.sig.returnType = none) (J10 : Int32 → Int32 → wF → wA → wB → Prop) (hJ10 : ∀ (x1 : Int32) (x2 : Int32) (f : wF) (a : wA) (b : wB), J10 x1 x2 f a b → ∀ (H : Heap) (locs : List Loc), wd nS kS D vwCl ad ca (va_A (ww nS kS ad ca f0 a0 b0) sz) s H locs f a b → ∀ (ls : Array Slot), lv_has ls 5 [(0, .ref (ad 1)), (1, .int x1), (2, .int x2)] → W p l e ({ frames := 3, cells := 0, slots := 0, locals := 76 }) s m ([.ref (ad 1), .int y1] : List Value).toArray below meth c H locs 0 0 (vx_MQ below (va_Qv (fun (u : wF × wA × wB) => po u.1 u.2.1 u.2.2) (sPost nS kS D vwCl ad ca (va_A (ww nS kS ad ca f0 a0 b0) sz)) (va_A (ww nS kS ad ca f0 a0 b0) sz)) (sX nS kS D vwCl ad ca (va_A (ww nS kS ad ca f0 a0 b0) sz) (fun _ _ _ _ => False)) ([.ref (ad 1), .int y1] : List Value).toArray s 0 0 (va_A (ww nS kS ad ca f0 a0 b0) sz)) (F0 m 10 ls [])) : ∀ (k0 : Int32) (k1 : Int32) (x1 : Int32) (x2 : Int32) (f : wF) (a : wA) (b : wB), wp_P_findPaths_35 po J10 k0 k1 x1 x2 f a b → ∀ (H : Heap) (locs : List Loc), wd nS kS D vwCl ad ca (va_A (ww nS kS ad ca f0 a0 b0) sz) s H locs f a b → ∀ (ls : Array Slot), lv_has ls 5 [(0, .ref (ad 1)), (1, .int x1), (2, .int x2)] → W p l e ({ frames := 3, cells := 0, slots := 0, locals := 76 }) s m ([.ref (ad 1), .int y1] : List Value).toArray below meth c H locs 0 0 (vx_MQ below (va_Qv (fun (u : wF × wA × wB) => po u.1 u.2.1 u.2.2) (sPost nS kS D vwCl ad ca (va_A (ww nS kS ad ca f0 a0 b0) sz)) (va_A (ww nS kS ad ca f0 a0 b0) sz)) (sX nS kS D vwCl ad ca (va_A (ww nS kS ad ca f0 a0 b0) sz) (fun _ _ _ _ => False)) ([.ref (ad 1), .int y1] : List Value).toArray s 0 0 (va_A (ww nS kS ad ca f0 a0 b0) sz)) (F0 m 35 ls [.int k0, .int k1, .ref (ad 19)]) := by
  obtain ⟨hx, hb, hml, hown, hts, hK, hA, hth, hlk, hl9, hex⟩ := id X
  intro k0 k1 x1 x2 f a b hw H locs K ls hl
  dsimp only [wp_P_findPaths_35] at hw
  obtain ⟨hi, hw⟩ := hw
  refine gzst X K (o := 19) (t0 := 1) (by decide) kS_c19 rfl hi dP_findPaths_35 kS_p19 (fun H locs K => ?_)
  refine lv_aload_n hx hb dP_findPaths_36 rfl (lv_at hl 0 rfl) ?_
  refine gGet X K (o := 1) (k := 9) (v := .ref (ad 20)) (by decide) kS_o1 rfl inS_o1 (by decide) (tm1 (i := 42) rfl rfl) rfl dP_findPaths_37 ?_
  refine lv_iload_n hx hb dP_findPaths_40 rfl (lv_at hl 2 rfl) ?_
  refine lv_lconst (v := (0 : Int64)) hx hb dP_findPaths_41 (by decide) ?_
  obtain ⟨hi, hw⟩ := hw
  refine glst X K (o := 20) (t0 := 2) (by decide) kS_c20 rfl hi dP_findPaths_42 kS_p20 (fun H locs K => ?_)
  refine lv_aload_n hx hb dP_findPaths_43 rfl (lv_at hl 0 rfl) ?_
  refine gGet X K (o := 1) (k := 10) (v := .ref (ad 21)) (by decide) kS_o1 rfl inS_o1 (by decide) (tm1 (i := 43) rfl rfl) rfl dP_findPaths_44 ?_
  refine lv_iload_n hx hb dP_findPaths_47 rfl (lv_at hl 2 rfl) ?_
  refine lv_lconst (v := (0 : Int64)) hx hb dP_findPaths_48 (by decide) ?_
  obtain ⟨hi, hw⟩ := hw
  refine glst X K (o := 21) (t0 := 2) (by decide) kS_c21 rfl hi dP_findPaths_49 kS_p21 (fun H locs K => ?_)
  refine lv_iinc (v := (x2 + (1 : Int32))) (lv' := [(2, .int (x2 + (1 : Int32))), (0, .ref (ad 1)), (1, .int x1)]) hx hb dP_findPaths_50 hl (k := 2) rfl rfl (by decide) rfl (fun ls hl => ?_)
  refine lv_goto (tgt := 10) hx hb dP_findPaths_53 (by decide) ?_
  exact hJ10 x1 (x2 + (1 : Int32)) f (va_up a 19 (upd (a 19) k1.toNatClampNeg (vp_nar .boolean k0))) (va_up (va_up b 20 (vp_updL (b 20) x2.toNatClampNeg (0 : Int64))) 21 (vp_updL ((va_up b 20 (vp_updL (b 20) x2.toNatClampNeg (0 : Int64))) 21) x2.toNatClampNeg (0 : Int64))) hw _ _ K _ (lv_sub hl [1, 2, 0] rfl)
set_option maxHeartbeats 4000000 in
set_option maxRecDepth 100000 in
theorem LP_findPaths_10 {p : Program} {l : Launch} {e : Env} {s : State} {m : MethodId} {below : List Frame} {meth : Method} {c : Code} {D : va_G} {sa : Nat → Nat} {ad : Nat → Nat} {ca : Nat → ClassId} {sz : Nat} {f0 : wF} {a0 : wA} {b0 : wB} {y1 : Int32} {po : wF → wA → wB → Prop} (X : cx Wl (tyS ca) txS D vwCl sa (va_A (ww nS kS ad ca f0 a0 b0) sz) p l s m ([.ref (ad 1), .int y1] : List Value).toArray meth c cP_findPaths 5 "SendBest$Pairing") (hr : meth.sig.returnType = none) : ∀ n : Nat, ∀ (x1 : Int32) (x2 : Int32) (f : wF) (a : wA) (b : wB), wp_P_findPaths_10 po n x1 x2 f a b → ∀ (H : Heap) (locs : List Loc), wd nS kS D vwCl ad ca (va_A (ww nS kS ad ca f0 a0 b0) sz) s H locs f a b → ∀ (ls : Array Slot), lv_has ls 5 [(0, .ref (ad 1)), (1, .int x1), (2, .int x2)] → W p l e ({ frames := 3, cells := 0, slots := 0, locals := 76 }) s m ([.ref (ad 1), .int y1] : List Value).toArray below meth c H locs 0 0 (vx_MQ below (va_Qv (fun (u : wF × wA × wB) => po u.1 u.2.1 u.2.2) (sPost nS kS D vwCl ad ca (va_A (ww nS kS ad ca f0 a0 b0) sz)) (va_A (ww nS kS ad ca f0 a0 b0) sz)) (sX nS kS D vwCl ad ca (va_A (ww nS kS ad ca f0 a0 b0) sz) (fun _ _ _ _ => False)) ([.ref (ad 1), .int y1] : List Value).toArray s 0 0 (va_A (ww nS kS ad ca f0 a0 b0) sz)) (F0 m 10 ls []) := by
  obtain ⟨hx, hb, hml, hown, hts, hK, hA, hth, hlk, hl9, hex⟩ := id X
  intro n
  induction n with
  | zero => intro x1 x2 f a b hw; exact hw.elim
  | succ n ih =>
    intro x1 x2 f a b hw H locs K ls hl
    dsimp only [wp_P_findPaths_10] at hw
    refine lv_iload_n hx hb dP_findPaths_10 rfl (lv_at hl 2 rfl) ?_
    refine lv_iload_n hx hb dP_findPaths_11 rfl (lv_at hl 1 rfl) ?_
    refine lv_icmp_ge (tgt := 56) hx hb dP_findPaths_12 (by decide) (fun hc => ?_) (fun hc => ?_)
    · replace hw := hw.1 hc
      refine lv_iconst (v := (1 : Int32)) hx hb dP_findPaths_56 (by decide) ?_
      refine lv_istore_n (lv' := [(2, .int (1 : Int32)), (0, .ref (ad 1)), (1, .int x1)]) hx hb dP_findPaths_57 rfl hl (by decide) rfl (fun ls hl => ?_)
      refine lv_iconst (v := (0 : Int32)) hx hb dP_findPaths_58 (by decide) ?_
      refine lv_istore_n (lv' := [(3, .int (0 : Int32)), (2, .int (1 : Int32)), (0, .ref (ad 1)), (1, .int x1)]) hx hb dP_findPaths_59 rfl hl (by decide) rfl (fun ls hl => ?_)
      obtain ⟨n9, hw⟩ := hw
      exact LP_findPaths_60 X hr n9 x1 (1 : Int32) (0 : Int32) f a b hw _ _ K _ (lv_sub hl [2, 3, 1, 0] rfl)
    · replace hw := hw.2 hc
      refine lv_aload_n hx hb dP_findPaths_15 rfl (lv_at hl 0 rfl) ?_
      refine gGet X K (o := 1) (k := 8) (v := .ref (ad 19)) (by decide) kS_o1 rfl inS_o1 (by decide) (tm1 (i := 41) rfl rfl) rfl dP_findPaths_16 ?_
      refine lv_iload_n hx hb dP_findPaths_19 rfl (lv_at hl 2 rfl) ?_
      refine lv_aload_n hx hb dP_findPaths_20 rfl (lv_at hl 0 rfl) ?_
      refine gGet X K (o := 1) (k := 5) (v := .ref (ad 16)) (by decide) kS_o1 rfl inS_o1 (by decide) (tm1 (i := 38) rfl rfl) rfl dP_findPaths_21 ?_
      refine lv_iload_n hx hb dP_findPaths_24 rfl (lv_at hl 2 rfl) ?_
      obtain ⟨hi, hw⟩ := hw
      refine gild X K (o := 16) (t0 := 0) (by decide) kS_c16 rfl hi dP_findPaths_25 ?_
      refine lv_iconst (v := (-1 : Int32)) hx hb dP_findPaths_26 (by decide) ?_
      refine lv_icmp_ne (tgt := 34) hx hb dP_findPaths_27 (by decide) (fun hc => ?_) (fun hc => ?_)
      · replace hw := hw.1 hc
        refine lv_iconst (v := (0 : Int32)) hx hb dP_findPaths_34 (by decide) ?_
        exact LP_findPaths_35 X hr (wp_P_findPaths_10 po n) ih (0 : Int32) x2 x1 x2 f a b hw _ _ K _ (lv_sub hl [0, 1, 2] rfl)
      · replace hw := hw.2 hc
        refine lv_iconst (v := (1 : Int32)) hx hb dP_findPaths_30 (by decide) ?_
        refine lv_goto (tgt := 35) hx hb dP_findPaths_31 (by decide) ?_
        exact LP_findPaths_35 X hr (wp_P_findPaths_10 po n) ih (1 : Int32) x2 x1 x2 f a b hw _ _ K _ (lv_sub hl [0, 1, 2] rfl)
set_option maxHeartbeats 4000000 in
set_option maxRecDepth 100000 in
theorem met_P_findPaths {l : Launch} (hl9 : l.stackTraces = false) (D : va_G) (ad : Nat → Nat) (ca : Nat → ClassId) (sa : Nat → Nat) (sz : Nat) (x1 : Int32) (f : wF) (a : wA) (b : wB) (po : wF → wA → wB → Prop) (hw : wp_P_findPaths po x1 f a b) : mV nS kS (tyS ca) txS D vwCl l yP_findPaths (Cond.code yP_findPaths cP_findPaths 5 none :: Wl) ({ frames := 3, cells := 0, slots := 0, locals := 76 }) [.ref (ad 1), .int x1] ad ca sa sz f a b po (fun _ _ _ _ => False) 0 0 := by
  refine ofV (by decide) hl9 (Nat.le_of_ble_eq_true rfl) ?_
  intro p e s m below meth c ls X hr K hl
  obtain ⟨hx, hb, hml, hown, hts, hK, hA, hth, hlk, hl9, hex⟩ := id X
  have hl : lv_has ls 5 [(0, .ref (ad 1)), (1, .int x1)] := hl
  dsimp only [wp_P_findPaths] at hw
  refine lv_aload_n hx hb dP_findPaths_0 rfl (lv_at hl 0 rfl) ?_
  refine gGet X K (o := 1) (k := 11) (v := .ref (ad 22)) (by decide) kS_o1 rfl inS_o1 (by decide) (tm1 (i := 44) rfl rfl) rfl dP_findPaths_1 ?_
  refine lv_iconst (v := (-1 : Int32)) hx hb dP_findPaths_4 (by decide) ?_
  refine gfilli X K (o := 22) (t0 := 0) (by decide) kS_c22 rfl (by decide) (tm2 (i := 185) rfl rfl) hl.1 (Nat.le_of_ble_eq_true rfl) dP_findPaths_5 ⟨Nat.le_of_ble_eq_true rfl, Nat.le_of_ble_eq_true rfl⟩ ⟨Nat.le_of_ble_eq_true rfl, Nat.le_of_ble_eq_true rfl⟩ kS_p22 (fun H locs K => ?_)
  refine lv_iconst (v := (0 : Int32)) hx hb dP_findPaths_8 (by decide) ?_
  refine lv_istore_n (lv' := [(2, .int (0 : Int32)), (0, .ref (ad 1)), (1, .int x1)]) hx hb dP_findPaths_9 rfl hl (by decide) rfl (fun ls hl => ?_)
  obtain ⟨n9, hw⟩ := hw
  exact LP_findPaths_10 X hr n9 x1 (0 : Int32) f (va_up a 22 (fun _ => (-1 : Int32))) b hw _ _ K _ (lv_sub hl [1, 2, 0] rfl)
set_option maxHeartbeats 4000000 in
set_option maxRecDepth 100000 in
theorem LP_cheapestEnd_67 {p : Program} {l : Launch} {e : Env} {s : State} {m : MethodId} {below : List Frame} {meth : Method} {c : Code} {D : va_G} {sa : Nat → Nat} {ad : Nat → Nat} {ca : Nat → ClassId} {sz : Nat} {f0 : wF} {a0 : wA} {b0 : wB} {po : Int32 → wF → wA → wB → Prop} (X : cx Wl (tyS ca) txS D vwCl sa (va_A (ww nS kS ad ca f0 a0 b0) sz) p l s m ([.ref (ad 1)] : List Value).toArray meth c cP_cheapestEnd 3 "SendBest$Pairing") (hr : meth.sig.returnType = (some .int)) (J4 : Int32 → Int32 → wF → wA → wB → Prop) (hJ4 : ∀ (x1 : Int32) (x2 : Int32) (f : wF) (a : wA) (b : wB), J4 x1 x2 f a b → ∀ (H : Heap) (locs : List Loc), wd nS kS D vwCl ad ca (va_A (ww nS kS ad ca f0 a0 b0) sz) s H locs f a b → ∀ (ls : Array Slot), lv_has ls 3 [(0, .ref (ad 1)), (1, .int x1), (2, .int x2)] → W p l e ({ frames := 1, cells := 0, slots := 0, locals := 27 }) s m ([.ref (ad 1)] : List Value).toArray below meth c H locs 0 0 (vx_MQ below (va_Qi (fun r (u : wF × wA × wB) => po r u.1 u.2.1 u.2.2) (sPost nS kS D vwCl ad ca (va_A (ww nS kS ad ca f0 a0 b0) sz)) (va_A (ww nS kS ad ca f0 a0 b0) sz)) (sX nS kS D vwCl ad ca (va_A (ww nS kS ad ca f0 a0 b0) sz) (fun _ _ _ _ => False)) ([.ref (ad 1)] : List Value).toArray s 0 0 (va_A (ww nS kS ad ca f0 a0 b0) sz)) (F0 m 4 ls [])) : ∀ (x1 : Int32) (x2 : Int32) (f : wF) (a : wA) (b : wB), wp_P_cheapestEnd_67 po J4 x1 x2 f a b → ∀ (H : Heap) (locs : List Loc), wd nS kS D vwCl ad ca (va_A (ww nS kS ad ca f0 a0 b0) sz) s H locs f a b → ∀ (ls : Array Slot), lv_has ls 3 [(0, .ref (ad 1)), (1, .int x1), (2, .int x2)] → W p l e ({ frames := 1, cells := 0, slots := 0, locals := 27 }) s m ([.ref (ad 1)] : List Value).toArray below meth c H locs 0 0 (vx_MQ below (va_Qi (fun r (u : wF × wA × wB) => po r u.1 u.2.1 u.2.2) (sPost nS kS D vwCl ad ca (va_A (ww nS kS ad ca f0 a0 b0) sz)) (va_A (ww nS kS ad ca f0 a0 b0) sz)) (sX nS kS D vwCl ad ca (va_A (ww nS kS ad ca f0 a0 b0) sz) (fun _ _ _ _ => False)) ([.ref (ad 1)] : List Value).toArray s 0 0 (va_A (ww nS kS ad ca f0 a0 b0) sz)) (F0 m 67 ls []) := by
  obtain ⟨hx, hb, hml, hown, hts, hK, hA, hth, hlk, hl9, hex⟩ := id X
  intro x1 x2 f a b hw H locs K ls hl
  dsimp only [wp_P_cheapestEnd_67] at hw
  refine lv_iinc (v := (x2 + (1 : Int32))) (lv' := [(2, .int (x2 + (1 : Int32))), (0, .ref (ad 1)), (1, .int x1)]) hx hb dP_cheapestEnd_67 hl (k := 2) rfl rfl (by decide) rfl (fun ls hl => ?_)
  refine lv_goto (tgt := 4) hx hb dP_cheapestEnd_70 (by decide) ?_
  exact hJ4 x1 (x2 + (1 : Int32)) f a b hw _ _ K _ (lv_sub hl [1, 2, 0] rfl)
set_option maxHeartbeats 4000000 in
set_option maxRecDepth 100000 in
theorem LP_cheapestEnd_65 {p : Program} {l : Launch} {e : Env} {s : State} {m : MethodId} {below : List Frame} {meth : Method} {c : Code} {D : va_G} {sa : Nat → Nat} {ad : Nat → Nat} {ca : Nat → ClassId} {sz : Nat} {f0 : wF} {a0 : wA} {b0 : wB} {po : Int32 → wF → wA → wB → Prop} (X : cx Wl (tyS ca) txS D vwCl sa (va_A (ww nS kS ad ca f0 a0 b0) sz) p l s m ([.ref (ad 1)] : List Value).toArray meth c cP_cheapestEnd 3 "SendBest$Pairing") (hr : meth.sig.returnType = (some .int)) (J4 : Int32 → Int32 → wF → wA → wB → Prop) (hJ4 : ∀ (x1 : Int32) (x2 : Int32) (f : wF) (a : wA) (b : wB), J4 x1 x2 f a b → ∀ (H : Heap) (locs : List Loc), wd nS kS D vwCl ad ca (va_A (ww nS kS ad ca f0 a0 b0) sz) s H locs f a b → ∀ (ls : Array Slot), lv_has ls 3 [(0, .ref (ad 1)), (1, .int x1), (2, .int x2)] → W p l e ({ frames := 1, cells := 0, slots := 0, locals := 27 }) s m ([.ref (ad 1)] : List Value).toArray below meth c H locs 0 0 (vx_MQ below (va_Qi (fun r (u : wF × wA × wB) => po r u.1 u.2.1 u.2.2) (sPost nS kS D vwCl ad ca (va_A (ww nS kS ad ca f0 a0 b0) sz)) (va_A (ww nS kS ad ca f0 a0 b0) sz)) (sX nS kS D vwCl ad ca (va_A (ww nS kS ad ca f0 a0 b0) sz) (fun _ _ _ _ => False)) ([.ref (ad 1)] : List Value).toArray s 0 0 (va_A (ww nS kS ad ca f0 a0 b0) sz)) (F0 m 4 ls [])) : ∀ (x2 : Int32) (f : wF) (a : wA) (b : wB), wp_P_cheapestEnd_65 po J4 x2 f a b → ∀ (H : Heap) (locs : List Loc), wd nS kS D vwCl ad ca (va_A (ww nS kS ad ca f0 a0 b0) sz) s H locs f a b → ∀ (ls : Array Slot), lv_has ls 3 [(0, .ref (ad 1)), (2, .int x2)] → W p l e ({ frames := 1, cells := 0, slots := 0, locals := 27 }) s m ([.ref (ad 1)] : List Value).toArray below meth c H locs 0 0 (vx_MQ below (va_Qi (fun r (u : wF × wA × wB) => po r u.1 u.2.1 u.2.2) (sPost nS kS D vwCl ad ca (va_A (ww nS kS ad ca f0 a0 b0) sz)) (va_A (ww nS kS ad ca f0 a0 b0) sz)) (sX nS kS D vwCl ad ca (va_A (ww nS kS ad ca f0 a0 b0) sz) (fun _ _ _ _ => False)) ([.ref (ad 1)] : List Value).toArray s 0 0 (va_A (ww nS kS ad ca f0 a0 b0) sz)) (F0 m 65 ls []) := by
  obtain ⟨hx, hb, hml, hown, hts, hK, hA, hth, hlk, hl9, hex⟩ := id X
  intro x2 f a b hw H locs K ls hl
  dsimp only [wp_P_cheapestEnd_65] at hw
  refine lv_iload_n hx hb dP_cheapestEnd_65 rfl (lv_at hl 1 rfl) ?_
  refine lv_istore_n (lv' := [(1, .int x2), (0, .ref (ad 1)), (2, .int x2)]) hx hb dP_cheapestEnd_66 rfl hl (by decide) rfl (fun ls hl => ?_)
  exact LP_cheapestEnd_67 X hr J4 hJ4 x2 x2 f a b hw _ _ K _ (lv_sub hl [1, 0, 2] rfl)
set_option maxHeartbeats 4000000 in
set_option maxRecDepth 100000 in
theorem LP_cheapestEnd_4 {p : Program} {l : Launch} {e : Env} {s : State} {m : MethodId} {below : List Frame} {meth : Method} {c : Code} {D : va_G} {sa : Nat → Nat} {ad : Nat → Nat} {ca : Nat → ClassId} {sz : Nat} {f0 : wF} {a0 : wA} {b0 : wB} {po : Int32 → wF → wA → wB → Prop} (X : cx Wl (tyS ca) txS D vwCl sa (va_A (ww nS kS ad ca f0 a0 b0) sz) p l s m ([.ref (ad 1)] : List Value).toArray meth c cP_cheapestEnd 3 "SendBest$Pairing") (hr : meth.sig.returnType = (some .int)) : ∀ n : Nat, ∀ (x1 : Int32) (x2 : Int32) (f : wF) (a : wA) (b : wB), wp_P_cheapestEnd_4 po n x1 x2 f a b → ∀ (H : Heap) (locs : List Loc), wd nS kS D vwCl ad ca (va_A (ww nS kS ad ca f0 a0 b0) sz) s H locs f a b → ∀ (ls : Array Slot), lv_has ls 3 [(0, .ref (ad 1)), (1, .int x1), (2, .int x2)] → W p l e ({ frames := 1, cells := 0, slots := 0, locals := 27 }) s m ([.ref (ad 1)] : List Value).toArray below meth c H locs 0 0 (vx_MQ below (va_Qi (fun r (u : wF × wA × wB) => po r u.1 u.2.1 u.2.2) (sPost nS kS D vwCl ad ca (va_A (ww nS kS ad ca f0 a0 b0) sz)) (va_A (ww nS kS ad ca f0 a0 b0) sz)) (sX nS kS D vwCl ad ca (va_A (ww nS kS ad ca f0 a0 b0) sz) (fun _ _ _ _ => False)) ([.ref (ad 1)] : List Value).toArray s 0 0 (va_A (ww nS kS ad ca f0 a0 b0) sz)) (F0 m 4 ls []) := by
  obtain ⟨hx, hb, hml, hown, hts, hK, hA, hth, hlk, hl9, hex⟩ := id X
  intro n
  induction n with
  | zero => intro x1 x2 f a b hw; exact hw.elim
  | succ n ih =>
    intro x1 x2 f a b hw H locs K ls hl
    dsimp only [wp_P_cheapestEnd_4] at hw
    refine lv_iload_n hx hb dP_cheapestEnd_4 rfl (lv_at hl 2 rfl) ?_
    refine lv_bipush (v := (12 : Int32)) hx hb dP_cheapestEnd_5 (by decide) ?_
    refine lv_icmp_ge (tgt := 73) hx hb dP_cheapestEnd_7 (by decide) (fun hc => ?_) (fun hc => ?_)
    · replace hw := hw.1 hc
      refine lv_iload_n hx hb dP_cheapestEnd_73 rfl (lv_at hl 1 rfl) ?_
      exact endI X K hr rfl hw (by decide) (by decide) dP_cheapestEnd_74
    · replace hw := hw.2 hc
      refine lv_aload_n hx hb dP_cheapestEnd_10 rfl (lv_at hl 0 rfl) ?_
      refine gGet X K (o := 1) (k := 6) (v := .ref (ad 17)) (by decide) kS_o1 rfl inS_o1 (by decide) (tm1 (i := 39) rfl rfl) rfl dP_cheapestEnd_11 ?_
      refine lv_iload_n hx hb dP_cheapestEnd_14 rfl (lv_at hl 2 rfl) ?_
      obtain ⟨hi, hw⟩ := hw
      refine gild X K (o := 17) (t0 := 0) (by decide) kS_c17 rfl hi dP_cheapestEnd_15 ?_
      refine lv_iconst (v := (-1 : Int32)) hx hb dP_cheapestEnd_16 (by decide) ?_
      refine lv_icmp_ne (tgt := 67) hx hb dP_cheapestEnd_17 (by decide) (fun hc => ?_) (fun hc => ?_)
      · replace hw := hw.1 hc
        exact LP_cheapestEnd_67 X hr (wp_P_cheapestEnd_4 po n) ih x1 x2 f a b hw _ _ K _ (lv_sub hl [0, 1, 2] rfl)
      · replace hw := hw.2 hc
        refine lv_aload_n hx hb dP_cheapestEnd_20 rfl (lv_at hl 0 rfl) ?_
        refine gGet X K (o := 1) (k := 11) (v := .ref (ad 22)) (by decide) kS_o1 rfl inS_o1 (by decide) (tm1 (i := 44) rfl rfl) rfl dP_cheapestEnd_21 ?_
        refine lv_iload_n hx hb dP_cheapestEnd_24 rfl (lv_at hl 2 rfl) ?_
        obtain ⟨hi, hw⟩ := hw
        refine gild X K (o := 22) (t0 := 0) (by decide) kS_c22 rfl hi dP_cheapestEnd_25 ?_
        refine lv_iconst (v := (-1 : Int32)) hx hb dP_cheapestEnd_26 (by decide) ?_
        refine lv_icmp_eq (tgt := 67) hx hb dP_cheapestEnd_27 (by decide) (fun hc => ?_) (fun hc => ?_)
        · replace hw := hw.1 hc
          exact LP_cheapestEnd_67 X hr (wp_P_cheapestEnd_4 po n) ih x1 x2 f a b hw _ _ K _ (lv_sub hl [0, 1, 2] rfl)
        · replace hw := hw.2 hc
          refine lv_iload_n hx hb dP_cheapestEnd_30 rfl (lv_at hl 1 rfl) ?_
          refine lv_iconst (v := (-1 : Int32)) hx hb dP_cheapestEnd_31 (by decide) ?_
          refine lv_icmp_eq (tgt := 65) hx hb dP_cheapestEnd_32 (by decide) (fun hc => ?_) (fun hc => ?_)
          · replace hw := hw.1 hc
            exact LP_cheapestEnd_65 X hr (wp_P_cheapestEnd_4 po n) ih x2 f a b hw _ _ K _ (lv_sub hl [0, 2] rfl)
          · replace hw := hw.2 hc
            refine lv_aload_n hx hb dP_cheapestEnd_35 rfl (lv_at hl 0 rfl) ?_
            refine gGet X K (o := 1) (k := 12) (v := .ref (ad 23)) (by decide) kS_o1 rfl inS_o1 (by decide) (tm1 (i := 45) rfl rfl) rfl dP_cheapestEnd_36 ?_
            refine lv_iload_n hx hb dP_cheapestEnd_39 rfl (lv_at hl 2 rfl) ?_
            obtain ⟨hi, hw⟩ := hw
            refine glld X K (o := 23) (t0 := 2) (by decide) kS_c23 rfl hi dP_cheapestEnd_40 ?_
            refine lv_aload_n hx hb dP_cheapestEnd_41 rfl (lv_at hl 0 rfl) ?_
            refine gGet X K (o := 1) (k := 13) (v := .ref (ad 24)) (by decide) kS_o1 rfl inS_o1 (by decide) (tm1 (i := 46) rfl rfl) rfl dP_cheapestEnd_42 ?_
            refine lv_iload_n hx hb dP_cheapestEnd_45 rfl (lv_at hl 2 rfl) ?_
            obtain ⟨hi, hw⟩ := hw
            refine glld X K (o := 24) (t0 := 2) (by decide) kS_c24 rfl hi dP_cheapestEnd_46 ?_
            refine lv_aload_n hx hb dP_cheapestEnd_47 rfl (lv_at hl 0 rfl) ?_
            refine gGet X K (o := 1) (k := 12) (v := .ref (ad 23)) (by decide) kS_o1 rfl inS_o1 (by decide) (tm1 (i := 45) rfl rfl) rfl dP_cheapestEnd_48 ?_
            refine lv_iload_n hx hb dP_cheapestEnd_51 rfl (lv_at hl 1 rfl) ?_
            obtain ⟨hi, hw⟩ := hw
            refine glld X K (o := 23) (t0 := 2) (by decide) kS_c23 rfl hi dP_cheapestEnd_52 ?_
            refine lv_aload_n hx hb dP_cheapestEnd_53 rfl (lv_at hl 0 rfl) ?_
            refine gGet X K (o := 1) (k := 13) (v := .ref (ad 24)) (by decide) kS_o1 rfl inS_o1 (by decide) (tm1 (i := 46) rfl rfl) rfl dP_cheapestEnd_54 ?_
            refine lv_iload_n hx hb dP_cheapestEnd_57 rfl (lv_at hl 1 rfl) ?_
            obtain ⟨hi, hw⟩ := hw
            refine glld X K (o := 24) (t0 := 2) (by decide) kS_c24 rfl hi dP_cheapestEnd_58 ?_
            refine gcSI X K (n0 := 4) (As := [.long (b 23 x2.toNatClampNeg), .long (b 24 x2.toNatClampNeg), .long (b 23 x1.toNatClampNeg), .long (b 24 x1.toNatClampNeg)]) (rest := []) (hM := (met_P_isLess hl9 D ad ca sa _ (b 23 x2.toNatClampNeg) (b 24 x2.toNatClampNeg) (b 23 x1.toNatClampNeg) (b 24 x1.toNatClampNeg) f a b _ hw)) (hg := wl_good) (w1 := (tm2 (i := 198) rfl rfl)) (w2 := (tm2 (i := 199) rfl rfl)) (w4 := (tm1 (i := 2) rfl rfl)) (w5 := (tm2 (i := 200) rfl rfl)) (hd := ⟨by decide, by decide, by decide +kernel⟩) (hrc := rfl) (hrs := rfl) (hR := ⟨Nat.le_of_ble_eq_true rfl, Nat.le_of_ble_eq_true rfl⟩) (hn := rfl) (hsz := hl.1) (hst := rfl) (hW := Nat.le_of_ble_eq_true rfl) (hdg := dP_cheapestEnd_59) (hf := ⟨Nat.le_of_ble_eq_true rfl, Nat.le_of_ble_eq_true rfl⟩) (fun _ _ _ _ _ _ _ _ hw => hw.elim) (fun r59 f59 a59 b59 H locs hw K => ?_)
            refine lv_if_eq (tgt := 67) hx hb dP_cheapestEnd_62 (by decide) (fun hc => ?_) (fun hc => ?_)
            · replace hw := hw.1 hc
              exact LP_cheapestEnd_67 X hr (wp_P_cheapestEnd_4 po n) ih x1 x2 f59 a59 b59 hw _ _ K _ (lv_sub hl [0, 1, 2] rfl)
            · replace hw := hw.2 hc
              exact LP_cheapestEnd_65 X hr (wp_P_cheapestEnd_4 po n) ih x2 f59 a59 b59 hw _ _ K _ (lv_sub hl [0, 2] rfl)
set_option maxHeartbeats 4000000 in
set_option maxRecDepth 100000 in
theorem met_P_cheapestEnd {l : Launch} (hl9 : l.stackTraces = false) (D : va_G) (ad : Nat → Nat) (ca : Nat → ClassId) (sa : Nat → Nat) (sz : Nat)  (f : wF) (a : wA) (b : wB) (po : Int32 → wF → wA → wB → Prop) (hw : wp_P_cheapestEnd po f a b) : mI nS kS (tyS ca) txS D vwCl l yP_cheapestEnd (Cond.code yP_cheapestEnd cP_cheapestEnd 3 (some .int) :: Wl) ({ frames := 1, cells := 0, slots := 0, locals := 27 }) [.ref (ad 1)] ad ca sa sz f a b po (fun _ _ _ _ => False) 0 0 := by
  refine ofI (by decide) hl9 (Nat.le_of_ble_eq_true rfl) ?_
  intro p e s m below meth c ls X hr K hl
  obtain ⟨hx, hb, hml, hown, hts, hK, hA, hth, hlk, hl9, hex⟩ := id X
  have hl : lv_has ls 3 [(0, .ref (ad 1))] := hl
  dsimp only [wp_P_cheapestEnd] at hw
  refine lv_iconst (v := (-1 : Int32)) hx hb dP_cheapestEnd_0 (by decide) ?_
  refine lv_istore_n (lv' := [(1, .int (-1 : Int32)), (0, .ref (ad 1))]) hx hb dP_cheapestEnd_1 rfl hl (by decide) rfl (fun ls hl => ?_)
  refine lv_iconst (v := (0 : Int32)) hx hb dP_cheapestEnd_2 (by decide) ?_
  refine lv_istore_n (lv' := [(2, .int (0 : Int32)), (1, .int (-1 : Int32)), (0, .ref (ad 1))]) hx hb dP_cheapestEnd_3 rfl hl (by decide) rfl (fun ls hl => ?_)
  obtain ⟨n9, hw⟩ := hw
  exact LP_cheapestEnd_4 X hr n9 (-1 : Int32) (0 : Int32) f a b hw _ _ K _ (lv_sub hl [2, 1, 0] rfl)
set_option maxHeartbeats 4000000 in
set_option maxRecDepth 100000 in
theorem LP_turnPath_64 {p : Program} {l : Launch} {e : Env} {s : State} {m : MethodId} {below : List Frame} {meth : Method} {c : Code} {D : va_G} {sa : Nat → Nat} {ad : Nat → Nat} {ca : Nat → ClassId} {sz : Nat} {f0 : wF} {a0 : wA} {b0 : wB} {y1 : Int32} {po : wF → wA → wB → Prop} (X : cx Wl (tyS ca) txS D vwCl sa (va_A (ww nS kS ad ca f0 a0 b0) sz) p l s m ([.ref (ad 1), .int y1] : List Value).toArray meth c cP_turnPath 6 "SendBest$Pairing") (hr : meth.sig.returnType = none) : ∀ (f : wF) (a : wA) (b : wB), wp_P_turnPath_64 po f a b → ∀ (H : Heap) (locs : List Loc), wd nS kS D vwCl ad ca (va_A (ww nS kS ad ca f0 a0 b0) sz) s H locs f a b → ∀ (ls : Array Slot), lv_has ls 6 [] → W p l e ({ frames := 0, cells := 0, slots := 0, locals := 0 }) s m ([.ref (ad 1), .int y1] : List Value).toArray below meth c H locs 0 0 (vx_MQ below (va_Qv (fun (u : wF × wA × wB) => po u.1 u.2.1 u.2.2) (sPost nS kS D vwCl ad ca (va_A (ww nS kS ad ca f0 a0 b0) sz)) (va_A (ww nS kS ad ca f0 a0 b0) sz)) (sX nS kS D vwCl ad ca (va_A (ww nS kS ad ca f0 a0 b0) sz) (fun _ _ _ _ => False)) ([.ref (ad 1), .int y1] : List Value).toArray s 0 0 (va_A (ww nS kS ad ca f0 a0 b0) sz)) (F0 m 64 ls []) := by
  obtain ⟨hx, hb, hml, hown, hts, hK, hA, hth, hlk, hl9, hex⟩ := id X
  intro  f a b hw H locs K ls hl
  dsimp only [wp_P_turnPath_64] at hw
  exact endV X K hr hw (by decide) (by decide) dP_turnPath_64
set_option maxHeartbeats 4000000 in
set_option maxRecDepth 100000 in
theorem LP_turnPath_4 {p : Program} {l : Launch} {e : Env} {s : State} {m : MethodId} {below : List Frame} {meth : Method} {c : Code} {D : va_G} {sa : Nat → Nat} {ad : Nat → Nat} {ca : Nat → ClassId} {sz : Nat} {f0 : wF} {a0 : wA} {b0 : wB} {y1 : Int32} {po : wF → wA → wB → Prop} (X : cx Wl (tyS ca) txS D vwCl sa (va_A (ww nS kS ad ca f0 a0 b0) sz) p l s m ([.ref (ad 1), .int y1] : List Value).toArray meth c cP_turnPath 6 "SendBest$Pairing") (hr : meth.sig.returnType = none) : ∀ n : Nat, ∀ (x2 : Int32) (x3 : Int32) (f : wF) (a : wA) (b : wB), wp_P_turnPath_4 po n x2 x3 f a b → ∀ (H : Heap) (locs : List Loc), wd nS kS D vwCl ad ca (va_A (ww nS kS ad ca f0 a0 b0) sz) s H locs f a b → ∀ (ls : Array Slot), lv_has ls 6 [(0, .ref (ad 1)), (2, .int x2), (3, .int x3)] → W p l e ({ frames := 0, cells := 0, slots := 0, locals := 0 }) s m ([.ref (ad 1), .int y1] : List Value).toArray below meth c H locs 0 0 (vx_MQ below (va_Qv (fun (u : wF × wA × wB) => po u.1 u.2.1 u.2.2) (sPost nS kS D vwCl ad ca (va_A (ww nS kS ad ca f0 a0 b0) sz)) (va_A (ww nS kS ad ca f0 a0 b0) sz)) (sX nS kS D vwCl ad ca (va_A (ww nS kS ad ca f0 a0 b0) sz) (fun _ _ _ _ => False)) ([.ref (ad 1), .int y1] : List Value).toArray s 0 0 (va_A (ww nS kS ad ca f0 a0 b0) sz)) (F0 m 4 ls []) := by
  obtain ⟨hx, hb, hml, hown, hts, hK, hA, hth, hlk, hl9, hex⟩ := id X
  intro n
  induction n with
  | zero => intro x2 x3 f a b hw; exact hw.elim
  | succ n ih =>
    intro x2 x3 f a b hw H locs K ls hl
    dsimp only [wp_P_turnPath_4] at hw
    refine lv_iload_n hx hb dP_turnPath_4 rfl (lv_at hl 2 rfl) ?_
    refine lv_bipush (v := (10 : Int32)) hx hb dP_turnPath_5 (by decide) ?_
    refine lv_icmp_ge (tgt := 64) hx hb dP_turnPath_7 (by decide) (fun hc => ?_) (fun hc => ?_)
    · replace hw := hw.1 hc
      exact LP_turnPath_64 X hr f a b hw _ _ K _ (lv_sub hl [] rfl)
    · replace hw := hw.2 hc
      refine lv_iload_n hx hb dP_turnPath_10 rfl (lv_at hl 1 rfl) ?_
      refine lv_iconst (v := (-1 : Int32)) hx hb dP_turnPath_11 (by decide) ?_
      refine lv_icmp_eq (tgt := 64) hx hb dP_turnPath_12 (by decide) (fun hc => ?_) (fun hc => ?_)
      · replace hw := hw.1 hc
        exact LP_turnPath_64 X hr f a b hw _ _ K _ (lv_sub hl [] rfl)
      · replace hw := hw.2 hc
        refine lv_aload_n hx hb dP_turnPath_15 rfl (lv_at hl 0 rfl) ?_
        refine gGet X K (o := 1) (k := 11) (v := .ref (ad 22)) (by decide) kS_o1 rfl inS_o1 (by decide) (tm1 (i := 44) rfl rfl) rfl dP_turnPath_16 ?_
        refine lv_iload_n hx hb dP_turnPath_19 rfl (lv_at hl 1 rfl) ?_
        obtain ⟨hi, hw⟩ := hw
        refine gild X K (o := 22) (t0 := 0) (by decide) kS_c22 rfl hi dP_turnPath_20 ?_
        refine lv_istore (lv' := [(4, .int (a 22 x2.toNatClampNeg)), (0, .ref (ad 1)), (2, .int x2), (3, .int x3)]) hx hb dP_turnPath_21 hl (by decide) rfl (fun ls hl => ?_)
        refine lv_iload hx hb dP_turnPath_23 (lv_at hl 0 rfl) ?_
        refine lv_iconst (v := (-1 : Int32)) hx hb dP_turnPath_25 (by decide) ?_
        refine lv_icmp_ne (tgt := 30) hx hb dP_turnPath_26 (by decide) (fun hc => ?_) (fun hc => ?_)
        · replace hw := hw.1 hc
          refine lv_aload_n hx hb dP_turnPath_30 rfl (lv_at hl 1 rfl) ?_
          refine gGet X K (o := 1) (k := 5) (v := .ref (ad 16)) (by decide) kS_o1 rfl inS_o1 (by decide) (tm1 (i := 38) rfl rfl) rfl dP_turnPath_31 ?_
          refine lv_iload hx hb dP_turnPath_34 (lv_at hl 0 rfl) ?_
          obtain ⟨hi, hw⟩ := hw
          refine gild X K (o := 16) (t0 := 0) (by decide) kS_c16 rfl hi dP_turnPath_36 ?_
          refine lv_istore (lv' := [(5, .int (a 16 (a 22 x2.toNatClampNeg).toNatClampNeg)), (4, .int (a 22 x2.toNatClampNeg)), (0, .ref (ad 1)), (2, .int x2), (3, .int x3)]) hx hb dP_turnPath_37 hl (by decide) rfl (fun ls hl => ?_)
          refine lv_aload_n hx hb dP_turnPath_39 rfl (lv_at hl 2 rfl) ?_
          refine gGet X K (o := 1) (k := 5) (v := .ref (ad 16)) (by decide) kS_o1 rfl inS_o1 (by decide) (tm1 (i := 38) rfl rfl) rfl dP_turnPath_40 ?_
          refine lv_iload hx hb dP_turnPath_43 (lv_at hl 1 rfl) ?_
          refine lv_iload_n hx hb dP_turnPath_45 rfl (lv_at hl 3 rfl) ?_
          obtain ⟨hi, hw⟩ := hw
          refine gist X K (o := 16) (t0 := 0) (by decide) kS_c16 rfl hi dP_turnPath_46 kS_p16 (fun H locs K => ?_)
          refine lv_aload_n hx hb dP_turnPath_47 rfl (lv_at hl 2 rfl) ?_
          refine gGet X K (o := 1) (k := 6) (v := .ref (ad 17)) (by decide) kS_o1 rfl inS_o1 (by decide) (tm1 (i := 39) rfl rfl) rfl dP_turnPath_48 ?_
          refine lv_iload_n hx hb dP_turnPath_51 rfl (lv_at hl 3 rfl) ?_
          refine lv_iload hx hb dP_turnPath_52 (lv_at hl 1 rfl) ?_
          obtain ⟨hi, hw⟩ := hw
          refine gist X K (o := 17) (t0 := 0) (by decide) kS_c17 rfl hi dP_turnPath_54 kS_p17 (fun H locs K => ?_)
          refine lv_iload hx hb dP_turnPath_55 (lv_at hl 0 rfl) ?_
          refine lv_istore_n (lv' := [(2, .int (a 16 (a 22 x2.toNatClampNeg).toNatClampNeg)), (5, .int (a 16 (a 22 x2.toNatClampNeg).toNatClampNeg)), (4, .int (a 22 x2.toNatClampNeg)), (0, .ref (ad 1)), (3, .int x3)]) hx hb dP_turnPath_57 rfl hl (by decide) rfl (fun ls hl => ?_)
          refine lv_iinc (v := (x3 + (1 : Int32))) (lv' := [(3, .int (x3 + (1 : Int32))), (2, .int (a 16 (a 22 x2.toNatClampNeg).toNatClampNeg)), (5, .int (a 16 (a 22 x2.toNatClampNeg).toNatClampNeg)), (4, .int (a 22 x2.toNatClampNeg)), (0, .ref (ad 1))]) hx hb dP_turnPath_58 hl (k := 4) rfl rfl (by decide) rfl (fun ls hl => ?_)
          refine lv_goto (tgt := 4) hx hb dP_turnPath_61 (by decide) ?_
          exact ih (a 16 (a 22 x2.toNatClampNeg).toNatClampNeg) (x3 + (1 : Int32)) f (va_up (va_up a 16 (upd (a 16) (a 22 x2.toNatClampNeg).toNatClampNeg x2)) 17 (upd ((va_up a 16 (upd (a 16) (a 22 x2.toNatClampNeg).toNatClampNeg x2)) 17) x2.toNatClampNeg (a 22 x2.toNatClampNeg))) b hw _ _ K _ (lv_sub hl [4, 1, 0] rfl)
        · replace hw := hw.2 hc
          exact endV X K hr hw (by decide) (by decide) dP_turnPath_29
set_option maxHeartbeats 4000000 in
set_option maxRecDepth 100000 in
theorem met_P_turnPath {l : Launch} (hl9 : l.stackTraces = false) (D : va_G) (ad : Nat → Nat) (ca : Nat → ClassId) (sa : Nat → Nat) (sz : Nat) (x1 : Int32) (f : wF) (a : wA) (b : wB) (po : wF → wA → wB → Prop) (hw : wp_P_turnPath po x1 f a b) : mV nS kS (tyS ca) txS D vwCl l yP_turnPath (Cond.code yP_turnPath cP_turnPath 6 none :: Wl) ({ frames := 0, cells := 0, slots := 0, locals := 0 }) [.ref (ad 1), .int x1] ad ca sa sz f a b po (fun _ _ _ _ => False) 0 0 := by
  refine ofV (by decide) hl9 (Nat.le_of_ble_eq_true rfl) ?_
  intro p e s m below meth c ls X hr K hl
  obtain ⟨hx, hb, hml, hown, hts, hK, hA, hth, hlk, hl9, hex⟩ := id X
  have hl : lv_has ls 6 [(0, .ref (ad 1)), (1, .int x1)] := hl
  dsimp only [wp_P_turnPath] at hw
  refine lv_iload_n hx hb dP_turnPath_0 rfl (lv_at hl 1 rfl) ?_
  refine lv_istore_n (lv' := [(2, .int x1), (0, .ref (ad 1)), (1, .int x1)]) hx hb dP_turnPath_1 rfl hl (by decide) rfl (fun ls hl => ?_)
  refine lv_iconst (v := (0 : Int32)) hx hb dP_turnPath_2 (by decide) ?_
  refine lv_istore_n (lv' := [(3, .int (0 : Int32)), (2, .int x1), (0, .ref (ad 1)), (1, .int x1)]) hx hb dP_turnPath_3 rfl hl (by decide) rfl (fun ls hl => ?_)
  obtain ⟨n9, hw⟩ := hw
  exact LP_turnPath_4 X hr n9 x1 (0 : Int32) f a b hw _ _ K _ (lv_sub hl [2, 1, 0] rfl)
set_option maxHeartbeats 4000000 in
set_option maxRecDepth 100000 in
theorem LP_pair_58 {p : Program} {l : Launch} {e : Env} {s : State} {m : MethodId} {below : List Frame} {meth : Method} {c : Code} {D : va_G} {sa : Nat → Nat} {ad : Nat → Nat} {ca : Nat → ClassId} {sz : Nat} {f0 : wF} {a0 : wA} {b0 : wB} {y1 : Int32} {y2 : Int32} {po : wF → wA → wB → Prop} (X : cx Wl (tyS ca) txS D vwCl sa (va_A (ww nS kS ad ca f0 a0 b0) sz) p l s m ([.ref (ad 1), .int y1, .int y2] : List Value).toArray meth c cP_pair 5 "SendBest$Pairing") (hr : meth.sig.returnType = none) : ∀ (f : wF) (a : wA) (b : wB), wp_P_pair_58 po f a b → ∀ (H : Heap) (locs : List Loc), wd nS kS D vwCl ad ca (va_A (ww nS kS ad ca f0 a0 b0) sz) s H locs f a b → ∀ (ls : Array Slot), lv_has ls 5 [] → W p l e ({ frames := 4, cells := 0, slots := 0, locals := 100 }) s m ([.ref (ad 1), .int y1, .int y2] : List Value).toArray below meth c H locs 0 0 (vx_MQ below (va_Qv (fun (u : wF × wA × wB) => po u.1 u.2.1 u.2.2) (sPost nS kS D vwCl ad ca (va_A (ww nS kS ad ca f0 a0 b0) sz)) (va_A (ww nS kS ad ca f0 a0 b0) sz)) (sX nS kS D vwCl ad ca (va_A (ww nS kS ad ca f0 a0 b0) sz) (fun _ _ _ _ => False)) ([.ref (ad 1), .int y1, .int y2] : List Value).toArray s 0 0 (va_A (ww nS kS ad ca f0 a0 b0) sz)) (F0 m 58 ls []) := by
  obtain ⟨hx, hb, hml, hown, hts, hK, hA, hth, hlk, hl9, hex⟩ := id X
  intro  f a b hw H locs K ls hl
  dsimp only [wp_P_pair_58] at hw
  exact endV X K hr hw (by decide) (by decide) dP_pair_58
set_option maxHeartbeats 4000000 in
set_option maxRecDepth 100000 in
theorem LP_pair_18 {p : Program} {l : Launch} {e : Env} {s : State} {m : MethodId} {below : List Frame} {meth : Method} {c : Code} {D : va_G} {sa : Nat → Nat} {ad : Nat → Nat} {ca : Nat → ClassId} {sz : Nat} {f0 : wF} {a0 : wA} {b0 : wB} {y1 : Int32} {y2 : Int32} {po : wF → wA → wB → Prop} (X : cx Wl (tyS ca) txS D vwCl sa (va_A (ww nS kS ad ca f0 a0 b0) sz) p l s m ([.ref (ad 1), .int y1, .int y2] : List Value).toArray meth c cP_pair 5 "SendBest$Pairing") (hr : meth.sig.returnType = none) : ∀ n : Nat, ∀ (x1 : Int32) (x2 : Int32) (x3 : Int32) (f : wF) (a : wA) (b : wB), wp_P_pair_18 po n x1 x2 x3 f a b → ∀ (H : Heap) (locs : List Loc), wd nS kS D vwCl ad ca (va_A (ww nS kS ad ca f0 a0 b0) sz) s H locs f a b → ∀ (ls : Array Slot), lv_has ls 5 [(0, .ref (ad 1)), (1, .int x1), (2, .int x2), (3, .int x3)] → W p l e ({ frames := 4, cells := 0, slots := 0, locals := 100 }) s m ([.ref (ad 1), .int y1, .int y2] : List Value).toArray below meth c H locs 0 0 (vx_MQ below (va_Qv (fun (u : wF × wA × wB) => po u.1 u.2.1 u.2.2) (sPost nS kS D vwCl ad ca (va_A (ww nS kS ad ca f0 a0 b0) sz)) (va_A (ww nS kS ad ca f0 a0 b0) sz)) (sX nS kS D vwCl ad ca (va_A (ww nS kS ad ca f0 a0 b0) sz) (fun _ _ _ _ => False)) ([.ref (ad 1), .int y1, .int y2] : List Value).toArray s 0 0 (va_A (ww nS kS ad ca f0 a0 b0) sz)) (F0 m 18 ls []) := by
  obtain ⟨hx, hb, hml, hown, hts, hK, hA, hth, hlk, hl9, hex⟩ := id X
  intro n
  induction n with
  | zero => intro x1 x2 x3 f a b hw; exact hw.elim
  | succ n ih =>
    intro x1 x2 x3 f a b hw H locs K ls hl
    dsimp only [wp_P_pair_18] at hw
    refine lv_iload_n hx hb dP_pair_18 rfl (lv_at hl 3 rfl) ?_
    refine lv_iload_n hx hb dP_pair_19 rfl (lv_at hl 1 rfl) ?_
    refine lv_icmp_ge (tgt := 58) hx hb dP_pair_20 (by decide) (fun hc => ?_) (fun hc => ?_)
    · replace hw := hw.1 hc
      exact LP_pair_58 X hr f a b hw _ _ K _ (lv_sub hl [] rfl)
    · replace hw := hw.2 hc
      refine lv_iload_n hx hb dP_pair_23 rfl (lv_at hl 3 rfl) ?_
      refine lv_iload_n hx hb dP_pair_24 rfl (lv_at hl 2 rfl) ?_
      refine lv_icmp_ge (tgt := 58) hx hb dP_pair_25 (by decide) (fun hc => ?_) (fun hc => ?_)
      · replace hw := hw.1 hc
        exact LP_pair_58 X hr f a b hw _ _ K _ (lv_sub hl [] rfl)
      · replace hw := hw.2 hc
        refine lv_aload_n hx hb dP_pair_28 rfl (lv_at hl 0 rfl) ?_
        refine lv_iload_n hx hb dP_pair_29 rfl (lv_at hl 1 rfl) ?_
        refine gcV X K (n0 := 1) (As := [.int x1]) (rest := []) (hM := (met_P_findPaths hl9 D ad ca sa _ x1 f a b _ hw)) (o := 1) (ho := by decide) (hko := kS_o1) (hci := rfl) (hg := wl_good) (w1 := (tm2 (i := 186) rfl rfl)) (w2 := (tm2 (i := 188) rfl rfl)) (w3 := (tm0 (i := 16) rfl rfl)) (w4 := (tm1 (i := 2) rfl rfl)) (w5 := (tm2 (i := 189) rfl rfl)) (hd := ⟨rfl, by decide, by decide, by decide +kernel⟩) (hrc := rfl) (hrs := rfl) (hR := ⟨Nat.le_of_ble_eq_true rfl, Nat.le_of_ble_eq_true rfl⟩) (hn := rfl) (hsz := hl.1) (hst := rfl) (hW := Nat.le_of_ble_eq_true rfl) (hdg := dP_pair_30) (hf := ⟨Nat.le_of_ble_eq_true rfl, Nat.le_of_ble_eq_true rfl⟩) (fun _ _ _ _ _ _ _ _ hw => hw.elim) (fun f30 a30 b30 H locs hw K => ?_)
        refine lv_aload_n hx hb dP_pair_33 rfl (lv_at hl 0 rfl) ?_
        refine gcI X K (n0 := 0) (As := []) (rest := []) (hM := (met_P_cheapestEnd hl9 D ad ca sa _ f30 a30 b30 _ hw)) (o := 1) (ho := by decide) (hko := kS_o1) (hci := rfl) (hg := wl_good) (w1 := (tm2 (i := 201) rfl rfl)) (w2 := (tm2 (i := 203) rfl rfl)) (w3 := (tm0 (i := 19) rfl rfl)) (w4 := (tm1 (i := 2) rfl rfl)) (w5 := (tm2 (i := 204) rfl rfl)) (hd := ⟨rfl, by decide, by decide, by decide +kernel⟩) (hrc := rfl) (hrs := rfl) (hR := ⟨Nat.le_of_ble_eq_true rfl, Nat.le_of_ble_eq_true rfl⟩) (hn := rfl) (hsz := hl.1) (hst := rfl) (hW := Nat.le_of_ble_eq_true rfl) (hdg := dP_pair_34) (hf := ⟨Nat.le_of_ble_eq_true rfl, Nat.le_of_ble_eq_true rfl⟩) (fun _ _ _ _ _ _ _ _ hw => hw.elim) (fun r34 f34 a34 b34 H locs hw K => ?_)
        refine lv_istore (lv' := [(4, .int r34), (0, .ref (ad 1)), (1, .int x1), (2, .int x2), (3, .int x3)]) hx hb dP_pair_37 hl (by decide) rfl (fun ls hl => ?_)
        refine lv_iload hx hb dP_pair_39 (lv_at hl 0 rfl) ?_
        refine lv_iconst (v := (-1 : Int32)) hx hb dP_pair_41 (by decide) ?_
        refine lv_icmp_ne (tgt := 46) hx hb dP_pair_42 (by decide) (fun hc => ?_) (fun hc => ?_)
        · replace hw := hw.1 hc
          refine lv_aload_n hx hb dP_pair_46 rfl (lv_at hl 1 rfl) ?_
          refine lv_iload hx hb dP_pair_47 (lv_at hl 0 rfl) ?_
          refine gcV X K (n0 := 1) (As := [.int r34]) (rest := []) (hM := (met_P_turnPath hl9 D ad ca sa _ r34 f34 a34 b34 _ hw)) (o := 1) (ho := by decide) (hko := kS_o1) (hci := rfl) (hg := wl_good) (w1 := (tm2 (i := 205) rfl rfl)) (w2 := (tm2 (i := 207) rfl rfl)) (w3 := (tm0 (i := 20) rfl rfl)) (w4 := (tm1 (i := 2) rfl rfl)) (w5 := (tm2 (i := 208) rfl rfl)) (hd := ⟨rfl, by decide, by decide, by decide +kernel⟩) (hrc := rfl) (hrs := rfl) (hR := ⟨Nat.le_of_ble_eq_true rfl, Nat.le_of_ble_eq_true rfl⟩) (hn := rfl) (hsz := hl.1) (hst := rfl) (hW := Nat.le_of_ble_eq_true rfl) (hdg := dP_pair_49) (hf := ⟨Nat.le_of_ble_eq_true rfl, Nat.le_of_ble_eq_true rfl⟩) (fun _ _ _ _ _ _ _ _ hw => hw.elim) (fun f49 a49 b49 H locs hw K => ?_)
          refine lv_iinc (v := (x3 + (1 : Int32))) (lv' := [(3, .int (x3 + (1 : Int32))), (4, .int r34), (0, .ref (ad 1)), (1, .int x1), (2, .int x2)]) hx hb dP_pair_52 hl (k := 4) rfl rfl (by decide) rfl (fun ls hl => ?_)
          refine lv_goto (tgt := 18) hx hb dP_pair_55 (by decide) ?_
          exact ih x1 x2 (x3 + (1 : Int32)) f49 a49 b49 hw _ _ K _ (lv_sub hl [2, 3, 4, 0] rfl)
        · replace hw := hw.2 hc
          exact endV X K hr hw (by decide) (by decide) dP_pair_45
set_option maxHeartbeats 4000000 in
set_option maxRecDepth 100000 in
theorem met_P_pair {l : Launch} (hl9 : l.stackTraces = false) (D : va_G) (ad : Nat → Nat) (ca : Nat → ClassId) (sa : Nat → Nat) (sz : Nat) (x1 : Int32) (x2 : Int32) (f : wF) (a : wA) (b : wB) (po : wF → wA → wB → Prop) (hw : wp_P_pair po x1 x2 f a b) : mV nS kS (tyS ca) txS D vwCl l yP_pair (Cond.code yP_pair cP_pair 5 none :: Wl) ({ frames := 4, cells := 0, slots := 0, locals := 100 }) [.ref (ad 1), .int x1, .int x2] ad ca sa sz f a b po (fun _ _ _ _ => False) 0 0 := by
  refine ofV (by decide) hl9 (Nat.le_of_ble_eq_true rfl) ?_
  intro p e s m below meth c ls X hr K hl
  obtain ⟨hx, hb, hml, hown, hts, hK, hA, hth, hlk, hl9, hex⟩ := id X
  have hl : lv_has ls 5 [(0, .ref (ad 1)), (1, .int x1), (2, .int x2)] := hl
  dsimp only [wp_P_pair] at hw
  refine lv_aload_n hx hb dP_pair_0 rfl (lv_at hl 0 rfl) ?_
  refine gGet X K (o := 1) (k := 5) (v := .ref (ad 16)) (by decide) kS_o1 rfl inS_o1 (by decide) (tm1 (i := 38) rfl rfl) rfl dP_pair_1 ?_
  refine lv_iconst (v := (-1 : Int32)) hx hb dP_pair_4 (by decide) ?_
  refine gfilli X K (o := 16) (t0 := 0) (by decide) kS_c16 rfl (by decide) (tm2 (i := 185) rfl rfl) hl.1 (Nat.le_of_ble_eq_true rfl) dP_pair_5 ⟨Nat.le_of_ble_eq_true rfl, Nat.le_of_ble_eq_true rfl⟩ ⟨Nat.le_of_ble_eq_true rfl, Nat.le_of_ble_eq_true rfl⟩ kS_p16 (fun H locs K => ?_)
  refine lv_aload_n hx hb dP_pair_8 rfl (lv_at hl 0 rfl) ?_
  refine gGet X K (o := 1) (k := 6) (v := .ref (ad 17)) (by decide) kS_o1 rfl inS_o1 (by decide) (tm1 (i := 39) rfl rfl) rfl dP_pair_9 ?_
  refine lv_iconst (v := (-1 : Int32)) hx hb dP_pair_12 (by decide) ?_
  refine gfilli X K (o := 17) (t0 := 0) (by decide) kS_c17 rfl (by decide) (tm2 (i := 185) rfl rfl) hl.1 (Nat.le_of_ble_eq_true rfl) dP_pair_13 ⟨Nat.le_of_ble_eq_true rfl, Nat.le_of_ble_eq_true rfl⟩ ⟨Nat.le_of_ble_eq_true rfl, Nat.le_of_ble_eq_true rfl⟩ kS_p17 (fun H locs K => ?_)
  refine lv_iconst (v := (0 : Int32)) hx hb dP_pair_16 (by decide) ?_
  refine lv_istore_n (lv' := [(3, .int (0 : Int32)), (0, .ref (ad 1)), (1, .int x1), (2, .int x2)]) hx hb dP_pair_17 rfl hl (by decide) rfl (fun ls hl => ?_)
  obtain ⟨n9, hw⟩ := hw
  exact LP_pair_18 X hr n9 x1 x2 (0 : Int32) f (va_up (va_up a 16 (fun _ => (-1 : Int32))) 17 (fun _ => (-1 : Int32))) b hw _ _ K _ (lv_sub hl [1, 2, 3, 0] rfl)
end
section
set_option maxHeartbeats 4000000 in
set_option maxRecDepth 100000 in
theorem LP_total_14_18_34 {p : Program} {l : Launch} {e : Env} {s : State} {m : MethodId} {below : List Frame} {meth : Method} {c : Code} {D : va_G} {sa : Nat → Nat} {ad : Nat → Nat} {ca : Nat → ClassId} {sz : Nat} {f0 : wF} {a0 : wA} {b0 : wB} {po : Int64 → wF → wA → wB → Prop} (X : cx Wl (tyS ca) txS D vwCl sa (va_A (ww nS kS ad ca f0 a0 b0) sz) p l s m ([.ref (ad 1), .ref (ad 14), .ref (ad 18)] : List Value).toArray meth c cP_total 6 "SendBest$Pairing") (hr : meth.sig.returnType = (some .long)) (J5 : Int64 → Int32 → wF → wA → wB → Prop) (hJ5 : ∀ (x3 : Int64) (x5 : Int32) (f : wF) (a : wA) (b : wB), J5 x3 x5 f a b → ∀ (H : Heap) (locs : List Loc), wd nS kS D vwCl ad ca (va_A (ww nS kS ad ca f0 a0 b0) sz) s H locs f a b → ∀ (ls : Array Slot), lv_has ls 6 [(0, .ref (ad 1)), (1, .ref (ad 14)), (2, .ref (ad 18)), (3, .long x3), (5, .int x5)] → W p l e ({ frames := 0, cells := 0, slots := 0, locals := 0 }) s m ([.ref (ad 1), .ref (ad 14), .ref (ad 18)] : List Value).toArray below meth c H locs 0 0 (vx_MQ below (va_Ql (fun r (u : wF × wA × wB) => po r u.1 u.2.1 u.2.2) (sPost nS kS D vwCl ad ca (va_A (ww nS kS ad ca f0 a0 b0) sz)) (va_A (ww nS kS ad ca f0 a0 b0) sz)) (sX nS kS D vwCl ad ca (va_A (ww nS kS ad ca f0 a0 b0) sz) (fun _ _ _ _ => False)) ([.ref (ad 1), .ref (ad 14), .ref (ad 18)] : List Value).toArray s 0 0 (va_A (ww nS kS ad ca f0 a0 b0) sz)) (F0 m 5 ls [])) : ∀ (x3 : Int64) (x5 : Int32) (f : wF) (a : wA) (b : wB), wp_P_total_14_18_34 po J5 x3 x5 f a b → ∀ (H : Heap) (locs : List Loc), wd nS kS D vwCl ad ca (va_A (ww nS kS ad ca f0 a0 b0) sz) s H locs f a b → ∀ (ls : Array Slot), lv_has ls 6 [(0, .ref (ad 1)), (1, .ref (ad 14)), (2, .ref (ad 18)), (3, .long x3), (5, .int x5)] → W p l e ({ frames := 0, cells := 0, slots := 0, locals := 0 }) s m ([.ref (ad 1), .ref (ad 14), .ref (ad 18)] : List Value).toArray below meth c H locs 0 0 (vx_MQ below (va_Ql (fun r (u : wF × wA × wB) => po r u.1 u.2.1 u.2.2) (sPost nS kS D vwCl ad ca (va_A (ww nS kS ad ca f0 a0 b0) sz)) (va_A (ww nS kS ad ca f0 a0 b0) sz)) (sX nS kS D vwCl ad ca (va_A (ww nS kS ad ca f0 a0 b0) sz) (fun _ _ _ _ => False)) ([.ref (ad 1), .ref (ad 14), .ref (ad 18)] : List Value).toArray s 0 0 (va_A (ww nS kS ad ca f0 a0 b0) sz)) (F0 m 34 ls []) := by
  obtain ⟨hx, hb, hml, hown, hts, hK, hA, hth, hlk, hl9, hex⟩ := id X
  intro x3 x5 f a b hw H locs K ls hl
  dsimp only [wp_P_total_14_18_34] at hw
  refine lv_iinc (v := (x5 + (1 : Int32))) (lv' := [(5, .int (x5 + (1 : Int32))), (0, .ref (ad 1)), (1, .ref (ad 14)), (2, .ref (ad 18)), (3, .long x3)]) hx hb dP_total_34 hl (k := 4) rfl rfl (by decide) rfl (fun ls hl => ?_)
  refine lv_goto (tgt := 5) hx hb dP_total_37 (by decide) ?_
  exact hJ5 x3 (x5 + (1 : Int32)) f a b hw _ _ K _ (lv_sub hl [1, 2, 3, 4, 0] rfl)
set_option maxHeartbeats 4000000 in
set_option maxRecDepth 100000 in
theorem LP_total_14_18_5 {p : Program} {l : Launch} {e : Env} {s : State} {m : MethodId} {below : List Frame} {meth : Method} {c : Code} {D : va_G} {sa : Nat → Nat} {ad : Nat → Nat} {ca : Nat → ClassId} {sz : Nat} {f0 : wF} {a0 : wA} {b0 : wB} {po : Int64 → wF → wA → wB → Prop} (X : cx Wl (tyS ca) txS D vwCl sa (va_A (ww nS kS ad ca f0 a0 b0) sz) p l s m ([.ref (ad 1), .ref (ad 14), .ref (ad 18)] : List Value).toArray meth c cP_total 6 "SendBest$Pairing") (hr : meth.sig.returnType = (some .long)) : ∀ n : Nat, ∀ (x3 : Int64) (x5 : Int32) (f : wF) (a : wA) (b : wB), wp_P_total_14_18_5 po n x3 x5 f a b → ∀ (H : Heap) (locs : List Loc), wd nS kS D vwCl ad ca (va_A (ww nS kS ad ca f0 a0 b0) sz) s H locs f a b → ∀ (ls : Array Slot), lv_has ls 6 [(0, .ref (ad 1)), (1, .ref (ad 14)), (2, .ref (ad 18)), (3, .long x3), (5, .int x5)] → W p l e ({ frames := 0, cells := 0, slots := 0, locals := 0 }) s m ([.ref (ad 1), .ref (ad 14), .ref (ad 18)] : List Value).toArray below meth c H locs 0 0 (vx_MQ below (va_Ql (fun r (u : wF × wA × wB) => po r u.1 u.2.1 u.2.2) (sPost nS kS D vwCl ad ca (va_A (ww nS kS ad ca f0 a0 b0) sz)) (va_A (ww nS kS ad ca f0 a0 b0) sz)) (sX nS kS D vwCl ad ca (va_A (ww nS kS ad ca f0 a0 b0) sz) (fun _ _ _ _ => False)) ([.ref (ad 1), .ref (ad 14), .ref (ad 18)] : List Value).toArray s 0 0 (va_A (ww nS kS ad ca f0 a0 b0) sz)) (F0 m 5 ls []) := by
  obtain ⟨hx, hb, hml, hown, hts, hK, hA, hth, hlk, hl9, hex⟩ := id X
  intro n
  induction n with
  | zero => intro x3 x5 f a b hw; exact hw.elim
  | succ n ih =>
    intro x3 x5 f a b hw H locs K ls hl
    dsimp only [wp_P_total_14_18_5] at hw
    refine lv_iload hx hb dP_total_5 (lv_at hl 4 rfl) ?_
    refine lv_aload_n hx hb dP_total_7 rfl (lv_at hl 0 rfl) ?_
    refine gGet X K (o := 1) (k := 0) (v := .int (f 5)) (by decide) kS_o1 rfl inS_o1 (by decide) (tm1 (i := 33) rfl rfl) rfl dP_total_8 ?_
    refine lv_icmp_ge (tgt := 40) hx hb dP_total_11 (by decide) (fun hc => ?_) (fun hc => ?_)
    · replace hw := hw.1 hc
      refine lv_lload_n hx hb dP_total_40 rfl (lv_at hl 3 rfl) ?_
      exact endL X K hr hw (by decide) (by decide) dP_total_41
    · replace hw := hw.2 hc
      refine lv_aload_n hx hb dP_total_14 rfl (lv_at hl 2 rfl) ?_
      refine lv_iload hx hb dP_total_15 (lv_at hl 4 rfl) ?_
      obtain ⟨hi, hw⟩ := hw
      refine gild X K (o := 18) (t0 := 0) (by decide) kS_c18 rfl hi dP_total_17 ?_
      refine lv_iconst (v := (-1 : Int32)) hx hb dP_total_18 (by decide) ?_
      refine lv_icmp_eq (tgt := 34) hx hb dP_total_19 (by decide) (fun hc => ?_) (fun hc => ?_)
      · replace hw := hw.1 hc
        exact LP_total_14_18_34 X hr (wp_P_total_14_18_5 po n) ih x3 x5 f a b hw _ _ K _ (lv_sub hl [0, 1, 2, 3, 4] rfl)
      · replace hw := hw.2 hc
        refine lv_lload_n hx hb dP_total_22 rfl (lv_at hl 3 rfl) ?_
        refine lv_aload_n hx hb dP_total_23 rfl (lv_at hl 1 rfl) ?_
        refine lv_iload hx hb dP_total_24 (lv_at hl 4 rfl) ?_
        obtain ⟨hi_cost, hw⟩ := hw
        refine gald X K (o := 14) (t0 := 4) (by decide) kS_c14 rfl hi_cost dP_total_26 ?_
        refine lv_aload_n hx hb dP_total_27 rfl (lv_at hl 2 rfl) ?_
        refine lv_iload hx hb dP_total_28 (lv_at hl 4 rfl) ?_
        obtain ⟨hi, hw⟩ := hw
        refine gild X K (o := 18) (t0 := 0) (by decide) kS_c18 rfl hi dP_total_30 ?_
        obtain ⟨hi, hw⟩ := hw
        refine glld X K (o := (37 + x5.toNatClampNeg)) (t0 := 2) (rS_cost_lt hi_cost) (kS_r_cost hi_cost) rfl hi dP_total_31 ?_
        refine lv_ladd hx hb dP_total_32 ?_
        refine lv_lstore_n (lv' := [(3, .long (x3 + (b (37 + x5.toNatClampNeg) (a 18 x5.toNatClampNeg).toNatClampNeg))), (0, .ref (ad 1)), (1, .ref (ad 14)), (2, .ref (ad 18)), (5, .int x5)]) hx hb dP_total_33 rfl hl (by decide) rfl (fun ls hl => ?_)
        exact LP_total_14_18_34 X hr (wp_P_total_14_18_5 po n) ih (x3 + (b (37 + x5.toNatClampNeg) (a 18 x5.toNatClampNeg).toNatClampNeg)) x5 f a b hw _ _ K _ (lv_sub hl [1, 2, 3, 0, 4] rfl)
set_option maxHeartbeats 4000000 in
set_option maxRecDepth 100000 in
theorem met_P_total_14_18 {l : Launch} (hl9 : l.stackTraces = false) (D : va_G) (ad : Nat → Nat) (ca : Nat → ClassId) (sa : Nat → Nat) (sz : Nat)  (f : wF) (a : wA) (b : wB) (po : Int64 → wF → wA → wB → Prop) (hw : wp_P_total_14_18 po f a b) : mL nS kS (tyS ca) txS D vwCl l yP_total (Cond.code yP_total cP_total 6 (some .long) :: Wl) ({ frames := 0, cells := 0, slots := 0, locals := 0 }) [.ref (ad 1), .ref (ad 14), .ref (ad 18)] ad ca sa sz f a b po (fun _ _ _ _ => False) 0 0 := by
  refine ofL (by decide) hl9 (Nat.le_of_ble_eq_true rfl) ?_
  intro p e s m below meth c ls X hr K hl
  obtain ⟨hx, hb, hml, hown, hts, hK, hA, hth, hlk, hl9, hex⟩ := id X
  have hl : lv_has ls 6 [(0, .ref (ad 1)), (1, .ref (ad 14)), (2, .ref (ad 18))] := hl
  dsimp only [wp_P_total_14_18] at hw
  refine lv_lconst (v := (0 : Int64)) hx hb dP_total_0 (by decide) ?_
  refine lv_lstore_n (lv' := [(3, .long (0 : Int64)), (0, .ref (ad 1)), (1, .ref (ad 14)), (2, .ref (ad 18))]) hx hb dP_total_1 rfl hl (by decide) rfl (fun ls hl => ?_)
  refine lv_iconst (v := (0 : Int32)) hx hb dP_total_2 (by decide) ?_
  refine lv_istore (lv' := [(5, .int (0 : Int32)), (3, .long (0 : Int64)), (0, .ref (ad 1)), (1, .ref (ad 14)), (2, .ref (ad 18))]) hx hb dP_total_3 hl (by decide) rfl (fun ls hl => ?_)
  obtain ⟨n9, hw⟩ := hw
  exact LP_total_14_18_5 X hr n9 (0 : Int64) (0 : Int32) f a b hw _ _ K _ (lv_sub hl [2, 3, 4, 1, 0] rfl)
set_option maxHeartbeats 4000000 in
set_option maxRecDepth 100000 in
theorem LP_total_15_18_34 {p : Program} {l : Launch} {e : Env} {s : State} {m : MethodId} {below : List Frame} {meth : Method} {c : Code} {D : va_G} {sa : Nat → Nat} {ad : Nat → Nat} {ca : Nat → ClassId} {sz : Nat} {f0 : wF} {a0 : wA} {b0 : wB} {po : Int64 → wF → wA → wB → Prop} (X : cx Wl (tyS ca) txS D vwCl sa (va_A (ww nS kS ad ca f0 a0 b0) sz) p l s m ([.ref (ad 1), .ref (ad 15), .ref (ad 18)] : List Value).toArray meth c cP_total 6 "SendBest$Pairing") (hr : meth.sig.returnType = (some .long)) (J5 : Int64 → Int32 → wF → wA → wB → Prop) (hJ5 : ∀ (x3 : Int64) (x5 : Int32) (f : wF) (a : wA) (b : wB), J5 x3 x5 f a b → ∀ (H : Heap) (locs : List Loc), wd nS kS D vwCl ad ca (va_A (ww nS kS ad ca f0 a0 b0) sz) s H locs f a b → ∀ (ls : Array Slot), lv_has ls 6 [(0, .ref (ad 1)), (1, .ref (ad 15)), (2, .ref (ad 18)), (3, .long x3), (5, .int x5)] → W p l e ({ frames := 0, cells := 0, slots := 0, locals := 0 }) s m ([.ref (ad 1), .ref (ad 15), .ref (ad 18)] : List Value).toArray below meth c H locs 0 0 (vx_MQ below (va_Ql (fun r (u : wF × wA × wB) => po r u.1 u.2.1 u.2.2) (sPost nS kS D vwCl ad ca (va_A (ww nS kS ad ca f0 a0 b0) sz)) (va_A (ww nS kS ad ca f0 a0 b0) sz)) (sX nS kS D vwCl ad ca (va_A (ww nS kS ad ca f0 a0 b0) sz) (fun _ _ _ _ => False)) ([.ref (ad 1), .ref (ad 15), .ref (ad 18)] : List Value).toArray s 0 0 (va_A (ww nS kS ad ca f0 a0 b0) sz)) (F0 m 5 ls [])) : ∀ (x3 : Int64) (x5 : Int32) (f : wF) (a : wA) (b : wB), wp_P_total_15_18_34 po J5 x3 x5 f a b → ∀ (H : Heap) (locs : List Loc), wd nS kS D vwCl ad ca (va_A (ww nS kS ad ca f0 a0 b0) sz) s H locs f a b → ∀ (ls : Array Slot), lv_has ls 6 [(0, .ref (ad 1)), (1, .ref (ad 15)), (2, .ref (ad 18)), (3, .long x3), (5, .int x5)] → W p l e ({ frames := 0, cells := 0, slots := 0, locals := 0 }) s m ([.ref (ad 1), .ref (ad 15), .ref (ad 18)] : List Value).toArray below meth c H locs 0 0 (vx_MQ below (va_Ql (fun r (u : wF × wA × wB) => po r u.1 u.2.1 u.2.2) (sPost nS kS D vwCl ad ca (va_A (ww nS kS ad ca f0 a0 b0) sz)) (va_A (ww nS kS ad ca f0 a0 b0) sz)) (sX nS kS D vwCl ad ca (va_A (ww nS kS ad ca f0 a0 b0) sz) (fun _ _ _ _ => False)) ([.ref (ad 1), .ref (ad 15), .ref (ad 18)] : List Value).toArray s 0 0 (va_A (ww nS kS ad ca f0 a0 b0) sz)) (F0 m 34 ls []) := by
  obtain ⟨hx, hb, hml, hown, hts, hK, hA, hth, hlk, hl9, hex⟩ := id X
  intro x3 x5 f a b hw H locs K ls hl
  dsimp only [wp_P_total_15_18_34] at hw
  refine lv_iinc (v := (x5 + (1 : Int32))) (lv' := [(5, .int (x5 + (1 : Int32))), (0, .ref (ad 1)), (1, .ref (ad 15)), (2, .ref (ad 18)), (3, .long x3)]) hx hb dP_total_34 hl (k := 4) rfl rfl (by decide) rfl (fun ls hl => ?_)
  refine lv_goto (tgt := 5) hx hb dP_total_37 (by decide) ?_
  exact hJ5 x3 (x5 + (1 : Int32)) f a b hw _ _ K _ (lv_sub hl [1, 2, 3, 4, 0] rfl)
set_option maxHeartbeats 4000000 in
set_option maxRecDepth 100000 in
theorem LP_total_15_18_5 {p : Program} {l : Launch} {e : Env} {s : State} {m : MethodId} {below : List Frame} {meth : Method} {c : Code} {D : va_G} {sa : Nat → Nat} {ad : Nat → Nat} {ca : Nat → ClassId} {sz : Nat} {f0 : wF} {a0 : wA} {b0 : wB} {po : Int64 → wF → wA → wB → Prop} (X : cx Wl (tyS ca) txS D vwCl sa (va_A (ww nS kS ad ca f0 a0 b0) sz) p l s m ([.ref (ad 1), .ref (ad 15), .ref (ad 18)] : List Value).toArray meth c cP_total 6 "SendBest$Pairing") (hr : meth.sig.returnType = (some .long)) : ∀ n : Nat, ∀ (x3 : Int64) (x5 : Int32) (f : wF) (a : wA) (b : wB), wp_P_total_15_18_5 po n x3 x5 f a b → ∀ (H : Heap) (locs : List Loc), wd nS kS D vwCl ad ca (va_A (ww nS kS ad ca f0 a0 b0) sz) s H locs f a b → ∀ (ls : Array Slot), lv_has ls 6 [(0, .ref (ad 1)), (1, .ref (ad 15)), (2, .ref (ad 18)), (3, .long x3), (5, .int x5)] → W p l e ({ frames := 0, cells := 0, slots := 0, locals := 0 }) s m ([.ref (ad 1), .ref (ad 15), .ref (ad 18)] : List Value).toArray below meth c H locs 0 0 (vx_MQ below (va_Ql (fun r (u : wF × wA × wB) => po r u.1 u.2.1 u.2.2) (sPost nS kS D vwCl ad ca (va_A (ww nS kS ad ca f0 a0 b0) sz)) (va_A (ww nS kS ad ca f0 a0 b0) sz)) (sX nS kS D vwCl ad ca (va_A (ww nS kS ad ca f0 a0 b0) sz) (fun _ _ _ _ => False)) ([.ref (ad 1), .ref (ad 15), .ref (ad 18)] : List Value).toArray s 0 0 (va_A (ww nS kS ad ca f0 a0 b0) sz)) (F0 m 5 ls []) := by
  obtain ⟨hx, hb, hml, hown, hts, hK, hA, hth, hlk, hl9, hex⟩ := id X
  intro n
  induction n with
  | zero => intro x3 x5 f a b hw; exact hw.elim
  | succ n ih =>
    intro x3 x5 f a b hw H locs K ls hl
    dsimp only [wp_P_total_15_18_5] at hw
    refine lv_iload hx hb dP_total_5 (lv_at hl 4 rfl) ?_
    refine lv_aload_n hx hb dP_total_7 rfl (lv_at hl 0 rfl) ?_
    refine gGet X K (o := 1) (k := 0) (v := .int (f 5)) (by decide) kS_o1 rfl inS_o1 (by decide) (tm1 (i := 33) rfl rfl) rfl dP_total_8 ?_
    refine lv_icmp_ge (tgt := 40) hx hb dP_total_11 (by decide) (fun hc => ?_) (fun hc => ?_)
    · replace hw := hw.1 hc
      refine lv_lload_n hx hb dP_total_40 rfl (lv_at hl 3 rfl) ?_
      exact endL X K hr hw (by decide) (by decide) dP_total_41
    · replace hw := hw.2 hc
      refine lv_aload_n hx hb dP_total_14 rfl (lv_at hl 2 rfl) ?_
      refine lv_iload hx hb dP_total_15 (lv_at hl 4 rfl) ?_
      obtain ⟨hi, hw⟩ := hw
      refine gild X K (o := 18) (t0 := 0) (by decide) kS_c18 rfl hi dP_total_17 ?_
      refine lv_iconst (v := (-1 : Int32)) hx hb dP_total_18 (by decide) ?_
      refine lv_icmp_eq (tgt := 34) hx hb dP_total_19 (by decide) (fun hc => ?_) (fun hc => ?_)
      · replace hw := hw.1 hc
        exact LP_total_15_18_34 X hr (wp_P_total_15_18_5 po n) ih x3 x5 f a b hw _ _ K _ (lv_sub hl [0, 1, 2, 3, 4] rfl)
      · replace hw := hw.2 hc
        refine lv_lload_n hx hb dP_total_22 rfl (lv_at hl 3 rfl) ?_
        refine lv_aload_n hx hb dP_total_23 rfl (lv_at hl 1 rfl) ?_
        refine lv_iload hx hb dP_total_24 (lv_at hl 4 rfl) ?_
        obtain ⟨hi_tie, hw⟩ := hw
        refine gald X K (o := 15) (t0 := 4) (by decide) kS_c15 rfl hi_tie dP_total_26 ?_
        refine lv_aload_n hx hb dP_total_27 rfl (lv_at hl 2 rfl) ?_
        refine lv_iload hx hb dP_total_28 (lv_at hl 4 rfl) ?_
        obtain ⟨hi, hw⟩ := hw
        refine gild X K (o := 18) (t0 := 0) (by decide) kS_c18 rfl hi dP_total_30 ?_
        obtain ⟨hi, hw⟩ := hw
        refine glld X K (o := (47 + x5.toNatClampNeg)) (t0 := 2) (rS_tie_lt hi_tie) (kS_r_tie hi_tie) rfl hi dP_total_31 ?_
        refine lv_ladd hx hb dP_total_32 ?_
        refine lv_lstore_n (lv' := [(3, .long (x3 + (b (47 + x5.toNatClampNeg) (a 18 x5.toNatClampNeg).toNatClampNeg))), (0, .ref (ad 1)), (1, .ref (ad 15)), (2, .ref (ad 18)), (5, .int x5)]) hx hb dP_total_33 rfl hl (by decide) rfl (fun ls hl => ?_)
        exact LP_total_15_18_34 X hr (wp_P_total_15_18_5 po n) ih (x3 + (b (47 + x5.toNatClampNeg) (a 18 x5.toNatClampNeg).toNatClampNeg)) x5 f a b hw _ _ K _ (lv_sub hl [1, 2, 3, 0, 4] rfl)
set_option maxHeartbeats 4000000 in
set_option maxRecDepth 100000 in
theorem met_P_total_15_18 {l : Launch} (hl9 : l.stackTraces = false) (D : va_G) (ad : Nat → Nat) (ca : Nat → ClassId) (sa : Nat → Nat) (sz : Nat)  (f : wF) (a : wA) (b : wB) (po : Int64 → wF → wA → wB → Prop) (hw : wp_P_total_15_18 po f a b) : mL nS kS (tyS ca) txS D vwCl l yP_total (Cond.code yP_total cP_total 6 (some .long) :: Wl) ({ frames := 0, cells := 0, slots := 0, locals := 0 }) [.ref (ad 1), .ref (ad 15), .ref (ad 18)] ad ca sa sz f a b po (fun _ _ _ _ => False) 0 0 := by
  refine ofL (by decide) hl9 (Nat.le_of_ble_eq_true rfl) ?_
  intro p e s m below meth c ls X hr K hl
  obtain ⟨hx, hb, hml, hown, hts, hK, hA, hth, hlk, hl9, hex⟩ := id X
  have hl : lv_has ls 6 [(0, .ref (ad 1)), (1, .ref (ad 15)), (2, .ref (ad 18))] := hl
  dsimp only [wp_P_total_15_18] at hw
  refine lv_lconst (v := (0 : Int64)) hx hb dP_total_0 (by decide) ?_
  refine lv_lstore_n (lv' := [(3, .long (0 : Int64)), (0, .ref (ad 1)), (1, .ref (ad 15)), (2, .ref (ad 18))]) hx hb dP_total_1 rfl hl (by decide) rfl (fun ls hl => ?_)
  refine lv_iconst (v := (0 : Int32)) hx hb dP_total_2 (by decide) ?_
  refine lv_istore (lv' := [(5, .int (0 : Int32)), (3, .long (0 : Int64)), (0, .ref (ad 1)), (1, .ref (ad 15)), (2, .ref (ad 18))]) hx hb dP_total_3 hl (by decide) rfl (fun ls hl => ?_)
  obtain ⟨n9, hw⟩ := hw
  exact LP_total_15_18_5 X hr n9 (0 : Int64) (0 : Int32) f a b hw _ _ K _ (lv_sub hl [2, 3, 4, 1, 0] rfl)
set_option maxHeartbeats 4000000 in
set_option maxRecDepth 100000 in
theorem LP_total_14_16_34 {p : Program} {l : Launch} {e : Env} {s : State} {m : MethodId} {below : List Frame} {meth : Method} {c : Code} {D : va_G} {sa : Nat → Nat} {ad : Nat → Nat} {ca : Nat → ClassId} {sz : Nat} {f0 : wF} {a0 : wA} {b0 : wB} {po : Int64 → wF → wA → wB → Prop} (X : cx Wl (tyS ca) txS D vwCl sa (va_A (ww nS kS ad ca f0 a0 b0) sz) p l s m ([.ref (ad 1), .ref (ad 14), .ref (ad 16)] : List Value).toArray meth c cP_total 6 "SendBest$Pairing") (hr : meth.sig.returnType = (some .long)) (J5 : Int64 → Int32 → wF → wA → wB → Prop) (hJ5 : ∀ (x3 : Int64) (x5 : Int32) (f : wF) (a : wA) (b : wB), J5 x3 x5 f a b → ∀ (H : Heap) (locs : List Loc), wd nS kS D vwCl ad ca (va_A (ww nS kS ad ca f0 a0 b0) sz) s H locs f a b → ∀ (ls : Array Slot), lv_has ls 6 [(0, .ref (ad 1)), (1, .ref (ad 14)), (2, .ref (ad 16)), (3, .long x3), (5, .int x5)] → W p l e ({ frames := 0, cells := 0, slots := 0, locals := 0 }) s m ([.ref (ad 1), .ref (ad 14), .ref (ad 16)] : List Value).toArray below meth c H locs 0 0 (vx_MQ below (va_Ql (fun r (u : wF × wA × wB) => po r u.1 u.2.1 u.2.2) (sPost nS kS D vwCl ad ca (va_A (ww nS kS ad ca f0 a0 b0) sz)) (va_A (ww nS kS ad ca f0 a0 b0) sz)) (sX nS kS D vwCl ad ca (va_A (ww nS kS ad ca f0 a0 b0) sz) (fun _ _ _ _ => False)) ([.ref (ad 1), .ref (ad 14), .ref (ad 16)] : List Value).toArray s 0 0 (va_A (ww nS kS ad ca f0 a0 b0) sz)) (F0 m 5 ls [])) : ∀ (x3 : Int64) (x5 : Int32) (f : wF) (a : wA) (b : wB), wp_P_total_14_16_34 po J5 x3 x5 f a b → ∀ (H : Heap) (locs : List Loc), wd nS kS D vwCl ad ca (va_A (ww nS kS ad ca f0 a0 b0) sz) s H locs f a b → ∀ (ls : Array Slot), lv_has ls 6 [(0, .ref (ad 1)), (1, .ref (ad 14)), (2, .ref (ad 16)), (3, .long x3), (5, .int x5)] → W p l e ({ frames := 0, cells := 0, slots := 0, locals := 0 }) s m ([.ref (ad 1), .ref (ad 14), .ref (ad 16)] : List Value).toArray below meth c H locs 0 0 (vx_MQ below (va_Ql (fun r (u : wF × wA × wB) => po r u.1 u.2.1 u.2.2) (sPost nS kS D vwCl ad ca (va_A (ww nS kS ad ca f0 a0 b0) sz)) (va_A (ww nS kS ad ca f0 a0 b0) sz)) (sX nS kS D vwCl ad ca (va_A (ww nS kS ad ca f0 a0 b0) sz) (fun _ _ _ _ => False)) ([.ref (ad 1), .ref (ad 14), .ref (ad 16)] : List Value).toArray s 0 0 (va_A (ww nS kS ad ca f0 a0 b0) sz)) (F0 m 34 ls []) := by
  obtain ⟨hx, hb, hml, hown, hts, hK, hA, hth, hlk, hl9, hex⟩ := id X
  intro x3 x5 f a b hw H locs K ls hl
  dsimp only [wp_P_total_14_16_34] at hw
  refine lv_iinc (v := (x5 + (1 : Int32))) (lv' := [(5, .int (x5 + (1 : Int32))), (0, .ref (ad 1)), (1, .ref (ad 14)), (2, .ref (ad 16)), (3, .long x3)]) hx hb dP_total_34 hl (k := 4) rfl rfl (by decide) rfl (fun ls hl => ?_)
  refine lv_goto (tgt := 5) hx hb dP_total_37 (by decide) ?_
  exact hJ5 x3 (x5 + (1 : Int32)) f a b hw _ _ K _ (lv_sub hl [1, 2, 3, 4, 0] rfl)
set_option maxHeartbeats 4000000 in
set_option maxRecDepth 100000 in
theorem LP_total_14_16_5 {p : Program} {l : Launch} {e : Env} {s : State} {m : MethodId} {below : List Frame} {meth : Method} {c : Code} {D : va_G} {sa : Nat → Nat} {ad : Nat → Nat} {ca : Nat → ClassId} {sz : Nat} {f0 : wF} {a0 : wA} {b0 : wB} {po : Int64 → wF → wA → wB → Prop} (X : cx Wl (tyS ca) txS D vwCl sa (va_A (ww nS kS ad ca f0 a0 b0) sz) p l s m ([.ref (ad 1), .ref (ad 14), .ref (ad 16)] : List Value).toArray meth c cP_total 6 "SendBest$Pairing") (hr : meth.sig.returnType = (some .long)) : ∀ n : Nat, ∀ (x3 : Int64) (x5 : Int32) (f : wF) (a : wA) (b : wB), wp_P_total_14_16_5 po n x3 x5 f a b → ∀ (H : Heap) (locs : List Loc), wd nS kS D vwCl ad ca (va_A (ww nS kS ad ca f0 a0 b0) sz) s H locs f a b → ∀ (ls : Array Slot), lv_has ls 6 [(0, .ref (ad 1)), (1, .ref (ad 14)), (2, .ref (ad 16)), (3, .long x3), (5, .int x5)] → W p l e ({ frames := 0, cells := 0, slots := 0, locals := 0 }) s m ([.ref (ad 1), .ref (ad 14), .ref (ad 16)] : List Value).toArray below meth c H locs 0 0 (vx_MQ below (va_Ql (fun r (u : wF × wA × wB) => po r u.1 u.2.1 u.2.2) (sPost nS kS D vwCl ad ca (va_A (ww nS kS ad ca f0 a0 b0) sz)) (va_A (ww nS kS ad ca f0 a0 b0) sz)) (sX nS kS D vwCl ad ca (va_A (ww nS kS ad ca f0 a0 b0) sz) (fun _ _ _ _ => False)) ([.ref (ad 1), .ref (ad 14), .ref (ad 16)] : List Value).toArray s 0 0 (va_A (ww nS kS ad ca f0 a0 b0) sz)) (F0 m 5 ls []) := by
  obtain ⟨hx, hb, hml, hown, hts, hK, hA, hth, hlk, hl9, hex⟩ := id X
  intro n
  induction n with
  | zero => intro x3 x5 f a b hw; exact hw.elim
  | succ n ih =>
    intro x3 x5 f a b hw H locs K ls hl
    dsimp only [wp_P_total_14_16_5] at hw
    refine lv_iload hx hb dP_total_5 (lv_at hl 4 rfl) ?_
    refine lv_aload_n hx hb dP_total_7 rfl (lv_at hl 0 rfl) ?_
    refine gGet X K (o := 1) (k := 0) (v := .int (f 5)) (by decide) kS_o1 rfl inS_o1 (by decide) (tm1 (i := 33) rfl rfl) rfl dP_total_8 ?_
    refine lv_icmp_ge (tgt := 40) hx hb dP_total_11 (by decide) (fun hc => ?_) (fun hc => ?_)
    · replace hw := hw.1 hc
      refine lv_lload_n hx hb dP_total_40 rfl (lv_at hl 3 rfl) ?_
      exact endL X K hr hw (by decide) (by decide) dP_total_41
    · replace hw := hw.2 hc
      refine lv_aload_n hx hb dP_total_14 rfl (lv_at hl 2 rfl) ?_
      refine lv_iload hx hb dP_total_15 (lv_at hl 4 rfl) ?_
      obtain ⟨hi, hw⟩ := hw
      refine gild X K (o := 16) (t0 := 0) (by decide) kS_c16 rfl hi dP_total_17 ?_
      refine lv_iconst (v := (-1 : Int32)) hx hb dP_total_18 (by decide) ?_
      refine lv_icmp_eq (tgt := 34) hx hb dP_total_19 (by decide) (fun hc => ?_) (fun hc => ?_)
      · replace hw := hw.1 hc
        exact LP_total_14_16_34 X hr (wp_P_total_14_16_5 po n) ih x3 x5 f a b hw _ _ K _ (lv_sub hl [0, 1, 2, 3, 4] rfl)
      · replace hw := hw.2 hc
        refine lv_lload_n hx hb dP_total_22 rfl (lv_at hl 3 rfl) ?_
        refine lv_aload_n hx hb dP_total_23 rfl (lv_at hl 1 rfl) ?_
        refine lv_iload hx hb dP_total_24 (lv_at hl 4 rfl) ?_
        obtain ⟨hi_cost, hw⟩ := hw
        refine gald X K (o := 14) (t0 := 4) (by decide) kS_c14 rfl hi_cost dP_total_26 ?_
        refine lv_aload_n hx hb dP_total_27 rfl (lv_at hl 2 rfl) ?_
        refine lv_iload hx hb dP_total_28 (lv_at hl 4 rfl) ?_
        obtain ⟨hi, hw⟩ := hw
        refine gild X K (o := 16) (t0 := 0) (by decide) kS_c16 rfl hi dP_total_30 ?_
        obtain ⟨hi, hw⟩ := hw
        refine glld X K (o := (37 + x5.toNatClampNeg)) (t0 := 2) (rS_cost_lt hi_cost) (kS_r_cost hi_cost) rfl hi dP_total_31 ?_
        refine lv_ladd hx hb dP_total_32 ?_
        refine lv_lstore_n (lv' := [(3, .long (x3 + (b (37 + x5.toNatClampNeg) (a 16 x5.toNatClampNeg).toNatClampNeg))), (0, .ref (ad 1)), (1, .ref (ad 14)), (2, .ref (ad 16)), (5, .int x5)]) hx hb dP_total_33 rfl hl (by decide) rfl (fun ls hl => ?_)
        exact LP_total_14_16_34 X hr (wp_P_total_14_16_5 po n) ih (x3 + (b (37 + x5.toNatClampNeg) (a 16 x5.toNatClampNeg).toNatClampNeg)) x5 f a b hw _ _ K _ (lv_sub hl [1, 2, 3, 0, 4] rfl)
set_option maxHeartbeats 4000000 in
set_option maxRecDepth 100000 in
theorem met_P_total_14_16 {l : Launch} (hl9 : l.stackTraces = false) (D : va_G) (ad : Nat → Nat) (ca : Nat → ClassId) (sa : Nat → Nat) (sz : Nat)  (f : wF) (a : wA) (b : wB) (po : Int64 → wF → wA → wB → Prop) (hw : wp_P_total_14_16 po f a b) : mL nS kS (tyS ca) txS D vwCl l yP_total (Cond.code yP_total cP_total 6 (some .long) :: Wl) ({ frames := 0, cells := 0, slots := 0, locals := 0 }) [.ref (ad 1), .ref (ad 14), .ref (ad 16)] ad ca sa sz f a b po (fun _ _ _ _ => False) 0 0 := by
  refine ofL (by decide) hl9 (Nat.le_of_ble_eq_true rfl) ?_
  intro p e s m below meth c ls X hr K hl
  obtain ⟨hx, hb, hml, hown, hts, hK, hA, hth, hlk, hl9, hex⟩ := id X
  have hl : lv_has ls 6 [(0, .ref (ad 1)), (1, .ref (ad 14)), (2, .ref (ad 16))] := hl
  dsimp only [wp_P_total_14_16] at hw
  refine lv_lconst (v := (0 : Int64)) hx hb dP_total_0 (by decide) ?_
  refine lv_lstore_n (lv' := [(3, .long (0 : Int64)), (0, .ref (ad 1)), (1, .ref (ad 14)), (2, .ref (ad 16))]) hx hb dP_total_1 rfl hl (by decide) rfl (fun ls hl => ?_)
  refine lv_iconst (v := (0 : Int32)) hx hb dP_total_2 (by decide) ?_
  refine lv_istore (lv' := [(5, .int (0 : Int32)), (3, .long (0 : Int64)), (0, .ref (ad 1)), (1, .ref (ad 14)), (2, .ref (ad 16))]) hx hb dP_total_3 hl (by decide) rfl (fun ls hl => ?_)
  obtain ⟨n9, hw⟩ := hw
  exact LP_total_14_16_5 X hr n9 (0 : Int64) (0 : Int32) f a b hw _ _ K _ (lv_sub hl [2, 3, 4, 1, 0] rfl)
set_option maxHeartbeats 4000000 in
set_option maxRecDepth 100000 in
theorem LP_total_15_16_34 {p : Program} {l : Launch} {e : Env} {s : State} {m : MethodId} {below : List Frame} {meth : Method} {c : Code} {D : va_G} {sa : Nat → Nat} {ad : Nat → Nat} {ca : Nat → ClassId} {sz : Nat} {f0 : wF} {a0 : wA} {b0 : wB} {po : Int64 → wF → wA → wB → Prop} (X : cx Wl (tyS ca) txS D vwCl sa (va_A (ww nS kS ad ca f0 a0 b0) sz) p l s m ([.ref (ad 1), .ref (ad 15), .ref (ad 16)] : List Value).toArray meth c cP_total 6 "SendBest$Pairing") (hr : meth.sig.returnType = (some .long)) (J5 : Int64 → Int32 → wF → wA → wB → Prop) (hJ5 : ∀ (x3 : Int64) (x5 : Int32) (f : wF) (a : wA) (b : wB), J5 x3 x5 f a b → ∀ (H : Heap) (locs : List Loc), wd nS kS D vwCl ad ca (va_A (ww nS kS ad ca f0 a0 b0) sz) s H locs f a b → ∀ (ls : Array Slot), lv_has ls 6 [(0, .ref (ad 1)), (1, .ref (ad 15)), (2, .ref (ad 16)), (3, .long x3), (5, .int x5)] → W p l e ({ frames := 0, cells := 0, slots := 0, locals := 0 }) s m ([.ref (ad 1), .ref (ad 15), .ref (ad 16)] : List Value).toArray below meth c H locs 0 0 (vx_MQ below (va_Ql (fun r (u : wF × wA × wB) => po r u.1 u.2.1 u.2.2) (sPost nS kS D vwCl ad ca (va_A (ww nS kS ad ca f0 a0 b0) sz)) (va_A (ww nS kS ad ca f0 a0 b0) sz)) (sX nS kS D vwCl ad ca (va_A (ww nS kS ad ca f0 a0 b0) sz) (fun _ _ _ _ => False)) ([.ref (ad 1), .ref (ad 15), .ref (ad 16)] : List Value).toArray s 0 0 (va_A (ww nS kS ad ca f0 a0 b0) sz)) (F0 m 5 ls [])) : ∀ (x3 : Int64) (x5 : Int32) (f : wF) (a : wA) (b : wB), wp_P_total_15_16_34 po J5 x3 x5 f a b → ∀ (H : Heap) (locs : List Loc), wd nS kS D vwCl ad ca (va_A (ww nS kS ad ca f0 a0 b0) sz) s H locs f a b → ∀ (ls : Array Slot), lv_has ls 6 [(0, .ref (ad 1)), (1, .ref (ad 15)), (2, .ref (ad 16)), (3, .long x3), (5, .int x5)] → W p l e ({ frames := 0, cells := 0, slots := 0, locals := 0 }) s m ([.ref (ad 1), .ref (ad 15), .ref (ad 16)] : List Value).toArray below meth c H locs 0 0 (vx_MQ below (va_Ql (fun r (u : wF × wA × wB) => po r u.1 u.2.1 u.2.2) (sPost nS kS D vwCl ad ca (va_A (ww nS kS ad ca f0 a0 b0) sz)) (va_A (ww nS kS ad ca f0 a0 b0) sz)) (sX nS kS D vwCl ad ca (va_A (ww nS kS ad ca f0 a0 b0) sz) (fun _ _ _ _ => False)) ([.ref (ad 1), .ref (ad 15), .ref (ad 16)] : List Value).toArray s 0 0 (va_A (ww nS kS ad ca f0 a0 b0) sz)) (F0 m 34 ls []) := by
  obtain ⟨hx, hb, hml, hown, hts, hK, hA, hth, hlk, hl9, hex⟩ := id X
  intro x3 x5 f a b hw H locs K ls hl
  dsimp only [wp_P_total_15_16_34] at hw
  refine lv_iinc (v := (x5 + (1 : Int32))) (lv' := [(5, .int (x5 + (1 : Int32))), (0, .ref (ad 1)), (1, .ref (ad 15)), (2, .ref (ad 16)), (3, .long x3)]) hx hb dP_total_34 hl (k := 4) rfl rfl (by decide) rfl (fun ls hl => ?_)
  refine lv_goto (tgt := 5) hx hb dP_total_37 (by decide) ?_
  exact hJ5 x3 (x5 + (1 : Int32)) f a b hw _ _ K _ (lv_sub hl [1, 2, 3, 4, 0] rfl)
set_option maxHeartbeats 4000000 in
set_option maxRecDepth 100000 in
theorem LP_total_15_16_5 {p : Program} {l : Launch} {e : Env} {s : State} {m : MethodId} {below : List Frame} {meth : Method} {c : Code} {D : va_G} {sa : Nat → Nat} {ad : Nat → Nat} {ca : Nat → ClassId} {sz : Nat} {f0 : wF} {a0 : wA} {b0 : wB} {po : Int64 → wF → wA → wB → Prop} (X : cx Wl (tyS ca) txS D vwCl sa (va_A (ww nS kS ad ca f0 a0 b0) sz) p l s m ([.ref (ad 1), .ref (ad 15), .ref (ad 16)] : List Value).toArray meth c cP_total 6 "SendBest$Pairing") (hr : meth.sig.returnType = (some .long)) : ∀ n : Nat, ∀ (x3 : Int64) (x5 : Int32) (f : wF) (a : wA) (b : wB), wp_P_total_15_16_5 po n x3 x5 f a b → ∀ (H : Heap) (locs : List Loc), wd nS kS D vwCl ad ca (va_A (ww nS kS ad ca f0 a0 b0) sz) s H locs f a b → ∀ (ls : Array Slot), lv_has ls 6 [(0, .ref (ad 1)), (1, .ref (ad 15)), (2, .ref (ad 16)), (3, .long x3), (5, .int x5)] → W p l e ({ frames := 0, cells := 0, slots := 0, locals := 0 }) s m ([.ref (ad 1), .ref (ad 15), .ref (ad 16)] : List Value).toArray below meth c H locs 0 0 (vx_MQ below (va_Ql (fun r (u : wF × wA × wB) => po r u.1 u.2.1 u.2.2) (sPost nS kS D vwCl ad ca (va_A (ww nS kS ad ca f0 a0 b0) sz)) (va_A (ww nS kS ad ca f0 a0 b0) sz)) (sX nS kS D vwCl ad ca (va_A (ww nS kS ad ca f0 a0 b0) sz) (fun _ _ _ _ => False)) ([.ref (ad 1), .ref (ad 15), .ref (ad 16)] : List Value).toArray s 0 0 (va_A (ww nS kS ad ca f0 a0 b0) sz)) (F0 m 5 ls []) := by
  obtain ⟨hx, hb, hml, hown, hts, hK, hA, hth, hlk, hl9, hex⟩ := id X
  intro n
  induction n with
  | zero => intro x3 x5 f a b hw; exact hw.elim
  | succ n ih =>
    intro x3 x5 f a b hw H locs K ls hl
    dsimp only [wp_P_total_15_16_5] at hw
    refine lv_iload hx hb dP_total_5 (lv_at hl 4 rfl) ?_
    refine lv_aload_n hx hb dP_total_7 rfl (lv_at hl 0 rfl) ?_
    refine gGet X K (o := 1) (k := 0) (v := .int (f 5)) (by decide) kS_o1 rfl inS_o1 (by decide) (tm1 (i := 33) rfl rfl) rfl dP_total_8 ?_
    refine lv_icmp_ge (tgt := 40) hx hb dP_total_11 (by decide) (fun hc => ?_) (fun hc => ?_)
    · replace hw := hw.1 hc
      refine lv_lload_n hx hb dP_total_40 rfl (lv_at hl 3 rfl) ?_
      exact endL X K hr hw (by decide) (by decide) dP_total_41
    · replace hw := hw.2 hc
      refine lv_aload_n hx hb dP_total_14 rfl (lv_at hl 2 rfl) ?_
      refine lv_iload hx hb dP_total_15 (lv_at hl 4 rfl) ?_
      obtain ⟨hi, hw⟩ := hw
      refine gild X K (o := 16) (t0 := 0) (by decide) kS_c16 rfl hi dP_total_17 ?_
      refine lv_iconst (v := (-1 : Int32)) hx hb dP_total_18 (by decide) ?_
      refine lv_icmp_eq (tgt := 34) hx hb dP_total_19 (by decide) (fun hc => ?_) (fun hc => ?_)
      · replace hw := hw.1 hc
        exact LP_total_15_16_34 X hr (wp_P_total_15_16_5 po n) ih x3 x5 f a b hw _ _ K _ (lv_sub hl [0, 1, 2, 3, 4] rfl)
      · replace hw := hw.2 hc
        refine lv_lload_n hx hb dP_total_22 rfl (lv_at hl 3 rfl) ?_
        refine lv_aload_n hx hb dP_total_23 rfl (lv_at hl 1 rfl) ?_
        refine lv_iload hx hb dP_total_24 (lv_at hl 4 rfl) ?_
        obtain ⟨hi_tie, hw⟩ := hw
        refine gald X K (o := 15) (t0 := 4) (by decide) kS_c15 rfl hi_tie dP_total_26 ?_
        refine lv_aload_n hx hb dP_total_27 rfl (lv_at hl 2 rfl) ?_
        refine lv_iload hx hb dP_total_28 (lv_at hl 4 rfl) ?_
        obtain ⟨hi, hw⟩ := hw
        refine gild X K (o := 16) (t0 := 0) (by decide) kS_c16 rfl hi dP_total_30 ?_
        obtain ⟨hi, hw⟩ := hw
        refine glld X K (o := (47 + x5.toNatClampNeg)) (t0 := 2) (rS_tie_lt hi_tie) (kS_r_tie hi_tie) rfl hi dP_total_31 ?_
        refine lv_ladd hx hb dP_total_32 ?_
        refine lv_lstore_n (lv' := [(3, .long (x3 + (b (47 + x5.toNatClampNeg) (a 16 x5.toNatClampNeg).toNatClampNeg))), (0, .ref (ad 1)), (1, .ref (ad 15)), (2, .ref (ad 16)), (5, .int x5)]) hx hb dP_total_33 rfl hl (by decide) rfl (fun ls hl => ?_)
        exact LP_total_15_16_34 X hr (wp_P_total_15_16_5 po n) ih (x3 + (b (47 + x5.toNatClampNeg) (a 16 x5.toNatClampNeg).toNatClampNeg)) x5 f a b hw _ _ K _ (lv_sub hl [1, 2, 3, 0, 4] rfl)
set_option maxHeartbeats 4000000 in
set_option maxRecDepth 100000 in
theorem met_P_total_15_16 {l : Launch} (hl9 : l.stackTraces = false) (D : va_G) (ad : Nat → Nat) (ca : Nat → ClassId) (sa : Nat → Nat) (sz : Nat)  (f : wF) (a : wA) (b : wB) (po : Int64 → wF → wA → wB → Prop) (hw : wp_P_total_15_16 po f a b) : mL nS kS (tyS ca) txS D vwCl l yP_total (Cond.code yP_total cP_total 6 (some .long) :: Wl) ({ frames := 0, cells := 0, slots := 0, locals := 0 }) [.ref (ad 1), .ref (ad 15), .ref (ad 16)] ad ca sa sz f a b po (fun _ _ _ _ => False) 0 0 := by
  refine ofL (by decide) hl9 (Nat.le_of_ble_eq_true rfl) ?_
  intro p e s m below meth c ls X hr K hl
  obtain ⟨hx, hb, hml, hown, hts, hK, hA, hth, hlk, hl9, hex⟩ := id X
  have hl : lv_has ls 6 [(0, .ref (ad 1)), (1, .ref (ad 15)), (2, .ref (ad 16))] := hl
  dsimp only [wp_P_total_15_16] at hw
  refine lv_lconst (v := (0 : Int64)) hx hb dP_total_0 (by decide) ?_
  refine lv_lstore_n (lv' := [(3, .long (0 : Int64)), (0, .ref (ad 1)), (1, .ref (ad 15)), (2, .ref (ad 16))]) hx hb dP_total_1 rfl hl (by decide) rfl (fun ls hl => ?_)
  refine lv_iconst (v := (0 : Int32)) hx hb dP_total_2 (by decide) ?_
  refine lv_istore (lv' := [(5, .int (0 : Int32)), (3, .long (0 : Int64)), (0, .ref (ad 1)), (1, .ref (ad 15)), (2, .ref (ad 16))]) hx hb dP_total_3 hl (by decide) rfl (fun ls hl => ?_)
  obtain ⟨n9, hw⟩ := hw
  exact LP_total_15_16_5 X hr n9 (0 : Int64) (0 : Int32) f a b hw _ _ K _ (lv_sub hl [2, 3, 4, 1, 0] rfl)
set_option maxHeartbeats 4000000 in
set_option maxRecDepth 100000 in
theorem LP_findBest_114 {p : Program} {l : Launch} {e : Env} {s : State} {m : MethodId} {below : List Frame} {meth : Method} {c : Code} {D : va_G} {sa : Nat → Nat} {ad : Nat → Nat} {ca : Nat → ClassId} {sz : Nat} {f0 : wF} {a0 : wA} {b0 : wB} {y1 : Int32} {po : wF → wA → wB → Prop} (X : cx Wl (tyS ca) txS D vwCl sa (va_A (ww nS kS ad ca f0 a0 b0) sz) p l s m ([.ref (ad 1), .int y1] : List Value).toArray meth c cP_findBest 2 "SendBest$Pairing") (hr : meth.sig.returnType = none) : ∀ (f : wF) (a : wA) (b : wB), wp_P_findBest_114 po f a b → ∀ (H : Heap) (locs : List Loc), wd nS kS D vwCl ad ca (va_A (ww nS kS ad ca f0 a0 b0) sz) s H locs f a b → ∀ (ls : Array Slot), lv_has ls 2 [] → W p l e ({ frames := 5, cells := 0, slots := 0, locals := 124 }) s m ([.ref (ad 1), .int y1] : List Value).toArray below meth c H locs 0 0 (vx_MQ below (va_Qv (fun (u : wF × wA × wB) => po u.1 u.2.1 u.2.2) (sPost nS kS D vwCl ad ca (va_A (ww nS kS ad ca f0 a0 b0) sz)) (va_A (ww nS kS ad ca f0 a0 b0) sz)) (sX nS kS D vwCl ad ca (va_A (ww nS kS ad ca f0 a0 b0) sz) (fun _ _ _ _ => False)) ([.ref (ad 1), .int y1] : List Value).toArray s 0 0 (va_A (ww nS kS ad ca f0 a0 b0) sz)) (F0 m 114 ls []) := by
  obtain ⟨hx, hb, hml, hown, hts, hK, hA, hth, hlk, hl9, hex⟩ := id X
  intro  f a b hw H locs K ls hl
  dsimp only [wp_P_findBest_114] at hw
  exact endV X K hr hw (by decide) (by decide) dP_findBest_114
set_option maxHeartbeats 4000000 in
set_option maxRecDepth 100000 in
theorem met_P_findBest {l : Launch} (hl9 : l.stackTraces = false) (D : va_G) (ad : Nat → Nat) (ca : Nat → ClassId) (sa : Nat → Nat) (sz : Nat) (x1 : Int32) (f : wF) (a : wA) (b : wB) (po : wF → wA → wB → Prop) (hw : wp_P_findBest po x1 f a b) : mV nS kS (tyS ca) txS D vwCl l yP_findBest (Cond.code yP_findBest cP_findBest 2 none :: Wl) ({ frames := 5, cells := 0, slots := 0, locals := 124 }) [.ref (ad 1), .int x1] ad ca sa sz f a b po (fun _ _ _ _ => False) 0 0 := by
  refine ofV (by decide) hl9 (Nat.le_of_ble_eq_true rfl) ?_
  intro p e s m below meth c ls X hr K hl
  obtain ⟨hx, hb, hml, hown, hts, hK, hA, hth, hlk, hl9, hex⟩ := id X
  have hl : lv_has ls 2 [(0, .ref (ad 1)), (1, .int x1)] := hl
  dsimp only [wp_P_findBest] at hw
  refine lv_aload_n hx hb dP_findBest_0 rfl (lv_at hl 0 rfl) ?_
  refine lv_aload_n hx hb dP_findBest_1 rfl (lv_at hl 0 rfl) ?_
  refine gGet X K (o := 1) (k := 0) (v := .int (f 5)) (by decide) kS_o1 rfl inS_o1 (by decide) (tm1 (i := 33) rfl rfl) rfl dP_findBest_2 ?_
  refine lv_iload_n hx hb dP_findBest_5 rfl (lv_at hl 1 rfl) ?_
  refine gcV X K (n0 := 2) (As := [.int (f 5), .int x1]) (rest := []) (hM := (met_P_pair hl9 D ad ca sa _ (f 5) x1 f a b _ hw)) (o := 1) (ho := by decide) (hko := kS_o1) (hci := rfl) (hg := wl_good) (w1 := (tm2 (i := 181) rfl rfl)) (w2 := (tm2 (i := 183) rfl rfl)) (w3 := (tm0 (i := 15) rfl rfl)) (w4 := (tm1 (i := 2) rfl rfl)) (w5 := (tm2 (i := 184) rfl rfl)) (hd := ⟨rfl, by decide, by decide, by decide +kernel⟩) (hrc := rfl) (hrs := rfl) (hR := ⟨Nat.le_of_ble_eq_true rfl, Nat.le_of_ble_eq_true rfl⟩) (hn := rfl) (hsz := hl.1) (hst := rfl) (hW := Nat.le_of_ble_eq_true rfl) (hdg := dP_findBest_6) (hf := ⟨Nat.le_of_ble_eq_true rfl, Nat.le_of_ble_eq_true rfl⟩) (fun _ _ _ _ _ _ _ _ hw => hw.elim) (fun f6 a6 b6 H locs hw K => ?_)
  refine lv_aload_n hx hb dP_findBest_9 rfl (lv_at hl 0 rfl) ?_
  refine gGet X K (o := 1) (k := 1) (v := .int (f6 6)) (by decide) kS_o1 rfl inS_o1 (by decide) (tm1 (i := 34) rfl rfl) rfl dP_findBest_10 ?_
  refine lv_iload_n hx hb dP_findBest_13 rfl (lv_at hl 1 rfl) ?_
  refine lv_icmp_gt (tgt := 18) hx hb dP_findBest_14 (by decide) (fun hc => ?_) (fun hc => ?_)
  · replace hw := hw.1 hc
    refine lv_aload_n hx hb dP_findBest_18 rfl (lv_at hl 0 rfl) ?_
    refine gGet X K (o := 1) (k := 5) (v := .ref (ad 16)) (by decide) kS_o1 rfl inS_o1 (by decide) (tm1 (i := 38) rfl rfl) rfl dP_findBest_19 ?_
    refine lv_iconst (v := (0 : Int32)) hx hb dP_findBest_22 (by decide) ?_
    refine lv_aload_n hx hb dP_findBest_23 rfl (lv_at hl 0 rfl) ?_
    refine gGet X K (o := 1) (k := 7) (v := .ref (ad 18)) (by decide) kS_o1 rfl inS_o1 (by decide) (tm1 (i := 40) rfl rfl) rfl dP_findBest_24 ?_
    refine lv_iconst (v := (0 : Int32)) hx hb dP_findBest_27 (by decide) ?_
    refine lv_bipush (v := (10 : Int32)) hx hb dP_findBest_28 (by decide) ?_
    refine gcopy X K (o := 16) (o2 := 18) (t0 := 0) (by decide) (by decide) kS_c16 kS_c18 rfl (tm2 (i := 209) rfl rfl) (tm2 (i := 211) rfl rfl) (tm2 (i := 210) rfl rfl) (tm1 (i := 12) rfl rfl) (by decide) (by decide) (by decide) (by decide) (by decide) hl.1 (Nat.le_of_ble_eq_true rfl) (by decide) dP_findBest_30 kS_p18 (fun H locs K => ?_)
    refine lv_aload_n hx hb dP_findBest_33 rfl (lv_at hl 0 rfl) ?_
    refine lv_aload_n hx hb dP_findBest_34 rfl (lv_at hl 0 rfl) ?_
    refine gGet X K (o := 1) (k := 1) (v := .int (f6 6)) (by decide) kS_o1 rfl inS_o1 (by decide) (tm1 (i := 34) rfl rfl) rfl dP_findBest_35 ?_
    refine lv_aload_n hx hb dP_findBest_38 rfl (lv_at hl 0 rfl) ?_
    refine gGet X K (o := 1) (k := 1) (v := .int (f6 6)) (by decide) kS_o1 rfl inS_o1 (by decide) (tm1 (i := 34) rfl rfl) rfl dP_findBest_39 ?_
    refine gcV X K (n0 := 2) (As := [.int (f6 6), .int (f6 6)]) (rest := []) (hM := (met_P_pair hl9 D ad ca sa _ (f6 6) (f6 6) f6 (va_up a6 18 (va_cpy (a6 16) (a6 18) (0 : Int32).toNatClampNeg (0 : Int32).toNatClampNeg (10 : Int32).toNatClampNeg)) b6 _ hw)) (o := 1) (ho := by decide) (hko := kS_o1) (hci := rfl) (hg := wl_good) (w1 := (tm2 (i := 181) rfl rfl)) (w2 := (tm2 (i := 183) rfl rfl)) (w3 := (tm0 (i := 15) rfl rfl)) (w4 := (tm1 (i := 2) rfl rfl)) (w5 := (tm2 (i := 184) rfl rfl)) (hd := ⟨rfl, by decide, by decide, by decide +kernel⟩) (hrc := rfl) (hrs := rfl) (hR := ⟨Nat.le_of_ble_eq_true rfl, Nat.le_of_ble_eq_true rfl⟩) (hn := rfl) (hsz := hl.1) (hst := rfl) (hW := Nat.le_of_ble_eq_true rfl) (hdg := dP_findBest_42) (hf := ⟨Nat.le_of_ble_eq_true rfl, Nat.le_of_ble_eq_true rfl⟩) (fun _ _ _ _ _ _ _ _ hw => hw.elim) (fun f42 a42 b42 H locs hw K => ?_)
    refine lv_aload_n hx hb dP_findBest_45 rfl (lv_at hl 0 rfl) ?_
    refine lv_aload_n hx hb dP_findBest_46 rfl (lv_at hl 0 rfl) ?_
    refine gGet X K (o := 1) (k := 3) (v := .ref (ad 14)) (by decide) kS_o1 rfl inS_o1 (by decide) (tm1 (i := 36) rfl rfl) rfl dP_findBest_47 ?_
    refine lv_aload_n hx hb dP_findBest_50 rfl (lv_at hl 0 rfl) ?_
    refine gGet X K (o := 1) (k := 7) (v := .ref (ad 18)) (by decide) kS_o1 rfl inS_o1 (by decide) (tm1 (i := 40) rfl rfl) rfl dP_findBest_51 ?_
    refine gcL X K (n0 := 2) (As := [.ref (ad 14), .ref (ad 18)]) (rest := []) (hM := (met_P_total_14_18 hl9 D ad ca sa _ f42 a42 b42 _ hw)) (o := 1) (ho := by decide) (hko := kS_o1) (hci := rfl) (hg := wl_good) (w1 := (tm2 (i := 212) rfl rfl)) (w2 := (tm2 (i := 214) rfl rfl)) (w3 := (tm0 (i := 21) rfl rfl)) (w4 := (tm1 (i := 2) rfl rfl)) (w5 := (tm2 (i := 215) rfl rfl)) (hd := ⟨rfl, by decide, by decide, by decide +kernel⟩) (hrc := rfl) (hrs := rfl) (hR := ⟨Nat.le_of_ble_eq_true rfl, Nat.le_of_ble_eq_true rfl⟩) (hn := rfl) (hsz := hl.1) (hst := rfl) (hW := Nat.le_of_ble_eq_true rfl) (hdg := dP_findBest_54) (hf := ⟨Nat.le_of_ble_eq_true rfl, Nat.le_of_ble_eq_true rfl⟩) (fun _ _ _ _ _ _ _ _ hw => hw.elim) (fun r54 f54 a54 b54 H locs hw K => ?_)
    refine lv_aload_n hx hb dP_findBest_57 rfl (lv_at hl 0 rfl) ?_
    refine lv_aload_n hx hb dP_findBest_58 rfl (lv_at hl 0 rfl) ?_
    refine gGet X K (o := 1) (k := 4) (v := .ref (ad 15)) (by decide) kS_o1 rfl inS_o1 (by decide) (tm1 (i := 37) rfl rfl) rfl dP_findBest_59 ?_
    refine lv_aload_n hx hb dP_findBest_62 rfl (lv_at hl 0 rfl) ?_
    refine gGet X K (o := 1) (k := 7) (v := .ref (ad 18)) (by decide) kS_o1 rfl inS_o1 (by decide) (tm1 (i := 40) rfl rfl) rfl dP_findBest_63 ?_
    refine gcL X K (n0 := 2) (As := [.ref (ad 15), .ref (ad 18)]) (rest := [.long r54]) (hM := (met_P_total_15_18 hl9 D ad ca sa _ f54 a54 b54 _ hw)) (o := 1) (ho := by decide) (hko := kS_o1) (hci := rfl) (hg := wl_good) (w1 := (tm2 (i := 212) rfl rfl)) (w2 := (tm2 (i := 214) rfl rfl)) (w3 := (tm0 (i := 21) rfl rfl)) (w4 := (tm1 (i := 2) rfl rfl)) (w5 := (tm2 (i := 215) rfl rfl)) (hd := ⟨rfl, by decide, by decide, by decide +kernel⟩) (hrc := rfl) (hrs := rfl) (hR := ⟨Nat.le_of_ble_eq_true rfl, Nat.le_of_ble_eq_true rfl⟩) (hn := rfl) (hsz := hl.1) (hst := rfl) (hW := Nat.le_of_ble_eq_true rfl) (hdg := dP_findBest_66) (hf := ⟨Nat.le_of_ble_eq_true rfl, Nat.le_of_ble_eq_true rfl⟩) (fun _ _ _ _ _ _ _ _ hw => hw.elim) (fun r66 f66 a66 b66 H locs hw K => ?_)
    refine lv_aload_n hx hb dP_findBest_69 rfl (lv_at hl 0 rfl) ?_
    refine lv_aload_n hx hb dP_findBest_70 rfl (lv_at hl 0 rfl) ?_
    refine gGet X K (o := 1) (k := 3) (v := .ref (ad 14)) (by decide) kS_o1 rfl inS_o1 (by decide) (tm1 (i := 36) rfl rfl) rfl dP_findBest_71 ?_
    refine lv_aload_n hx hb dP_findBest_74 rfl (lv_at hl 0 rfl) ?_
    refine gGet X K (o := 1) (k := 5) (v := .ref (ad 16)) (by decide) kS_o1 rfl inS_o1 (by decide) (tm1 (i := 38) rfl rfl) rfl dP_findBest_75 ?_
    refine gcL X K (n0 := 2) (As := [.ref (ad 14), .ref (ad 16)]) (rest := [.long r66, .long r54]) (hM := (met_P_total_14_16 hl9 D ad ca sa _ f66 a66 b66 _ hw)) (o := 1) (ho := by decide) (hko := kS_o1) (hci := rfl) (hg := wl_good) (w1 := (tm2 (i := 212) rfl rfl)) (w2 := (tm2 (i := 214) rfl rfl)) (w3 := (tm0 (i := 21) rfl rfl)) (w4 := (tm1 (i := 2) rfl rfl)) (w5 := (tm2 (i := 215) rfl rfl)) (hd := ⟨rfl, by decide, by decide, by decide +kernel⟩) (hrc := rfl) (hrs := rfl) (hR := ⟨Nat.le_of_ble_eq_true rfl, Nat.le_of_ble_eq_true rfl⟩) (hn := rfl) (hsz := hl.1) (hst := rfl) (hW := Nat.le_of_ble_eq_true rfl) (hdg := dP_findBest_78) (hf := ⟨Nat.le_of_ble_eq_true rfl, Nat.le_of_ble_eq_true rfl⟩) (fun _ _ _ _ _ _ _ _ hw => hw.elim) (fun r78 f78 a78 b78 H locs hw K => ?_)
    refine lv_aload_n hx hb dP_findBest_81 rfl (lv_at hl 0 rfl) ?_
    refine lv_aload_n hx hb dP_findBest_82 rfl (lv_at hl 0 rfl) ?_
    refine gGet X K (o := 1) (k := 4) (v := .ref (ad 15)) (by decide) kS_o1 rfl inS_o1 (by decide) (tm1 (i := 37) rfl rfl) rfl dP_findBest_83 ?_
    refine lv_aload_n hx hb dP_findBest_86 rfl (lv_at hl 0 rfl) ?_
    refine gGet X K (o := 1) (k := 5) (v := .ref (ad 16)) (by decide) kS_o1 rfl inS_o1 (by decide) (tm1 (i := 38) rfl rfl) rfl dP_findBest_87 ?_
    refine gcL X K (n0 := 2) (As := [.ref (ad 15), .ref (ad 16)]) (rest := [.long r78, .long r66, .long r54]) (hM := (met_P_total_15_16 hl9 D ad ca sa _ f78 a78 b78 _ hw)) (o := 1) (ho := by decide) (hko := kS_o1) (hci := rfl) (hg := wl_good) (w1 := (tm2 (i := 212) rfl rfl)) (w2 := (tm2 (i := 214) rfl rfl)) (w3 := (tm0 (i := 21) rfl rfl)) (w4 := (tm1 (i := 2) rfl rfl)) (w5 := (tm2 (i := 215) rfl rfl)) (hd := ⟨rfl, by decide, by decide, by decide +kernel⟩) (hrc := rfl) (hrs := rfl) (hR := ⟨Nat.le_of_ble_eq_true rfl, Nat.le_of_ble_eq_true rfl⟩) (hn := rfl) (hsz := hl.1) (hst := rfl) (hW := Nat.le_of_ble_eq_true rfl) (hdg := dP_findBest_90) (hf := ⟨Nat.le_of_ble_eq_true rfl, Nat.le_of_ble_eq_true rfl⟩) (fun _ _ _ _ _ _ _ _ hw => hw.elim) (fun r90 f90 a90 b90 H locs hw K => ?_)
    refine gcSI X K (n0 := 4) (As := [.long r54, .long r66, .long r78, .long r90]) (rest := []) (hM := (met_P_isLess hl9 D ad ca sa _ r54 r66 r78 r90 f90 a90 b90 _ hw)) (hg := wl_good) (w1 := (tm2 (i := 198) rfl rfl)) (w2 := (tm2 (i := 199) rfl rfl)) (w4 := (tm1 (i := 2) rfl rfl)) (w5 := (tm2 (i := 200) rfl rfl)) (hd := ⟨by decide, by decide, by decide +kernel⟩) (hrc := rfl) (hrs := rfl) (hR := ⟨Nat.le_of_ble_eq_true rfl, Nat.le_of_ble_eq_true rfl⟩) (hn := rfl) (hsz := hl.1) (hst := rfl) (hW := Nat.le_of_ble_eq_true rfl) (hdg := dP_findBest_93) (hf := ⟨Nat.le_of_ble_eq_true rfl, Nat.le_of_ble_eq_true rfl⟩) (fun _ _ _ _ _ _ _ _ hw => hw.elim) (fun r93 f93 a93 b93 H locs hw K => ?_)
    refine lv_if_eq (tgt := 114) hx hb dP_findBest_96 (by decide) (fun hc => ?_) (fun hc => ?_)
    · replace hw := hw.1 hc
      exact LP_findBest_114 X hr f93 a93 b93 hw _ _ K _ (lv_sub hl [] rfl)
    · replace hw := hw.2 hc
      refine lv_aload_n hx hb dP_findBest_99 rfl (lv_at hl 0 rfl) ?_
      refine gGet X K (o := 1) (k := 7) (v := .ref (ad 18)) (by decide) kS_o1 rfl inS_o1 (by decide) (tm1 (i := 40) rfl rfl) rfl dP_findBest_100 ?_
      refine lv_iconst (v := (0 : Int32)) hx hb dP_findBest_103 (by decide) ?_
      refine lv_aload_n hx hb dP_findBest_104 rfl (lv_at hl 0 rfl) ?_
      refine gGet X K (o := 1) (k := 5) (v := .ref (ad 16)) (by decide) kS_o1 rfl inS_o1 (by decide) (tm1 (i := 38) rfl rfl) rfl dP_findBest_105 ?_
      refine lv_iconst (v := (0 : Int32)) hx hb dP_findBest_108 (by decide) ?_
      refine lv_bipush (v := (10 : Int32)) hx hb dP_findBest_109 (by decide) ?_
      refine gcopy X K (o := 18) (o2 := 16) (t0 := 0) (by decide) (by decide) kS_c18 kS_c16 rfl (tm2 (i := 209) rfl rfl) (tm2 (i := 211) rfl rfl) (tm2 (i := 210) rfl rfl) (tm1 (i := 12) rfl rfl) (by decide) (by decide) (by decide) (by decide) (by decide) hl.1 (Nat.le_of_ble_eq_true rfl) (by decide) dP_findBest_111 kS_p16 (fun H locs K => ?_)
      exact LP_findBest_114 X hr f93 (va_up a93 16 (va_cpy (a93 18) (a93 16) (0 : Int32).toNatClampNeg (0 : Int32).toNatClampNeg (10 : Int32).toNatClampNeg)) b93 hw _ _ K _ (lv_sub hl [] rfl)
  · replace hw := hw.2 hc
    exact endV X K hr hw (by decide) (by decide) dP_findBest_17
set_option maxHeartbeats 4000000 in
set_option maxRecDepth 100000 in
theorem met_P_rows {l : Launch} (hl9 : l.stackTraces = false) (D : va_G) (ad : Nat → Nat) (ca : Nat → ClassId) (sa : Nat → Nat) (sz : Nat)  (f : wF) (a : wA) (b : wB) (po : Int32 → wF → wA → wB → Prop) (hw : wp_P_rows po f a b) : mI nS kS (tyS ca) txS D vwCl l yP_rows (Cond.code yP_rows cP_rows 1 (some .int) :: Wl) ({ frames := 0, cells := 0, slots := 0, locals := 0 }) [.ref (ad 1)] ad ca sa sz f a b po (fun _ _ _ _ => False) 0 0 := by
  refine ofI (by decide) hl9 (Nat.le_of_ble_eq_true rfl) ?_
  intro p e s m below meth c ls X hr K hl
  obtain ⟨hx, hb, hml, hown, hts, hK, hA, hth, hlk, hl9, hex⟩ := id X
  have hl : lv_has ls 1 [(0, .ref (ad 1))] := hl
  dsimp only [wp_P_rows] at hw
  refine lv_aload_n hx hb dP_rows_0 rfl (lv_at hl 0 rfl) ?_
  refine gGet X K (o := 1) (k := 0) (v := .int (f 5)) (by decide) kS_o1 rfl inS_o1 (by decide) (tm1 (i := 33) rfl rfl) rfl dP_rows_1 ?_
  exact endI X K hr rfl hw (by decide) (by decide) dP_rows_4
set_option maxHeartbeats 4000000 in
set_option maxRecDepth 100000 in
theorem LP_presentIsPlan_88 {p : Program} {l : Launch} {e : Env} {s : State} {m : MethodId} {below : List Frame} {meth : Method} {c : Code} {D : va_G} {sa : Nat → Nat} {ad : Nat → Nat} {ca : Nat → ClassId} {sz : Nat} {f0 : wF} {a0 : wA} {b0 : wB} {y1 : Int32} {po : Int32 → wF → wA → wB → Prop} (X : cx Wl (tyS ca) txS D vwCl sa (va_A (ww nS kS ad ca f0 a0 b0) sz) p l s m ([.ref (ad 1), .int y1] : List Value).toArray meth c cP_presentIsPlan 6 "SendBest$Pairing") (hr : meth.sig.returnType = (some .boolean)) : ∀ (k0 : Int32) (f : wF) (a : wA) (b : wB), wp_P_presentIsPlan_88 po k0 f a b → ∀ (H : Heap) (locs : List Loc), wd nS kS D vwCl ad ca (va_A (ww nS kS ad ca f0 a0 b0) sz) s H locs f a b → ∀ (ls : Array Slot), lv_has ls 6 [] → W p l e ({ frames := 0, cells := 0, slots := 0, locals := 0 }) s m ([.ref (ad 1), .int y1] : List Value).toArray below meth c H locs 0 0 (vx_MQ below (va_Qi (fun r (u : wF × wA × wB) => po r u.1 u.2.1 u.2.2) (sPost nS kS D vwCl ad ca (va_A (ww nS kS ad ca f0 a0 b0) sz)) (va_A (ww nS kS ad ca f0 a0 b0) sz)) (sX nS kS D vwCl ad ca (va_A (ww nS kS ad ca f0 a0 b0) sz) (fun _ _ _ _ => False)) ([.ref (ad 1), .int y1] : List Value).toArray s 0 0 (va_A (ww nS kS ad ca f0 a0 b0) sz)) (F0 m 88 ls [.int k0]) := by
  obtain ⟨hx, hb, hml, hown, hts, hK, hA, hth, hlk, hl9, hex⟩ := id X
  intro k0 f a b hw H locs K ls hl
  dsimp only [wp_P_presentIsPlan_88] at hw
  exact endI X K hr hw.1 hw.2 (by decide) (by decide) dP_presentIsPlan_88
set_option maxHeartbeats 4000000 in
set_option maxRecDepth 100000 in
theorem LP_presentIsPlan_83 {p : Program} {l : Launch} {e : Env} {s : State} {m : MethodId} {below : List Frame} {meth : Method} {c : Code} {D : va_G} {sa : Nat → Nat} {ad : Nat → Nat} {ca : Nat → ClassId} {sz : Nat} {f0 : wF} {a0 : wA} {b0 : wB} {y1 : Int32} {po : Int32 → wF → wA → wB → Prop} (X : cx Wl (tyS ca) txS D vwCl sa (va_A (ww nS kS ad ca f0 a0 b0) sz) p l s m ([.ref (ad 1), .int y1] : List Value).toArray meth c cP_presentIsPlan 6 "SendBest$Pairing") (hr : meth.sig.returnType = (some .boolean)) : ∀ (f : wF) (a : wA) (b : wB), wp_P_presentIsPlan_83 po f a b → ∀ (H : Heap) (locs : List Loc), wd nS kS D vwCl ad ca (va_A (ww nS kS ad ca f0 a0 b0) sz) s H locs f a b → ∀ (ls : Array Slot), lv_has ls 6 [] → W p l e ({ frames := 0, cells := 0, slots := 0, locals := 0 }) s m ([.ref (ad 1), .int y1] : List Value).toArray below meth c H locs 0 0 (vx_MQ below (va_Qi (fun r (u : wF × wA × wB) => po r u.1 u.2.1 u.2.2) (sPost nS kS D vwCl ad ca (va_A (ww nS kS ad ca f0 a0 b0) sz)) (va_A (ww nS kS ad ca f0 a0 b0) sz)) (sX nS kS D vwCl ad ca (va_A (ww nS kS ad ca f0 a0 b0) sz) (fun _ _ _ _ => False)) ([.ref (ad 1), .int y1] : List Value).toArray s 0 0 (va_A (ww nS kS ad ca f0 a0 b0) sz)) (F0 m 83 ls []) := by
  obtain ⟨hx, hb, hml, hown, hts, hK, hA, hth, hlk, hl9, hex⟩ := id X
  intro  f a b hw H locs K ls hl
  dsimp only [wp_P_presentIsPlan_83] at hw
  refine lv_iconst (v := (1 : Int32)) hx hb dP_presentIsPlan_83 (by decide) ?_
  refine lv_goto (tgt := 88) hx hb dP_presentIsPlan_84 (by decide) ?_
  exact LP_presentIsPlan_88 X hr (1 : Int32) f a b hw _ _ K _ (lv_sub hl [] rfl)
set_option maxHeartbeats 4000000 in
set_option maxRecDepth 100000 in
theorem LP_presentIsPlan_68 {p : Program} {l : Launch} {e : Env} {s : State} {m : MethodId} {below : List Frame} {meth : Method} {c : Code} {D : va_G} {sa : Nat → Nat} {ad : Nat → Nat} {ca : Nat → ClassId} {sz : Nat} {f0 : wF} {a0 : wA} {b0 : wB} {y1 : Int32} {po : Int32 → wF → wA → wB → Prop} (X : cx Wl (tyS ca) txS D vwCl sa (va_A (ww nS kS ad ca f0 a0 b0) sz) p l s m ([.ref (ad 1), .int y1] : List Value).toArray meth c cP_presentIsPlan 6 "SendBest$Pairing") (hr : meth.sig.returnType = (some .boolean)) (J7 : Int32 → Int32 → Int32 → Int32 → wF → wA → wB → Prop) (hJ7 : ∀ (x1 : Int32) (x2 : Int32) (x3 : Int32) (x4 : Int32) (f : wF) (a : wA) (b : wB), J7 x1 x2 x3 x4 f a b → ∀ (H : Heap) (locs : List Loc), wd nS kS D vwCl ad ca (va_A (ww nS kS ad ca f0 a0 b0) sz) s H locs f a b → ∀ (ls : Array Slot), lv_has ls 6 [(0, .ref (ad 1)), (1, .int x1), (2, .int x2), (3, .int x3), (4, .int x4)] → W p l e ({ frames := 0, cells := 0, slots := 0, locals := 0 }) s m ([.ref (ad 1), .int y1] : List Value).toArray below meth c H locs 0 0 (vx_MQ below (va_Qi (fun r (u : wF × wA × wB) => po r u.1 u.2.1 u.2.2) (sPost nS kS D vwCl ad ca (va_A (ww nS kS ad ca f0 a0 b0) sz)) (va_A (ww nS kS ad ca f0 a0 b0) sz)) (sX nS kS D vwCl ad ca (va_A (ww nS kS ad ca f0 a0 b0) sz) (fun _ _ _ _ => False)) ([.ref (ad 1), .int y1] : List Value).toArray s 0 0 (va_A (ww nS kS ad ca f0 a0 b0) sz)) (F0 m 7 ls [])) : ∀ (x1 : Int32) (x2 : Int32) (x3 : Int32) (x4 : Int32) (f : wF) (a : wA) (b : wB), wp_P_presentIsPlan_68 po J7 x1 x2 x3 x4 f a b → ∀ (H : Heap) (locs : List Loc), wd nS kS D vwCl ad ca (va_A (ww nS kS ad ca f0 a0 b0) sz) s H locs f a b → ∀ (ls : Array Slot), lv_has ls 6 [(0, .ref (ad 1)), (1, .int x1), (2, .int x2), (3, .int x3), (4, .int x4)] → W p l e ({ frames := 0, cells := 0, slots := 0, locals := 0 }) s m ([.ref (ad 1), .int y1] : List Value).toArray below meth c H locs 0 0 (vx_MQ below (va_Qi (fun r (u : wF × wA × wB) => po r u.1 u.2.1 u.2.2) (sPost nS kS D vwCl ad ca (va_A (ww nS kS ad ca f0 a0 b0) sz)) (va_A (ww nS kS ad ca f0 a0 b0) sz)) (sX nS kS D vwCl ad ca (va_A (ww nS kS ad ca f0 a0 b0) sz) (fun _ _ _ _ => False)) ([.ref (ad 1), .int y1] : List Value).toArray s 0 0 (va_A (ww nS kS ad ca f0 a0 b0) sz)) (F0 m 68 ls []) := by
  obtain ⟨hx, hb, hml, hown, hts, hK, hA, hth, hlk, hl9, hex⟩ := id X
  intro x1 x2 x3 x4 f a b hw H locs K ls hl
  dsimp only [wp_P_presentIsPlan_68] at hw
  refine lv_iinc (v := (x4 + (1 : Int32))) (lv' := [(4, .int (x4 + (1 : Int32))), (0, .ref (ad 1)), (1, .int x1), (2, .int x2), (3, .int x3)]) hx hb dP_presentIsPlan_68 hl (k := 4) rfl rfl (by decide) rfl (fun ls hl => ?_)
  refine lv_goto (tgt := 7) hx hb dP_presentIsPlan_71 (by decide) ?_
  exact hJ7 x1 x2 x3 (x4 + (1 : Int32)) f a b hw _ _ K _ (lv_sub hl [1, 2, 3, 4, 0] rfl)
set_option maxHeartbeats 4000000 in
set_option maxRecDepth 100000 in
theorem LP_presentIsPlan_66 {p : Program} {l : Launch} {e : Env} {s : State} {m : MethodId} {below : List Frame} {meth : Method} {c : Code} {D : va_G} {sa : Nat → Nat} {ad : Nat → Nat} {ca : Nat → ClassId} {sz : Nat} {f0 : wF} {a0 : wA} {b0 : wB} {y1 : Int32} {po : Int32 → wF → wA → wB → Prop} (X : cx Wl (tyS ca) txS D vwCl sa (va_A (ww nS kS ad ca f0 a0 b0) sz) p l s m ([.ref (ad 1), .int y1] : List Value).toArray meth c cP_presentIsPlan 6 "SendBest$Pairing") (hr : meth.sig.returnType = (some .boolean)) (J7 : Int32 → Int32 → Int32 → Int32 → wF → wA → wB → Prop) (hJ7 : ∀ (x1 : Int32) (x2 : Int32) (x3 : Int32) (x4 : Int32) (f : wF) (a : wA) (b : wB), J7 x1 x2 x3 x4 f a b → ∀ (H : Heap) (locs : List Loc), wd nS kS D vwCl ad ca (va_A (ww nS kS ad ca f0 a0 b0) sz) s H locs f a b → ∀ (ls : Array Slot), lv_has ls 6 [(0, .ref (ad 1)), (1, .int x1), (2, .int x2), (3, .int x3), (4, .int x4)] → W p l e ({ frames := 0, cells := 0, slots := 0, locals := 0 }) s m ([.ref (ad 1), .int y1] : List Value).toArray below meth c H locs 0 0 (vx_MQ below (va_Qi (fun r (u : wF × wA × wB) => po r u.1 u.2.1 u.2.2) (sPost nS kS D vwCl ad ca (va_A (ww nS kS ad ca f0 a0 b0) sz)) (va_A (ww nS kS ad ca f0 a0 b0) sz)) (sX nS kS D vwCl ad ca (va_A (ww nS kS ad ca f0 a0 b0) sz) (fun _ _ _ _ => False)) ([.ref (ad 1), .int y1] : List Value).toArray s 0 0 (va_A (ww nS kS ad ca f0 a0 b0) sz)) (F0 m 7 ls [])) : ∀ (k0 : Int32) (k1 : Int32) (x1 : Int32) (x2 : Int32) (x4 : Int32) (f : wF) (a : wA) (b : wB), wp_P_presentIsPlan_66 po J7 k0 k1 x1 x2 x4 f a b → ∀ (H : Heap) (locs : List Loc), wd nS kS D vwCl ad ca (va_A (ww nS kS ad ca f0 a0 b0) sz) s H locs f a b → ∀ (ls : Array Slot), lv_has ls 6 [(0, .ref (ad 1)), (1, .int x1), (2, .int x2), (4, .int x4)] → W p l e ({ frames := 0, cells := 0, slots := 0, locals := 0 }) s m ([.ref (ad 1), .int y1] : List Value).toArray below meth c H locs 0 0 (vx_MQ below (va_Qi (fun r (u : wF × wA × wB) => po r u.1 u.2.1 u.2.2) (sPost nS kS D vwCl ad ca (va_A (ww nS kS ad ca f0 a0 b0) sz)) (va_A (ww nS kS ad ca f0 a0 b0) sz)) (sX nS kS D vwCl ad ca (va_A (ww nS kS ad ca f0 a0 b0) sz) (fun _ _ _ _ => False)) ([.ref (ad 1), .int y1] : List Value).toArray s 0 0 (va_A (ww nS kS ad ca f0 a0 b0) sz)) (F0 m 66 ls [.int k0, .int k1]) := by
  obtain ⟨hx, hb, hml, hown, hts, hK, hA, hth, hlk, hl9, hex⟩ := id X
  intro k0 k1 x1 x2 x4 f a b hw H locs K ls hl
  dsimp only [wp_P_presentIsPlan_66] at hw
  refine lv_iadd hx hb dP_presentIsPlan_66 ?_
  refine lv_istore_n (lv' := [(3, .int (k1 + k0)), (0, .ref (ad 1)), (1, .int x1), (2, .int x2), (4, .int x4)]) hx hb dP_presentIsPlan_67 rfl hl (by decide) rfl (fun ls hl => ?_)
  exact LP_presentIsPlan_68 X hr J7 hJ7 x1 x2 (k1 + k0) x4 f a b hw _ _ K _ (lv_sub hl [1, 2, 3, 0, 4] rfl)
set_option maxHeartbeats 4000000 in
set_option maxRecDepth 100000 in
theorem LP_presentIsPlan_7 {p : Program} {l : Launch} {e : Env} {s : State} {m : MethodId} {below : List Frame} {meth : Method} {c : Code} {D : va_G} {sa : Nat → Nat} {ad : Nat → Nat} {ca : Nat → ClassId} {sz : Nat} {f0 : wF} {a0 : wA} {b0 : wB} {y1 : Int32} {po : Int32 → wF → wA → wB → Prop} (X : cx Wl (tyS ca) txS D vwCl sa (va_A (ww nS kS ad ca f0 a0 b0) sz) p l s m ([.ref (ad 1), .int y1] : List Value).toArray meth c cP_presentIsPlan 6 "SendBest$Pairing") (hr : meth.sig.returnType = (some .boolean)) : ∀ n : Nat, ∀ (x1 : Int32) (x2 : Int32) (x3 : Int32) (x4 : Int32) (f : wF) (a : wA) (b : wB), wp_P_presentIsPlan_7 po n x1 x2 x3 x4 f a b → ∀ (H : Heap) (locs : List Loc), wd nS kS D vwCl ad ca (va_A (ww nS kS ad ca f0 a0 b0) sz) s H locs f a b → ∀ (ls : Array Slot), lv_has ls 6 [(0, .ref (ad 1)), (1, .int x1), (2, .int x2), (3, .int x3), (4, .int x4)] → W p l e ({ frames := 0, cells := 0, slots := 0, locals := 0 }) s m ([.ref (ad 1), .int y1] : List Value).toArray below meth c H locs 0 0 (vx_MQ below (va_Qi (fun r (u : wF × wA × wB) => po r u.1 u.2.1 u.2.2) (sPost nS kS D vwCl ad ca (va_A (ww nS kS ad ca f0 a0 b0) sz)) (va_A (ww nS kS ad ca f0 a0 b0) sz)) (sX nS kS D vwCl ad ca (va_A (ww nS kS ad ca f0 a0 b0) sz) (fun _ _ _ _ => False)) ([.ref (ad 1), .int y1] : List Value).toArray s 0 0 (va_A (ww nS kS ad ca f0 a0 b0) sz)) (F0 m 7 ls []) := by
  obtain ⟨hx, hb, hml, hown, hts, hK, hA, hth, hlk, hl9, hex⟩ := id X
  intro n
  induction n with
  | zero => intro x1 x2 x3 x4 f a b hw; exact hw.elim
  | succ n ih =>
    intro x1 x2 x3 x4 f a b hw H locs K ls hl
    dsimp only [wp_P_presentIsPlan_7] at hw
    refine lv_iload hx hb dP_presentIsPlan_7 (lv_at hl 4 rfl) ?_
    refine lv_aload_n hx hb dP_presentIsPlan_9 rfl (lv_at hl 0 rfl) ?_
    refine gGet X K (o := 1) (k := 0) (v := .int (f 5)) (by decide) kS_o1 rfl inS_o1 (by decide) (tm1 (i := 33) rfl rfl) rfl dP_presentIsPlan_10 ?_
    refine lv_icmp_ge (tgt := 74) hx hb dP_presentIsPlan_13 (by decide) (fun hc => ?_) (fun hc => ?_)
    · replace hw := hw.1 hc
      refine lv_iload_n hx hb dP_presentIsPlan_74 rfl (lv_at hl 3 rfl) ?_
      refine lv_if_eq (tgt := 83) hx hb dP_presentIsPlan_75 (by decide) (fun hc => ?_) (fun hc => ?_)
      · replace hw := hw.1 hc
        exact LP_presentIsPlan_83 X hr f a b hw _ _ K _ (lv_sub hl [] rfl)
      · replace hw := hw.2 hc
        refine lv_iload_n hx hb dP_presentIsPlan_78 rfl (lv_at hl 2 rfl) ?_
        refine lv_iload_n hx hb dP_presentIsPlan_79 rfl (lv_at hl 1 rfl) ?_
        refine lv_icmp_gt (tgt := 87) hx hb dP_presentIsPlan_80 (by decide) (fun hc => ?_) (fun hc => ?_)
        · replace hw := hw.1 hc
          refine lv_iconst (v := (0 : Int32)) hx hb dP_presentIsPlan_87 (by decide) ?_
          exact LP_presentIsPlan_88 X hr (0 : Int32) f a b hw _ _ K _ (lv_sub hl [] rfl)
        · replace hw := hw.2 hc
          exact LP_presentIsPlan_83 X hr f a b hw _ _ K _ (lv_sub hl [] rfl)
    · replace hw := hw.2 hc
      refine lv_aload_n hx hb dP_presentIsPlan_16 rfl (lv_at hl 0 rfl) ?_
      refine gGet X K (o := 1) (k := 7) (v := .ref (ad 18)) (by decide) kS_o1 rfl inS_o1 (by decide) (tm1 (i := 40) rfl rfl) rfl dP_presentIsPlan_17 ?_
      refine lv_iload hx hb dP_presentIsPlan_20 (lv_at hl 4 rfl) ?_
      obtain ⟨hi, hw⟩ := hw
      refine gild X K (o := 18) (t0 := 0) (by decide) kS_c18 rfl hi dP_presentIsPlan_22 ?_
      refine lv_istore (lv' := [(5, .int (a 18 x4.toNatClampNeg)), (0, .ref (ad 1)), (1, .int x1), (2, .int x2), (3, .int x3), (4, .int x4)]) hx hb dP_presentIsPlan_23 hl (by decide) rfl (fun ls hl => ?_)
      refine lv_iload hx hb dP_presentIsPlan_25 (lv_at hl 0 rfl) ?_
      refine lv_iconst (v := (-1 : Int32)) hx hb dP_presentIsPlan_27 (by decide) ?_
      refine lv_icmp_eq (tgt := 68) hx hb dP_presentIsPlan_28 (by decide) (fun hc => ?_) (fun hc => ?_)
      · replace hw := hw.1 hc
        exact LP_presentIsPlan_68 X hr (wp_P_presentIsPlan_7 po n) ih x1 x2 x3 x4 f a b hw _ _ K _ (lv_sub hl [1, 2, 3, 4, 5] rfl)
      · replace hw := hw.2 hc
        refine lv_aload_n hx hb dP_presentIsPlan_31 rfl (lv_at hl 1 rfl) ?_
        refine gGet X K (o := 1) (k := 3) (v := .ref (ad 14)) (by decide) kS_o1 rfl inS_o1 (by decide) (tm1 (i := 36) rfl rfl) rfl dP_presentIsPlan_32 ?_
        refine lv_iload hx hb dP_presentIsPlan_35 (lv_at hl 5 rfl) ?_
        obtain ⟨hi_cost, hw⟩ := hw
        refine gald X K (o := 14) (t0 := 4) (by decide) kS_c14 rfl hi_cost dP_presentIsPlan_37 ?_
        refine lv_iload hx hb dP_presentIsPlan_38 (lv_at hl 0 rfl) ?_
        obtain ⟨hi, hw⟩ := hw
        refine glld X K (o := (37 + x4.toNatClampNeg)) (t0 := 2) (rS_cost_lt hi_cost) (kS_r_cost hi_cost) rfl hi dP_presentIsPlan_40 ?_
        refine lv_lconst (v := (0 : Int64)) hx hb dP_presentIsPlan_41 (by decide) ?_
        refine W.lcmp hx hb dP_presentIsPlan_42 ?_
        refine lv_if_ne (tgt := 48) hx hb dP_presentIsPlan_43 (by decide) (fun hc => ?_) (fun hc => ?_)
        · replace hw := hw.1 hc
          refine lv_iinc (v := (x2 + (1 : Int32))) (lv' := [(2, .int (x2 + (1 : Int32))), (5, .int (a 18 x4.toNatClampNeg)), (0, .ref (ad 1)), (1, .int x1), (3, .int x3), (4, .int x4)]) hx hb dP_presentIsPlan_48 hl (k := 3) rfl rfl (by decide) rfl (fun ls hl => ?_)
          refine lv_iload_n hx hb dP_presentIsPlan_51 rfl (lv_at hl 4 rfl) ?_
          refine lv_iload hx hb dP_presentIsPlan_52 (lv_at hl 5 rfl) ?_
          refine lv_aload_n hx hb dP_presentIsPlan_54 rfl (lv_at hl 2 rfl) ?_
          refine gGet X K (o := 1) (k := 1) (v := .int (f 6)) (by decide) kS_o1 rfl inS_o1 (by decide) (tm1 (i := 34) rfl rfl) rfl dP_presentIsPlan_55 ?_
          refine lv_icmp_lt (tgt := 65) hx hb dP_presentIsPlan_58 (by decide) (fun hc => ?_) (fun hc => ?_)
          · replace hw := hw.1 hc
            refine lv_iconst (v := (0 : Int32)) hx hb dP_presentIsPlan_65 (by decide) ?_
            exact LP_presentIsPlan_66 X hr (wp_P_presentIsPlan_7 po n) ih (0 : Int32) x3 x1 (x2 + (1 : Int32)) x4 f a b hw _ _ K _ (lv_sub hl [2, 3, 0, 5] rfl)
          · replace hw := hw.2 hc
            refine lv_iconst (v := (1 : Int32)) hx hb dP_presentIsPlan_61 (by decide) ?_
            refine lv_goto (tgt := 66) hx hb dP_presentIsPlan_62 (by decide) ?_
            exact LP_presentIsPlan_66 X hr (wp_P_presentIsPlan_7 po n) ih (1 : Int32) x3 x1 (x2 + (1 : Int32)) x4 f a b hw _ _ K _ (lv_sub hl [2, 3, 0, 5] rfl)
        · replace hw := hw.2 hc
          refine lv_iconst (v := (0 : Int32)) hx hb dP_presentIsPlan_46 (by decide) ?_
          exact endI X K hr hw.1 hw.2 (by decide) (by decide) dP_presentIsPlan_47
set_option maxHeartbeats 4000000 in
set_option maxRecDepth 100000 in
theorem met_P_presentIsPlan {l : Launch} (hl9 : l.stackTraces = false) (D : va_G) (ad : Nat → Nat) (ca : Nat → ClassId) (sa : Nat → Nat) (sz : Nat) (x1 : Int32) (f : wF) (a : wA) (b : wB) (po : Int32 → wF → wA → wB → Prop) (hw : wp_P_presentIsPlan po x1 f a b) : mI nS kS (tyS ca) txS D vwCl l yP_presentIsPlan (Cond.code yP_presentIsPlan cP_presentIsPlan 6 (some .boolean) :: Wl) ({ frames := 0, cells := 0, slots := 0, locals := 0 }) [.ref (ad 1), .int x1] ad ca sa sz f a b po (fun _ _ _ _ => False) 0 0 := by
  refine ofI (by decide) hl9 (Nat.le_of_ble_eq_true rfl) ?_
  intro p e s m below meth c ls X hr K hl
  obtain ⟨hx, hb, hml, hown, hts, hK, hA, hth, hlk, hl9, hex⟩ := id X
  have hl : lv_has ls 6 [(0, .ref (ad 1)), (1, .int x1)] := hl
  dsimp only [wp_P_presentIsPlan] at hw
  refine lv_iconst (v := (0 : Int32)) hx hb dP_presentIsPlan_0 (by decide) ?_
  refine lv_istore_n (lv' := [(2, .int (0 : Int32)), (0, .ref (ad 1)), (1, .int x1)]) hx hb dP_presentIsPlan_1 rfl hl (by decide) rfl (fun ls hl => ?_)
  refine lv_iconst (v := (0 : Int32)) hx hb dP_presentIsPlan_2 (by decide) ?_
  refine lv_istore_n (lv' := [(3, .int (0 : Int32)), (2, .int (0 : Int32)), (0, .ref (ad 1)), (1, .int x1)]) hx hb dP_presentIsPlan_3 rfl hl (by decide) rfl (fun ls hl => ?_)
  refine lv_iconst (v := (0 : Int32)) hx hb dP_presentIsPlan_4 (by decide) ?_
  refine lv_istore (lv' := [(4, .int (0 : Int32)), (3, .int (0 : Int32)), (2, .int (0 : Int32)), (0, .ref (ad 1)), (1, .int x1)]) hx hb dP_presentIsPlan_5 hl (by decide) rfl (fun ls hl => ?_)
  obtain ⟨n9, hw⟩ := hw
  exact LP_presentIsPlan_7 X hr n9 x1 (0 : Int32) (0 : Int32) (0 : Int32) f a b hw _ _ K _ (lv_sub hl [3, 4, 2, 1, 0] rfl)
set_option maxHeartbeats 4000000 in
set_option maxRecDepth 100000 in
theorem met_P_savedByBest {l : Launch} (hl9 : l.stackTraces = false) (D : va_G) (ad : Nat → Nat) (ca : Nat → ClassId) (sa : Nat → Nat) (sz : Nat)  (f : wF) (a : wA) (b : wB) (po : Int64 → wF → wA → wB → Prop) (hw : wp_P_savedByBest po f a b) : mL nS kS (tyS ca) txS D vwCl l yP_savedByBest (Cond.code yP_savedByBest cP_savedByBest 1 (some .long) :: Wl) ({ frames := 1, cells := 0, slots := 0, locals := 25 }) [.ref (ad 1)] ad ca sa sz f a b po (fun _ _ _ _ => False) 0 0 := by
  refine ofL (by decide) hl9 (Nat.le_of_ble_eq_true rfl) ?_
  intro p e s m below meth c ls X hr K hl
  obtain ⟨hx, hb, hml, hown, hts, hK, hA, hth, hlk, hl9, hex⟩ := id X
  have hl : lv_has ls 1 [(0, .ref (ad 1))] := hl
  dsimp only [wp_P_savedByBest] at hw
  refine lv_aload_n hx hb dP_savedByBest_0 rfl (lv_at hl 0 rfl) ?_
  refine lv_aload_n hx hb dP_savedByBest_1 rfl (lv_at hl 0 rfl) ?_
  refine gGet X K (o := 1) (k := 3) (v := .ref (ad 14)) (by decide) kS_o1 rfl inS_o1 (by decide) (tm1 (i := 36) rfl rfl) rfl dP_savedByBest_2 ?_
  refine lv_aload_n hx hb dP_savedByBest_5 rfl (lv_at hl 0 rfl) ?_
  refine gGet X K (o := 1) (k := 7) (v := .ref (ad 18)) (by decide) kS_o1 rfl inS_o1 (by decide) (tm1 (i := 40) rfl rfl) rfl dP_savedByBest_6 ?_
  refine gcL X K (n0 := 2) (As := [.ref (ad 14), .ref (ad 18)]) (rest := []) (hM := (met_P_total_14_18 hl9 D ad ca sa _ f a b _ hw)) (o := 1) (ho := by decide) (hko := kS_o1) (hci := rfl) (hg := wl_good) (w1 := (tm2 (i := 212) rfl rfl)) (w2 := (tm2 (i := 214) rfl rfl)) (w3 := (tm0 (i := 21) rfl rfl)) (w4 := (tm1 (i := 2) rfl rfl)) (w5 := (tm2 (i := 215) rfl rfl)) (hd := ⟨rfl, by decide, by decide, by decide +kernel⟩) (hrc := rfl) (hrs := rfl) (hR := ⟨Nat.le_of_ble_eq_true rfl, Nat.le_of_ble_eq_true rfl⟩) (hn := rfl) (hsz := hl.1) (hst := rfl) (hW := Nat.le_of_ble_eq_true rfl) (hdg := dP_savedByBest_9) (hf := ⟨Nat.le_of_ble_eq_true rfl, Nat.le_of_ble_eq_true rfl⟩) (fun _ _ _ _ _ _ _ _ hw => hw.elim) (fun r9 f9 a9 b9 H locs hw K => ?_)
  refine lv_aload_n hx hb dP_savedByBest_12 rfl (lv_at hl 0 rfl) ?_
  refine lv_aload_n hx hb dP_savedByBest_13 rfl (lv_at hl 0 rfl) ?_
  refine gGet X K (o := 1) (k := 3) (v := .ref (ad 14)) (by decide) kS_o1 rfl inS_o1 (by decide) (tm1 (i := 36) rfl rfl) rfl dP_savedByBest_14 ?_
  refine lv_aload_n hx hb dP_savedByBest_17 rfl (lv_at hl 0 rfl) ?_
  refine gGet X K (o := 1) (k := 5) (v := .ref (ad 16)) (by decide) kS_o1 rfl inS_o1 (by decide) (tm1 (i := 38) rfl rfl) rfl dP_savedByBest_18 ?_
  refine gcL X K (n0 := 2) (As := [.ref (ad 14), .ref (ad 16)]) (rest := [.long r9]) (hM := (met_P_total_14_16 hl9 D ad ca sa _ f9 a9 b9 _ hw)) (o := 1) (ho := by decide) (hko := kS_o1) (hci := rfl) (hg := wl_good) (w1 := (tm2 (i := 212) rfl rfl)) (w2 := (tm2 (i := 214) rfl rfl)) (w3 := (tm0 (i := 21) rfl rfl)) (w4 := (tm1 (i := 2) rfl rfl)) (w5 := (tm2 (i := 215) rfl rfl)) (hd := ⟨rfl, by decide, by decide, by decide +kernel⟩) (hrc := rfl) (hrs := rfl) (hR := ⟨Nat.le_of_ble_eq_true rfl, Nat.le_of_ble_eq_true rfl⟩) (hn := rfl) (hsz := hl.1) (hst := rfl) (hW := Nat.le_of_ble_eq_true rfl) (hdg := dP_savedByBest_21) (hf := ⟨Nat.le_of_ble_eq_true rfl, Nat.le_of_ble_eq_true rfl⟩) (fun _ _ _ _ _ _ _ _ hw => hw.elim) (fun r21 f21 a21 b21 H locs hw K => ?_)
  refine lv_lsub hx hb dP_savedByBest_24 ?_
  exact endL X K hr hw (by decide) (by decide) dP_savedByBest_25
set_option maxHeartbeats 4000000 in
set_option maxRecDepth 100000 in
theorem met_P_needOfRow {l : Launch} (hl9 : l.stackTraces = false) (D : va_G) (ad : Nat → Nat) (ca : Nat → ClassId) (sa : Nat → Nat) (sz : Nat) (x1 : Int32) (f : wF) (a : wA) (b : wB) (po : Int32 → wF → wA → wB → Prop) (hw : wp_P_needOfRow po x1 f a b) : mI nS kS (tyS ca) txS D vwCl l yP_needOfRow (Cond.code yP_needOfRow cP_needOfRow 2 (some .int) :: Wl) ({ frames := 0, cells := 0, slots := 0, locals := 0 }) [.ref (ad 1), .int x1] ad ca sa sz f a b po (fun _ _ _ _ => False) 0 0 := by
  refine ofI (by decide) hl9 (Nat.le_of_ble_eq_true rfl) ?_
  intro p e s m below meth c ls X hr K hl
  obtain ⟨hx, hb, hml, hown, hts, hK, hA, hth, hlk, hl9, hex⟩ := id X
  have hl : lv_has ls 2 [(0, .ref (ad 1)), (1, .int x1)] := hl
  dsimp only [wp_P_needOfRow] at hw
  refine lv_aload_n hx hb dP_needOfRow_0 rfl (lv_at hl 0 rfl) ?_
  refine gGet X K (o := 1) (k := 2) (v := .ref (ad 13)) (by decide) kS_o1 rfl inS_o1 (by decide) (tm1 (i := 35) rfl rfl) rfl dP_needOfRow_1 ?_
  refine lv_iload_n hx hb dP_needOfRow_4 rfl (lv_at hl 1 rfl) ?_
  obtain ⟨hi, hw⟩ := hw
  refine gild X K (o := 13) (t0 := 0) (by decide) kS_c13 rfl hi dP_needOfRow_5 ?_
  exact endI X K hr rfl hw (by decide) (by decide) dP_needOfRow_6
set_option maxHeartbeats 4000000 in
set_option maxRecDepth 100000 in
theorem met_P_setPresent {l : Launch} (hl9 : l.stackTraces = false) (D : va_G) (ad : Nat → Nat) (ca : Nat → ClassId) (sa : Nat → Nat) (sz : Nat) (x1 : Int32) (x2 : Int32) (f : wF) (a : wA) (b : wB) (po : wF → wA → wB → Prop) (hw : wp_P_setPresent po x1 x2 f a b) : mV nS kS (tyS ca) txS D vwCl l yP_setPresent (Cond.code yP_setPresent cP_setPresent 3 none :: Wl) ({ frames := 0, cells := 0, slots := 0, locals := 0 }) [.ref (ad 1), .int x1, .int x2] ad ca sa sz f a b po (fun _ _ _ _ => False) 0 0 := by
  refine ofV (by decide) hl9 (Nat.le_of_ble_eq_true rfl) ?_
  intro p e s m below meth c ls X hr K hl
  obtain ⟨hx, hb, hml, hown, hts, hK, hA, hth, hlk, hl9, hex⟩ := id X
  have hl : lv_has ls 3 [(0, .ref (ad 1)), (1, .int x1), (2, .int x2)] := hl
  dsimp only [wp_P_setPresent] at hw
  refine lv_aload_n hx hb dP_setPresent_0 rfl (lv_at hl 0 rfl) ?_
  refine gGet X K (o := 1) (k := 7) (v := .ref (ad 18)) (by decide) kS_o1 rfl inS_o1 (by decide) (tm1 (i := 40) rfl rfl) rfl dP_setPresent_1 ?_
  refine lv_iload_n hx hb dP_setPresent_4 rfl (lv_at hl 1 rfl) ?_
  refine lv_iload_n hx hb dP_setPresent_5 rfl (lv_at hl 2 rfl) ?_
  obtain ⟨hi, hw⟩ := hw
  refine gist X K (o := 18) (t0 := 0) (by decide) kS_c18 rfl hi dP_setPresent_6 kS_p18 (fun H locs K => ?_)
  exact endV X K hr hw (by decide) (by decide) dP_setPresent_7
set_option maxHeartbeats 4000000 in
set_option maxRecDepth 100000 in
theorem LS_presentStays_69 {p : Program} {l : Launch} {e : Env} {s : State} {m : MethodId} {below : List Frame} {meth : Method} {c : Code} {D : va_G} {sa : Nat → Nat} {ad : Nat → Nat} {ca : Nat → ClassId} {sz : Nat} {f0 : wF} {a0 : wA} {b0 : wB} {y1 : Int32} {y2 : Int32} {po : Int32 → wF → wA → wB → Prop} (X : cx Wl (tyS ca) txS D vwCl sa (va_A (ww nS kS ad ca f0 a0 b0) sz) p l s m ([.ref (ad 0), .int y1, .int y2] : List Value).toArray meth c cS_presentStays 4 "SendBest") (hr : meth.sig.returnType = (some .boolean)) : ∀ (k0 : Int32) (f : wF) (a : wA) (b : wB), wp_S_presentStays_69 po k0 f a b → ∀ (H : Heap) (locs : List Loc), wd nS kS D vwCl ad ca (va_A (ww nS kS ad ca f0 a0 b0) sz) s H locs f a b → ∀ (ls : Array Slot), lv_has ls 4 [] → W p l e ({ frames := 2, cells := 0, slots := 0, locals := 45 }) s m ([.ref (ad 0), .int y1, .int y2] : List Value).toArray below meth c H locs 0 0 (vx_MQ below (va_Qi (fun r (u : wF × wA × wB) => po r u.1 u.2.1 u.2.2) (sPost nS kS D vwCl ad ca (va_A (ww nS kS ad ca f0 a0 b0) sz)) (va_A (ww nS kS ad ca f0 a0 b0) sz)) (sX nS kS D vwCl ad ca (va_A (ww nS kS ad ca f0 a0 b0) sz) (fun _ _ _ _ => False)) ([.ref (ad 0), .int y1, .int y2] : List Value).toArray s 0 0 (va_A (ww nS kS ad ca f0 a0 b0) sz)) (F0 m 69 ls [.int k0]) := by
  obtain ⟨hx, hb, hml, hown, hts, hK, hA, hth, hlk, hl9, hex⟩ := id X
  intro k0 f a b hw H locs K ls hl
  dsimp only [wp_S_presentStays_69] at hw
  exact endI X K hr hw.1 hw.2 (by decide) (by decide) dS_presentStays_69
set_option maxHeartbeats 4000000 in
set_option maxRecDepth 100000 in
theorem LS_presentStays_68 {p : Program} {l : Launch} {e : Env} {s : State} {m : MethodId} {below : List Frame} {meth : Method} {c : Code} {D : va_G} {sa : Nat → Nat} {ad : Nat → Nat} {ca : Nat → ClassId} {sz : Nat} {f0 : wF} {a0 : wA} {b0 : wB} {y1 : Int32} {y2 : Int32} {po : Int32 → wF → wA → wB → Prop} (X : cx Wl (tyS ca) txS D vwCl sa (va_A (ww nS kS ad ca f0 a0 b0) sz) p l s m ([.ref (ad 0), .int y1, .int y2] : List Value).toArray meth c cS_presentStays 4 "SendBest") (hr : meth.sig.returnType = (some .boolean)) : ∀ (f : wF) (a : wA) (b : wB), wp_S_presentStays_68 po f a b → ∀ (H : Heap) (locs : List Loc), wd nS kS D vwCl ad ca (va_A (ww nS kS ad ca f0 a0 b0) sz) s H locs f a b → ∀ (ls : Array Slot), lv_has ls 4 [] → W p l e ({ frames := 2, cells := 0, slots := 0, locals := 45 }) s m ([.ref (ad 0), .int y1, .int y2] : List Value).toArray below meth c H locs 0 0 (vx_MQ below (va_Qi (fun r (u : wF × wA × wB) => po r u.1 u.2.1 u.2.2) (sPost nS kS D vwCl ad ca (va_A (ww nS kS ad ca f0 a0 b0) sz)) (va_A (ww nS kS ad ca f0 a0 b0) sz)) (sX nS kS D vwCl ad ca (va_A (ww nS kS ad ca f0 a0 b0) sz) (fun _ _ _ _ => False)) ([.ref (ad 0), .int y1, .int y2] : List Value).toArray s 0 0 (va_A (ww nS kS ad ca f0 a0 b0) sz)) (F0 m 68 ls []) := by
  obtain ⟨hx, hb, hml, hown, hts, hK, hA, hth, hlk, hl9, hex⟩ := id X
  intro  f a b hw H locs K ls hl
  dsimp only [wp_S_presentStays_68] at hw
  refine lv_iconst (v := (0 : Int32)) hx hb dS_presentStays_68 (by decide) ?_
  exact LS_presentStays_69 X hr (0 : Int32) f a b hw _ _ K _ (lv_sub hl [] rfl)
set_option maxHeartbeats 4000000 in
set_option maxRecDepth 100000 in
theorem LS_presentStays_2 {p : Program} {l : Launch} {e : Env} {s : State} {m : MethodId} {below : List Frame} {meth : Method} {c : Code} {D : va_G} {sa : Nat → Nat} {ad : Nat → Nat} {ca : Nat → ClassId} {sz : Nat} {f0 : wF} {a0 : wA} {b0 : wB} {y1 : Int32} {y2 : Int32} {po : Int32 → wF → wA → wB → Prop} (X : cx Wl (tyS ca) txS D vwCl sa (va_A (ww nS kS ad ca f0 a0 b0) sz) p l s m ([.ref (ad 0), .int y1, .int y2] : List Value).toArray meth c cS_presentStays 4 "SendBest") (hr : meth.sig.returnType = (some .boolean)) : ∀ n : Nat, ∀ (x1 : Int32) (x2 : Int32) (x3 : Int32) (f : wF) (a : wA) (b : wB), wp_S_presentStays_2 po n x1 x2 x3 f a b → ∀ (H : Heap) (locs : List Loc), wd nS kS D vwCl ad ca (va_A (ww nS kS ad ca f0 a0 b0) sz) s H locs f a b → ∀ (ls : Array Slot), lv_has ls 4 [(0, .ref (ad 0)), (1, .int x1), (2, .int x2), (3, .int x3)] → W p l e ({ frames := 2, cells := 0, slots := 0, locals := 45 }) s m ([.ref (ad 0), .int y1, .int y2] : List Value).toArray below meth c H locs 0 0 (vx_MQ below (va_Qi (fun r (u : wF × wA × wB) => po r u.1 u.2.1 u.2.2) (sPost nS kS D vwCl ad ca (va_A (ww nS kS ad ca f0 a0 b0) sz)) (va_A (ww nS kS ad ca f0 a0 b0) sz)) (sX nS kS D vwCl ad ca (va_A (ww nS kS ad ca f0 a0 b0) sz) (fun _ _ _ _ => False)) ([.ref (ad 0), .int y1, .int y2] : List Value).toArray s 0 0 (va_A (ww nS kS ad ca f0 a0 b0) sz)) (F0 m 2 ls []) := by
  obtain ⟨hx, hb, hml, hown, hts, hK, hA, hth, hlk, hl9, hex⟩ := id X
  intro n
  induction n with
  | zero => intro x1 x2 x3 f a b hw; exact hw.elim
  | succ n ih =>
    intro x1 x2 x3 f a b hw H locs K ls hl
    dsimp only [wp_S_presentStays_2] at hw
    refine lv_iload_n hx hb dS_presentStays_2 rfl (lv_at hl 3 rfl) ?_
    refine lv_aload_n hx hb dS_presentStays_3 rfl (lv_at hl 0 rfl) ?_
    refine gGet X K (o := 0) (k := 16) (v := .ref (ad 1)) (by decide) kS_o0 rfl inS_o0 (by decide) (tm1 (i := 98) rfl rfl) rfl dS_presentStays_4 ?_
    refine gcI X K (n0 := 0) (As := []) (rest := [.int x3]) (hM := (met_P_rows hl9 D ad ca sa _ f a b _ hw)) (o := 1) (ho := by decide) (hko := kS_o1) (hci := rfl) (hg := wl_good) (w1 := (tm2 (i := 223) rfl rfl)) (w2 := (tm2 (i := 224) rfl rfl)) (w3 := (tm2 (i := 225) rfl rfl)) (w4 := (tm1 (i := 2) rfl rfl)) (w5 := (tm2 (i := 226) rfl rfl)) (hd := ⟨rfl, by decide, by decide, by decide +kernel⟩) (hrc := rfl) (hrs := rfl) (hR := ⟨Nat.le_of_ble_eq_true rfl, Nat.le_of_ble_eq_true rfl⟩) (hn := rfl) (hsz := hl.1) (hst := rfl) (hW := Nat.le_of_ble_eq_true rfl) (hdg := dS_presentStays_7) (hf := ⟨Nat.le_of_ble_eq_true rfl, Nat.le_of_ble_eq_true rfl⟩) (fun _ _ _ _ _ _ _ _ hw => hw.elim) (fun r7 f7 a7 b7 H locs hw K => ?_)
    refine lv_icmp_ge (tgt := 40) hx hb dS_presentStays_10 (by decide) (fun hc => ?_) (fun hc => ?_)
    · replace hw := hw.1 hc
      refine lv_aload_n hx hb dS_presentStays_40 rfl (lv_at hl 0 rfl) ?_
      refine gGet X K (o := 0) (k := 16) (v := .ref (ad 1)) (by decide) kS_o0 rfl inS_o0 (by decide) (tm1 (i := 98) rfl rfl) rfl dS_presentStays_41 ?_
      refine lv_iload_n hx hb dS_presentStays_44 rfl (lv_at hl 1 rfl) ?_
      refine gcI X K (n0 := 1) (As := [.int x1]) (rest := []) (hM := (met_P_presentIsPlan hl9 D ad ca sa _ x1 f7 a7 b7 _ hw)) (o := 1) (ho := by decide) (hko := kS_o1) (hci := rfl) (hg := wl_good) (w1 := (tm2 (i := 235) rfl rfl)) (w2 := (tm2 (i := 236) rfl rfl)) (w3 := (tm2 (i := 237) rfl rfl)) (w4 := (tm1 (i := 2) rfl rfl)) (w5 := (tm2 (i := 238) rfl rfl)) (hd := ⟨rfl, by decide, by decide, by decide +kernel⟩) (hrc := rfl) (hrs := rfl) (hR := ⟨Nat.le_of_ble_eq_true rfl, Nat.le_of_ble_eq_true rfl⟩) (hn := rfl) (hsz := hl.1) (hst := rfl) (hW := Nat.le_of_ble_eq_true rfl) (hdg := dS_presentStays_45) (hf := ⟨Nat.le_of_ble_eq_true rfl, Nat.le_of_ble_eq_true rfl⟩) (fun _ _ _ _ _ _ _ _ hw => hw.elim) (fun r45 f45 a45 b45 H locs hw K => ?_)
      refine lv_if_eq (tgt := 68) hx hb dS_presentStays_48 (by decide) (fun hc => ?_) (fun hc => ?_)
      · replace hw := hw.1 hc
        exact LS_presentStays_68 X hr f45 a45 b45 hw _ _ K _ (lv_sub hl [] rfl)
      · replace hw := hw.2 hc
        refine lv_aload_n hx hb dS_presentStays_51 rfl (lv_at hl 0 rfl) ?_
        refine gGet X K (o := 0) (k := 16) (v := .ref (ad 1)) (by decide) kS_o0 rfl inS_o0 (by decide) (tm1 (i := 98) rfl rfl) rfl dS_presentStays_52 ?_
        refine gcL X K (n0 := 0) (As := []) (rest := []) (hM := (met_P_savedByBest hl9 D ad ca sa _ f45 a45 b45 _ hw)) (o := 1) (ho := by decide) (hko := kS_o1) (hci := rfl) (hg := wl_good) (w1 := (tm2 (i := 239) rfl rfl)) (w2 := (tm3 (i := 0) rfl rfl)) (w3 := (tm3 (i := 1) rfl rfl)) (w4 := (tm1 (i := 2) rfl rfl)) (w5 := (tm3 (i := 2) rfl rfl)) (hd := ⟨rfl, by decide, by decide, by decide +kernel⟩) (hrc := rfl) (hrs := rfl) (hR := ⟨Nat.le_of_ble_eq_true rfl, Nat.le_of_ble_eq_true rfl⟩) (hn := rfl) (hsz := hl.1) (hst := rfl) (hW := Nat.le_of_ble_eq_true rfl) (hdg := dS_presentStays_55) (hf := ⟨Nat.le_of_ble_eq_true rfl, Nat.le_of_ble_eq_true rfl⟩) (fun _ _ _ _ _ _ _ _ hw => hw.elim) (fun r55 f55 a55 b55 H locs hw K => ?_)
        refine lv_iload_n hx hb dS_presentStays_58 rfl (lv_at hl 2 rfl) ?_
        refine lv_i2l (v := x2.toInt64) hx hb dS_presentStays_59 rfl ?_
        refine W.lcmp hx hb dS_presentStays_60 ?_
        refine lv_if_ge (tgt := 68) hx hb dS_presentStays_61 (by decide) (fun hc => ?_) (fun hc => ?_)
        · replace hw := hw.1 hc
          exact LS_presentStays_68 X hr f55 a55 b55 hw _ _ K _ (lv_sub hl [] rfl)
        · replace hw := hw.2 hc
          refine lv_iconst (v := (1 : Int32)) hx hb dS_presentStays_64 (by decide) ?_
          refine lv_goto (tgt := 69) hx hb dS_presentStays_65 (by decide) ?_
          exact LS_presentStays_69 X hr (1 : Int32) f55 a55 b55 hw _ _ K _ (lv_sub hl [] rfl)
    · replace hw := hw.2 hc
      refine lv_aload_n hx hb dS_presentStays_13 rfl (lv_at hl 0 rfl) ?_
      refine gGet X K (o := 0) (k := 16) (v := .ref (ad 1)) (by decide) kS_o0 rfl inS_o0 (by decide) (tm1 (i := 98) rfl rfl) rfl dS_presentStays_14 ?_
      refine lv_iload_n hx hb dS_presentStays_17 rfl (lv_at hl 3 rfl) ?_
      refine lv_aload_n hx hb dS_presentStays_18 rfl (lv_at hl 0 rfl) ?_
      refine gGet X K (o := 0) (k := 12) (v := .ref (ad 11)) (by decide) kS_o0 rfl inS_o0 (by decide) (tm1 (i := 94) rfl rfl) rfl dS_presentStays_19 ?_
      refine lv_aload_n hx hb dS_presentStays_22 rfl (lv_at hl 0 rfl) ?_
      refine gGet X K (o := 0) (k := 16) (v := .ref (ad 1)) (by decide) kS_o0 rfl inS_o0 (by decide) (tm1 (i := 98) rfl rfl) rfl dS_presentStays_23 ?_
      refine lv_iload_n hx hb dS_presentStays_26 rfl (lv_at hl 3 rfl) ?_
      refine gcI X K (n0 := 1) (As := [.int x3]) (rest := [.ref (ad 11), .int x3, .ref (ad 1)]) (hM := (met_P_needOfRow hl9 D ad ca sa _ x3 f7 a7 b7 _ hw)) (o := 1) (ho := by decide) (hko := kS_o1) (hci := rfl) (hg := wl_good) (w1 := (tm2 (i := 227) rfl rfl)) (w2 := (tm2 (i := 228) rfl rfl)) (w3 := (tm2 (i := 229) rfl rfl)) (w4 := (tm1 (i := 2) rfl rfl)) (w5 := (tm2 (i := 230) rfl rfl)) (hd := ⟨rfl, by decide, by decide, by decide +kernel⟩) (hrc := rfl) (hrs := rfl) (hR := ⟨Nat.le_of_ble_eq_true rfl, Nat.le_of_ble_eq_true rfl⟩) (hn := rfl) (hsz := hl.1) (hst := rfl) (hW := Nat.le_of_ble_eq_true rfl) (hdg := dS_presentStays_27) (hf := ⟨Nat.le_of_ble_eq_true rfl, Nat.le_of_ble_eq_true rfl⟩) (fun _ _ _ _ _ _ _ _ hw => hw.elim) (fun r27 f27 a27 b27 H locs hw K => ?_)
      obtain ⟨hi, hw⟩ := hw
      refine gild X K (o := 11) (t0 := 0) (by decide) kS_c11 rfl hi dS_presentStays_30 ?_
      refine gcV X K (n0 := 2) (As := [.int x3, .int (a27 11 r27.toNatClampNeg)]) (rest := []) (hM := (met_P_setPresent hl9 D ad ca sa _ x3 (a27 11 r27.toNatClampNeg) f27 a27 b27 _ hw)) (o := 1) (ho := by decide) (hko := kS_o1) (hci := rfl) (hg := wl_good) (w1 := (tm2 (i := 231) rfl rfl)) (w2 := (tm2 (i := 232) rfl rfl)) (w3 := (tm2 (i := 233) rfl rfl)) (w4 := (tm1 (i := 2) rfl rfl)) (w5 := (tm2 (i := 234) rfl rfl)) (hd := ⟨rfl, by decide, by decide, by decide +kernel⟩) (hrc := rfl) (hrs := rfl) (hR := ⟨Nat.le_of_ble_eq_true rfl, Nat.le_of_ble_eq_true rfl⟩) (hn := rfl) (hsz := hl.1) (hst := rfl) (hW := Nat.le_of_ble_eq_true rfl) (hdg := dS_presentStays_31) (hf := ⟨Nat.le_of_ble_eq_true rfl, Nat.le_of_ble_eq_true rfl⟩) (fun _ _ _ _ _ _ _ _ hw => hw.elim) (fun f31 a31 b31 H locs hw K => ?_)
      refine lv_iinc (v := (x3 + (1 : Int32))) (lv' := [(3, .int (x3 + (1 : Int32))), (0, .ref (ad 0)), (1, .int x1), (2, .int x2)]) hx hb dS_presentStays_34 hl (k := 3) rfl rfl (by decide) rfl (fun ls hl => ?_)
      refine lv_goto (tgt := 2) hx hb dS_presentStays_37 (by decide) ?_
      exact ih x1 x2 (x3 + (1 : Int32)) f31 a31 b31 hw _ _ K _ (lv_sub hl [1, 2, 3, 0] rfl)
set_option maxHeartbeats 4000000 in
set_option maxRecDepth 100000 in
theorem met_S_presentStays {l : Launch} (hl9 : l.stackTraces = false) (D : va_G) (ad : Nat → Nat) (ca : Nat → ClassId) (sa : Nat → Nat) (sz : Nat) (x1 : Int32) (x2 : Int32) (f : wF) (a : wA) (b : wB) (po : Int32 → wF → wA → wB → Prop) (hw : wp_S_presentStays po x1 x2 f a b) : mI nS kS (tyS ca) txS D vwCl l yS_presentStays (Cond.code yS_presentStays cS_presentStays 4 (some .boolean) :: Wl) ({ frames := 2, cells := 0, slots := 0, locals := 45 }) [.ref (ad 0), .int x1, .int x2] ad ca sa sz f a b po (fun _ _ _ _ => False) 0 0 := by
  refine ofI (by decide) hl9 (Nat.le_of_ble_eq_true rfl) ?_
  intro p e s m below meth c ls X hr K hl
  obtain ⟨hx, hb, hml, hown, hts, hK, hA, hth, hlk, hl9, hex⟩ := id X
  have hl : lv_has ls 4 [(0, .ref (ad 0)), (1, .int x1), (2, .int x2)] := hl
  dsimp only [wp_S_presentStays] at hw
  refine lv_iconst (v := (0 : Int32)) hx hb dS_presentStays_0 (by decide) ?_
  refine lv_istore_n (lv' := [(3, .int (0 : Int32)), (0, .ref (ad 0)), (1, .int x1), (2, .int x2)]) hx hb dS_presentStays_1 rfl hl (by decide) rfl (fun ls hl => ?_)
  obtain ⟨n9, hw⟩ := hw
  exact LS_presentStays_2 X hr n9 x1 x2 (0 : Int32) f a b hw _ _ K _ (lv_sub hl [1, 2, 3, 0] rfl)
set_option maxHeartbeats 4000000 in
set_option maxRecDepth 100000 in
theorem LS_countFilled_25 {p : Program} {l : Launch} {e : Env} {s : State} {m : MethodId} {below : List Frame} {meth : Method} {c : Code} {D : va_G} {sa : Nat → Nat} {ad : Nat → Nat} {ca : Nat → ClassId} {sz : Nat} {f0 : wF} {a0 : wA} {b0 : wB} {po : Int32 → wF → wA → wB → Prop} (X : cx Wl (tyS ca) txS D vwCl sa (va_A (ww nS kS ad ca f0 a0 b0) sz) p l s m ([.ref (ad 0)] : List Value).toArray meth c cS_countFilled 3 "SendBest") (hr : meth.sig.returnType = (some .int)) (J4 : Int32 → Int32 → wF → wA → wB → Prop) (hJ4 : ∀ (x1 : Int32) (x2 : Int32) (f : wF) (a : wA) (b : wB), J4 x1 x2 f a b → ∀ (H : Heap) (locs : List Loc), wd nS kS D vwCl ad ca (va_A (ww nS kS ad ca f0 a0 b0) sz) s H locs f a b → ∀ (ls : Array Slot), lv_has ls 3 [(0, .ref (ad 0)), (1, .int x1), (2, .int x2)] → W p l e ({ frames := 0, cells := 0, slots := 0, locals := 0 }) s m ([.ref (ad 0)] : List Value).toArray below meth c H locs 0 0 (vx_MQ below (va_Qi (fun r (u : wF × wA × wB) => po r u.1 u.2.1 u.2.2) (sPost nS kS D vwCl ad ca (va_A (ww nS kS ad ca f0 a0 b0) sz)) (va_A (ww nS kS ad ca f0 a0 b0) sz)) (sX nS kS D vwCl ad ca (va_A (ww nS kS ad ca f0 a0 b0) sz) (fun _ _ _ _ => False)) ([.ref (ad 0)] : List Value).toArray s 0 0 (va_A (ww nS kS ad ca f0 a0 b0) sz)) (F0 m 4 ls [])) : ∀ (x1 : Int32) (x2 : Int32) (f : wF) (a : wA) (b : wB), wp_S_countFilled_25 po J4 x1 x2 f a b → ∀ (H : Heap) (locs : List Loc), wd nS kS D vwCl ad ca (va_A (ww nS kS ad ca f0 a0 b0) sz) s H locs f a b → ∀ (ls : Array Slot), lv_has ls 3 [(0, .ref (ad 0)), (1, .int x1), (2, .int x2)] → W p l e ({ frames := 0, cells := 0, slots := 0, locals := 0 }) s m ([.ref (ad 0)] : List Value).toArray below meth c H locs 0 0 (vx_MQ below (va_Qi (fun r (u : wF × wA × wB) => po r u.1 u.2.1 u.2.2) (sPost nS kS D vwCl ad ca (va_A (ww nS kS ad ca f0 a0 b0) sz)) (va_A (ww nS kS ad ca f0 a0 b0) sz)) (sX nS kS D vwCl ad ca (va_A (ww nS kS ad ca f0 a0 b0) sz) (fun _ _ _ _ => False)) ([.ref (ad 0)] : List Value).toArray s 0 0 (va_A (ww nS kS ad ca f0 a0 b0) sz)) (F0 m 25 ls []) := by
  obtain ⟨hx, hb, hml, hown, hts, hK, hA, hth, hlk, hl9, hex⟩ := id X
  intro x1 x2 f a b hw H locs K ls hl
  dsimp only [wp_S_countFilled_25] at hw
  refine lv_iinc (v := (x2 + (1 : Int32))) (lv' := [(2, .int (x2 + (1 : Int32))), (0, .ref (ad 0)), (1, .int x1)]) hx hb dS_countFilled_25 hl (k := 2) rfl rfl (by decide) rfl (fun ls hl => ?_)
  refine lv_goto (tgt := 4) hx hb dS_countFilled_28 (by decide) ?_
  exact hJ4 x1 (x2 + (1 : Int32)) f a b hw _ _ K _ (lv_sub hl [1, 2, 0] rfl)
set_option maxHeartbeats 4000000 in
set_option maxRecDepth 100000 in
theorem LS_countFilled_4 {p : Program} {l : Launch} {e : Env} {s : State} {m : MethodId} {below : List Frame} {meth : Method} {c : Code} {D : va_G} {sa : Nat → Nat} {ad : Nat → Nat} {ca : Nat → ClassId} {sz : Nat} {f0 : wF} {a0 : wA} {b0 : wB} {po : Int32 → wF → wA → wB → Prop} (X : cx Wl (tyS ca) txS D vwCl sa (va_A (ww nS kS ad ca f0 a0 b0) sz) p l s m ([.ref (ad 0)] : List Value).toArray meth c cS_countFilled 3 "SendBest") (hr : meth.sig.returnType = (some .int)) : ∀ n : Nat, ∀ (x1 : Int32) (x2 : Int32) (f : wF) (a : wA) (b : wB), wp_S_countFilled_4 po n x1 x2 f a b → ∀ (H : Heap) (locs : List Loc), wd nS kS D vwCl ad ca (va_A (ww nS kS ad ca f0 a0 b0) sz) s H locs f a b → ∀ (ls : Array Slot), lv_has ls 3 [(0, .ref (ad 0)), (1, .int x1), (2, .int x2)] → W p l e ({ frames := 0, cells := 0, slots := 0, locals := 0 }) s m ([.ref (ad 0)] : List Value).toArray below meth c H locs 0 0 (vx_MQ below (va_Qi (fun r (u : wF × wA × wB) => po r u.1 u.2.1 u.2.2) (sPost nS kS D vwCl ad ca (va_A (ww nS kS ad ca f0 a0 b0) sz)) (va_A (ww nS kS ad ca f0 a0 b0) sz)) (sX nS kS D vwCl ad ca (va_A (ww nS kS ad ca f0 a0 b0) sz) (fun _ _ _ _ => False)) ([.ref (ad 0)] : List Value).toArray s 0 0 (va_A (ww nS kS ad ca f0 a0 b0) sz)) (F0 m 4 ls []) := by
  obtain ⟨hx, hb, hml, hown, hts, hK, hA, hth, hlk, hl9, hex⟩ := id X
  intro n
  induction n with
  | zero => intro x1 x2 f a b hw; exact hw.elim
  | succ n ih =>
    intro x1 x2 f a b hw H locs K ls hl
    dsimp only [wp_S_countFilled_4] at hw
    refine lv_iload_n hx hb dS_countFilled_4 rfl (lv_at hl 2 rfl) ?_
    refine lv_aload_n hx hb dS_countFilled_5 rfl (lv_at hl 0 rfl) ?_
    refine gGet X K (o := 0) (k := 9) (v := .int (f 2)) (by decide) kS_o0 rfl inS_o0 (by decide) (tm1 (i := 91) rfl rfl) rfl dS_countFilled_6 ?_
    refine lv_icmp_ge (tgt := 31) hx hb dS_countFilled_9 (by decide) (fun hc => ?_) (fun hc => ?_)
    · replace hw := hw.1 hc
      refine lv_iload_n hx hb dS_countFilled_31 rfl (lv_at hl 1 rfl) ?_
      exact endI X K hr rfl hw (by decide) (by decide) dS_countFilled_32
    · replace hw := hw.2 hc
      refine lv_aload_n hx hb dS_countFilled_12 rfl (lv_at hl 0 rfl) ?_
      refine gGet X K (o := 0) (k := 12) (v := .ref (ad 11)) (by decide) kS_o0 rfl inS_o0 (by decide) (tm1 (i := 94) rfl rfl) rfl dS_countFilled_13 ?_
      refine lv_iload_n hx hb dS_countFilled_16 rfl (lv_at hl 2 rfl) ?_
      obtain ⟨hi, hw⟩ := hw
      refine gild X K (o := 11) (t0 := 0) (by decide) kS_c11 rfl hi dS_countFilled_17 ?_
      refine lv_iconst (v := (-1 : Int32)) hx hb dS_countFilled_18 (by decide) ?_
      refine lv_icmp_eq (tgt := 25) hx hb dS_countFilled_19 (by decide) (fun hc => ?_) (fun hc => ?_)
      · replace hw := hw.1 hc
        exact LS_countFilled_25 X hr (wp_S_countFilled_4 po n) ih x1 x2 f a b hw _ _ K _ (lv_sub hl [0, 1, 2] rfl)
      · replace hw := hw.2 hc
        refine lv_iinc (v := (x1 + (1 : Int32))) (lv' := [(1, .int (x1 + (1 : Int32))), (0, .ref (ad 0)), (2, .int x2)]) hx hb dS_countFilled_22 hl (k := 1) rfl rfl (by decide) rfl (fun ls hl => ?_)
        exact LS_countFilled_25 X hr (wp_S_countFilled_4 po n) ih (x1 + (1 : Int32)) x2 f a b hw _ _ K _ (lv_sub hl [1, 0, 2] rfl)
set_option maxHeartbeats 4000000 in
set_option maxRecDepth 100000 in
theorem met_S_countFilled {l : Launch} (hl9 : l.stackTraces = false) (D : va_G) (ad : Nat → Nat) (ca : Nat → ClassId) (sa : Nat → Nat) (sz : Nat)  (f : wF) (a : wA) (b : wB) (po : Int32 → wF → wA → wB → Prop) (hw : wp_S_countFilled po f a b) : mI nS kS (tyS ca) txS D vwCl l yS_countFilled (Cond.code yS_countFilled cS_countFilled 3 (some .int) :: Wl) ({ frames := 0, cells := 0, slots := 0, locals := 0 }) [.ref (ad 0)] ad ca sa sz f a b po (fun _ _ _ _ => False) 0 0 := by
  refine ofI (by decide) hl9 (Nat.le_of_ble_eq_true rfl) ?_
  intro p e s m below meth c ls X hr K hl
  obtain ⟨hx, hb, hml, hown, hts, hK, hA, hth, hlk, hl9, hex⟩ := id X
  have hl : lv_has ls 3 [(0, .ref (ad 0))] := hl
  dsimp only [wp_S_countFilled] at hw
  refine lv_iconst (v := (0 : Int32)) hx hb dS_countFilled_0 (by decide) ?_
  refine lv_istore_n (lv' := [(1, .int (0 : Int32)), (0, .ref (ad 0))]) hx hb dS_countFilled_1 rfl hl (by decide) rfl (fun ls hl => ?_)
  refine lv_iconst (v := (0 : Int32)) hx hb dS_countFilled_2 (by decide) ?_
  refine lv_istore_n (lv' := [(2, .int (0 : Int32)), (1, .int (0 : Int32)), (0, .ref (ad 0))]) hx hb dS_countFilled_3 rfl hl (by decide) rfl (fun ls hl => ?_)
  obtain ⟨n9, hw⟩ := hw
  exact LS_countFilled_4 X hr n9 (0 : Int32) (0 : Int32) f a b hw _ _ K _ (lv_sub hl [2, 1, 0] rfl)
set_option maxHeartbeats 4000000 in
set_option maxRecDepth 100000 in
theorem met_P_bestUnit {l : Launch} (hl9 : l.stackTraces = false) (D : va_G) (ad : Nat → Nat) (ca : Nat → ClassId) (sa : Nat → Nat) (sz : Nat) (x1 : Int32) (f : wF) (a : wA) (b : wB) (po : Int32 → wF → wA → wB → Prop) (hw : wp_P_bestUnit po x1 f a b) : mI nS kS (tyS ca) txS D vwCl l yP_bestUnit (Cond.code yP_bestUnit cP_bestUnit 2 (some .int) :: Wl) ({ frames := 0, cells := 0, slots := 0, locals := 0 }) [.ref (ad 1), .int x1] ad ca sa sz f a b po (fun _ _ _ _ => False) 0 0 := by
  refine ofI (by decide) hl9 (Nat.le_of_ble_eq_true rfl) ?_
  intro p e s m below meth c ls X hr K hl
  obtain ⟨hx, hb, hml, hown, hts, hK, hA, hth, hlk, hl9, hex⟩ := id X
  have hl : lv_has ls 2 [(0, .ref (ad 1)), (1, .int x1)] := hl
  dsimp only [wp_P_bestUnit] at hw
  refine lv_aload_n hx hb dP_bestUnit_0 rfl (lv_at hl 0 rfl) ?_
  refine gGet X K (o := 1) (k := 5) (v := .ref (ad 16)) (by decide) kS_o1 rfl inS_o1 (by decide) (tm1 (i := 38) rfl rfl) rfl dP_bestUnit_1 ?_
  refine lv_iload_n hx hb dP_bestUnit_4 rfl (lv_at hl 1 rfl) ?_
  obtain ⟨hi, hw⟩ := hw
  refine gild X K (o := 16) (t0 := 0) (by decide) kS_c16 rfl hi dP_bestUnit_5 ?_
  exact endI X K hr rfl hw (by decide) (by decide) dP_bestUnit_6
set_option maxHeartbeats 4000000 in
set_option maxRecDepth 100000 in
theorem LS_takeBest_98 {p : Program} {l : Launch} {e : Env} {s : State} {m : MethodId} {below : List Frame} {meth : Method} {c : Code} {D : va_G} {sa : Nat → Nat} {ad : Nat → Nat} {ca : Nat → ClassId} {sz : Nat} {f0 : wF} {a0 : wA} {b0 : wB} {po : wF → wA → wB → Prop} (X : cx Wl (tyS ca) txS D vwCl sa (va_A (ww nS kS ad ca f0 a0 b0) sz) p l s m ([.ref (ad 0)] : List Value).toArray meth c cS_takeBest 3 "SendBest") (hr : meth.sig.returnType = none) (J45 : Int32 → wF → wA → wB → Prop) (hJ45 : ∀ (x1 : Int32) (f : wF) (a : wA) (b : wB), J45 x1 f a b → ∀ (H : Heap) (locs : List Loc), wd nS kS D vwCl ad ca (va_A (ww nS kS ad ca f0 a0 b0) sz) s H locs f a b → ∀ (ls : Array Slot), lv_has ls 3 [(0, .ref (ad 0)), (1, .int x1)] → W p l e ({ frames := 1, cells := 0, slots := 0, locals := 21 }) s m ([.ref (ad 0)] : List Value).toArray below meth c H locs 0 0 (vx_MQ below (va_Qv (fun (u : wF × wA × wB) => po u.1 u.2.1 u.2.2) (sPost nS kS D vwCl ad ca (va_A (ww nS kS ad ca f0 a0 b0) sz)) (va_A (ww nS kS ad ca f0 a0 b0) sz)) (sX nS kS D vwCl ad ca (va_A (ww nS kS ad ca f0 a0 b0) sz) (fun _ _ _ _ => False)) ([.ref (ad 0)] : List Value).toArray s 0 0 (va_A (ww nS kS ad ca f0 a0 b0) sz)) (F0 m 45 ls [])) : ∀ (x1 : Int32) (f : wF) (a : wA) (b : wB), wp_S_takeBest_98 po J45 x1 f a b → ∀ (H : Heap) (locs : List Loc), wd nS kS D vwCl ad ca (va_A (ww nS kS ad ca f0 a0 b0) sz) s H locs f a b → ∀ (ls : Array Slot), lv_has ls 3 [(0, .ref (ad 0)), (1, .int x1)] → W p l e ({ frames := 1, cells := 0, slots := 0, locals := 21 }) s m ([.ref (ad 0)] : List Value).toArray below meth c H locs 0 0 (vx_MQ below (va_Qv (fun (u : wF × wA × wB) => po u.1 u.2.1 u.2.2) (sPost nS kS D vwCl ad ca (va_A (ww nS kS ad ca f0 a0 b0) sz)) (va_A (ww nS kS ad ca f0 a0 b0) sz)) (sX nS kS D vwCl ad ca (va_A (ww nS kS ad ca f0 a0 b0) sz) (fun _ _ _ _ => False)) ([.ref (ad 0)] : List Value).toArray s 0 0 (va_A (ww nS kS ad ca f0 a0 b0) sz)) (F0 m 98 ls []) := by
  obtain ⟨hx, hb, hml, hown, hts, hK, hA, hth, hlk, hl9, hex⟩ := id X
  intro x1 f a b hw H locs K ls hl
  dsimp only [wp_S_takeBest_98] at hw
  refine lv_iinc (v := (x1 + (1 : Int32))) (lv' := [(1, .int (x1 + (1 : Int32))), (0, .ref (ad 0))]) hx hb dS_takeBest_98 hl (k := 1) rfl rfl (by decide) rfl (fun ls hl => ?_)
  refine lv_goto (tgt := 45) hx hb dS_takeBest_101 (by decide) ?_
  exact hJ45 (x1 + (1 : Int32)) f a b hw _ _ K _ (lv_sub hl [1, 0] rfl)
set_option maxHeartbeats 4000000 in
set_option maxRecDepth 100000 in
theorem LS_takeBest_45 {p : Program} {l : Launch} {e : Env} {s : State} {m : MethodId} {below : List Frame} {meth : Method} {c : Code} {D : va_G} {sa : Nat → Nat} {ad : Nat → Nat} {ca : Nat → ClassId} {sz : Nat} {f0 : wF} {a0 : wA} {b0 : wB} {po : wF → wA → wB → Prop} (X : cx Wl (tyS ca) txS D vwCl sa (va_A (ww nS kS ad ca f0 a0 b0) sz) p l s m ([.ref (ad 0)] : List Value).toArray meth c cS_takeBest 3 "SendBest") (hr : meth.sig.returnType = none) : ∀ n : Nat, ∀ (x1 : Int32) (f : wF) (a : wA) (b : wB), wp_S_takeBest_45 po n x1 f a b → ∀ (H : Heap) (locs : List Loc), wd nS kS D vwCl ad ca (va_A (ww nS kS ad ca f0 a0 b0) sz) s H locs f a b → ∀ (ls : Array Slot), lv_has ls 3 [(0, .ref (ad 0)), (1, .int x1)] → W p l e ({ frames := 1, cells := 0, slots := 0, locals := 21 }) s m ([.ref (ad 0)] : List Value).toArray below meth c H locs 0 0 (vx_MQ below (va_Qv (fun (u : wF × wA × wB) => po u.1 u.2.1 u.2.2) (sPost nS kS D vwCl ad ca (va_A (ww nS kS ad ca f0 a0 b0) sz)) (va_A (ww nS kS ad ca f0 a0 b0) sz)) (sX nS kS D vwCl ad ca (va_A (ww nS kS ad ca f0 a0 b0) sz) (fun _ _ _ _ => False)) ([.ref (ad 0)] : List Value).toArray s 0 0 (va_A (ww nS kS ad ca f0 a0 b0) sz)) (F0 m 45 ls []) := by
  obtain ⟨hx, hb, hml, hown, hts, hK, hA, hth, hlk, hl9, hex⟩ := id X
  intro n
  induction n with
  | zero => intro x1 f a b hw; exact hw.elim
  | succ n ih =>
    intro x1 f a b hw H locs K ls hl
    dsimp only [wp_S_takeBest_45] at hw
    refine lv_iload_n hx hb dS_takeBest_45 rfl (lv_at hl 1 rfl) ?_
    refine lv_aload_n hx hb dS_takeBest_46 rfl (lv_at hl 0 rfl) ?_
    refine gGet X K (o := 0) (k := 16) (v := .ref (ad 1)) (by decide) kS_o0 rfl inS_o0 (by decide) (tm1 (i := 98) rfl rfl) rfl dS_takeBest_47 ?_
    refine gcI X K (n0 := 0) (As := []) (rest := [.int x1]) (hM := (met_P_rows hl9 D ad ca sa _ f a b _ hw)) (o := 1) (ho := by decide) (hko := kS_o1) (hci := rfl) (hg := wl_good) (w1 := (tm2 (i := 223) rfl rfl)) (w2 := (tm2 (i := 224) rfl rfl)) (w3 := (tm2 (i := 225) rfl rfl)) (w4 := (tm1 (i := 2) rfl rfl)) (w5 := (tm2 (i := 226) rfl rfl)) (hd := ⟨rfl, by decide, by decide, by decide +kernel⟩) (hrc := rfl) (hrs := rfl) (hR := ⟨Nat.le_of_ble_eq_true rfl, Nat.le_of_ble_eq_true rfl⟩) (hn := rfl) (hsz := hl.1) (hst := rfl) (hW := Nat.le_of_ble_eq_true rfl) (hdg := dS_takeBest_50) (hf := ⟨Nat.le_of_ble_eq_true rfl, Nat.le_of_ble_eq_true rfl⟩) (fun _ _ _ _ _ _ _ _ hw => hw.elim) (fun r50 f50 a50 b50 H locs hw K => ?_)
    refine lv_icmp_ge (tgt := 104) hx hb dS_takeBest_53 (by decide) (fun hc => ?_) (fun hc => ?_)
    · replace hw := hw.1 hc
      exact endV X K hr hw (by decide) (by decide) dS_takeBest_104
    · replace hw := hw.2 hc
      refine lv_aload_n hx hb dS_takeBest_56 rfl (lv_at hl 0 rfl) ?_
      refine gGet X K (o := 0) (k := 16) (v := .ref (ad 1)) (by decide) kS_o0 rfl inS_o0 (by decide) (tm1 (i := 98) rfl rfl) rfl dS_takeBest_57 ?_
      refine lv_iload_n hx hb dS_takeBest_60 rfl (lv_at hl 1 rfl) ?_
      refine gcI X K (n0 := 1) (As := [.int x1]) (rest := []) (hM := (met_P_bestUnit hl9 D ad ca sa _ x1 f50 a50 b50 _ hw)) (o := 1) (ho := by decide) (hko := kS_o1) (hci := rfl) (hg := wl_good) (w1 := (tm3 (i := 7) rfl rfl)) (w2 := (tm3 (i := 8) rfl rfl)) (w3 := (tm3 (i := 9) rfl rfl)) (w4 := (tm1 (i := 2) rfl rfl)) (w5 := (tm3 (i := 10) rfl rfl)) (hd := ⟨rfl, by decide, by decide, by decide +kernel⟩) (hrc := rfl) (hrs := rfl) (hR := ⟨Nat.le_of_ble_eq_true rfl, Nat.le_of_ble_eq_true rfl⟩) (hn := rfl) (hsz := hl.1) (hst := rfl) (hW := Nat.le_of_ble_eq_true rfl) (hdg := dS_takeBest_61) (hf := ⟨Nat.le_of_ble_eq_true rfl, Nat.le_of_ble_eq_true rfl⟩) (fun _ _ _ _ _ _ _ _ hw => hw.elim) (fun r61 f61 a61 b61 H locs hw K => ?_)
      refine lv_istore_n (lv' := [(2, .int r61), (0, .ref (ad 0)), (1, .int x1)]) hx hb dS_takeBest_64 rfl hl (by decide) rfl (fun ls hl => ?_)
      refine lv_iload_n hx hb dS_takeBest_65 rfl (lv_at hl 0 rfl) ?_
      refine lv_iconst (v := (-1 : Int32)) hx hb dS_takeBest_66 (by decide) ?_
      refine lv_icmp_eq (tgt := 98) hx hb dS_takeBest_67 (by decide) (fun hc => ?_) (fun hc => ?_)
      · replace hw := hw.1 hc
        exact LS_takeBest_98 X hr (wp_S_takeBest_45 po n) ih x1 f61 a61 b61 hw _ _ K _ (lv_sub hl [1, 2] rfl)
      · replace hw := hw.2 hc
        refine lv_aload_n hx hb dS_takeBest_70 rfl (lv_at hl 1 rfl) ?_
        refine gGet X K (o := 0) (k := 12) (v := .ref (ad 11)) (by decide) kS_o0 rfl inS_o0 (by decide) (tm1 (i := 94) rfl rfl) rfl dS_takeBest_71 ?_
        refine lv_aload_n hx hb dS_takeBest_74 rfl (lv_at hl 1 rfl) ?_
        refine gGet X K (o := 0) (k := 16) (v := .ref (ad 1)) (by decide) kS_o0 rfl inS_o0 (by decide) (tm1 (i := 98) rfl rfl) rfl dS_takeBest_75 ?_
        refine lv_iload_n hx hb dS_takeBest_78 rfl (lv_at hl 2 rfl) ?_
        refine gcI X K (n0 := 1) (As := [.int x1]) (rest := [.ref (ad 11)]) (hM := (met_P_needOfRow hl9 D ad ca sa _ x1 f61 a61 b61 _ hw)) (o := 1) (ho := by decide) (hko := kS_o1) (hci := rfl) (hg := wl_good) (w1 := (tm2 (i := 227) rfl rfl)) (w2 := (tm2 (i := 228) rfl rfl)) (w3 := (tm2 (i := 229) rfl rfl)) (w4 := (tm1 (i := 2) rfl rfl)) (w5 := (tm2 (i := 230) rfl rfl)) (hd := ⟨rfl, by decide, by decide, by decide +kernel⟩) (hrc := rfl) (hrs := rfl) (hR := ⟨Nat.le_of_ble_eq_true rfl, Nat.le_of_ble_eq_true rfl⟩) (hn := rfl) (hsz := hl.1) (hst := rfl) (hW := Nat.le_of_ble_eq_true rfl) (hdg := dS_takeBest_79) (hf := ⟨Nat.le_of_ble_eq_true rfl, Nat.le_of_ble_eq_true rfl⟩) (fun _ _ _ _ _ _ _ _ hw => hw.elim) (fun r79 f79 a79 b79 H locs hw K => ?_)
        refine lv_iload_n hx hb dS_takeBest_82 rfl (lv_at hl 0 rfl) ?_
        obtain ⟨hi, hw⟩ := hw
        refine gist X K (o := 11) (t0 := 0) (by decide) kS_c11 rfl hi dS_takeBest_83 kS_p11 (fun H locs K => ?_)
        refine lv_aload_n hx hb dS_takeBest_84 rfl (lv_at hl 1 rfl) ?_
        refine gGet X K (o := 0) (k := 4) (v := .ref (ad 5)) (by decide) kS_o0 rfl inS_o0 (by decide) (tm1 (i := 86) rfl rfl) rfl dS_takeBest_85 ?_
        refine lv_iload_n hx hb dS_takeBest_88 rfl (lv_at hl 0 rfl) ?_
        refine lv_aload_n hx hb dS_takeBest_89 rfl (lv_at hl 1 rfl) ?_
        refine gGet X K (o := 0) (k := 16) (v := .ref (ad 1)) (by decide) kS_o0 rfl inS_o0 (by decide) (tm1 (i := 98) rfl rfl) rfl dS_takeBest_90 ?_
        refine lv_iload_n hx hb dS_takeBest_93 rfl (lv_at hl 2 rfl) ?_
        refine gcI X K (n0 := 1) (As := [.int x1]) (rest := [.int r61, .ref (ad 5)]) (hM := (met_P_needOfRow hl9 D ad ca sa _ x1 f79 (va_up a79 11 (upd (a79 11) r79.toNatClampNeg r61)) b79 _ hw)) (o := 1) (ho := by decide) (hko := kS_o1) (hci := rfl) (hg := wl_good) (w1 := (tm2 (i := 227) rfl rfl)) (w2 := (tm2 (i := 228) rfl rfl)) (w3 := (tm2 (i := 229) rfl rfl)) (w4 := (tm1 (i := 2) rfl rfl)) (w5 := (tm2 (i := 230) rfl rfl)) (hd := ⟨rfl, by decide, by decide, by decide +kernel⟩) (hrc := rfl) (hrs := rfl) (hR := ⟨Nat.le_of_ble_eq_true rfl, Nat.le_of_ble_eq_true rfl⟩) (hn := rfl) (hsz := hl.1) (hst := rfl) (hW := Nat.le_of_ble_eq_true rfl) (hdg := dS_takeBest_94) (hf := ⟨Nat.le_of_ble_eq_true rfl, Nat.le_of_ble_eq_true rfl⟩) (fun _ _ _ _ _ _ _ _ hw => hw.elim) (fun r94 f94 a94 b94 H locs hw K => ?_)
        obtain ⟨hi, hw⟩ := hw
        refine gist X K (o := 5) (t0 := 0) (by decide) kS_c5 rfl hi dS_takeBest_97 kS_p5 (fun H locs K => ?_)
        exact LS_takeBest_98 X hr (wp_S_takeBest_45 po n) ih x1 f94 (va_up a94 5 (upd (a94 5) r61.toNatClampNeg r94)) b94 hw _ _ K _ (lv_sub hl [1, 2] rfl)
set_option maxHeartbeats 4000000 in
set_option maxRecDepth 100000 in
theorem LS_takeBest_37 {p : Program} {l : Launch} {e : Env} {s : State} {m : MethodId} {below : List Frame} {meth : Method} {c : Code} {D : va_G} {sa : Nat → Nat} {ad : Nat → Nat} {ca : Nat → ClassId} {sz : Nat} {f0 : wF} {a0 : wA} {b0 : wB} {po : wF → wA → wB → Prop} (X : cx Wl (tyS ca) txS D vwCl sa (va_A (ww nS kS ad ca f0 a0 b0) sz) p l s m ([.ref (ad 0)] : List Value).toArray meth c cS_takeBest 3 "SendBest") (hr : meth.sig.returnType = none) (J2 : Int32 → wF → wA → wB → Prop) (hJ2 : ∀ (x1 : Int32) (f : wF) (a : wA) (b : wB), J2 x1 f a b → ∀ (H : Heap) (locs : List Loc), wd nS kS D vwCl ad ca (va_A (ww nS kS ad ca f0 a0 b0) sz) s H locs f a b → ∀ (ls : Array Slot), lv_has ls 3 [(0, .ref (ad 0)), (1, .int x1)] → W p l e ({ frames := 1, cells := 0, slots := 0, locals := 21 }) s m ([.ref (ad 0)] : List Value).toArray below meth c H locs 0 0 (vx_MQ below (va_Qv (fun (u : wF × wA × wB) => po u.1 u.2.1 u.2.2) (sPost nS kS D vwCl ad ca (va_A (ww nS kS ad ca f0 a0 b0) sz)) (va_A (ww nS kS ad ca f0 a0 b0) sz)) (sX nS kS D vwCl ad ca (va_A (ww nS kS ad ca f0 a0 b0) sz) (fun _ _ _ _ => False)) ([.ref (ad 0)] : List Value).toArray s 0 0 (va_A (ww nS kS ad ca f0 a0 b0) sz)) (F0 m 2 ls [])) : ∀ (x1 : Int32) (f : wF) (a : wA) (b : wB), wp_S_takeBest_37 po J2 x1 f a b → ∀ (H : Heap) (locs : List Loc), wd nS kS D vwCl ad ca (va_A (ww nS kS ad ca f0 a0 b0) sz) s H locs f a b → ∀ (ls : Array Slot), lv_has ls 3 [(0, .ref (ad 0)), (1, .int x1)] → W p l e ({ frames := 1, cells := 0, slots := 0, locals := 21 }) s m ([.ref (ad 0)] : List Value).toArray below meth c H locs 0 0 (vx_MQ below (va_Qv (fun (u : wF × wA × wB) => po u.1 u.2.1 u.2.2) (sPost nS kS D vwCl ad ca (va_A (ww nS kS ad ca f0 a0 b0) sz)) (va_A (ww nS kS ad ca f0 a0 b0) sz)) (sX nS kS D vwCl ad ca (va_A (ww nS kS ad ca f0 a0 b0) sz) (fun _ _ _ _ => False)) ([.ref (ad 0)] : List Value).toArray s 0 0 (va_A (ww nS kS ad ca f0 a0 b0) sz)) (F0 m 37 ls []) := by
  obtain ⟨hx, hb, hml, hown, hts, hK, hA, hth, hlk, hl9, hex⟩ := id X
  intro x1 f a b hw H locs K ls hl
  dsimp only [wp_S_takeBest_37] at hw
  refine lv_iinc (v := (x1 + (1 : Int32))) (lv' := [(1, .int (x1 + (1 : Int32))), (0, .ref (ad 0))]) hx hb dS_takeBest_37 hl (k := 1) rfl rfl (by decide) rfl (fun ls hl => ?_)
  refine lv_goto (tgt := 2) hx hb dS_takeBest_40 (by decide) ?_
  exact hJ2 (x1 + (1 : Int32)) f a b hw _ _ K _ (lv_sub hl [1, 0] rfl)
set_option maxHeartbeats 4000000 in
set_option maxRecDepth 100000 in
theorem LS_takeBest_2 {p : Program} {l : Launch} {e : Env} {s : State} {m : MethodId} {below : List Frame} {meth : Method} {c : Code} {D : va_G} {sa : Nat → Nat} {ad : Nat → Nat} {ca : Nat → ClassId} {sz : Nat} {f0 : wF} {a0 : wA} {b0 : wB} {po : wF → wA → wB → Prop} (X : cx Wl (tyS ca) txS D vwCl sa (va_A (ww nS kS ad ca f0 a0 b0) sz) p l s m ([.ref (ad 0)] : List Value).toArray meth c cS_takeBest 3 "SendBest") (hr : meth.sig.returnType = none) : ∀ n : Nat, ∀ (x1 : Int32) (f : wF) (a : wA) (b : wB), wp_S_takeBest_2 po n x1 f a b → ∀ (H : Heap) (locs : List Loc), wd nS kS D vwCl ad ca (va_A (ww nS kS ad ca f0 a0 b0) sz) s H locs f a b → ∀ (ls : Array Slot), lv_has ls 3 [(0, .ref (ad 0)), (1, .int x1)] → W p l e ({ frames := 1, cells := 0, slots := 0, locals := 21 }) s m ([.ref (ad 0)] : List Value).toArray below meth c H locs 0 0 (vx_MQ below (va_Qv (fun (u : wF × wA × wB) => po u.1 u.2.1 u.2.2) (sPost nS kS D vwCl ad ca (va_A (ww nS kS ad ca f0 a0 b0) sz)) (va_A (ww nS kS ad ca f0 a0 b0) sz)) (sX nS kS D vwCl ad ca (va_A (ww nS kS ad ca f0 a0 b0) sz) (fun _ _ _ _ => False)) ([.ref (ad 0)] : List Value).toArray s 0 0 (va_A (ww nS kS ad ca f0 a0 b0) sz)) (F0 m 2 ls []) := by
  obtain ⟨hx, hb, hml, hown, hts, hK, hA, hth, hlk, hl9, hex⟩ := id X
  intro n
  induction n with
  | zero => intro x1 f a b hw; exact hw.elim
  | succ n ih =>
    intro x1 f a b hw H locs K ls hl
    dsimp only [wp_S_takeBest_2] at hw
    refine lv_iload_n hx hb dS_takeBest_2 rfl (lv_at hl 1 rfl) ?_
    refine lv_aload_n hx hb dS_takeBest_3 rfl (lv_at hl 0 rfl) ?_
    refine gGet X K (o := 0) (k := 16) (v := .ref (ad 1)) (by decide) kS_o0 rfl inS_o0 (by decide) (tm1 (i := 98) rfl rfl) rfl dS_takeBest_4 ?_
    refine gcI X K (n0 := 0) (As := []) (rest := [.int x1]) (hM := (met_P_rows hl9 D ad ca sa _ f a b _ hw)) (o := 1) (ho := by decide) (hko := kS_o1) (hci := rfl) (hg := wl_good) (w1 := (tm2 (i := 223) rfl rfl)) (w2 := (tm2 (i := 224) rfl rfl)) (w3 := (tm2 (i := 225) rfl rfl)) (w4 := (tm1 (i := 2) rfl rfl)) (w5 := (tm2 (i := 226) rfl rfl)) (hd := ⟨rfl, by decide, by decide, by decide +kernel⟩) (hrc := rfl) (hrs := rfl) (hR := ⟨Nat.le_of_ble_eq_true rfl, Nat.le_of_ble_eq_true rfl⟩) (hn := rfl) (hsz := hl.1) (hst := rfl) (hW := Nat.le_of_ble_eq_true rfl) (hdg := dS_takeBest_7) (hf := ⟨Nat.le_of_ble_eq_true rfl, Nat.le_of_ble_eq_true rfl⟩) (fun _ _ _ _ _ _ _ _ hw => hw.elim) (fun r7 f7 a7 b7 H locs hw K => ?_)
    refine lv_icmp_ge (tgt := 43) hx hb dS_takeBest_10 (by decide) (fun hc => ?_) (fun hc => ?_)
    · replace hw := hw.1 hc
      refine lv_iconst (v := (0 : Int32)) hx hb dS_takeBest_43 (by decide) ?_
      refine lv_istore_n (lv' := [(1, .int (0 : Int32)), (0, .ref (ad 0))]) hx hb dS_takeBest_44 rfl hl (by decide) rfl (fun ls hl => ?_)
      obtain ⟨n9, hw⟩ := hw
      exact LS_takeBest_45 X hr n9 (0 : Int32) f7 a7 b7 hw _ _ K _ (lv_sub hl [1, 0] rfl)
    · replace hw := hw.2 hc
      refine lv_aload_n hx hb dS_takeBest_13 rfl (lv_at hl 0 rfl) ?_
      refine gGet X K (o := 0) (k := 12) (v := .ref (ad 11)) (by decide) kS_o0 rfl inS_o0 (by decide) (tm1 (i := 94) rfl rfl) rfl dS_takeBest_14 ?_
      refine lv_aload_n hx hb dS_takeBest_17 rfl (lv_at hl 0 rfl) ?_
      refine gGet X K (o := 0) (k := 16) (v := .ref (ad 1)) (by decide) kS_o0 rfl inS_o0 (by decide) (tm1 (i := 98) rfl rfl) rfl dS_takeBest_18 ?_
      refine lv_iload_n hx hb dS_takeBest_21 rfl (lv_at hl 1 rfl) ?_
      refine gcI X K (n0 := 1) (As := [.int x1]) (rest := [.ref (ad 11)]) (hM := (met_P_needOfRow hl9 D ad ca sa _ x1 f7 a7 b7 _ hw)) (o := 1) (ho := by decide) (hko := kS_o1) (hci := rfl) (hg := wl_good) (w1 := (tm2 (i := 227) rfl rfl)) (w2 := (tm2 (i := 228) rfl rfl)) (w3 := (tm2 (i := 229) rfl rfl)) (w4 := (tm1 (i := 2) rfl rfl)) (w5 := (tm2 (i := 230) rfl rfl)) (hd := ⟨rfl, by decide, by decide, by decide +kernel⟩) (hrc := rfl) (hrs := rfl) (hR := ⟨Nat.le_of_ble_eq_true rfl, Nat.le_of_ble_eq_true rfl⟩) (hn := rfl) (hsz := hl.1) (hst := rfl) (hW := Nat.le_of_ble_eq_true rfl) (hdg := dS_takeBest_22) (hf := ⟨Nat.le_of_ble_eq_true rfl, Nat.le_of_ble_eq_true rfl⟩) (fun _ _ _ _ _ _ _ _ hw => hw.elim) (fun r22 f22 a22 b22 H locs hw K => ?_)
      obtain ⟨hi, hw⟩ := hw
      refine gild X K (o := 11) (t0 := 0) (by decide) kS_c11 rfl hi dS_takeBest_25 ?_
      refine lv_istore_n (lv' := [(2, .int (a22 11 r22.toNatClampNeg)), (0, .ref (ad 0)), (1, .int x1)]) hx hb dS_takeBest_26 rfl hl (by decide) rfl (fun ls hl => ?_)
      refine lv_iload_n hx hb dS_takeBest_27 rfl (lv_at hl 0 rfl) ?_
      refine lv_iconst (v := (-1 : Int32)) hx hb dS_takeBest_28 (by decide) ?_
      refine lv_icmp_eq (tgt := 37) hx hb dS_takeBest_29 (by decide) (fun hc => ?_) (fun hc => ?_)
      · replace hw := hw.1 hc
        exact LS_takeBest_37 X hr (wp_S_takeBest_2 po n) ih x1 f22 a22 b22 hw _ _ K _ (lv_sub hl [1, 2] rfl)
      · replace hw := hw.2 hc
        refine lv_aload_n hx hb dS_takeBest_32 rfl (lv_at hl 1 rfl) ?_
        refine lv_iload_n hx hb dS_takeBest_33 rfl (lv_at hl 0 rfl) ?_
        refine gcV X K (n0 := 1) (As := [.int (a22 11 r22.toNatClampNeg)]) (rest := []) (hM := (met_S_free hl9 D ad ca sa _ (a22 11 r22.toNatClampNeg) f22 a22 b22 _ hw)) (o := 0) (ho := by decide) (hko := kS_o0) (hci := rfl) (hg := wl_good) (w1 := (tm2 (i := 104) rfl rfl)) (w2 := (tm2 (i := 106) rfl rfl)) (w3 := (tm0 (i := 4) rfl rfl)) (w4 := (tm1 (i := 1) rfl rfl)) (w5 := (tm2 (i := 107) rfl rfl)) (hd := ⟨rfl, by decide, by decide, by decide +kernel⟩) (hrc := rfl) (hrs := rfl) (hR := ⟨Nat.le_of_ble_eq_true rfl, Nat.le_of_ble_eq_true rfl⟩) (hn := rfl) (hsz := hl.1) (hst := rfl) (hW := Nat.le_of_ble_eq_true rfl) (hdg := dS_takeBest_34) (hf := ⟨Nat.le_of_ble_eq_true rfl, Nat.le_of_ble_eq_true rfl⟩) (fun _ _ _ _ _ _ _ _ hw => hw.elim) (fun f34 a34 b34 H locs hw K => ?_)
        exact LS_takeBest_37 X hr (wp_S_takeBest_2 po n) ih x1 f34 a34 b34 hw _ _ K _ (lv_sub hl [1, 2] rfl)
set_option maxHeartbeats 4000000 in
set_option maxRecDepth 100000 in
theorem met_S_takeBest {l : Launch} (hl9 : l.stackTraces = false) (D : va_G) (ad : Nat → Nat) (ca : Nat → ClassId) (sa : Nat → Nat) (sz : Nat)  (f : wF) (a : wA) (b : wB) (po : wF → wA → wB → Prop) (hw : wp_S_takeBest po f a b) : mV nS kS (tyS ca) txS D vwCl l yS_takeBest (Cond.code yS_takeBest cS_takeBest 3 none :: Wl) ({ frames := 1, cells := 0, slots := 0, locals := 21 }) [.ref (ad 0)] ad ca sa sz f a b po (fun _ _ _ _ => False) 0 0 := by
  refine ofV (by decide) hl9 (Nat.le_of_ble_eq_true rfl) ?_
  intro p e s m below meth c ls X hr K hl
  obtain ⟨hx, hb, hml, hown, hts, hK, hA, hth, hlk, hl9, hex⟩ := id X
  have hl : lv_has ls 3 [(0, .ref (ad 0))] := hl
  dsimp only [wp_S_takeBest] at hw
  refine lv_iconst (v := (0 : Int32)) hx hb dS_takeBest_0 (by decide) ?_
  refine lv_istore_n (lv' := [(1, .int (0 : Int32)), (0, .ref (ad 0))]) hx hb dS_takeBest_1 rfl hl (by decide) rfl (fun ls hl => ?_)
  obtain ⟨n9, hw⟩ := hw
  exact LS_takeBest_2 X hr n9 (0 : Int32) f a b hw _ _ K _ (lv_sub hl [1, 0] rfl)
end
section
set_option maxHeartbeats 4000000 in
set_option maxRecDepth 100000 in
theorem LS_send_54 {p : Program} {l : Launch} {e : Env} {s : State} {m : MethodId} {below : List Frame} {meth : Method} {c : Code} {D : va_G} {sa : Nat → Nat} {ad : Nat → Nat} {ca : Nat → ClassId} {sz : Nat} {f0 : wF} {a0 : wA} {b0 : wB} {y1 : Int32} {po : Int32 → wF → wA → wB → Prop} {px : String → wF → wA → wB → Prop} (X : cx Wl (tyS ca) txS D vwCl sa (va_A (ww nS kS ad ca f0 a0 b0) sz) p l s m ([.ref (ad 0), .int y1] : List Value).toArray meth c cS_send 3 "SendBest") (hr : meth.sig.returnType = (some .int)) : ∀ (f : wF) (a : wA) (b : wB), wp_S_send_54 po px f a b → ∀ (H : Heap) (locs : List Loc), wd nS kS D vwCl ad ca (va_A (ww nS kS ad ca f0 a0 b0) sz) s H locs f a b → ∀ (ls : Array Slot), lv_has ls 3 [(0, .ref (ad 0))] → W p l e ({ frames := 6, cells := 1, slots := 6, locals := 145 }) s m ([.ref (ad 0), .int y1] : List Value).toArray below meth c H locs 0 0 (vx_MQ below (va_Qi (fun r (u : wF × wA × wB) => po r u.1 u.2.1 u.2.2) (sPost nS kS D vwCl ad ca (va_A (ww nS kS ad ca f0 a0 b0) sz)) (va_A (ww nS kS ad ca f0 a0 b0) sz)) (sX nS kS D vwCl ad ca (va_A (ww nS kS ad ca f0 a0 b0) sz) px) ([.ref (ad 0), .int y1] : List Value).toArray s 1 6 (va_A (ww nS kS ad ca f0 a0 b0) sz)) (F0 m 54 ls []) := by
  obtain ⟨hx, hb, hml, hown, hts, hK, hA, hth, hlk, hl9, hex⟩ := id X
  intro  f a b hw H locs K ls hl
  dsimp only [wp_S_send_54] at hw
  refine lv_aload_n hx hb dS_send_54 rfl (lv_at hl 0 rfl) ?_
  refine gcI X K (n0 := 0) (As := []) (rest := []) (hM := (met_S_countFilled hl9 D ad ca sa _ f a b _ hw)) (o := 0) (ho := by decide) (hko := kS_o0) (hci := rfl) (hg := wl_good) (w1 := (tm3 (i := 11) rfl rfl)) (w2 := (tm3 (i := 13) rfl rfl)) (w3 := (tm0 (i := 24) rfl rfl)) (w4 := (tm1 (i := 1) rfl rfl)) (w5 := (tm3 (i := 14) rfl rfl)) (hd := ⟨rfl, by decide, by decide, by decide +kernel⟩) (hrc := rfl) (hrs := rfl) (hR := ⟨Nat.le_of_ble_eq_true rfl, Nat.le_of_ble_eq_true rfl⟩) (hn := rfl) (hsz := hl.1) (hst := rfl) (hW := Nat.le_of_ble_eq_true rfl) (hdg := dS_send_55) (hf := ⟨Nat.le_of_ble_eq_true rfl, Nat.le_of_ble_eq_true rfl⟩) (fun _ _ _ _ _ _ _ _ hw => hw.elim) (fun r55 f55 a55 b55 H locs hw K => ?_)
  exact endI X K hr rfl hw (by decide) (by decide) dS_send_58
set_option maxHeartbeats 4000000 in
set_option maxRecDepth 100000 in
theorem LS_send_10 {p : Program} {l : Launch} {e : Env} {s : State} {m : MethodId} {below : List Frame} {meth : Method} {c : Code} {D : va_G} {sa : Nat → Nat} {ad : Nat → Nat} {ca : Nat → ClassId} {sz : Nat} {f0 : wF} {a0 : wA} {b0 : wB} {y1 : Int32} {po : Int32 → wF → wA → wB → Prop} {px : String → wF → wA → wB → Prop} (X : cx Wl (tyS ca) txS D vwCl sa (va_A (ww nS kS ad ca f0 a0 b0) sz) p l s m ([.ref (ad 0), .int y1] : List Value).toArray meth c cS_send 3 "SendBest") (hr : meth.sig.returnType = (some .int)) : ∀ (f : wF) (a : wA) (b : wB), wp_S_send_10 po px f a b → ∀ (H : Heap) (locs : List Loc), wd nS kS D vwCl ad ca (va_A (ww nS kS ad ca f0 a0 b0) sz) s H locs f a b → ∀ (ls : Array Slot), lv_has ls 3 [] → W p l e ({ frames := 6, cells := 1, slots := 6, locals := 145 }) s m ([.ref (ad 0), .int y1] : List Value).toArray below meth c H locs 0 0 (vx_MQ below (va_Qi (fun r (u : wF × wA × wB) => po r u.1 u.2.1 u.2.2) (sPost nS kS D vwCl ad ca (va_A (ww nS kS ad ca f0 a0 b0) sz)) (va_A (ww nS kS ad ca f0 a0 b0) sz)) (sX nS kS D vwCl ad ca (va_A (ww nS kS ad ca f0 a0 b0) sz) px) ([.ref (ad 0), .int y1] : List Value).toArray s 1 6 (va_A (ww nS kS ad ca f0 a0 b0) sz)) (F0 m 10 ls []) := by
  obtain ⟨hx, hb, hml, hown, hts, hK, hA, hth, hlk, hl9, hex⟩ := id X
  intro  f a b hw H locs K ls hl
  dsimp only [wp_S_send_10] at hw
  exact throwX X K (k := 14) (names := ["java/lang/RuntimeException", "java/lang/Exception"]) hw (by decide +kernel) (by decide +kernel) rfl (tm1 (i := 144) rfl rfl) (tm1 (i := 8) rfl rfl) xg_S_71 xb_S_71 xo_S_71_67 hl.1 dS_send_10 dS_send_13 dS_send_14 dS_send_16 dS_send_19 (by decide) (by decide) (by decide) (by decide) (by decide) (by decide)
set_option maxHeartbeats 4000000 in
set_option maxRecDepth 100000 in
theorem met_S_send {l : Launch} (hl9 : l.stackTraces = false) (D : va_G) (ad : Nat → Nat) (ca : Nat → ClassId) (sa : Nat → Nat) (sz : Nat) (x1 : Int32) (f : wF) (a : wA) (b : wB) (po : Int32 → wF → wA → wB → Prop) (px : String → wF → wA → wB → Prop) (hw : wp_S_send po px x1 f a b) : mI nS kS (tyS ca) txS D vwCl l yS_send (Cond.code yS_send cS_send 3 (some .int) :: Wl) ({ frames := 6, cells := 1, slots := 6, locals := 145 }) [.ref (ad 0), .int x1] ad ca sa sz f a b po px 1 6 := by
  refine ofI (by decide) hl9 (Nat.le_of_ble_eq_true rfl) ?_
  intro p e s m below meth c ls X hr K hl
  obtain ⟨hx, hb, hml, hown, hts, hK, hA, hth, hlk, hl9, hex⟩ := id X
  have hl : lv_has ls 3 [(0, .ref (ad 0)), (1, .int x1)] := hl
  dsimp only [wp_S_send] at hw
  refine lv_iload_n hx hb dS_send_0 rfl (lv_at hl 1 rfl) ?_
  refine lv_if_lt (tgt := 10) hx hb dS_send_1 (by decide) (fun hc => ?_) (fun hc => ?_)
  · replace hw := hw.1 hc
    exact LS_send_10 X hr f a b hw _ _ K _ (lv_sub hl [] rfl)
  · replace hw := hw.2 hc
    refine lv_iload_n hx hb dS_send_4 rfl (lv_at hl 1 rfl) ?_
    refine lv_ldc (v := (1000000 : Int32)) hx hb hown (hts _ (tm2 (i := 115) rfl rfl)) dS_send_5 ?_
    refine lv_icmp_le (tgt := 20) hx hb dS_send_7 (by decide) (fun hc => ?_) (fun hc => ?_)
    · replace hw := hw.1 hc
      refine lv_aload_n hx hb dS_send_20 rfl (lv_at hl 0 rfl) ?_
      refine gcV X K (n0 := 0) (As := []) (rest := []) (hM := (met_S_layOutNeeds hl9 D ad ca sa _ f a b _ hw)) (o := 0) (ho := by decide) (hko := kS_o0) (hci := rfl) (hg := wl_good) (w1 := (tm2 (i := 117) rfl rfl)) (w2 := (tm2 (i := 119) rfl rfl)) (w3 := (tm0 (i := 5) rfl rfl)) (w4 := (tm1 (i := 1) rfl rfl)) (w5 := (tm2 (i := 120) rfl rfl)) (hd := ⟨rfl, by decide, by decide, by decide +kernel⟩) (hrc := rfl) (hrs := rfl) (hR := ⟨Nat.le_of_ble_eq_true rfl, Nat.le_of_ble_eq_true rfl⟩) (hn := rfl) (hsz := hl.1) (hst := rfl) (hW := Nat.le_of_ble_eq_true rfl) (hdg := dS_send_21) (hf := ⟨Nat.le_of_ble_eq_true rfl, Nat.le_of_ble_eq_true rfl⟩) (fun _ _ _ _ _ _ _ _ hw => hw.elim) (fun f21 a21 b21 H locs hw K => ?_)
      refine lv_aload_n hx hb dS_send_24 rfl (lv_at hl 0 rfl) ?_
      refine gcI X K (n0 := 0) (As := []) (rest := []) (hM := (met_S_spareUnits hl9 D ad ca sa _ f21 a21 b21 _ hw)) (o := 0) (ho := by decide) (hko := kS_o0) (hci := rfl) (hg := wl_good) (w1 := (tm2 (i := 173) rfl rfl)) (w2 := (tm2 (i := 175) rfl rfl)) (w3 := (tm0 (i := 14) rfl rfl)) (w4 := (tm1 (i := 1) rfl rfl)) (w5 := (tm2 (i := 176) rfl rfl)) (hd := ⟨rfl, by decide, by decide, by decide +kernel⟩) (hrc := rfl) (hrs := rfl) (hR := ⟨Nat.le_of_ble_eq_true rfl, Nat.le_of_ble_eq_true rfl⟩) (hn := rfl) (hsz := hl.1) (hst := rfl) (hW := Nat.le_of_ble_eq_true rfl) (hdg := dS_send_25) (hf := ⟨Nat.le_of_ble_eq_true rfl, Nat.le_of_ble_eq_true rfl⟩) (fun _ _ _ _ _ _ _ _ hw => hw.elim) (fun r25 f25 a25 b25 H locs hw K => ?_)
      refine lv_istore_n (lv' := [(2, .int r25), (0, .ref (ad 0)), (1, .int x1)]) hx hb dS_send_28 rfl hl (by decide) rfl (fun ls hl => ?_)
      refine lv_aload_n hx hb dS_send_29 rfl (lv_at hl 1 rfl) ?_
      refine gGet X K (o := 0) (k := 16) (v := .ref (ad 1)) (by decide) kS_o0 rfl inS_o0 (by decide) (tm1 (i := 98) rfl rfl) rfl dS_send_30 ?_
      refine lv_iload_n hx hb dS_send_33 rfl (lv_at hl 0 rfl) ?_
      refine gcV X K (n0 := 1) (As := [.int r25]) (rest := []) (hM := (met_P_findBest hl9 D ad ca sa _ r25 f25 a25 b25 _ hw)) (o := 1) (ho := by decide) (hko := kS_o1) (hci := rfl) (hg := wl_good) (w1 := (tm2 (i := 177) rfl rfl)) (w2 := (tm2 (i := 178) rfl rfl)) (w3 := (tm2 (i := 179) rfl rfl)) (w4 := (tm1 (i := 2) rfl rfl)) (w5 := (tm2 (i := 180) rfl rfl)) (hd := ⟨rfl, by decide, by decide, by decide +kernel⟩) (hrc := rfl) (hrs := rfl) (hR := ⟨Nat.le_of_ble_eq_true rfl, Nat.le_of_ble_eq_true rfl⟩) (hn := rfl) (hsz := hl.1) (hst := rfl) (hW := Nat.le_of_ble_eq_true rfl) (hdg := dS_send_34) (hf := ⟨Nat.le_of_ble_eq_true rfl, Nat.le_of_ble_eq_true rfl⟩) (fun _ _ _ _ _ _ _ _ hw => hw.elim) (fun f34 a34 b34 H locs hw K => ?_)
      refine lv_aload_n hx hb dS_send_37 rfl (lv_at hl 1 rfl) ?_
      refine lv_iload_n hx hb dS_send_38 rfl (lv_at hl 0 rfl) ?_
      refine lv_iload_n hx hb dS_send_39 rfl (lv_at hl 2 rfl) ?_
      refine lv_iconst (v := (1 : Int32)) hx hb dS_send_40 (by decide) ?_
      refine va_mmax hx hb (hml.trans hl.1.symm) hown (hts _ (tm2 (i := 216) rfl rfl)) (hts _ (tm2 (i := 217) rfl rfl)) (hts _ (tm1 (i := 13) rfl rfl)) (hts _ (tm2 (i := 218) rfl rfl)) (Nat.le_of_ble_eq_true rfl) (Nat.le_of_ble_eq_true rfl) (Nat.le_of_ble_eq_true rfl) (Nat.le_of_ble_eq_true rfl) dS_send_41 ?_
      refine gcI X K (n0 := 2) (As := [.int r25, .int (if x1 < (1 : Int32) then (1 : Int32) else x1)]) (rest := []) (hM := (met_S_presentStays hl9 D ad ca sa _ r25 (if x1 < (1 : Int32) then (1 : Int32) else x1) f34 a34 b34 _ hw)) (o := 0) (ho := by decide) (hko := kS_o0) (hci := rfl) (hg := wl_good) (w1 := (tm2 (i := 219) rfl rfl)) (w2 := (tm2 (i := 221) rfl rfl)) (w3 := (tm0 (i := 22) rfl rfl)) (w4 := (tm1 (i := 1) rfl rfl)) (w5 := (tm2 (i := 222) rfl rfl)) (hd := ⟨rfl, by decide, by decide, by decide +kernel⟩) (hrc := rfl) (hrs := rfl) (hR := ⟨Nat.le_of_ble_eq_true rfl, Nat.le_of_ble_eq_true rfl⟩) (hn := rfl) (hsz := hl.1) (hst := rfl) (hW := Nat.le_of_ble_eq_true rfl) (hdg := dS_send_44) (hf := ⟨Nat.le_of_ble_eq_true rfl, Nat.le_of_ble_eq_true rfl⟩) (fun _ _ _ _ _ _ _ _ hw => hw.elim) (fun r44 f44 a44 b44 H locs hw K => ?_)
      refine lv_if_ne (tgt := 54) hx hb dS_send_47 (by decide) (fun hc => ?_) (fun hc => ?_)
      · replace hw := hw.1 hc
        exact LS_send_54 X hr f44 a44 b44 hw _ _ K _ (lv_sub hl [1] rfl)
      · replace hw := hw.2 hc
        refine lv_aload_n hx hb dS_send_50 rfl (lv_at hl 1 rfl) ?_
        refine gcV X K (n0 := 0) (As := []) (rest := []) (hM := (met_S_takeBest hl9 D ad ca sa _ f44 a44 b44 _ hw)) (o := 0) (ho := by decide) (hko := kS_o0) (hci := rfl) (hg := wl_good) (w1 := (tm3 (i := 3) rfl rfl)) (w2 := (tm3 (i := 5) rfl rfl)) (w3 := (tm0 (i := 23) rfl rfl)) (w4 := (tm1 (i := 1) rfl rfl)) (w5 := (tm3 (i := 6) rfl rfl)) (hd := ⟨rfl, by decide, by decide, by decide +kernel⟩) (hrc := rfl) (hrs := rfl) (hR := ⟨Nat.le_of_ble_eq_true rfl, Nat.le_of_ble_eq_true rfl⟩) (hn := rfl) (hsz := hl.1) (hst := rfl) (hW := Nat.le_of_ble_eq_true rfl) (hdg := dS_send_51) (hf := ⟨Nat.le_of_ble_eq_true rfl, Nat.le_of_ble_eq_true rfl⟩) (fun _ _ _ _ _ _ _ _ hw => hw.elim) (fun f51 a51 b51 H locs hw K => ?_)
        exact LS_send_54 X hr f51 a51 b51 hw _ _ K _ (lv_sub hl [1] rfl)
    · replace hw := hw.2 hc
      exact LS_send_10 X hr f a b hw _ _ K _ (lv_sub hl [] rfl)
set_option maxHeartbeats 4000000 in
set_option maxRecDepth 100000 in
theorem met_S_checkSent {l : Launch} (hl9 : l.stackTraces = false) (D : va_G) (ad : Nat → Nat) (ca : Nat → ClassId) (sa : Nat → Nat) (sz : Nat) (x1 : Int32) (f : wF) (a : wA) (b : wB) (po : wF → wA → wB → Prop) (px : String → wF → wA → wB → Prop) (hw : wp_S_checkSent po px x1 f a b) : mV nS kS (tyS ca) txS D vwCl l yS_checkSent (Cond.code yS_checkSent cS_checkSent 2 none :: Wl) ({ frames := 6, cells := 1, slots := 6, locals := 82 }) [.ref (ad 0), .int x1] ad ca sa sz f a b po px 1 6 := by
  refine ofV (by decide) hl9 (Nat.le_of_ble_eq_true rfl) ?_
  intro p e s m below meth c ls X hr K hl
  obtain ⟨hx, hb, hml, hown, hts, hK, hA, hth, hlk, hl9, hex⟩ := id X
  have hl : lv_has ls 2 [(0, .ref (ad 0)), (1, .int x1)] := hl
  dsimp only [wp_S_checkSent] at hw
  refine lv_aload_n hx hb dS_checkSent_0 rfl (lv_at hl 0 rfl) ?_
  refine gGet X K (o := 0) (k := 4) (v := .ref (ad 5)) (by decide) kS_o0 rfl inS_o0 (by decide) (tm1 (i := 86) rfl rfl) rfl dS_checkSent_1 ?_
  refine lv_iload_n hx hb dS_checkSent_4 rfl (lv_at hl 1 rfl) ?_
  obtain ⟨hi, hw⟩ := hw
  refine gild X K (o := 5) (t0 := 0) (by decide) kS_c5 rfl hi dS_checkSent_5 ?_
  refine lv_iconst (v := (-1 : Int32)) hx hb dS_checkSent_6 (by decide) ?_
  refine lv_icmp_ne (tgt := 20) hx hb dS_checkSent_7 (by decide) (fun hc => ?_) (fun hc => ?_)
  · replace hw := hw.1 hc
    exact endV X K hr hw (by decide) (by decide) dS_checkSent_20
  · replace hw := hw.2 hc
    exact throwX X K (k := 15) (names := ["java/lang/RuntimeException", "java/lang/Exception"]) hw (by decide +kernel) (by decide +kernel) rfl (tm2 (i := 34) rfl rfl) (tm1 (i := 11) rfl rfl) xg_S_121 xb_S_121 xo_S_121_117 hl.1 dS_checkSent_10 dS_checkSent_13 dS_checkSent_14 dS_checkSent_16 dS_checkSent_19 (by decide) (by decide) (by decide) (by decide) (by decide) (by decide)
set_option maxHeartbeats 4000000 in
set_option maxRecDepth 100000 in
theorem met_S_stay {l : Launch} (hl9 : l.stackTraces = false) (D : va_G) (ad : Nat → Nat) (ca : Nat → ClassId) (sa : Nat → Nat) (sz : Nat) (x1 : Int32) (x2 : Int32) (f : wF) (a : wA) (b : wB) (po : wF → wA → wB → Prop) (px : String → wF → wA → wB → Prop) (hw : wp_S_stay po px x1 x2 f a b) : mV nS kS (tyS ca) txS D vwCl l yS_stay (Cond.code yS_stay cS_stay 3 none :: Wl) ({ frames := 7, cells := 3, slots := 18, locals := 103 }) [.ref (ad 0), .int x1, .int x2] ad ca sa sz f a b po px 3 18 := by
  refine ofV (by decide) hl9 (Nat.le_of_ble_eq_true rfl) ?_
  intro p e s m below meth c ls X hr K hl
  obtain ⟨hx, hb, hml, hown, hts, hK, hA, hth, hlk, hl9, hex⟩ := id X
  have hl : lv_has ls 3 [(0, .ref (ad 0)), (1, .int x1), (2, .int x2)] := hl
  dsimp only [wp_S_stay] at hw
  refine lv_aload_n hx hb dS_stay_0 rfl (lv_at hl 0 rfl) ?_
  refine lv_iload_n hx hb dS_stay_1 rfl (lv_at hl 1 rfl) ?_
  refine gcV X K (n0 := 1) (As := [.int x1]) (rest := []) (hM := (met_S_checkUnit hl9 D ad ca sa _ x1 f a b _ _ hw)) (o := 0) (ho := by decide) (hko := kS_o0) (hci := rfl) (hg := wl_good) (w1 := (tm2 (i := 70) rfl rfl)) (w2 := (tm2 (i := 72) rfl rfl)) (w3 := (tm0 (i := 3) rfl rfl)) (w4 := (tm1 (i := 1) rfl rfl)) (w5 := (tm2 (i := 73) rfl rfl)) (hd := ⟨rfl, by decide, by decide, by decide +kernel⟩) (hrc := rfl) (hrs := rfl) (hR := ⟨Nat.le_of_ble_eq_true rfl, Nat.le_of_ble_eq_true rfl⟩) (hn := rfl) (hsz := hl.1) (hst := rfl) (hW := Nat.le_of_ble_eq_true rfl) (hdg := dS_stay_2) (hf := ⟨Nat.le_of_ble_eq_true rfl, Nat.le_of_ble_eq_true rfl⟩) (fun E ce q9 f1 a1 b1 H1 locs1 hw K hce hv hcl => outX X K hw hce hv hcl (by decide) (by decide)) (fun f2 a2 b2 H locs hw K => ?_)
  refine lv_aload_n hx hb dS_stay_5 rfl (lv_at hl 0 rfl) ?_
  refine lv_iload_n hx hb dS_stay_6 rfl (lv_at hl 1 rfl) ?_
  refine gcV X K (n0 := 1) (As := [.int x1]) (rest := []) (hM := (met_S_checkSent hl9 D ad ca sa _ x1 f2 a2 b2 _ _ hw)) (o := 0) (ho := by decide) (hko := kS_o0) (hci := rfl) (hg := wl_good) (w1 := (tm3 (i := 22) rfl rfl)) (w2 := (tm3 (i := 24) rfl rfl)) (w3 := (tm0 (i := 25) rfl rfl)) (w4 := (tm1 (i := 1) rfl rfl)) (w5 := (tm3 (i := 25) rfl rfl)) (hd := ⟨rfl, by decide, by decide, by decide +kernel⟩) (hrc := rfl) (hrs := rfl) (hR := ⟨Nat.le_of_ble_eq_true rfl, Nat.le_of_ble_eq_true rfl⟩) (hn := rfl) (hsz := hl.1) (hst := rfl) (hW := Nat.le_of_ble_eq_true rfl) (hdg := dS_stay_7) (hf := ⟨Nat.le_of_ble_eq_true rfl, Nat.le_of_ble_eq_true rfl⟩) (fun E ce q9 f1 a1 b1 H1 locs1 hw K hce hv hcl => outX X K hw hce hv hcl (by decide) (by decide)) (fun f7 a7 b7 H locs hw K => ?_)
  refine lv_aload_n hx hb dS_stay_10 rfl (lv_at hl 0 rfl) ?_
  refine gGet X K (o := 0) (k := 3) (v := .ref (ad 4)) (by decide) kS_o0 rfl inS_o0 (by decide) (tm1 (i := 85) rfl rfl) rfl dS_stay_11 ?_
  refine lv_iload_n hx hb dS_stay_14 rfl (lv_at hl 1 rfl) ?_
  obtain ⟨hi, hw⟩ := hw
  refine gzld X K (o := 4) (t0 := 1) (by decide) kS_c4 rfl hi dS_stay_15 ?_
  refine lv_iload_n hx hb dS_stay_16 rfl (lv_at hl 2 rfl) ?_
  refine lv_icmp_ne (tgt := 30) hx hb dS_stay_17 (by decide) (fun hc => ?_) (fun hc => ?_)
  · replace hw := hw.1 hc
    refine lv_aload_n hx hb dS_stay_30 rfl (lv_at hl 0 rfl) ?_
    refine gGet X K (o := 0) (k := 3) (v := .ref (ad 4)) (by decide) kS_o0 rfl inS_o0 (by decide) (tm1 (i := 85) rfl rfl) rfl dS_stay_31 ?_
    refine lv_iload_n hx hb dS_stay_34 rfl (lv_at hl 1 rfl) ?_
    refine lv_iload_n hx hb dS_stay_35 rfl (lv_at hl 2 rfl) ?_
    obtain ⟨hi, hw⟩ := hw
    refine gzst X K (o := 4) (t0 := 1) (by decide) kS_c4 rfl hi dS_stay_36 kS_p4 (fun H locs K => ?_)
    exact endV X K hr hw (by decide) (by decide) dS_stay_37
  · replace hw := hw.2 hc
    exact throwX X K (k := 13) (names := ["java/lang/RuntimeException", "java/lang/Exception"]) hw (by decide +kernel) (by decide +kernel) rfl (tm2 (i := 34) rfl rfl) (tm1 (i := 11) rfl rfl) xg_S_121 xb_S_121 xo_S_121_117 hl.1 dS_stay_20 dS_stay_23 dS_stay_24 dS_stay_26 dS_stay_29 (by decide) (by decide) (by decide) (by decide) (by decide) (by decide)
set_option maxHeartbeats 4000000 in
set_option maxRecDepth 100000 in
theorem met_S_recall {l : Launch} (hl9 : l.stackTraces = false) (D : va_G) (ad : Nat → Nat) (ca : Nat → ClassId) (sa : Nat → Nat) (sz : Nat) (x1 : Int32) (f : wF) (a : wA) (b : wB) (po : wF → wA → wB → Prop) (px : String → wF → wA → wB → Prop) (hw : wp_S_recall po px x1 f a b) : mV nS kS (tyS ca) txS D vwCl l yS_recall (Cond.code yS_recall cS_recall 2 none :: Wl) ({ frames := 7, cells := 2, slots := 12, locals := 103 }) [.ref (ad 0), .int x1] ad ca sa sz f a b po px 2 12 := by
  refine ofV (by decide) hl9 (Nat.le_of_ble_eq_true rfl) ?_
  intro p e s m below meth c ls X hr K hl
  obtain ⟨hx, hb, hml, hown, hts, hK, hA, hth, hlk, hl9, hex⟩ := id X
  have hl : lv_has ls 2 [(0, .ref (ad 0)), (1, .int x1)] := hl
  dsimp only [wp_S_recall] at hw
  refine lv_aload_n hx hb dS_recall_0 rfl (lv_at hl 0 rfl) ?_
  refine lv_iload_n hx hb dS_recall_1 rfl (lv_at hl 1 rfl) ?_
  refine gcV X K (n0 := 1) (As := [.int x1]) (rest := []) (hM := (met_S_checkUnit hl9 D ad ca sa _ x1 f a b _ _ hw)) (o := 0) (ho := by decide) (hko := kS_o0) (hci := rfl) (hg := wl_good) (w1 := (tm2 (i := 70) rfl rfl)) (w2 := (tm2 (i := 72) rfl rfl)) (w3 := (tm0 (i := 3) rfl rfl)) (w4 := (tm1 (i := 1) rfl rfl)) (w5 := (tm2 (i := 73) rfl rfl)) (hd := ⟨rfl, by decide, by decide, by decide +kernel⟩) (hrc := rfl) (hrs := rfl) (hR := ⟨Nat.le_of_ble_eq_true rfl, Nat.le_of_ble_eq_true rfl⟩) (hn := rfl) (hsz := hl.1) (hst := rfl) (hW := Nat.le_of_ble_eq_true rfl) (hdg := dS_recall_2) (hf := ⟨Nat.le_of_ble_eq_true rfl, Nat.le_of_ble_eq_true rfl⟩) (fun E ce q9 f1 a1 b1 H1 locs1 hw K hce hv hcl => outX X K hw hce hv hcl (by decide) (by decide)) (fun f2 a2 b2 H locs hw K => ?_)
  refine lv_aload_n hx hb dS_recall_5 rfl (lv_at hl 0 rfl) ?_
  refine lv_iload_n hx hb dS_recall_6 rfl (lv_at hl 1 rfl) ?_
  refine gcV X K (n0 := 1) (As := [.int x1]) (rest := []) (hM := (met_S_checkSent hl9 D ad ca sa _ x1 f2 a2 b2 _ _ hw)) (o := 0) (ho := by decide) (hko := kS_o0) (hci := rfl) (hg := wl_good) (w1 := (tm3 (i := 22) rfl rfl)) (w2 := (tm3 (i := 24) rfl rfl)) (w3 := (tm0 (i := 25) rfl rfl)) (w4 := (tm1 (i := 1) rfl rfl)) (w5 := (tm3 (i := 25) rfl rfl)) (hd := ⟨rfl, by decide, by decide, by decide +kernel⟩) (hrc := rfl) (hrs := rfl) (hR := ⟨Nat.le_of_ble_eq_true rfl, Nat.le_of_ble_eq_true rfl⟩) (hn := rfl) (hsz := hl.1) (hst := rfl) (hW := Nat.le_of_ble_eq_true rfl) (hdg := dS_recall_7) (hf := ⟨Nat.le_of_ble_eq_true rfl, Nat.le_of_ble_eq_true rfl⟩) (fun E ce q9 f1 a1 b1 H1 locs1 hw K hce hv hcl => outX X K hw hce hv hcl (by decide) (by decide)) (fun f7 a7 b7 H locs hw K => ?_)
  refine lv_aload_n hx hb dS_recall_10 rfl (lv_at hl 0 rfl) ?_
  refine lv_iload_n hx hb dS_recall_11 rfl (lv_at hl 1 rfl) ?_
  refine gcV X K (n0 := 1) (As := [.int x1]) (rest := []) (hM := (met_S_free hl9 D ad ca sa _ x1 f7 a7 b7 _ hw)) (o := 0) (ho := by decide) (hko := kS_o0) (hci := rfl) (hg := wl_good) (w1 := (tm2 (i := 104) rfl rfl)) (w2 := (tm2 (i := 106) rfl rfl)) (w3 := (tm0 (i := 4) rfl rfl)) (w4 := (tm1 (i := 1) rfl rfl)) (w5 := (tm2 (i := 107) rfl rfl)) (hd := ⟨rfl, by decide, by decide, by decide +kernel⟩) (hrc := rfl) (hrs := rfl) (hR := ⟨Nat.le_of_ble_eq_true rfl, Nat.le_of_ble_eq_true rfl⟩) (hn := rfl) (hsz := hl.1) (hst := rfl) (hW := Nat.le_of_ble_eq_true rfl) (hdg := dS_recall_12) (hf := ⟨Nat.le_of_ble_eq_true rfl, Nat.le_of_ble_eq_true rfl⟩) (fun _ _ _ _ _ _ _ _ hw => hw.elim) (fun f12 a12 b12 H locs hw K => ?_)
  exact endV X K hr hw (by decide) (by decide) dS_recall_15
set_option maxHeartbeats 4000000 in
set_option maxRecDepth 100000 in
theorem LS_close_57 {p : Program} {l : Launch} {e : Env} {s : State} {m : MethodId} {below : List Frame} {meth : Method} {c : Code} {D : va_G} {sa : Nat → Nat} {ad : Nat → Nat} {ca : Nat → ClassId} {sz : Nat} {f0 : wF} {a0 : wA} {b0 : wB} {y1 : Int32} {po : wF → wA → wB → Prop} {px : String → wF → wA → wB → Prop} (X : cx Wl (tyS ca) txS D vwCl sa (va_A (ww nS kS ad ca f0 a0 b0) sz) p l s m ([.ref (ad 0), .int y1] : List Value).toArray meth c cS_close 3 "SendBest") (hr : meth.sig.returnType = none) (J19 : Int32 → Int32 → wF → wA → wB → Prop) (hJ19 : ∀ (x1 : Int32) (x2 : Int32) (f : wF) (a : wA) (b : wB), J19 x1 x2 f a b → ∀ (H : Heap) (locs : List Loc), wd nS kS D vwCl ad ca (va_A (ww nS kS ad ca f0 a0 b0) sz) s H locs f a b → ∀ (ls : Array Slot), lv_has ls 3 [(0, .ref (ad 0)), (1, .int x1), (2, .int x2)] → W p l e ({ frames := 7, cells := 2, slots := 12, locals := 103 }) s m ([.ref (ad 0), .int y1] : List Value).toArray below meth c H locs 2 12 (vx_MQ below (va_Qv (fun (u : wF × wA × wB) => po u.1 u.2.1 u.2.2) (sPost nS kS D vwCl ad ca (va_A (ww nS kS ad ca f0 a0 b0) sz)) (va_A (ww nS kS ad ca f0 a0 b0) sz)) (sX nS kS D vwCl ad ca (va_A (ww nS kS ad ca f0 a0 b0) sz) px) ([.ref (ad 0), .int y1] : List Value).toArray s 2 12 (va_A (ww nS kS ad ca f0 a0 b0) sz)) (F0 m 19 ls [])) : ∀ (x1 : Int32) (x2 : Int32) (f : wF) (a : wA) (b : wB), wp_S_close_57 po px J19 x1 x2 f a b → ∀ (H : Heap) (locs : List Loc), wd nS kS D vwCl ad ca (va_A (ww nS kS ad ca f0 a0 b0) sz) s H locs f a b → ∀ (ls : Array Slot), lv_has ls 3 [(0, .ref (ad 0)), (1, .int x1), (2, .int x2)] → W p l e ({ frames := 7, cells := 2, slots := 12, locals := 103 }) s m ([.ref (ad 0), .int y1] : List Value).toArray below meth c H locs 2 12 (vx_MQ below (va_Qv (fun (u : wF × wA × wB) => po u.1 u.2.1 u.2.2) (sPost nS kS D vwCl ad ca (va_A (ww nS kS ad ca f0 a0 b0) sz)) (va_A (ww nS kS ad ca f0 a0 b0) sz)) (sX nS kS D vwCl ad ca (va_A (ww nS kS ad ca f0 a0 b0) sz) px) ([.ref (ad 0), .int y1] : List Value).toArray s 2 12 (va_A (ww nS kS ad ca f0 a0 b0) sz)) (F0 m 57 ls []) := by
  obtain ⟨hx, hb, hml, hown, hts, hK, hA, hth, hlk, hl9, hex⟩ := id X
  intro x1 x2 f a b hw H locs K ls hl
  dsimp only [wp_S_close_57] at hw
  refine lv_iinc (v := (x2 + (1 : Int32))) (lv' := [(2, .int (x2 + (1 : Int32))), (0, .ref (ad 0)), (1, .int x1)]) hx hb dS_close_57 hl (k := 2) rfl rfl (by decide) rfl (fun ls hl => ?_)
  refine lv_goto (tgt := 19) hx hb dS_close_60 (by decide) ?_
  exact hJ19 x1 (x2 + (1 : Int32)) f a b hw _ _ K _ (lv_sub hl [1, 2, 0] rfl)
set_option maxHeartbeats 4000000 in
set_option maxRecDepth 100000 in
theorem LS_close_19 {p : Program} {l : Launch} {e : Env} {s : State} {m : MethodId} {below : List Frame} {meth : Method} {c : Code} {D : va_G} {sa : Nat → Nat} {ad : Nat → Nat} {ca : Nat → ClassId} {sz : Nat} {f0 : wF} {a0 : wA} {b0 : wB} {y1 : Int32} {po : wF → wA → wB → Prop} {px : String → wF → wA → wB → Prop} (X : cx Wl (tyS ca) txS D vwCl sa (va_A (ww nS kS ad ca f0 a0 b0) sz) p l s m ([.ref (ad 0), .int y1] : List Value).toArray meth c cS_close 3 "SendBest") (hr : meth.sig.returnType = none) : ∀ n : Nat, ∀ (x1 : Int32) (x2 : Int32) (f : wF) (a : wA) (b : wB), wp_S_close_19 po px n x1 x2 f a b → ∀ (H : Heap) (locs : List Loc), wd nS kS D vwCl ad ca (va_A (ww nS kS ad ca f0 a0 b0) sz) s H locs f a b → ∀ (ls : Array Slot), lv_has ls 3 [(0, .ref (ad 0)), (1, .int x1), (2, .int x2)] → W p l e ({ frames := 7, cells := 2, slots := 12, locals := 103 }) s m ([.ref (ad 0), .int y1] : List Value).toArray below meth c H locs 2 12 (vx_MQ below (va_Qv (fun (u : wF × wA × wB) => po u.1 u.2.1 u.2.2) (sPost nS kS D vwCl ad ca (va_A (ww nS kS ad ca f0 a0 b0) sz)) (va_A (ww nS kS ad ca f0 a0 b0) sz)) (sX nS kS D vwCl ad ca (va_A (ww nS kS ad ca f0 a0 b0) sz) px) ([.ref (ad 0), .int y1] : List Value).toArray s 2 12 (va_A (ww nS kS ad ca f0 a0 b0) sz)) (F0 m 19 ls []) := by
  obtain ⟨hx, hb, hml, hown, hts, hK, hA, hth, hlk, hl9, hex⟩ := id X
  intro n
  induction n with
  | zero => intro x1 x2 f a b hw; exact hw.elim
  | succ n ih =>
    intro x1 x2 f a b hw H locs K ls hl
    dsimp only [wp_S_close_19] at hw
    refine lv_iload_n hx hb dS_close_19 rfl (lv_at hl 2 rfl) ?_
    refine lv_aload_n hx hb dS_close_20 rfl (lv_at hl 0 rfl) ?_
    refine gGet X K (o := 0) (k := 9) (v := .int (f 2)) (by decide) kS_o0 rfl inS_o0 (by decide) (tm1 (i := 91) rfl rfl) rfl dS_close_21 ?_
    refine lv_icmp_ge (tgt := 63) hx hb dS_close_24 (by decide) (fun hc => ?_) (fun hc => ?_)
    · replace hw := hw.1 hc
      exact endV X K hr hw (by decide) (by decide) dS_close_63
    · replace hw := hw.2 hc
      refine lv_aload_n hx hb dS_close_27 rfl (lv_at hl 0 rfl) ?_
      refine gGet X K (o := 0) (k := 10) (v := .ref (ad 9)) (by decide) kS_o0 rfl inS_o0 (by decide) (tm1 (i := 92) rfl rfl) rfl dS_close_28 ?_
      refine lv_iload_n hx hb dS_close_31 rfl (lv_at hl 2 rfl) ?_
      obtain ⟨hi, hw⟩ := hw
      refine gild X K (o := 9) (t0 := 0) (by decide) kS_c9 rfl hi dS_close_32 ?_
      refine lv_iload_n hx hb dS_close_33 rfl (lv_at hl 1 rfl) ?_
      refine lv_icmp_ne (tgt := 57) hx hb dS_close_34 (by decide) (fun hc => ?_) (fun hc => ?_)
      · replace hw := hw.1 hc
        exact LS_close_57 X hr (wp_S_close_19 po px n) ih x1 x2 f a b hw _ _ K _ (lv_sub hl [0, 1, 2] rfl)
      · replace hw := hw.2 hc
        refine lv_aload_n hx hb dS_close_37 rfl (lv_at hl 0 rfl) ?_
        refine gGet X K (o := 0) (k := 12) (v := .ref (ad 11)) (by decide) kS_o0 rfl inS_o0 (by decide) (tm1 (i := 94) rfl rfl) rfl dS_close_38 ?_
        refine lv_iload_n hx hb dS_close_41 rfl (lv_at hl 2 rfl) ?_
        obtain ⟨hi, hw⟩ := hw
        refine gild X K (o := 11) (t0 := 0) (by decide) kS_c11 rfl hi dS_close_42 ?_
        refine lv_iconst (v := (-1 : Int32)) hx hb dS_close_43 (by decide) ?_
        refine lv_icmp_eq (tgt := 57) hx hb dS_close_44 (by decide) (fun hc => ?_) (fun hc => ?_)
        · replace hw := hw.1 hc
          exact LS_close_57 X hr (wp_S_close_19 po px n) ih x1 x2 f a b hw _ _ K _ (lv_sub hl [0, 1, 2] rfl)
        · replace hw := hw.2 hc
          refine lv_aload_n hx hb dS_close_47 rfl (lv_at hl 0 rfl) ?_
          refine lv_aload_n hx hb dS_close_48 rfl (lv_at hl 0 rfl) ?_
          refine gGet X K (o := 0) (k := 12) (v := .ref (ad 11)) (by decide) kS_o0 rfl inS_o0 (by decide) (tm1 (i := 94) rfl rfl) rfl dS_close_49 ?_
          refine lv_iload_n hx hb dS_close_52 rfl (lv_at hl 2 rfl) ?_
          obtain ⟨hi, hw⟩ := hw
          refine gild X K (o := 11) (t0 := 0) (by decide) kS_c11 rfl hi dS_close_53 ?_
          refine gcV X K (n0 := 1) (As := [.int (a 11 x2.toNatClampNeg)]) (rest := []) (hM := (met_S_free hl9 D ad ca sa _ (a 11 x2.toNatClampNeg) f a b _ hw)) (o := 0) (ho := by decide) (hko := kS_o0) (hci := rfl) (hg := wl_good) (w1 := (tm2 (i := 104) rfl rfl)) (w2 := (tm2 (i := 106) rfl rfl)) (w3 := (tm0 (i := 4) rfl rfl)) (w4 := (tm1 (i := 1) rfl rfl)) (w5 := (tm2 (i := 107) rfl rfl)) (hd := ⟨rfl, by decide, by decide, by decide +kernel⟩) (hrc := rfl) (hrs := rfl) (hR := ⟨Nat.le_of_ble_eq_true rfl, Nat.le_of_ble_eq_true rfl⟩) (hn := rfl) (hsz := hl.1) (hst := rfl) (hW := Nat.le_of_ble_eq_true rfl) (hdg := dS_close_54) (hf := ⟨Nat.le_of_ble_eq_true rfl, Nat.le_of_ble_eq_true rfl⟩) (fun _ _ _ _ _ _ _ _ hw => hw.elim) (fun f54 a54 b54 H locs hw K => ?_)
          exact LS_close_57 X hr (wp_S_close_19 po px n) ih x1 x2 f54 a54 b54 hw _ _ K _ (lv_sub hl [0, 1, 2] rfl)
set_option maxHeartbeats 4000000 in
set_option maxRecDepth 100000 in
theorem met_S_close {l : Launch} (hl9 : l.stackTraces = false) (D : va_G) (ad : Nat → Nat) (ca : Nat → ClassId) (sa : Nat → Nat) (sz : Nat) (x1 : Int32) (f : wF) (a : wA) (b : wB) (po : wF → wA → wB → Prop) (px : String → wF → wA → wB → Prop) (hw : wp_S_close po px x1 f a b) : mV nS kS (tyS ca) txS D vwCl l yS_close (Cond.code yS_close cS_close 3 none :: Wl) ({ frames := 7, cells := 2, slots := 12, locals := 103 }) [.ref (ad 0), .int x1] ad ca sa sz f a b po px 2 12 := by
  refine ofV (by decide) hl9 (Nat.le_of_ble_eq_true rfl) ?_
  intro p e s m below meth c ls X hr K hl
  obtain ⟨hx, hb, hml, hown, hts, hK, hA, hth, hlk, hl9, hex⟩ := id X
  have hl : lv_has ls 3 [(0, .ref (ad 0)), (1, .int x1)] := hl
  dsimp only [wp_S_close] at hw
  refine lv_aload_n hx hb dS_close_0 rfl (lv_at hl 0 rfl) ?_
  refine lv_iload_n hx hb dS_close_1 rfl (lv_at hl 1 rfl) ?_
  refine gcV X K (n0 := 1) (As := [.int x1]) (rest := []) (hM := (met_S_checkIncident hl9 D ad ca sa _ x1 f a b _ _ hw)) (o := 0) (ho := by decide) (hko := kS_o0) (hci := rfl) (hg := wl_good) (w1 := (tm2 (i := 10) rfl rfl)) (w2 := (tm2 (i := 12) rfl rfl)) (w3 := (tm0 (i := 1) rfl rfl)) (w4 := (tm1 (i := 1) rfl rfl)) (w5 := (tm2 (i := 13) rfl rfl)) (hd := ⟨rfl, by decide, by decide, by decide +kernel⟩) (hrc := rfl) (hrs := rfl) (hR := ⟨Nat.le_of_ble_eq_true rfl, Nat.le_of_ble_eq_true rfl⟩) (hn := rfl) (hsz := hl.1) (hst := rfl) (hW := Nat.le_of_ble_eq_true rfl) (hdg := dS_close_2) (hf := ⟨Nat.le_of_ble_eq_true rfl, Nat.le_of_ble_eq_true rfl⟩) (fun E ce q9 f1 a1 b1 H1 locs1 hw K hce hv hcl => outX X K hw hce hv hcl (by decide) (by decide)) (fun f2 a2 b2 H locs hw K => ?_)
  refine lv_aload_n hx hb dS_close_5 rfl (lv_at hl 0 rfl) ?_
  refine lv_iload_n hx hb dS_close_6 rfl (lv_at hl 1 rfl) ?_
  refine gcV X K (n0 := 1) (As := [.int x1]) (rest := []) (hM := (met_S_checkOpen hl9 D ad ca sa _ x1 f2 a2 b2 _ _ hw)) (o := 0) (ho := by decide) (hko := kS_o0) (hci := rfl) (hg := wl_good) (w1 := (tm2 (i := 30) rfl rfl)) (w2 := (tm2 (i := 32) rfl rfl)) (w3 := (tm0 (i := 2) rfl rfl)) (w4 := (tm1 (i := 1) rfl rfl)) (w5 := (tm2 (i := 33) rfl rfl)) (hd := ⟨rfl, by decide, by decide, by decide +kernel⟩) (hrc := rfl) (hrs := rfl) (hR := ⟨Nat.le_of_ble_eq_true rfl, Nat.le_of_ble_eq_true rfl⟩) (hn := rfl) (hsz := hl.1) (hst := rfl) (hW := Nat.le_of_ble_eq_true rfl) (hdg := dS_close_7) (hf := ⟨Nat.le_of_ble_eq_true rfl, Nat.le_of_ble_eq_true rfl⟩) (fun E ce q9 f1 a1 b1 H1 locs1 hw K hce hv hcl => outX X K hw hce hv hcl (by decide) (by decide)) (fun f7 a7 b7 H locs hw K => ?_)
  refine lv_aload_n hx hb dS_close_10 rfl (lv_at hl 0 rfl) ?_
  refine gGet X K (o := 0) (k := 8) (v := .ref (ad 8)) (by decide) kS_o0 rfl inS_o0 (by decide) (tm1 (i := 90) rfl rfl) rfl dS_close_11 ?_
  refine lv_iload_n hx hb dS_close_14 rfl (lv_at hl 1 rfl) ?_
  refine lv_iconst (v := (0 : Int32)) hx hb dS_close_15 (by decide) ?_
  obtain ⟨hi, hw⟩ := hw
  refine gzst X K (o := 8) (t0 := 1) (by decide) kS_c8 rfl hi dS_close_16 kS_p8 (fun H locs K => ?_)
  refine lv_iconst (v := (0 : Int32)) hx hb dS_close_17 (by decide) ?_
  refine lv_istore_n (lv' := [(2, .int (0 : Int32)), (0, .ref (ad 0)), (1, .int x1)]) hx hb dS_close_18 rfl hl (by decide) rfl (fun ls hl => ?_)
  obtain ⟨n9, hw⟩ := hw
  exact LS_close_19 X hr n9 x1 (0 : Int32) f7 (va_up a7 8 (upd (a7 8) x1.toNatClampNeg (vp_nar .boolean (0 : Int32)))) b7 hw _ _ K _ (lv_sub hl [1, 2, 0] rfl)
set_option maxHeartbeats 4000000 in
set_option maxRecDepth 100000 in
theorem LS_checkNeed_12 {p : Program} {l : Launch} {e : Env} {s : State} {m : MethodId} {below : List Frame} {meth : Method} {c : Code} {D : va_G} {sa : Nat → Nat} {ad : Nat → Nat} {ca : Nat → ClassId} {sz : Nat} {f0 : wF} {a0 : wA} {b0 : wB} {y1 : Int32} {po : wF → wA → wB → Prop} {px : String → wF → wA → wB → Prop} (X : cx Wl (tyS ca) txS D vwCl sa (va_A (ww nS kS ad ca f0 a0 b0) sz) p l s m ([.ref (ad 0), .int y1] : List Value).toArray meth c cS_checkNeed 2 "SendBest") (hr : meth.sig.returnType = none) : ∀ (f : wF) (a : wA) (b : wB), wp_S_checkNeed_12 po px f a b → ∀ (H : Heap) (locs : List Loc), wd nS kS D vwCl ad ca (va_A (ww nS kS ad ca f0 a0 b0) sz) s H locs f a b → ∀ (ls : Array Slot), lv_has ls 2 [] → W p l e ({ frames := 6, cells := 1, slots := 6, locals := 82 }) s m ([.ref (ad 0), .int y1] : List Value).toArray below meth c H locs 0 0 (vx_MQ below (va_Qv (fun (u : wF × wA × wB) => po u.1 u.2.1 u.2.2) (sPost nS kS D vwCl ad ca (va_A (ww nS kS ad ca f0 a0 b0) sz)) (va_A (ww nS kS ad ca f0 a0 b0) sz)) (sX nS kS D vwCl ad ca (va_A (ww nS kS ad ca f0 a0 b0) sz) px) ([.ref (ad 0), .int y1] : List Value).toArray s 1 6 (va_A (ww nS kS ad ca f0 a0 b0) sz)) (F0 m 12 ls []) := by
  obtain ⟨hx, hb, hml, hown, hts, hK, hA, hth, hlk, hl9, hex⟩ := id X
  intro  f a b hw H locs K ls hl
  dsimp only [wp_S_checkNeed_12] at hw
  exact throwX X K (k := 16) (names := ["java/lang/RuntimeException", "java/lang/Exception"]) hw (by decide +kernel) (by decide +kernel) rfl (tm2 (i := 14) rfl rfl) (tm1 (i := 10) rfl rfl) xg_S_168 xb_S_168 xo_S_168_164 hl.1 dS_checkNeed_12 dS_checkNeed_15 dS_checkNeed_16 dS_checkNeed_18 dS_checkNeed_21 (by decide) (by decide) (by decide) (by decide) (by decide) (by decide)
set_option maxHeartbeats 4000000 in
set_option maxRecDepth 100000 in
theorem met_S_checkNeed {l : Launch} (hl9 : l.stackTraces = false) (D : va_G) (ad : Nat → Nat) (ca : Nat → ClassId) (sa : Nat → Nat) (sz : Nat) (x1 : Int32) (f : wF) (a : wA) (b : wB) (po : wF → wA → wB → Prop) (px : String → wF → wA → wB → Prop) (hw : wp_S_checkNeed po px x1 f a b) : mV nS kS (tyS ca) txS D vwCl l yS_checkNeed (Cond.code yS_checkNeed cS_checkNeed 2 none :: Wl) ({ frames := 6, cells := 1, slots := 6, locals := 82 }) [.ref (ad 0), .int x1] ad ca sa sz f a b po px 1 6 := by
  refine ofV (by decide) hl9 (Nat.le_of_ble_eq_true rfl) ?_
  intro p e s m below meth c ls X hr K hl
  obtain ⟨hx, hb, hml, hown, hts, hK, hA, hth, hlk, hl9, hex⟩ := id X
  have hl : lv_has ls 2 [(0, .ref (ad 0)), (1, .int x1)] := hl
  dsimp only [wp_S_checkNeed] at hw
  refine lv_iload_n hx hb dS_checkNeed_0 rfl (lv_at hl 1 rfl) ?_
  refine lv_if_lt (tgt := 12) hx hb dS_checkNeed_1 (by decide) (fun hc => ?_) (fun hc => ?_)
  · replace hw := hw.1 hc
    exact LS_checkNeed_12 X hr f a b hw _ _ K _ (lv_sub hl [] rfl)
  · replace hw := hw.2 hc
    refine lv_iload_n hx hb dS_checkNeed_4 rfl (lv_at hl 1 rfl) ?_
    refine lv_aload_n hx hb dS_checkNeed_5 rfl (lv_at hl 0 rfl) ?_
    refine gGet X K (o := 0) (k := 9) (v := .int (f 2)) (by decide) kS_o0 rfl inS_o0 (by decide) (tm1 (i := 91) rfl rfl) rfl dS_checkNeed_6 ?_
    refine lv_icmp_lt (tgt := 22) hx hb dS_checkNeed_9 (by decide) (fun hc => ?_) (fun hc => ?_)
    · replace hw := hw.1 hc
      exact endV X K hr hw (by decide) (by decide) dS_checkNeed_22
    · replace hw := hw.2 hc
      exact LS_checkNeed_12 X hr f a b hw _ _ K _ (lv_sub hl [] rfl)
set_option maxHeartbeats 4000000 in
set_option maxRecDepth 100000 in
theorem LS_needAt_70 {p : Program} {l : Launch} {e : Env} {s : State} {m : MethodId} {below : List Frame} {meth : Method} {c : Code} {D : va_G} {sa : Nat → Nat} {ad : Nat → Nat} {ca : Nat → ClassId} {sz : Nat} {f0 : wF} {a0 : wA} {b0 : wB} {y1 : Int32} {y2 : Int32} {po : Int32 → wF → wA → wB → Prop} {px : String → wF → wA → wB → Prop} (X : cx Wl (tyS ca) txS D vwCl sa (va_A (ww nS kS ad ca f0 a0 b0) sz) p l s m ([.ref (ad 0), .int y1, .int y2] : List Value).toArray meth c cS_needAt 3 "SendBest") (hr : meth.sig.returnType = (some .int)) : ∀ (k0 : Int32) (f : wF) (a : wA) (b : wB), wp_S_needAt_70 po px k0 f a b → ∀ (H : Heap) (locs : List Loc), wd nS kS D vwCl ad ca (va_A (ww nS kS ad ca f0 a0 b0) sz) s H locs f a b → ∀ (ls : Array Slot), lv_has ls 3 [] → W p l e ({ frames := 7, cells := 2, slots := 12, locals := 103 }) s m ([.ref (ad 0), .int y1, .int y2] : List Value).toArray below meth c H locs 1 6 (vx_MQ below (va_Qi (fun r (u : wF × wA × wB) => po r u.1 u.2.1 u.2.2) (sPost nS kS D vwCl ad ca (va_A (ww nS kS ad ca f0 a0 b0) sz)) (va_A (ww nS kS ad ca f0 a0 b0) sz)) (sX nS kS D vwCl ad ca (va_A (ww nS kS ad ca f0 a0 b0) sz) px) ([.ref (ad 0), .int y1, .int y2] : List Value).toArray s 2 12 (va_A (ww nS kS ad ca f0 a0 b0) sz)) (F0 m 70 ls [.int k0]) := by
  obtain ⟨hx, hb, hml, hown, hts, hK, hA, hth, hlk, hl9, hex⟩ := id X
  intro k0 f a b hw H locs K ls hl
  dsimp only [wp_S_needAt_70] at hw
  exact endI X K hr rfl hw (by decide) (by decide) dS_needAt_70
set_option maxHeartbeats 4000000 in
set_option maxRecDepth 100000 in
theorem met_S_needAt {l : Launch} (hl9 : l.stackTraces = false) (D : va_G) (ad : Nat → Nat) (ca : Nat → ClassId) (sa : Nat → Nat) (sz : Nat) (x1 : Int32) (x2 : Int32) (f : wF) (a : wA) (b : wB) (po : Int32 → wF → wA → wB → Prop) (px : String → wF → wA → wB → Prop) (hw : wp_S_needAt po px x1 x2 f a b) : mI nS kS (tyS ca) txS D vwCl l yS_needAt (Cond.code yS_needAt cS_needAt 3 (some .int) :: Wl) ({ frames := 7, cells := 2, slots := 12, locals := 103 }) [.ref (ad 0), .int x1, .int x2] ad ca sa sz f a b po px 2 12 := by
  refine ofI (by decide) hl9 (Nat.le_of_ble_eq_true rfl) ?_
  intro p e s m below meth c ls X hr K hl
  obtain ⟨hx, hb, hml, hown, hts, hK, hA, hth, hlk, hl9, hex⟩ := id X
  have hl : lv_has ls 3 [(0, .ref (ad 0)), (1, .int x1), (2, .int x2)] := hl
  dsimp only [wp_S_needAt] at hw
  refine lv_aload_n hx hb dS_needAt_0 rfl (lv_at hl 0 rfl) ?_
  refine lv_iload_n hx hb dS_needAt_1 rfl (lv_at hl 1 rfl) ?_
  refine gcV X K (n0 := 1) (As := [.int x1]) (rest := []) (hM := (met_S_checkNeed hl9 D ad ca sa _ x1 f a b _ _ hw)) (o := 0) (ho := by decide) (hko := kS_o0) (hci := rfl) (hg := wl_good) (w1 := (tm3 (i := 48) rfl rfl)) (w2 := (tm3 (i := 50) rfl rfl)) (w3 := (tm0 (i := 26) rfl rfl)) (w4 := (tm1 (i := 1) rfl rfl)) (w5 := (tm3 (i := 51) rfl rfl)) (hd := ⟨rfl, by decide, by decide, by decide +kernel⟩) (hrc := rfl) (hrs := rfl) (hR := ⟨Nat.le_of_ble_eq_true rfl, Nat.le_of_ble_eq_true rfl⟩) (hn := rfl) (hsz := hl.1) (hst := rfl) (hW := Nat.le_of_ble_eq_true rfl) (hdg := dS_needAt_2) (hf := ⟨Nat.le_of_ble_eq_true rfl, Nat.le_of_ble_eq_true rfl⟩) (fun E ce q9 f1 a1 b1 H1 locs1 hw K hce hv hcl => outX X K hw hce hv hcl (by decide) (by decide)) (fun f2 a2 b2 H locs hw K => ?_)
  refine lv_iload_n hx hb dS_needAt_5 rfl (lv_at hl 2 rfl) ?_
  by_cases hc0 : x2 = (0)
  · replace hw := hw.1 hc0
    refine lv_tableIn (tgt := 36) (off := 30) hx hb dS_needAt_6 (by rw [hc0]; decide) (by rw [hc0]; decide) (by rw [hc0]; decide) (by decide) ?_
    refine lv_aload_n hx hb dS_needAt_36 rfl (lv_at hl 0 rfl) ?_
    refine gGet X K (o := 0) (k := 10) (v := .ref (ad 9)) (by decide) kS_o0 rfl inS_o0 (by decide) (tm1 (i := 92) rfl rfl) rfl dS_needAt_37 ?_
    refine lv_iload_n hx hb dS_needAt_40 rfl (lv_at hl 1 rfl) ?_
    obtain ⟨hi, hw⟩ := hw
    refine gild X K (o := 9) (t0 := 0) (by decide) kS_c9 rfl hi dS_needAt_41 ?_
    exact endI X K hr rfl hw (by decide) (by decide) dS_needAt_42
  · by_cases hc1 : x2 = (1)
    · replace hw := hw.2.1 hc1
      refine lv_tableIn (tgt := 43) (off := 37) hx hb dS_needAt_6 (by rw [hc1]; decide) (by rw [hc1]; decide) (by rw [hc1]; decide) (by decide) ?_
      refine lv_aload_n hx hb dS_needAt_43 rfl (lv_at hl 0 rfl) ?_
      refine gGet X K (o := 0) (k := 11) (v := .ref (ad 10)) (by decide) kS_o0 rfl inS_o0 (by decide) (tm1 (i := 93) rfl rfl) rfl dS_needAt_44 ?_
      refine lv_iload_n hx hb dS_needAt_47 rfl (lv_at hl 1 rfl) ?_
      obtain ⟨hi, hw⟩ := hw
      refine gild X K (o := 10) (t0 := 0) (by decide) kS_c10 rfl hi dS_needAt_48 ?_
      exact endI X K hr rfl hw (by decide) (by decide) dS_needAt_49
    · by_cases hc2 : x2 = (2)
      · replace hw := hw.2.2.1 hc2
        refine lv_tableIn (tgt := 50) (off := 44) hx hb dS_needAt_6 (by rw [hc2]; decide) (by rw [hc2]; decide) (by rw [hc2]; decide) (by decide) ?_
        refine lv_aload_n hx hb dS_needAt_50 rfl (lv_at hl 0 rfl) ?_
        refine gGet X K (o := 0) (k := 12) (v := .ref (ad 11)) (by decide) kS_o0 rfl inS_o0 (by decide) (tm1 (i := 94) rfl rfl) rfl dS_needAt_51 ?_
        refine lv_iload_n hx hb dS_needAt_54 rfl (lv_at hl 1 rfl) ?_
        obtain ⟨hi, hw⟩ := hw
        refine gild X K (o := 11) (t0 := 0) (by decide) kS_c11 rfl hi dS_needAt_55 ?_
        exact endI X K hr rfl hw (by decide) (by decide) dS_needAt_56
      · by_cases hc3 : x2 = (3)
        · replace hw := hw.2.2.2.1 hc3
          refine lv_tableIn (tgt := 57) (off := 51) hx hb dS_needAt_6 (by rw [hc3]; decide) (by rw [hc3]; decide) (by rw [hc3]; decide) (by decide) ?_
          refine lv_aload_n hx hb dS_needAt_57 rfl (lv_at hl 0 rfl) ?_
          refine lv_iload_n hx hb dS_needAt_58 rfl (lv_at hl 1 rfl) ?_
          refine gcI X K (n0 := 1) (As := [.int x1]) (rest := []) (hM := (met_S_isOpenNeed hl9 D ad ca sa _ x1 f2 a2 b2 _ hw)) (o := 0) (ho := by decide) (hko := kS_o0) (hci := rfl) (hg := wl_good) (w1 := (tm2 (i := 132) rfl rfl)) (w2 := (tm2 (i := 134) rfl rfl)) (w3 := (tm0 (i := 7) rfl rfl)) (w4 := (tm1 (i := 1) rfl rfl)) (w5 := (tm2 (i := 135) rfl rfl)) (hd := ⟨rfl, by decide, by decide, by decide +kernel⟩) (hrc := rfl) (hrs := rfl) (hR := ⟨Nat.le_of_ble_eq_true rfl, Nat.le_of_ble_eq_true rfl⟩) (hn := rfl) (hsz := hl.1) (hst := rfl) (hW := Nat.le_of_ble_eq_true rfl) (hdg := dS_needAt_59) (hf := ⟨Nat.le_of_ble_eq_true rfl, Nat.le_of_ble_eq_true rfl⟩) (fun _ _ _ _ _ _ _ _ hw => hw.elim) (fun r59 f59 a59 b59 H locs hw K => ?_)
          refine lv_if_eq (tgt := 69) hx hb dS_needAt_62 (by decide) (fun hc => ?_) (fun hc => ?_)
          · replace hw := hw.1 hc
            refine lv_iconst (v := (0 : Int32)) hx hb dS_needAt_69 (by decide) ?_
            exact LS_needAt_70 X hr (0 : Int32) f59 a59 b59 hw _ _ K _ (lv_sub hl [] rfl)
          · replace hw := hw.2 hc
            refine lv_iconst (v := (1 : Int32)) hx hb dS_needAt_65 (by decide) ?_
            refine lv_goto (tgt := 70) hx hb dS_needAt_66 (by decide) ?_
            exact LS_needAt_70 X hr (1 : Int32) f59 a59 b59 hw _ _ K _ (lv_sub hl [] rfl)
        · replace hw := hw.2.2.2.2 hc0 hc1 hc2 hc3
          refine lv_tableOut (tgt := 71) hx hb dS_needAt_6 (swo hc0 hc1 hc2 hc3) (by decide) ?_
          exact throwX X K (k := 17) (names := ["java/lang/RuntimeException", "java/lang/Exception"]) hw (by decide +kernel) (by decide +kernel) rfl (tm2 (i := 14) rfl rfl) (tm1 (i := 10) rfl rfl) xg_S_168 xb_S_168 xo_S_168_164 hl.1 dS_needAt_71 dS_needAt_74 dS_needAt_75 dS_needAt_77 dS_needAt_80 (by decide) (by decide) (by decide) (by decide) (by decide) (by decide)
set_option maxHeartbeats 4000000 in
set_option maxRecDepth 100000 in
theorem met_S_fills {l : Launch} (hl9 : l.stackTraces = false) (D : va_G) (ad : Nat → Nat) (ca : Nat → ClassId) (sa : Nat → Nat) (sz : Nat) (x1 : Int32) (f : wF) (a : wA) (b : wB) (po : Int32 → wF → wA → wB → Prop) (px : String → wF → wA → wB → Prop) (hw : wp_S_fills po px x1 f a b) : mI nS kS (tyS ca) txS D vwCl l yS_fills (Cond.code yS_fills cS_fills 2 (some .int) :: Wl) ({ frames := 7, cells := 1, slots := 6, locals := 103 }) [.ref (ad 0), .int x1] ad ca sa sz f a b po px 1 6 := by
  refine ofI (by decide) hl9 (Nat.le_of_ble_eq_true rfl) ?_
  intro p e s m below meth c ls X hr K hl
  obtain ⟨hx, hb, hml, hown, hts, hK, hA, hth, hlk, hl9, hex⟩ := id X
  have hl : lv_has ls 2 [(0, .ref (ad 0)), (1, .int x1)] := hl
  dsimp only [wp_S_fills] at hw
  refine lv_aload_n hx hb dS_fills_0 rfl (lv_at hl 0 rfl) ?_
  refine lv_iload_n hx hb dS_fills_1 rfl (lv_at hl 1 rfl) ?_
  refine gcV X K (n0 := 1) (As := [.int x1]) (rest := []) (hM := (met_S_checkUnit hl9 D ad ca sa _ x1 f a b _ _ hw)) (o := 0) (ho := by decide) (hko := kS_o0) (hci := rfl) (hg := wl_good) (w1 := (tm2 (i := 70) rfl rfl)) (w2 := (tm2 (i := 72) rfl rfl)) (w3 := (tm0 (i := 3) rfl rfl)) (w4 := (tm1 (i := 1) rfl rfl)) (w5 := (tm2 (i := 73) rfl rfl)) (hd := ⟨rfl, by decide, by decide, by decide +kernel⟩) (hrc := rfl) (hrs := rfl) (hR := ⟨Nat.le_of_ble_eq_true rfl, Nat.le_of_ble_eq_true rfl⟩) (hn := rfl) (hsz := hl.1) (hst := rfl) (hW := Nat.le_of_ble_eq_true rfl) (hdg := dS_fills_2) (hf := ⟨Nat.le_of_ble_eq_true rfl, Nat.le_of_ble_eq_true rfl⟩) (fun E ce q9 f1 a1 b1 H1 locs1 hw K hce hv hcl => outX X K hw hce hv hcl (by decide) (by decide)) (fun f2 a2 b2 H locs hw K => ?_)
  refine lv_aload_n hx hb dS_fills_5 rfl (lv_at hl 0 rfl) ?_
  refine gGet X K (o := 0) (k := 4) (v := .ref (ad 5)) (by decide) kS_o0 rfl inS_o0 (by decide) (tm1 (i := 86) rfl rfl) rfl dS_fills_6 ?_
  refine lv_iload_n hx hb dS_fills_9 rfl (lv_at hl 1 rfl) ?_
  obtain ⟨hi, hw⟩ := hw
  refine gild X K (o := 5) (t0 := 0) (by decide) kS_c5 rfl hi dS_fills_10 ?_
  exact endI X K hr rfl hw (by decide) (by decide) dS_fills_11
set_option maxHeartbeats 4000000 in
set_option maxRecDepth 100000 in
theorem LS_weightedSeconds_35 {p : Program} {l : Launch} {e : Env} {s : State} {m : MethodId} {below : List Frame} {meth : Method} {c : Code} {D : va_G} {sa : Nat → Nat} {ad : Nat → Nat} {ca : Nat → ClassId} {sz : Nat} {f0 : wF} {a0 : wA} {b0 : wB} {y1 : Int32} {po : Int32 → wF → wA → wB → Prop} (X : cx Wl (tyS ca) txS D vwCl sa (va_A (ww nS kS ad ca f0 a0 b0) sz) p l s m ([.ref (ad 0), .int y1] : List Value).toArray meth c cS_weightedSeconds 2 "SendBest") (hr : meth.sig.returnType = (some .int)) : ∀ (k0 : Int32) (f : wF) (a : wA) (b : wB), wp_S_weightedSeconds_35 po k0 f a b → ∀ (H : Heap) (locs : List Loc), wd nS kS D vwCl ad ca (va_A (ww nS kS ad ca f0 a0 b0) sz) s H locs f a b → ∀ (ls : Array Slot), lv_has ls 2 [] → W p l e ({ frames := 1, cells := 0, slots := 0, locals := 22 }) s m ([.ref (ad 0), .int y1] : List Value).toArray below meth c H locs 0 0 (vx_MQ below (va_Qi (fun r (u : wF × wA × wB) => po r u.1 u.2.1 u.2.2) (sPost nS kS D vwCl ad ca (va_A (ww nS kS ad ca f0 a0 b0) sz)) (va_A (ww nS kS ad ca f0 a0 b0) sz)) (sX nS kS D vwCl ad ca (va_A (ww nS kS ad ca f0 a0 b0) sz) (fun _ _ _ _ => False)) ([.ref (ad 0), .int y1] : List Value).toArray s 0 0 (va_A (ww nS kS ad ca f0 a0 b0) sz)) (F0 m 35 ls [.int k0]) := by
  obtain ⟨hx, hb, hml, hown, hts, hK, hA, hth, hlk, hl9, hex⟩ := id X
  intro k0 f a b hw H locs K ls hl
  dsimp only [wp_S_weightedSeconds_35] at hw
  exact endI X K hr rfl hw (by decide) (by decide) dS_weightedSeconds_35
set_option maxHeartbeats 4000000 in
set_option maxRecDepth 100000 in
theorem met_S_weightedSeconds {l : Launch} (hl9 : l.stackTraces = false) (D : va_G) (ad : Nat → Nat) (ca : Nat → ClassId) (sa : Nat → Nat) (sz : Nat) (x1 : Int32) (f : wF) (a : wA) (b : wB) (po : Int32 → wF → wA → wB → Prop) (hw : wp_S_weightedSeconds po x1 f a b) : mI nS kS (tyS ca) txS D vwCl l yS_weightedSeconds (Cond.code yS_weightedSeconds cS_weightedSeconds 2 (some .int) :: Wl) ({ frames := 1, cells := 0, slots := 0, locals := 22 }) [.ref (ad 0), .int x1] ad ca sa sz f a b po (fun _ _ _ _ => False) 0 0 := by
  refine ofI (by decide) hl9 (Nat.le_of_ble_eq_true rfl) ?_
  intro p e s m below meth c ls X hr K hl
  obtain ⟨hx, hb, hml, hown, hts, hK, hA, hth, hlk, hl9, hex⟩ := id X
  have hl : lv_has ls 2 [(0, .ref (ad 0)), (1, .int x1)] := hl
  dsimp only [wp_S_weightedSeconds] at hw
  refine lv_aload_n hx hb dS_weightedSeconds_0 rfl (lv_at hl 0 rfl) ?_
  refine gGet X K (o := 0) (k := 12) (v := .ref (ad 11)) (by decide) kS_o0 rfl inS_o0 (by decide) (tm1 (i := 94) rfl rfl) rfl dS_weightedSeconds_1 ?_
  refine lv_iload_n hx hb dS_weightedSeconds_4 rfl (lv_at hl 1 rfl) ?_
  obtain ⟨hi, hw⟩ := hw
  refine gild X K (o := 11) (t0 := 0) (by decide) kS_c11 rfl hi dS_weightedSeconds_5 ?_
  refine lv_iconst (v := (-1 : Int32)) hx hb dS_weightedSeconds_6 (by decide) ?_
  refine lv_icmp_ne (tgt := 14) hx hb dS_weightedSeconds_7 (by decide) (fun hc => ?_) (fun hc => ?_)
  · replace hw := hw.1 hc
    refine lv_aload_n hx hb dS_weightedSeconds_14 rfl (lv_at hl 0 rfl) ?_
    refine lv_iload_n hx hb dS_weightedSeconds_15 rfl (lv_at hl 1 rfl) ?_
    refine gcI X K (n0 := 1) (As := [.int x1]) (rest := []) (hM := (met_S_rankOfNeed hl9 D ad ca sa _ x1 f a b _ hw)) (o := 0) (ho := by decide) (hko := kS_o0) (hci := rfl) (hg := wl_good) (w1 := (tm2 (i := 152) rfl rfl)) (w2 := (tm2 (i := 154) rfl rfl)) (w3 := (tm0 (i := 12) rfl rfl)) (w4 := (tm1 (i := 1) rfl rfl)) (w5 := (tm2 (i := 155) rfl rfl)) (hd := ⟨rfl, by decide, by decide, by decide +kernel⟩) (hrc := rfl) (hrs := rfl) (hR := ⟨Nat.le_of_ble_eq_true rfl, Nat.le_of_ble_eq_true rfl⟩) (hn := rfl) (hsz := hl.1) (hst := rfl) (hW := Nat.le_of_ble_eq_true rfl) (hdg := dS_weightedSeconds_16) (hf := ⟨Nat.le_of_ble_eq_true rfl, Nat.le_of_ble_eq_true rfl⟩) (fun _ _ _ _ _ _ _ _ hw => hw.elim) (fun r16 f16 a16 b16 H locs hw K => ?_)
    refine lv_aload_n hx hb dS_weightedSeconds_19 rfl (lv_at hl 0 rfl) ?_
    refine lv_aload_n hx hb dS_weightedSeconds_20 rfl (lv_at hl 0 rfl) ?_
    refine gGet X K (o := 0) (k := 12) (v := .ref (ad 11)) (by decide) kS_o0 rfl inS_o0 (by decide) (tm1 (i := 94) rfl rfl) rfl dS_weightedSeconds_21 ?_
    refine lv_iload_n hx hb dS_weightedSeconds_24 rfl (lv_at hl 1 rfl) ?_
    obtain ⟨hi, hw⟩ := hw
    refine gild X K (o := 11) (t0 := 0) (by decide) kS_c11 rfl hi dS_weightedSeconds_25 ?_
    refine lv_iload_n hx hb dS_weightedSeconds_26 rfl (lv_at hl 1 rfl) ?_
    refine gcI X K (n0 := 2) (As := [.int (a16 11 x1.toNatClampNeg), .int x1]) (rest := [.int r16]) (hM := (met_S_secondsTo hl9 D ad ca sa _ (a16 11 x1.toNatClampNeg) x1 f16 a16 b16 _ hw)) (o := 0) (ho := by decide) (hko := kS_o0) (hci := rfl) (hg := wl_good) (w1 := (tm2 (i := 148) rfl rfl)) (w2 := (tm2 (i := 150) rfl rfl)) (w3 := (tm0 (i := 11) rfl rfl)) (w4 := (tm1 (i := 1) rfl rfl)) (w5 := (tm2 (i := 151) rfl rfl)) (hd := ⟨rfl, by decide, by decide, by decide +kernel⟩) (hrc := rfl) (hrs := rfl) (hR := ⟨Nat.le_of_ble_eq_true rfl, Nat.le_of_ble_eq_true rfl⟩) (hn := rfl) (hsz := hl.1) (hst := rfl) (hW := Nat.le_of_ble_eq_true rfl) (hdg := dS_weightedSeconds_27) (hf := ⟨Nat.le_of_ble_eq_true rfl, Nat.le_of_ble_eq_true rfl⟩) (fun _ _ _ _ _ _ _ _ hw => hw.elim) (fun r27 f27 a27 b27 H locs hw K => ?_)
    refine lv_iconst (v := (0 : Int32)) hx hb dS_weightedSeconds_30 (by decide) ?_
    refine va_mmax hx hb (hml.trans hl.1.symm) hown (hts _ (tm2 (i := 216) rfl rfl)) (hts _ (tm2 (i := 217) rfl rfl)) (hts _ (tm1 (i := 13) rfl rfl)) (hts _ (tm2 (i := 218) rfl rfl)) (Nat.le_of_ble_eq_true rfl) (Nat.le_of_ble_eq_true rfl) (Nat.le_of_ble_eq_true rfl) (Nat.le_of_ble_eq_true rfl) dS_weightedSeconds_31 ?_
    refine lv_imul hx hb dS_weightedSeconds_34 ?_
    exact LS_weightedSeconds_35 X hr (r16 * (if r27 < (0 : Int32) then (0 : Int32) else r27)) f27 a27 b27 hw _ _ K _ (lv_sub hl [] rfl)
  · replace hw := hw.2 hc
    refine lv_iconst (v := (0 : Int32)) hx hb dS_weightedSeconds_10 (by decide) ?_
    refine lv_goto (tgt := 35) hx hb dS_weightedSeconds_11 (by decide) ?_
    exact LS_weightedSeconds_35 X hr (0 : Int32) f a b hw _ _ K _ (lv_sub hl [] rfl)
set_option maxHeartbeats 4000000 in
set_option maxRecDepth 100000 in
theorem LS_ranksLacking_19 {p : Program} {l : Launch} {e : Env} {s : State} {m : MethodId} {below : List Frame} {meth : Method} {c : Code} {D : va_G} {sa : Nat → Nat} {ad : Nat → Nat} {ca : Nat → ClassId} {sz : Nat} {f0 : wF} {a0 : wA} {b0 : wB} {y1 : Int32} {po : Int32 → wF → wA → wB → Prop} (X : cx Wl (tyS ca) txS D vwCl sa (va_A (ww nS kS ad ca f0 a0 b0) sz) p l s m ([.ref (ad 0), .int y1] : List Value).toArray meth c cS_ranksLacking 2 "SendBest") (hr : meth.sig.returnType = (some .int)) : ∀ (k0 : Int32) (f : wF) (a : wA) (b : wB), wp_S_ranksLacking_19 po k0 f a b → ∀ (H : Heap) (locs : List Loc), wd nS kS D vwCl ad ca (va_A (ww nS kS ad ca f0 a0 b0) sz) s H locs f a b → ∀ (ls : Array Slot), lv_has ls 2 [] → W p l e ({ frames := 1, cells := 0, slots := 0, locals := 21 }) s m ([.ref (ad 0), .int y1] : List Value).toArray below meth c H locs 0 0 (vx_MQ below (va_Qi (fun r (u : wF × wA × wB) => po r u.1 u.2.1 u.2.2) (sPost nS kS D vwCl ad ca (va_A (ww nS kS ad ca f0 a0 b0) sz)) (va_A (ww nS kS ad ca f0 a0 b0) sz)) (sX nS kS D vwCl ad ca (va_A (ww nS kS ad ca f0 a0 b0) sz) (fun _ _ _ _ => False)) ([.ref (ad 0), .int y1] : List Value).toArray s 0 0 (va_A (ww nS kS ad ca f0 a0 b0) sz)) (F0 m 19 ls [.int k0]) := by
  obtain ⟨hx, hb, hml, hown, hts, hK, hA, hth, hlk, hl9, hex⟩ := id X
  intro k0 f a b hw H locs K ls hl
  dsimp only [wp_S_ranksLacking_19] at hw
  exact endI X K hr rfl hw (by decide) (by decide) dS_ranksLacking_19
set_option maxHeartbeats 4000000 in
set_option maxRecDepth 100000 in
theorem met_S_ranksLacking {l : Launch} (hl9 : l.stackTraces = false) (D : va_G) (ad : Nat → Nat) (ca : Nat → ClassId) (sa : Nat → Nat) (sz : Nat) (x1 : Int32) (f : wF) (a : wA) (b : wB) (po : Int32 → wF → wA → wB → Prop) (hw : wp_S_ranksLacking po x1 f a b) : mI nS kS (tyS ca) txS D vwCl l yS_ranksLacking (Cond.code yS_ranksLacking cS_ranksLacking 2 (some .int) :: Wl) ({ frames := 1, cells := 0, slots := 0, locals := 21 }) [.ref (ad 0), .int x1] ad ca sa sz f a b po (fun _ _ _ _ => False) 0 0 := by
  refine ofI (by decide) hl9 (Nat.le_of_ble_eq_true rfl) ?_
  intro p e s m below meth c ls X hr K hl
  obtain ⟨hx, hb, hml, hown, hts, hK, hA, hth, hlk, hl9, hex⟩ := id X
  have hl : lv_has ls 2 [(0, .ref (ad 0)), (1, .int x1)] := hl
  dsimp only [wp_S_ranksLacking] at hw
  refine lv_aload_n hx hb dS_ranksLacking_0 rfl (lv_at hl 0 rfl) ?_
  refine gGet X K (o := 0) (k := 12) (v := .ref (ad 11)) (by decide) kS_o0 rfl inS_o0 (by decide) (tm1 (i := 94) rfl rfl) rfl dS_ranksLacking_1 ?_
  refine lv_iload_n hx hb dS_ranksLacking_4 rfl (lv_at hl 1 rfl) ?_
  obtain ⟨hi, hw⟩ := hw
  refine gild X K (o := 11) (t0 := 0) (by decide) kS_c11 rfl hi dS_ranksLacking_5 ?_
  refine lv_iconst (v := (-1 : Int32)) hx hb dS_ranksLacking_6 (by decide) ?_
  refine lv_icmp_ne (tgt := 18) hx hb dS_ranksLacking_7 (by decide) (fun hc => ?_) (fun hc => ?_)
  · replace hw := hw.1 hc
    refine lv_iconst (v := (0 : Int32)) hx hb dS_ranksLacking_18 (by decide) ?_
    exact LS_ranksLacking_19 X hr (0 : Int32) f a b hw _ _ K _ (lv_sub hl [] rfl)
  · replace hw := hw.2 hc
    refine lv_aload_n hx hb dS_ranksLacking_10 rfl (lv_at hl 0 rfl) ?_
    refine lv_iload_n hx hb dS_ranksLacking_11 rfl (lv_at hl 1 rfl) ?_
    refine gcI X K (n0 := 1) (As := [.int x1]) (rest := []) (hM := (met_S_rankOfNeed hl9 D ad ca sa _ x1 f a b _ hw)) (o := 0) (ho := by decide) (hko := kS_o0) (hci := rfl) (hg := wl_good) (w1 := (tm2 (i := 152) rfl rfl)) (w2 := (tm2 (i := 154) rfl rfl)) (w3 := (tm0 (i := 12) rfl rfl)) (w4 := (tm1 (i := 1) rfl rfl)) (w5 := (tm2 (i := 155) rfl rfl)) (hd := ⟨rfl, by decide, by decide, by decide +kernel⟩) (hrc := rfl) (hrs := rfl) (hR := ⟨Nat.le_of_ble_eq_true rfl, Nat.le_of_ble_eq_true rfl⟩) (hn := rfl) (hsz := hl.1) (hst := rfl) (hW := Nat.le_of_ble_eq_true rfl) (hdg := dS_ranksLacking_12) (hf := ⟨Nat.le_of_ble_eq_true rfl, Nat.le_of_ble_eq_true rfl⟩) (fun _ _ _ _ _ _ _ _ hw => hw.elim) (fun r12 f12 a12 b12 H locs hw K => ?_)
    refine lv_goto (tgt := 19) hx hb dS_ranksLacking_15 (by decide) ?_
    exact LS_ranksLacking_19 X hr r12 f12 a12 b12 hw _ _ K _ (lv_sub hl [] rfl)
set_option maxHeartbeats 4000000 in
set_option maxRecDepth 100000 in
theorem LS_sum_59 {p : Program} {l : Launch} {e : Env} {s : State} {m : MethodId} {below : List Frame} {meth : Method} {c : Code} {D : va_G} {sa : Nat → Nat} {ad : Nat → Nat} {ca : Nat → ClassId} {sz : Nat} {f0 : wF} {a0 : wA} {b0 : wB} {y1 : Int32} {po : Int32 → wF → wA → wB → Prop} {px : String → wF → wA → wB → Prop} (X : cx Wl (tyS ca) txS D vwCl sa (va_A (ww nS kS ad ca f0 a0 b0) sz) p l s m ([.ref (ad 0), .int y1] : List Value).toArray meth c cS_sum 4 "SendBest") (hr : meth.sig.returnType = (some .int)) (J23 : Int32 → Int32 → Int32 → wF → wA → wB → Prop) (hJ23 : ∀ (x1 : Int32) (x2 : Int32) (x3 : Int32) (f : wF) (a : wA) (b : wB), J23 x1 x2 x3 f a b → ∀ (H : Heap) (locs : List Loc), wd nS kS D vwCl ad ca (va_A (ww nS kS ad ca f0 a0 b0) sz) s H locs f a b → ∀ (ls : Array Slot), lv_has ls 4 [(0, .ref (ad 0)), (1, .int x1), (2, .int x2), (3, .int x3)] → W p l e ({ frames := 6, cells := 1, slots := 6, locals := 82 }) s m ([.ref (ad 0), .int y1] : List Value).toArray below meth c H locs 0 0 (vx_MQ below (va_Qi (fun r (u : wF × wA × wB) => po r u.1 u.2.1 u.2.2) (sPost nS kS D vwCl ad ca (va_A (ww nS kS ad ca f0 a0 b0) sz)) (va_A (ww nS kS ad ca f0 a0 b0) sz)) (sX nS kS D vwCl ad ca (va_A (ww nS kS ad ca f0 a0 b0) sz) px) ([.ref (ad 0), .int y1] : List Value).toArray s 1 6 (va_A (ww nS kS ad ca f0 a0 b0) sz)) (F0 m 23 ls [])) : ∀ (x1 : Int32) (x2 : Int32) (x3 : Int32) (f : wF) (a : wA) (b : wB), wp_S_sum_59 po px J23 x1 x2 x3 f a b → ∀ (H : Heap) (locs : List Loc), wd nS kS D vwCl ad ca (va_A (ww nS kS ad ca f0 a0 b0) sz) s H locs f a b → ∀ (ls : Array Slot), lv_has ls 4 [(0, .ref (ad 0)), (1, .int x1), (2, .int x2), (3, .int x3)] → W p l e ({ frames := 6, cells := 1, slots := 6, locals := 82 }) s m ([.ref (ad 0), .int y1] : List Value).toArray below meth c H locs 0 0 (vx_MQ below (va_Qi (fun r (u : wF × wA × wB) => po r u.1 u.2.1 u.2.2) (sPost nS kS D vwCl ad ca (va_A (ww nS kS ad ca f0 a0 b0) sz)) (va_A (ww nS kS ad ca f0 a0 b0) sz)) (sX nS kS D vwCl ad ca (va_A (ww nS kS ad ca f0 a0 b0) sz) px) ([.ref (ad 0), .int y1] : List Value).toArray s 1 6 (va_A (ww nS kS ad ca f0 a0 b0) sz)) (F0 m 59 ls []) := by
  obtain ⟨hx, hb, hml, hown, hts, hK, hA, hth, hlk, hl9, hex⟩ := id X
  intro x1 x2 x3 f a b hw H locs K ls hl
  dsimp only [wp_S_sum_59] at hw
  refine lv_iinc (v := (x3 + (1 : Int32))) (lv' := [(3, .int (x3 + (1 : Int32))), (0, .ref (ad 0)), (1, .int x1), (2, .int x2)]) hx hb dS_sum_59 hl (k := 3) rfl rfl (by decide) rfl (fun ls hl => ?_)
  refine lv_goto (tgt := 23) hx hb dS_sum_62 (by decide) ?_
  exact hJ23 x1 x2 (x3 + (1 : Int32)) f a b hw _ _ K _ (lv_sub hl [1, 2, 3, 0] rfl)
set_option maxHeartbeats 4000000 in
set_option maxRecDepth 100000 in
theorem LS_sum_57 {p : Program} {l : Launch} {e : Env} {s : State} {m : MethodId} {below : List Frame} {meth : Method} {c : Code} {D : va_G} {sa : Nat → Nat} {ad : Nat → Nat} {ca : Nat → ClassId} {sz : Nat} {f0 : wF} {a0 : wA} {b0 : wB} {y1 : Int32} {po : Int32 → wF → wA → wB → Prop} {px : String → wF → wA → wB → Prop} (X : cx Wl (tyS ca) txS D vwCl sa (va_A (ww nS kS ad ca f0 a0 b0) sz) p l s m ([.ref (ad 0), .int y1] : List Value).toArray meth c cS_sum 4 "SendBest") (hr : meth.sig.returnType = (some .int)) (J23 : Int32 → Int32 → Int32 → wF → wA → wB → Prop) (hJ23 : ∀ (x1 : Int32) (x2 : Int32) (x3 : Int32) (f : wF) (a : wA) (b : wB), J23 x1 x2 x3 f a b → ∀ (H : Heap) (locs : List Loc), wd nS kS D vwCl ad ca (va_A (ww nS kS ad ca f0 a0 b0) sz) s H locs f a b → ∀ (ls : Array Slot), lv_has ls 4 [(0, .ref (ad 0)), (1, .int x1), (2, .int x2), (3, .int x3)] → W p l e ({ frames := 6, cells := 1, slots := 6, locals := 82 }) s m ([.ref (ad 0), .int y1] : List Value).toArray below meth c H locs 0 0 (vx_MQ below (va_Qi (fun r (u : wF × wA × wB) => po r u.1 u.2.1 u.2.2) (sPost nS kS D vwCl ad ca (va_A (ww nS kS ad ca f0 a0 b0) sz)) (va_A (ww nS kS ad ca f0 a0 b0) sz)) (sX nS kS D vwCl ad ca (va_A (ww nS kS ad ca f0 a0 b0) sz) px) ([.ref (ad 0), .int y1] : List Value).toArray s 1 6 (va_A (ww nS kS ad ca f0 a0 b0) sz)) (F0 m 23 ls [])) : ∀ (k0 : Int32) (k1 : Int32) (x1 : Int32) (x3 : Int32) (f : wF) (a : wA) (b : wB), wp_S_sum_57 po px J23 k0 k1 x1 x3 f a b → ∀ (H : Heap) (locs : List Loc), wd nS kS D vwCl ad ca (va_A (ww nS kS ad ca f0 a0 b0) sz) s H locs f a b → ∀ (ls : Array Slot), lv_has ls 4 [(0, .ref (ad 0)), (1, .int x1), (3, .int x3)] → W p l e ({ frames := 6, cells := 1, slots := 6, locals := 82 }) s m ([.ref (ad 0), .int y1] : List Value).toArray below meth c H locs 0 0 (vx_MQ below (va_Qi (fun r (u : wF × wA × wB) => po r u.1 u.2.1 u.2.2) (sPost nS kS D vwCl ad ca (va_A (ww nS kS ad ca f0 a0 b0) sz)) (va_A (ww nS kS ad ca f0 a0 b0) sz)) (sX nS kS D vwCl ad ca (va_A (ww nS kS ad ca f0 a0 b0) sz) px) ([.ref (ad 0), .int y1] : List Value).toArray s 1 6 (va_A (ww nS kS ad ca f0 a0 b0) sz)) (F0 m 57 ls [.int k0, .int k1]) := by
  obtain ⟨hx, hb, hml, hown, hts, hK, hA, hth, hlk, hl9, hex⟩ := id X
  intro k0 k1 x1 x3 f a b hw H locs K ls hl
  dsimp only [wp_S_sum_57] at hw
  refine lv_iadd hx hb dS_sum_57 ?_
  refine lv_istore_n (lv' := [(2, .int (k1 + k0)), (0, .ref (ad 0)), (1, .int x1), (3, .int x3)]) hx hb dS_sum_58 rfl hl (by decide) rfl (fun ls hl => ?_)
  exact LS_sum_59 X hr J23 hJ23 x1 (k1 + k0) x3 f a b hw _ _ K _ (lv_sub hl [1, 2, 0, 3] rfl)
set_option maxHeartbeats 4000000 in
set_option maxRecDepth 100000 in
theorem LS_sum_23 {p : Program} {l : Launch} {e : Env} {s : State} {m : MethodId} {below : List Frame} {meth : Method} {c : Code} {D : va_G} {sa : Nat → Nat} {ad : Nat → Nat} {ca : Nat → ClassId} {sz : Nat} {f0 : wF} {a0 : wA} {b0 : wB} {y1 : Int32} {po : Int32 → wF → wA → wB → Prop} {px : String → wF → wA → wB → Prop} (X : cx Wl (tyS ca) txS D vwCl sa (va_A (ww nS kS ad ca f0 a0 b0) sz) p l s m ([.ref (ad 0), .int y1] : List Value).toArray meth c cS_sum 4 "SendBest") (hr : meth.sig.returnType = (some .int)) : ∀ n : Nat, ∀ (x1 : Int32) (x2 : Int32) (x3 : Int32) (f : wF) (a : wA) (b : wB), wp_S_sum_23 po px n x1 x2 x3 f a b → ∀ (H : Heap) (locs : List Loc), wd nS kS D vwCl ad ca (va_A (ww nS kS ad ca f0 a0 b0) sz) s H locs f a b → ∀ (ls : Array Slot), lv_has ls 4 [(0, .ref (ad 0)), (1, .int x1), (2, .int x2), (3, .int x3)] → W p l e ({ frames := 6, cells := 1, slots := 6, locals := 82 }) s m ([.ref (ad 0), .int y1] : List Value).toArray below meth c H locs 0 0 (vx_MQ below (va_Qi (fun r (u : wF × wA × wB) => po r u.1 u.2.1 u.2.2) (sPost nS kS D vwCl ad ca (va_A (ww nS kS ad ca f0 a0 b0) sz)) (va_A (ww nS kS ad ca f0 a0 b0) sz)) (sX nS kS D vwCl ad ca (va_A (ww nS kS ad ca f0 a0 b0) sz) px) ([.ref (ad 0), .int y1] : List Value).toArray s 1 6 (va_A (ww nS kS ad ca f0 a0 b0) sz)) (F0 m 23 ls []) := by
  obtain ⟨hx, hb, hml, hown, hts, hK, hA, hth, hlk, hl9, hex⟩ := id X
  intro n
  induction n with
  | zero => intro x1 x2 x3 f a b hw; exact hw.elim
  | succ n ih =>
    intro x1 x2 x3 f a b hw H locs K ls hl
    dsimp only [wp_S_sum_23] at hw
    refine lv_iload_n hx hb dS_sum_23 rfl (lv_at hl 3 rfl) ?_
    refine lv_aload_n hx hb dS_sum_24 rfl (lv_at hl 0 rfl) ?_
    refine gGet X K (o := 0) (k := 9) (v := .int (f 2)) (by decide) kS_o0 rfl inS_o0 (by decide) (tm1 (i := 91) rfl rfl) rfl dS_sum_25 ?_
    refine lv_icmp_ge (tgt := 65) hx hb dS_sum_28 (by decide) (fun hc => ?_) (fun hc => ?_)
    · replace hw := hw.1 hc
      refine lv_iload_n hx hb dS_sum_65 rfl (lv_at hl 2 rfl) ?_
      exact endI X K hr rfl hw (by decide) (by decide) dS_sum_66
    · replace hw := hw.2 hc
      refine lv_aload_n hx hb dS_sum_31 rfl (lv_at hl 0 rfl) ?_
      refine lv_iload_n hx hb dS_sum_32 rfl (lv_at hl 3 rfl) ?_
      refine gcI X K (n0 := 1) (As := [.int x3]) (rest := []) (hM := (met_S_isOpenNeed hl9 D ad ca sa _ x3 f a b _ hw)) (o := 0) (ho := by decide) (hko := kS_o0) (hci := rfl) (hg := wl_good) (w1 := (tm2 (i := 132) rfl rfl)) (w2 := (tm2 (i := 134) rfl rfl)) (w3 := (tm0 (i := 7) rfl rfl)) (w4 := (tm1 (i := 1) rfl rfl)) (w5 := (tm2 (i := 135) rfl rfl)) (hd := ⟨rfl, by decide, by decide, by decide +kernel⟩) (hrc := rfl) (hrs := rfl) (hR := ⟨Nat.le_of_ble_eq_true rfl, Nat.le_of_ble_eq_true rfl⟩) (hn := rfl) (hsz := hl.1) (hst := rfl) (hW := Nat.le_of_ble_eq_true rfl) (hdg := dS_sum_33) (hf := ⟨Nat.le_of_ble_eq_true rfl, Nat.le_of_ble_eq_true rfl⟩) (fun _ _ _ _ _ _ _ _ hw => hw.elim) (fun r33 f33 a33 b33 H locs hw K => ?_)
      refine lv_if_eq (tgt := 59) hx hb dS_sum_36 (by decide) (fun hc => ?_) (fun hc => ?_)
      · replace hw := hw.1 hc
        exact LS_sum_59 X hr (wp_S_sum_23 po px n) ih x1 x2 x3 f33 a33 b33 hw _ _ K _ (lv_sub hl [0, 1, 2, 3] rfl)
      · replace hw := hw.2 hc
        refine lv_iload_n hx hb dS_sum_39 rfl (lv_at hl 2 rfl) ?_
        refine lv_iload_n hx hb dS_sum_40 rfl (lv_at hl 1 rfl) ?_
        refine lv_if_ne (tgt := 52) hx hb dS_sum_41 (by decide) (fun hc => ?_) (fun hc => ?_)
        · replace hw := hw.1 hc
          refine lv_aload_n hx hb dS_sum_52 rfl (lv_at hl 0 rfl) ?_
          refine lv_iload_n hx hb dS_sum_53 rfl (lv_at hl 3 rfl) ?_
          refine gcI X K (n0 := 1) (As := [.int x3]) (rest := [.int x2]) (hM := (met_S_weightedSeconds hl9 D ad ca sa _ x3 f33 a33 b33 _ hw)) (o := 0) (ho := by decide) (hko := kS_o0) (hci := rfl) (hg := wl_good) (w1 := (tm3 (i := 73) rfl rfl)) (w2 := (tm3 (i := 75) rfl rfl)) (w3 := (tm0 (i := 28) rfl rfl)) (w4 := (tm1 (i := 1) rfl rfl)) (w5 := (tm3 (i := 76) rfl rfl)) (hd := ⟨rfl, by decide, by decide, by decide +kernel⟩) (hrc := rfl) (hrs := rfl) (hR := ⟨Nat.le_of_ble_eq_true rfl, Nat.le_of_ble_eq_true rfl⟩) (hn := rfl) (hsz := hl.1) (hst := rfl) (hW := Nat.le_of_ble_eq_true rfl) (hdg := dS_sum_54) (hf := ⟨Nat.le_of_ble_eq_true rfl, Nat.le_of_ble_eq_true rfl⟩) (fun _ _ _ _ _ _ _ _ hw => hw.elim) (fun r54 f54 a54 b54 H locs hw K => ?_)
          exact LS_sum_57 X hr (wp_S_sum_23 po px n) ih r54 x2 x1 x3 f54 a54 b54 hw _ _ K _ (lv_sub hl [0, 1, 3] rfl)
        · replace hw := hw.2 hc
          refine lv_aload_n hx hb dS_sum_44 rfl (lv_at hl 0 rfl) ?_
          refine lv_iload_n hx hb dS_sum_45 rfl (lv_at hl 3 rfl) ?_
          refine gcI X K (n0 := 1) (As := [.int x3]) (rest := [.int x2]) (hM := (met_S_ranksLacking hl9 D ad ca sa _ x3 f33 a33 b33 _ hw)) (o := 0) (ho := by decide) (hko := kS_o0) (hci := rfl) (hg := wl_good) (w1 := (tm3 (i := 69) rfl rfl)) (w2 := (tm3 (i := 71) rfl rfl)) (w3 := (tm0 (i := 27) rfl rfl)) (w4 := (tm1 (i := 1) rfl rfl)) (w5 := (tm3 (i := 72) rfl rfl)) (hd := ⟨rfl, by decide, by decide, by decide +kernel⟩) (hrc := rfl) (hrs := rfl) (hR := ⟨Nat.le_of_ble_eq_true rfl, Nat.le_of_ble_eq_true rfl⟩) (hn := rfl) (hsz := hl.1) (hst := rfl) (hW := Nat.le_of_ble_eq_true rfl) (hdg := dS_sum_46) (hf := ⟨Nat.le_of_ble_eq_true rfl, Nat.le_of_ble_eq_true rfl⟩) (fun _ _ _ _ _ _ _ _ hw => hw.elim) (fun r46 f46 a46 b46 H locs hw K => ?_)
          refine lv_goto (tgt := 57) hx hb dS_sum_49 (by decide) ?_
          exact LS_sum_57 X hr (wp_S_sum_23 po px n) ih r46 x2 x1 x3 f46 a46 b46 hw _ _ K _ (lv_sub hl [0, 1, 3] rfl)
set_option maxHeartbeats 4000000 in
set_option maxRecDepth 100000 in
theorem LS_sum_19 {p : Program} {l : Launch} {e : Env} {s : State} {m : MethodId} {below : List Frame} {meth : Method} {c : Code} {D : va_G} {sa : Nat → Nat} {ad : Nat → Nat} {ca : Nat → ClassId} {sz : Nat} {f0 : wF} {a0 : wA} {b0 : wB} {y1 : Int32} {po : Int32 → wF → wA → wB → Prop} {px : String → wF → wA → wB → Prop} (X : cx Wl (tyS ca) txS D vwCl sa (va_A (ww nS kS ad ca f0 a0 b0) sz) p l s m ([.ref (ad 0), .int y1] : List Value).toArray meth c cS_sum 4 "SendBest") (hr : meth.sig.returnType = (some .int)) : ∀ (x1 : Int32) (f : wF) (a : wA) (b : wB), wp_S_sum_19 po px x1 f a b → ∀ (H : Heap) (locs : List Loc), wd nS kS D vwCl ad ca (va_A (ww nS kS ad ca f0 a0 b0) sz) s H locs f a b → ∀ (ls : Array Slot), lv_has ls 4 [(0, .ref (ad 0)), (1, .int x1)] → W p l e ({ frames := 6, cells := 1, slots := 6, locals := 82 }) s m ([.ref (ad 0), .int y1] : List Value).toArray below meth c H locs 0 0 (vx_MQ below (va_Qi (fun r (u : wF × wA × wB) => po r u.1 u.2.1 u.2.2) (sPost nS kS D vwCl ad ca (va_A (ww nS kS ad ca f0 a0 b0) sz)) (va_A (ww nS kS ad ca f0 a0 b0) sz)) (sX nS kS D vwCl ad ca (va_A (ww nS kS ad ca f0 a0 b0) sz) px) ([.ref (ad 0), .int y1] : List Value).toArray s 1 6 (va_A (ww nS kS ad ca f0 a0 b0) sz)) (F0 m 19 ls []) := by
  obtain ⟨hx, hb, hml, hown, hts, hK, hA, hth, hlk, hl9, hex⟩ := id X
  intro x1 f a b hw H locs K ls hl
  dsimp only [wp_S_sum_19] at hw
  refine lv_iconst (v := (0 : Int32)) hx hb dS_sum_19 (by decide) ?_
  refine lv_istore_n (lv' := [(2, .int (0 : Int32)), (0, .ref (ad 0)), (1, .int x1)]) hx hb dS_sum_20 rfl hl (by decide) rfl (fun ls hl => ?_)
  refine lv_iconst (v := (0 : Int32)) hx hb dS_sum_21 (by decide) ?_
  refine lv_istore_n (lv' := [(3, .int (0 : Int32)), (2, .int (0 : Int32)), (0, .ref (ad 0)), (1, .int x1)]) hx hb dS_sum_22 rfl hl (by decide) rfl (fun ls hl => ?_)
  obtain ⟨n9, hw⟩ := hw
  exact LS_sum_23 X hr n9 x1 (0 : Int32) (0 : Int32) f a b hw _ _ K _ (lv_sub hl [2, 3, 1, 0] rfl)
set_option maxHeartbeats 4000000 in
set_option maxRecDepth 100000 in
theorem met_S_sum {l : Launch} (hl9 : l.stackTraces = false) (D : va_G) (ad : Nat → Nat) (ca : Nat → ClassId) (sa : Nat → Nat) (sz : Nat) (x1 : Int32) (f : wF) (a : wA) (b : wB) (po : Int32 → wF → wA → wB → Prop) (px : String → wF → wA → wB → Prop) (hw : wp_S_sum po px x1 f a b) : mI nS kS (tyS ca) txS D vwCl l yS_sum (Cond.code yS_sum cS_sum 4 (some .int) :: Wl) ({ frames := 6, cells := 1, slots := 6, locals := 82 }) [.ref (ad 0), .int x1] ad ca sa sz f a b po px 1 6 := by
  refine ofI (by decide) hl9 (Nat.le_of_ble_eq_true rfl) ?_
  intro p e s m below meth c ls X hr K hl
  obtain ⟨hx, hb, hml, hown, hts, hK, hA, hth, hlk, hl9, hex⟩ := id X
  have hl : lv_has ls 4 [(0, .ref (ad 0)), (1, .int x1)] := hl
  dsimp only [wp_S_sum] at hw
  refine lv_iload_n hx hb dS_sum_0 rfl (lv_at hl 1 rfl) ?_
  refine lv_if_eq (tgt := 19) hx hb dS_sum_1 (by decide) (fun hc => ?_) (fun hc => ?_)
  · replace hw := hw.1 hc
    exact LS_sum_19 X hr x1 f a b hw _ _ K _ (lv_sub hl [0, 1] rfl)
  · replace hw := hw.2 hc
    refine lv_iload_n hx hb dS_sum_4 rfl (lv_at hl 1 rfl) ?_
    refine lv_iconst (v := (1 : Int32)) hx hb dS_sum_5 (by decide) ?_
    refine lv_icmp_eq (tgt := 19) hx hb dS_sum_6 (by decide) (fun hc => ?_) (fun hc => ?_)
    · replace hw := hw.1 hc
      exact LS_sum_19 X hr x1 f a b hw _ _ K _ (lv_sub hl [0, 1] rfl)
    · replace hw := hw.2 hc
      exact throwX X K (k := 18) (names := ["java/lang/RuntimeException", "java/lang/Exception"]) hw (by decide +kernel) (by decide +kernel) rfl (tm2 (i := 14) rfl rfl) (tm1 (i := 10) rfl rfl) xg_S_168 xb_S_168 xo_S_168_164 hl.1 dS_sum_9 dS_sum_12 dS_sum_13 dS_sum_15 dS_sum_18 (by decide) (by decide) (by decide) (by decide) (by decide) (by decide)
set_option maxHeartbeats 4000000 in
set_option maxRecDepth 100000 in
theorem LS_alternative_68 {p : Program} {l : Launch} {e : Env} {s : State} {m : MethodId} {below : List Frame} {meth : Method} {c : Code} {D : va_G} {sa : Nat → Nat} {ad : Nat → Nat} {ca : Nat → ClassId} {sz : Nat} {f0 : wF} {a0 : wA} {b0 : wB} {y1 : Int32} {po : Int32 → wF → wA → wB → Prop} {px : String → wF → wA → wB → Prop} (X : cx Wl (tyS ca) txS D vwCl sa (va_A (ww nS kS ad ca f0 a0 b0) sz) p l s m ([.ref (ad 0), .int y1] : List Value).toArray meth c cS_alternative 4 "SendBest") (hr : meth.sig.returnType = (some .int)) (J19 : Int32 → Int32 → Int32 → wF → wA → wB → Prop) (hJ19 : ∀ (x1 : Int32) (x2 : Int32) (x3 : Int32) (f : wF) (a : wA) (b : wB), J19 x1 x2 x3 f a b → ∀ (H : Heap) (locs : List Loc), wd nS kS D vwCl ad ca (va_A (ww nS kS ad ca f0 a0 b0) sz) s H locs f a b → ∀ (ls : Array Slot), lv_has ls 4 [(0, .ref (ad 0)), (1, .int x1), (2, .int x2), (3, .int x3)] → W p l e ({ frames := 7, cells := 2, slots := 12, locals := 103 }) s m ([.ref (ad 0), .int y1] : List Value).toArray below meth c H locs 2 12 (vx_MQ below (va_Qi (fun r (u : wF × wA × wB) => po r u.1 u.2.1 u.2.2) (sPost nS kS D vwCl ad ca (va_A (ww nS kS ad ca f0 a0 b0) sz)) (va_A (ww nS kS ad ca f0 a0 b0) sz)) (sX nS kS D vwCl ad ca (va_A (ww nS kS ad ca f0 a0 b0) sz) px) ([.ref (ad 0), .int y1] : List Value).toArray s 2 12 (va_A (ww nS kS ad ca f0 a0 b0) sz)) (F0 m 19 ls [])) : ∀ (x1 : Int32) (x2 : Int32) (x3 : Int32) (f : wF) (a : wA) (b : wB), wp_S_alternative_68 po px J19 x1 x2 x3 f a b → ∀ (H : Heap) (locs : List Loc), wd nS kS D vwCl ad ca (va_A (ww nS kS ad ca f0 a0 b0) sz) s H locs f a b → ∀ (ls : Array Slot), lv_has ls 4 [(0, .ref (ad 0)), (1, .int x1), (2, .int x2), (3, .int x3)] → W p l e ({ frames := 7, cells := 2, slots := 12, locals := 103 }) s m ([.ref (ad 0), .int y1] : List Value).toArray below meth c H locs 2 12 (vx_MQ below (va_Qi (fun r (u : wF × wA × wB) => po r u.1 u.2.1 u.2.2) (sPost nS kS D vwCl ad ca (va_A (ww nS kS ad ca f0 a0 b0) sz)) (va_A (ww nS kS ad ca f0 a0 b0) sz)) (sX nS kS D vwCl ad ca (va_A (ww nS kS ad ca f0 a0 b0) sz) px) ([.ref (ad 0), .int y1] : List Value).toArray s 2 12 (va_A (ww nS kS ad ca f0 a0 b0) sz)) (F0 m 68 ls []) := by
  obtain ⟨hx, hb, hml, hown, hts, hK, hA, hth, hlk, hl9, hex⟩ := id X
  intro x1 x2 x3 f a b hw H locs K ls hl
  dsimp only [wp_S_alternative_68] at hw
  refine lv_iinc (v := (x3 + (1 : Int32))) (lv' := [(3, .int (x3 + (1 : Int32))), (0, .ref (ad 0)), (1, .int x1), (2, .int x2)]) hx hb dS_alternative_68 hl (k := 3) rfl rfl (by decide) rfl (fun ls hl => ?_)
  refine lv_goto (tgt := 19) hx hb dS_alternative_71 (by decide) ?_
  exact hJ19 x1 x2 (x3 + (1 : Int32)) f a b hw _ _ K _ (lv_sub hl [1, 2, 3, 0] rfl)
set_option maxHeartbeats 4000000 in
set_option maxRecDepth 100000 in
theorem LS_alternative_66 {p : Program} {l : Launch} {e : Env} {s : State} {m : MethodId} {below : List Frame} {meth : Method} {c : Code} {D : va_G} {sa : Nat → Nat} {ad : Nat → Nat} {ca : Nat → ClassId} {sz : Nat} {f0 : wF} {a0 : wA} {b0 : wB} {y1 : Int32} {po : Int32 → wF → wA → wB → Prop} {px : String → wF → wA → wB → Prop} (X : cx Wl (tyS ca) txS D vwCl sa (va_A (ww nS kS ad ca f0 a0 b0) sz) p l s m ([.ref (ad 0), .int y1] : List Value).toArray meth c cS_alternative 4 "SendBest") (hr : meth.sig.returnType = (some .int)) (J19 : Int32 → Int32 → Int32 → wF → wA → wB → Prop) (hJ19 : ∀ (x1 : Int32) (x2 : Int32) (x3 : Int32) (f : wF) (a : wA) (b : wB), J19 x1 x2 x3 f a b → ∀ (H : Heap) (locs : List Loc), wd nS kS D vwCl ad ca (va_A (ww nS kS ad ca f0 a0 b0) sz) s H locs f a b → ∀ (ls : Array Slot), lv_has ls 4 [(0, .ref (ad 0)), (1, .int x1), (2, .int x2), (3, .int x3)] → W p l e ({ frames := 7, cells := 2, slots := 12, locals := 103 }) s m ([.ref (ad 0), .int y1] : List Value).toArray below meth c H locs 2 12 (vx_MQ below (va_Qi (fun r (u : wF × wA × wB) => po r u.1 u.2.1 u.2.2) (sPost nS kS D vwCl ad ca (va_A (ww nS kS ad ca f0 a0 b0) sz)) (va_A (ww nS kS ad ca f0 a0 b0) sz)) (sX nS kS D vwCl ad ca (va_A (ww nS kS ad ca f0 a0 b0) sz) px) ([.ref (ad 0), .int y1] : List Value).toArray s 2 12 (va_A (ww nS kS ad ca f0 a0 b0) sz)) (F0 m 19 ls [])) : ∀ (x1 : Int32) (x3 : Int32) (f : wF) (a : wA) (b : wB), wp_S_alternative_66 po px J19 x1 x3 f a b → ∀ (H : Heap) (locs : List Loc), wd nS kS D vwCl ad ca (va_A (ww nS kS ad ca f0 a0 b0) sz) s H locs f a b → ∀ (ls : Array Slot), lv_has ls 4 [(0, .ref (ad 0)), (1, .int x1), (3, .int x3)] → W p l e ({ frames := 7, cells := 2, slots := 12, locals := 103 }) s m ([.ref (ad 0), .int y1] : List Value).toArray below meth c H locs 2 12 (vx_MQ below (va_Qi (fun r (u : wF × wA × wB) => po r u.1 u.2.1 u.2.2) (sPost nS kS D vwCl ad ca (va_A (ww nS kS ad ca f0 a0 b0) sz)) (va_A (ww nS kS ad ca f0 a0 b0) sz)) (sX nS kS D vwCl ad ca (va_A (ww nS kS ad ca f0 a0 b0) sz) px) ([.ref (ad 0), .int y1] : List Value).toArray s 2 12 (va_A (ww nS kS ad ca f0 a0 b0) sz)) (F0 m 66 ls []) := by
  obtain ⟨hx, hb, hml, hown, hts, hK, hA, hth, hlk, hl9, hex⟩ := id X
  intro x1 x3 f a b hw H locs K ls hl
  dsimp only [wp_S_alternative_66] at hw
  refine lv_iload_n hx hb dS_alternative_66 rfl (lv_at hl 2 rfl) ?_
  refine lv_istore_n (lv' := [(2, .int x3), (0, .ref (ad 0)), (1, .int x1), (3, .int x3)]) hx hb dS_alternative_67 rfl hl (by decide) rfl (fun ls hl => ?_)
  exact LS_alternative_68 X hr J19 hJ19 x1 x3 x3 f a b hw _ _ K _ (lv_sub hl [1, 2, 0, 3] rfl)
set_option maxHeartbeats 4000000 in
set_option maxRecDepth 100000 in
theorem LS_alternative_19 {p : Program} {l : Launch} {e : Env} {s : State} {m : MethodId} {below : List Frame} {meth : Method} {c : Code} {D : va_G} {sa : Nat → Nat} {ad : Nat → Nat} {ca : Nat → ClassId} {sz : Nat} {f0 : wF} {a0 : wA} {b0 : wB} {y1 : Int32} {po : Int32 → wF → wA → wB → Prop} {px : String → wF → wA → wB → Prop} (X : cx Wl (tyS ca) txS D vwCl sa (va_A (ww nS kS ad ca f0 a0 b0) sz) p l s m ([.ref (ad 0), .int y1] : List Value).toArray meth c cS_alternative 4 "SendBest") (hr : meth.sig.returnType = (some .int)) : ∀ n : Nat, ∀ (x1 : Int32) (x2 : Int32) (x3 : Int32) (f : wF) (a : wA) (b : wB), wp_S_alternative_19 po px n x1 x2 x3 f a b → ∀ (H : Heap) (locs : List Loc), wd nS kS D vwCl ad ca (va_A (ww nS kS ad ca f0 a0 b0) sz) s H locs f a b → ∀ (ls : Array Slot), lv_has ls 4 [(0, .ref (ad 0)), (1, .int x1), (2, .int x2), (3, .int x3)] → W p l e ({ frames := 7, cells := 2, slots := 12, locals := 103 }) s m ([.ref (ad 0), .int y1] : List Value).toArray below meth c H locs 2 12 (vx_MQ below (va_Qi (fun r (u : wF × wA × wB) => po r u.1 u.2.1 u.2.2) (sPost nS kS D vwCl ad ca (va_A (ww nS kS ad ca f0 a0 b0) sz)) (va_A (ww nS kS ad ca f0 a0 b0) sz)) (sX nS kS D vwCl ad ca (va_A (ww nS kS ad ca f0 a0 b0) sz) px) ([.ref (ad 0), .int y1] : List Value).toArray s 2 12 (va_A (ww nS kS ad ca f0 a0 b0) sz)) (F0 m 19 ls []) := by
  obtain ⟨hx, hb, hml, hown, hts, hK, hA, hth, hlk, hl9, hex⟩ := id X
  intro n
  induction n with
  | zero => intro x1 x2 x3 f a b hw; exact hw.elim
  | succ n ih =>
    intro x1 x2 x3 f a b hw H locs K ls hl
    dsimp only [wp_S_alternative_19] at hw
    refine lv_iload_n hx hb dS_alternative_19 rfl (lv_at hl 3 rfl) ?_
    refine lv_aload_n hx hb dS_alternative_20 rfl (lv_at hl 0 rfl) ?_
    refine gGet X K (o := 0) (k := 0) (v := .int (f 0)) (by decide) kS_o0 rfl inS_o0 (by decide) (tm1 (i := 82) rfl rfl) rfl dS_alternative_21 ?_
    refine lv_icmp_ge (tgt := 74) hx hb dS_alternative_24 (by decide) (fun hc => ?_) (fun hc => ?_)
    · replace hw := hw.1 hc
      refine lv_iload_n hx hb dS_alternative_74 rfl (lv_at hl 2 rfl) ?_
      exact endI X K hr rfl hw (by decide) (by decide) dS_alternative_75
    · replace hw := hw.2 hc
      refine lv_aload_n hx hb dS_alternative_27 rfl (lv_at hl 0 rfl) ?_
      refine gGet X K (o := 0) (k := 4) (v := .ref (ad 5)) (by decide) kS_o0 rfl inS_o0 (by decide) (tm1 (i := 86) rfl rfl) rfl dS_alternative_28 ?_
      refine lv_iload_n hx hb dS_alternative_31 rfl (lv_at hl 3 rfl) ?_
      obtain ⟨hi, hw⟩ := hw
      refine gild X K (o := 5) (t0 := 0) (by decide) kS_c5 rfl hi dS_alternative_32 ?_
      refine lv_iconst (v := (-1 : Int32)) hx hb dS_alternative_33 (by decide) ?_
      refine lv_icmp_ne (tgt := 68) hx hb dS_alternative_34 (by decide) (fun hc => ?_) (fun hc => ?_)
      · replace hw := hw.1 hc
        exact LS_alternative_68 X hr (wp_S_alternative_19 po px n) ih x1 x2 x3 f a b hw _ _ K _ (lv_sub hl [0, 1, 2, 3] rfl)
      · replace hw := hw.2 hc
        refine lv_aload_n hx hb dS_alternative_37 rfl (lv_at hl 0 rfl) ?_
        refine lv_iload_n hx hb dS_alternative_38 rfl (lv_at hl 3 rfl) ?_
        refine lv_iload_n hx hb dS_alternative_39 rfl (lv_at hl 1 rfl) ?_
        refine gcI X K (n0 := 2) (As := [.int x3, .int x1]) (rest := []) (hM := (met_S_canFill hl9 D ad ca sa _ x3 x1 f a b _ hw)) (o := 0) (ho := by decide) (hko := kS_o0) (hci := rfl) (hg := wl_good) (w1 := (tm2 (i := 144) rfl rfl)) (w2 := (tm2 (i := 146) rfl rfl)) (w3 := (tm0 (i := 10) rfl rfl)) (w4 := (tm1 (i := 1) rfl rfl)) (w5 := (tm2 (i := 147) rfl rfl)) (hd := ⟨rfl, by decide, by decide, by decide +kernel⟩) (hrc := rfl) (hrs := rfl) (hR := ⟨Nat.le_of_ble_eq_true rfl, Nat.le_of_ble_eq_true rfl⟩) (hn := rfl) (hsz := hl.1) (hst := rfl) (hW := Nat.le_of_ble_eq_true rfl) (hdg := dS_alternative_40) (hf := ⟨Nat.le_of_ble_eq_true rfl, Nat.le_of_ble_eq_true rfl⟩) (fun _ _ _ _ _ _ _ _ hw => hw.elim) (fun r40 f40 a40 b40 H locs hw K => ?_)
        refine lv_if_eq (tgt := 68) hx hb dS_alternative_43 (by decide) (fun hc => ?_) (fun hc => ?_)
        · replace hw := hw.1 hc
          exact LS_alternative_68 X hr (wp_S_alternative_19 po px n) ih x1 x2 x3 f40 a40 b40 hw _ _ K _ (lv_sub hl [0, 1, 2, 3] rfl)
        · replace hw := hw.2 hc
          refine lv_iload_n hx hb dS_alternative_46 rfl (lv_at hl 2 rfl) ?_
          refine lv_iconst (v := (-1 : Int32)) hx hb dS_alternative_47 (by decide) ?_
          refine lv_icmp_eq (tgt := 66) hx hb dS_alternative_48 (by decide) (fun hc => ?_) (fun hc => ?_)
          · replace hw := hw.1 hc
            exact LS_alternative_66 X hr (wp_S_alternative_19 po px n) ih x1 x3 f40 a40 b40 hw _ _ K _ (lv_sub hl [0, 1, 3] rfl)
          · replace hw := hw.2 hc
            refine lv_aload_n hx hb dS_alternative_51 rfl (lv_at hl 0 rfl) ?_
            refine lv_iload_n hx hb dS_alternative_52 rfl (lv_at hl 3 rfl) ?_
            refine lv_iload_n hx hb dS_alternative_53 rfl (lv_at hl 1 rfl) ?_
            refine gcI X K (n0 := 2) (As := [.int x3, .int x1]) (rest := []) (hM := (met_S_secondsTo hl9 D ad ca sa _ x3 x1 f40 a40 b40 _ hw)) (o := 0) (ho := by decide) (hko := kS_o0) (hci := rfl) (hg := wl_good) (w1 := (tm2 (i := 148) rfl rfl)) (w2 := (tm2 (i := 150) rfl rfl)) (w3 := (tm0 (i := 11) rfl rfl)) (w4 := (tm1 (i := 1) rfl rfl)) (w5 := (tm2 (i := 151) rfl rfl)) (hd := ⟨rfl, by decide, by decide, by decide +kernel⟩) (hrc := rfl) (hrs := rfl) (hR := ⟨Nat.le_of_ble_eq_true rfl, Nat.le_of_ble_eq_true rfl⟩) (hn := rfl) (hsz := hl.1) (hst := rfl) (hW := Nat.le_of_ble_eq_true rfl) (hdg := dS_alternative_54) (hf := ⟨Nat.le_of_ble_eq_true rfl, Nat.le_of_ble_eq_true rfl⟩) (fun _ _ _ _ _ _ _ _ hw => hw.elim) (fun r54 f54 a54 b54 H locs hw K => ?_)
            refine lv_aload_n hx hb dS_alternative_57 rfl (lv_at hl 0 rfl) ?_
            refine lv_iload_n hx hb dS_alternative_58 rfl (lv_at hl 2 rfl) ?_
            refine lv_iload_n hx hb dS_alternative_59 rfl (lv_at hl 1 rfl) ?_
            refine gcI X K (n0 := 2) (As := [.int x2, .int x1]) (rest := [.int r54]) (hM := (met_S_secondsTo hl9 D ad ca sa _ x2 x1 f54 a54 b54 _ hw)) (o := 0) (ho := by decide) (hko := kS_o0) (hci := rfl) (hg := wl_good) (w1 := (tm2 (i := 148) rfl rfl)) (w2 := (tm2 (i := 150) rfl rfl)) (w3 := (tm0 (i := 11) rfl rfl)) (w4 := (tm1 (i := 1) rfl rfl)) (w5 := (tm2 (i := 151) rfl rfl)) (hd := ⟨rfl, by decide, by decide, by decide +kernel⟩) (hrc := rfl) (hrs := rfl) (hR := ⟨Nat.le_of_ble_eq_true rfl, Nat.le_of_ble_eq_true rfl⟩) (hn := rfl) (hsz := hl.1) (hst := rfl) (hW := Nat.le_of_ble_eq_true rfl) (hdg := dS_alternative_60) (hf := ⟨Nat.le_of_ble_eq_true rfl, Nat.le_of_ble_eq_true rfl⟩) (fun _ _ _ _ _ _ _ _ hw => hw.elim) (fun r60 f60 a60 b60 H locs hw K => ?_)
            refine lv_icmp_ge (tgt := 68) hx hb dS_alternative_63 (by decide) (fun hc => ?_) (fun hc => ?_)
            · replace hw := hw.1 hc
              exact LS_alternative_68 X hr (wp_S_alternative_19 po px n) ih x1 x2 x3 f60 a60 b60 hw _ _ K _ (lv_sub hl [0, 1, 2, 3] rfl)
            · replace hw := hw.2 hc
              exact LS_alternative_66 X hr (wp_S_alternative_19 po px n) ih x1 x3 f60 a60 b60 hw _ _ K _ (lv_sub hl [0, 1, 3] rfl)
set_option maxHeartbeats 4000000 in
set_option maxRecDepth 100000 in
theorem met_S_alternative {l : Launch} (hl9 : l.stackTraces = false) (D : va_G) (ad : Nat → Nat) (ca : Nat → ClassId) (sa : Nat → Nat) (sz : Nat) (x1 : Int32) (f : wF) (a : wA) (b : wB) (po : Int32 → wF → wA → wB → Prop) (px : String → wF → wA → wB → Prop) (hw : wp_S_alternative po px x1 f a b) : mI nS kS (tyS ca) txS D vwCl l yS_alternative (Cond.code yS_alternative cS_alternative 4 (some .int) :: Wl) ({ frames := 7, cells := 2, slots := 12, locals := 103 }) [.ref (ad 0), .int x1] ad ca sa sz f a b po px 2 12 := by
  refine ofI (by decide) hl9 (Nat.le_of_ble_eq_true rfl) ?_
  intro p e s m below meth c ls X hr K hl
  obtain ⟨hx, hb, hml, hown, hts, hK, hA, hth, hlk, hl9, hex⟩ := id X
  have hl : lv_has ls 4 [(0, .ref (ad 0)), (1, .int x1)] := hl
  dsimp only [wp_S_alternative] at hw
  refine lv_aload_n hx hb dS_alternative_0 rfl (lv_at hl 0 rfl) ?_
  refine lv_iload_n hx hb dS_alternative_1 rfl (lv_at hl 1 rfl) ?_
  refine gcV X K (n0 := 1) (As := [.int x1]) (rest := []) (hM := (met_S_checkNeed hl9 D ad ca sa _ x1 f a b _ _ hw)) (o := 0) (ho := by decide) (hko := kS_o0) (hci := rfl) (hg := wl_good) (w1 := (tm3 (i := 48) rfl rfl)) (w2 := (tm3 (i := 50) rfl rfl)) (w3 := (tm0 (i := 26) rfl rfl)) (w4 := (tm1 (i := 1) rfl rfl)) (w5 := (tm3 (i := 51) rfl rfl)) (hd := ⟨rfl, by decide, by decide, by decide +kernel⟩) (hrc := rfl) (hrs := rfl) (hR := ⟨Nat.le_of_ble_eq_true rfl, Nat.le_of_ble_eq_true rfl⟩) (hn := rfl) (hsz := hl.1) (hst := rfl) (hW := Nat.le_of_ble_eq_true rfl) (hdg := dS_alternative_2) (hf := ⟨Nat.le_of_ble_eq_true rfl, Nat.le_of_ble_eq_true rfl⟩) (fun E ce q9 f1 a1 b1 H1 locs1 hw K hce hv hcl => outX X K hw hce hv hcl (by decide) (by decide)) (fun f2 a2 b2 H locs hw K => ?_)
  refine lv_aload_n hx hb dS_alternative_5 rfl (lv_at hl 0 rfl) ?_
  refine lv_aload_n hx hb dS_alternative_6 rfl (lv_at hl 0 rfl) ?_
  refine gGet X K (o := 0) (k := 10) (v := .ref (ad 9)) (by decide) kS_o0 rfl inS_o0 (by decide) (tm1 (i := 92) rfl rfl) rfl dS_alternative_7 ?_
  refine lv_iload_n hx hb dS_alternative_10 rfl (lv_at hl 1 rfl) ?_
  obtain ⟨hi, hw⟩ := hw
  refine gild X K (o := 9) (t0 := 0) (by decide) kS_c9 rfl hi dS_alternative_11 ?_
  refine gcV X K (n0 := 1) (As := [.int (a2 9 x1.toNatClampNeg)]) (rest := []) (hM := (met_S_checkOpen hl9 D ad ca sa _ (a2 9 x1.toNatClampNeg) f2 a2 b2 _ _ hw)) (o := 0) (ho := by decide) (hko := kS_o0) (hci := rfl) (hg := wl_good) (w1 := (tm2 (i := 30) rfl rfl)) (w2 := (tm2 (i := 32) rfl rfl)) (w3 := (tm0 (i := 2) rfl rfl)) (w4 := (tm1 (i := 1) rfl rfl)) (w5 := (tm2 (i := 33) rfl rfl)) (hd := ⟨rfl, by decide, by decide, by decide +kernel⟩) (hrc := rfl) (hrs := rfl) (hR := ⟨Nat.le_of_ble_eq_true rfl, Nat.le_of_ble_eq_true rfl⟩) (hn := rfl) (hsz := hl.1) (hst := rfl) (hW := Nat.le_of_ble_eq_true rfl) (hdg := dS_alternative_12) (hf := ⟨Nat.le_of_ble_eq_true rfl, Nat.le_of_ble_eq_true rfl⟩) (fun E ce q9 f1 a1 b1 H1 locs1 hw K hce hv hcl => outX X K hw hce hv hcl (by decide) (by decide)) (fun f12 a12 b12 H locs hw K => ?_)
  refine lv_iconst (v := (-1 : Int32)) hx hb dS_alternative_15 (by decide) ?_
  refine lv_istore_n (lv' := [(2, .int (-1 : Int32)), (0, .ref (ad 0)), (1, .int x1)]) hx hb dS_alternative_16 rfl hl (by decide) rfl (fun ls hl => ?_)
  refine lv_iconst (v := (0 : Int32)) hx hb dS_alternative_17 (by decide) ?_
  refine lv_istore_n (lv' := [(3, .int (0 : Int32)), (2, .int (-1 : Int32)), (0, .ref (ad 0)), (1, .int x1)]) hx hb dS_alternative_18 rfl hl (by decide) rfl (fun ls hl => ?_)
  obtain ⟨n9, hw⟩ := hw
  exact LS_alternative_19 X hr n9 x1 (-1 : Int32) (0 : Int32) f12 a12 b12 hw _ _ K _ (lv_sub hl [2, 3, 1, 0] rfl)
set_option maxHeartbeats 4000000 in
set_option maxRecDepth 100000 in
theorem LS_anyCanFill_2 {p : Program} {l : Launch} {e : Env} {s : State} {m : MethodId} {below : List Frame} {meth : Method} {c : Code} {D : va_G} {sa : Nat → Nat} {ad : Nat → Nat} {ca : Nat → ClassId} {sz : Nat} {f0 : wF} {a0 : wA} {b0 : wB} {y1 : Int32} {po : Int32 → wF → wA → wB → Prop} (X : cx Wl (tyS ca) txS D vwCl sa (va_A (ww nS kS ad ca f0 a0 b0) sz) p l s m ([.ref (ad 0), .int y1] : List Value).toArray meth c cS_anyCanFill 3 "SendBest") (hr : meth.sig.returnType = (some .boolean)) : ∀ n : Nat, ∀ (x1 : Int32) (x2 : Int32) (f : wF) (a : wA) (b : wB), wp_S_anyCanFill_2 po n x1 x2 f a b → ∀ (H : Heap) (locs : List Loc), wd nS kS D vwCl ad ca (va_A (ww nS kS ad ca f0 a0 b0) sz) s H locs f a b → ∀ (ls : Array Slot), lv_has ls 3 [(0, .ref (ad 0)), (1, .int x1), (2, .int x2)] → W p l e ({ frames := 2, cells := 0, slots := 0, locals := 46 }) s m ([.ref (ad 0), .int y1] : List Value).toArray below meth c H locs 0 0 (vx_MQ below (va_Qi (fun r (u : wF × wA × wB) => po r u.1 u.2.1 u.2.2) (sPost nS kS D vwCl ad ca (va_A (ww nS kS ad ca f0 a0 b0) sz)) (va_A (ww nS kS ad ca f0 a0 b0) sz)) (sX nS kS D vwCl ad ca (va_A (ww nS kS ad ca f0 a0 b0) sz) (fun _ _ _ _ => False)) ([.ref (ad 0), .int y1] : List Value).toArray s 0 0 (va_A (ww nS kS ad ca f0 a0 b0) sz)) (F0 m 2 ls []) := by
  obtain ⟨hx, hb, hml, hown, hts, hK, hA, hth, hlk, hl9, hex⟩ := id X
  intro n
  induction n with
  | zero => intro x1 x2 f a b hw; exact hw.elim
  | succ n ih =>
    intro x1 x2 f a b hw H locs K ls hl
    dsimp only [wp_S_anyCanFill_2] at hw
    refine lv_iload_n hx hb dS_anyCanFill_2 rfl (lv_at hl 2 rfl) ?_
    refine lv_aload_n hx hb dS_anyCanFill_3 rfl (lv_at hl 0 rfl) ?_
    refine gGet X K (o := 0) (k := 0) (v := .int (f 0)) (by decide) kS_o0 rfl inS_o0 (by decide) (tm1 (i := 82) rfl rfl) rfl dS_anyCanFill_4 ?_
    refine lv_icmp_ge (tgt := 27) hx hb dS_anyCanFill_7 (by decide) (fun hc => ?_) (fun hc => ?_)
    · replace hw := hw.1 hc
      refine lv_iconst (v := (0 : Int32)) hx hb dS_anyCanFill_27 (by decide) ?_
      exact endI X K hr hw.1 hw.2 (by decide) (by decide) dS_anyCanFill_28
    · replace hw := hw.2 hc
      refine lv_aload_n hx hb dS_anyCanFill_10 rfl (lv_at hl 0 rfl) ?_
      refine lv_iload_n hx hb dS_anyCanFill_11 rfl (lv_at hl 2 rfl) ?_
      refine lv_iload_n hx hb dS_anyCanFill_12 rfl (lv_at hl 1 rfl) ?_
      refine gcI X K (n0 := 2) (As := [.int x2, .int x1]) (rest := []) (hM := (met_S_canFill hl9 D ad ca sa _ x2 x1 f a b _ hw)) (o := 0) (ho := by decide) (hko := kS_o0) (hci := rfl) (hg := wl_good) (w1 := (tm2 (i := 144) rfl rfl)) (w2 := (tm2 (i := 146) rfl rfl)) (w3 := (tm0 (i := 10) rfl rfl)) (w4 := (tm1 (i := 1) rfl rfl)) (w5 := (tm2 (i := 147) rfl rfl)) (hd := ⟨rfl, by decide, by decide, by decide +kernel⟩) (hrc := rfl) (hrs := rfl) (hR := ⟨Nat.le_of_ble_eq_true rfl, Nat.le_of_ble_eq_true rfl⟩) (hn := rfl) (hsz := hl.1) (hst := rfl) (hW := Nat.le_of_ble_eq_true rfl) (hdg := dS_anyCanFill_13) (hf := ⟨Nat.le_of_ble_eq_true rfl, Nat.le_of_ble_eq_true rfl⟩) (fun _ _ _ _ _ _ _ _ hw => hw.elim) (fun r13 f13 a13 b13 H locs hw K => ?_)
      refine lv_if_eq (tgt := 21) hx hb dS_anyCanFill_16 (by decide) (fun hc => ?_) (fun hc => ?_)
      · replace hw := hw.1 hc
        refine lv_iinc (v := (x2 + (1 : Int32))) (lv' := [(2, .int (x2 + (1 : Int32))), (0, .ref (ad 0)), (1, .int x1)]) hx hb dS_anyCanFill_21 hl (k := 2) rfl rfl (by decide) rfl (fun ls hl => ?_)
        refine lv_goto (tgt := 2) hx hb dS_anyCanFill_24 (by decide) ?_
        exact ih x1 (x2 + (1 : Int32)) f13 a13 b13 hw _ _ K _ (lv_sub hl [1, 2, 0] rfl)
      · replace hw := hw.2 hc
        refine lv_iconst (v := (1 : Int32)) hx hb dS_anyCanFill_19 (by decide) ?_
        exact endI X K hr hw.1 hw.2 (by decide) (by decide) dS_anyCanFill_20
set_option maxHeartbeats 4000000 in
set_option maxRecDepth 100000 in
theorem met_S_anyCanFill {l : Launch} (hl9 : l.stackTraces = false) (D : va_G) (ad : Nat → Nat) (ca : Nat → ClassId) (sa : Nat → Nat) (sz : Nat) (x1 : Int32) (f : wF) (a : wA) (b : wB) (po : Int32 → wF → wA → wB → Prop) (hw : wp_S_anyCanFill po x1 f a b) : mI nS kS (tyS ca) txS D vwCl l yS_anyCanFill (Cond.code yS_anyCanFill cS_anyCanFill 3 (some .boolean) :: Wl) ({ frames := 2, cells := 0, slots := 0, locals := 46 }) [.ref (ad 0), .int x1] ad ca sa sz f a b po (fun _ _ _ _ => False) 0 0 := by
  refine ofI (by decide) hl9 (Nat.le_of_ble_eq_true rfl) ?_
  intro p e s m below meth c ls X hr K hl
  obtain ⟨hx, hb, hml, hown, hts, hK, hA, hth, hlk, hl9, hex⟩ := id X
  have hl : lv_has ls 3 [(0, .ref (ad 0)), (1, .int x1)] := hl
  dsimp only [wp_S_anyCanFill] at hw
  refine lv_iconst (v := (0 : Int32)) hx hb dS_anyCanFill_0 (by decide) ?_
  refine lv_istore_n (lv' := [(2, .int (0 : Int32)), (0, .ref (ad 0)), (1, .int x1)]) hx hb dS_anyCanFill_1 rfl hl (by decide) rfl (fun ls hl => ?_)
  obtain ⟨n9, hw⟩ := hw
  exact LS_anyCanFill_2 X hr n9 x1 (0 : Int32) f a b hw _ _ K _ (lv_sub hl [1, 2, 0] rfl)
set_option maxHeartbeats 4000000 in
set_option maxRecDepth 100000 in
theorem LS_never_52 {p : Program} {l : Launch} {e : Env} {s : State} {m : MethodId} {below : List Frame} {meth : Method} {c : Code} {D : va_G} {sa : Nat → Nat} {ad : Nat → Nat} {ca : Nat → ClassId} {sz : Nat} {f0 : wF} {a0 : wA} {b0 : wB} {y1 : Int32} {po : Int32 → wF → wA → wB → Prop} {px : String → wF → wA → wB → Prop} (X : cx Wl (tyS ca) txS D vwCl sa (va_A (ww nS kS ad ca f0 a0 b0) sz) p l s m ([.ref (ad 0), .int y1] : List Value).toArray meth c cS_never 4 "SendBest") (hr : meth.sig.returnType = (some .int)) (J18 : Int32 → Int32 → Int32 → wF → wA → wB → Prop) (hJ18 : ∀ (x1 : Int32) (x2 : Int32) (x3 : Int32) (f : wF) (a : wA) (b : wB), J18 x1 x2 x3 f a b → ∀ (H : Heap) (locs : List Loc), wd nS kS D vwCl ad ca (va_A (ww nS kS ad ca f0 a0 b0) sz) s H locs f a b → ∀ (ls : Array Slot), lv_has ls 4 [(0, .ref (ad 0)), (1, .int x1), (2, .int x2), (3, .int x3)] → W p l e ({ frames := 6, cells := 1, slots := 6, locals := 82 }) s m ([.ref (ad 0), .int y1] : List Value).toArray below meth c H locs 0 0 (vx_MQ below (va_Qi (fun r (u : wF × wA × wB) => po r u.1 u.2.1 u.2.2) (sPost nS kS D vwCl ad ca (va_A (ww nS kS ad ca f0 a0 b0) sz)) (va_A (ww nS kS ad ca f0 a0 b0) sz)) (sX nS kS D vwCl ad ca (va_A (ww nS kS ad ca f0 a0 b0) sz) px) ([.ref (ad 0), .int y1] : List Value).toArray s 1 6 (va_A (ww nS kS ad ca f0 a0 b0) sz)) (F0 m 18 ls [])) : ∀ (x1 : Int32) (x2 : Int32) (x3 : Int32) (f : wF) (a : wA) (b : wB), wp_S_never_52 po px J18 x1 x2 x3 f a b → ∀ (H : Heap) (locs : List Loc), wd nS kS D vwCl ad ca (va_A (ww nS kS ad ca f0 a0 b0) sz) s H locs f a b → ∀ (ls : Array Slot), lv_has ls 4 [(0, .ref (ad 0)), (1, .int x1), (2, .int x2), (3, .int x3)] → W p l e ({ frames := 6, cells := 1, slots := 6, locals := 82 }) s m ([.ref (ad 0), .int y1] : List Value).toArray below meth c H locs 0 0 (vx_MQ below (va_Qi (fun r (u : wF × wA × wB) => po r u.1 u.2.1 u.2.2) (sPost nS kS D vwCl ad ca (va_A (ww nS kS ad ca f0 a0 b0) sz)) (va_A (ww nS kS ad ca f0 a0 b0) sz)) (sX nS kS D vwCl ad ca (va_A (ww nS kS ad ca f0 a0 b0) sz) px) ([.ref (ad 0), .int y1] : List Value).toArray s 1 6 (va_A (ww nS kS ad ca f0 a0 b0) sz)) (F0 m 52 ls []) := by
  obtain ⟨hx, hb, hml, hown, hts, hK, hA, hth, hlk, hl9, hex⟩ := id X
  intro x1 x2 x3 f a b hw H locs K ls hl
  dsimp only [wp_S_never_52] at hw
  refine lv_iinc (v := (x3 + (1 : Int32))) (lv' := [(3, .int (x3 + (1 : Int32))), (0, .ref (ad 0)), (1, .int x1), (2, .int x2)]) hx hb dS_never_52 hl (k := 3) rfl rfl (by decide) rfl (fun ls hl => ?_)
  refine lv_goto (tgt := 18) hx hb dS_never_55 (by decide) ?_
  exact hJ18 x1 x2 (x3 + (1 : Int32)) f a b hw _ _ K _ (lv_sub hl [1, 2, 3, 0] rfl)
set_option maxHeartbeats 4000000 in
set_option maxRecDepth 100000 in
theorem LS_never_18 {p : Program} {l : Launch} {e : Env} {s : State} {m : MethodId} {below : List Frame} {meth : Method} {c : Code} {D : va_G} {sa : Nat → Nat} {ad : Nat → Nat} {ca : Nat → ClassId} {sz : Nat} {f0 : wF} {a0 : wA} {b0 : wB} {y1 : Int32} {po : Int32 → wF → wA → wB → Prop} {px : String → wF → wA → wB → Prop} (X : cx Wl (tyS ca) txS D vwCl sa (va_A (ww nS kS ad ca f0 a0 b0) sz) p l s m ([.ref (ad 0), .int y1] : List Value).toArray meth c cS_never 4 "SendBest") (hr : meth.sig.returnType = (some .int)) : ∀ n : Nat, ∀ (x1 : Int32) (x2 : Int32) (x3 : Int32) (f : wF) (a : wA) (b : wB), wp_S_never_18 po px n x1 x2 x3 f a b → ∀ (H : Heap) (locs : List Loc), wd nS kS D vwCl ad ca (va_A (ww nS kS ad ca f0 a0 b0) sz) s H locs f a b → ∀ (ls : Array Slot), lv_has ls 4 [(0, .ref (ad 0)), (1, .int x1), (2, .int x2), (3, .int x3)] → W p l e ({ frames := 6, cells := 1, slots := 6, locals := 82 }) s m ([.ref (ad 0), .int y1] : List Value).toArray below meth c H locs 0 0 (vx_MQ below (va_Qi (fun r (u : wF × wA × wB) => po r u.1 u.2.1 u.2.2) (sPost nS kS D vwCl ad ca (va_A (ww nS kS ad ca f0 a0 b0) sz)) (va_A (ww nS kS ad ca f0 a0 b0) sz)) (sX nS kS D vwCl ad ca (va_A (ww nS kS ad ca f0 a0 b0) sz) px) ([.ref (ad 0), .int y1] : List Value).toArray s 1 6 (va_A (ww nS kS ad ca f0 a0 b0) sz)) (F0 m 18 ls []) := by
  obtain ⟨hx, hb, hml, hown, hts, hK, hA, hth, hlk, hl9, hex⟩ := id X
  intro n
  induction n with
  | zero => intro x1 x2 x3 f a b hw; exact hw.elim
  | succ n ih =>
    intro x1 x2 x3 f a b hw H locs K ls hl
    dsimp only [wp_S_never_18] at hw
    refine lv_iload_n hx hb dS_never_18 rfl (lv_at hl 3 rfl) ?_
    refine lv_aload_n hx hb dS_never_19 rfl (lv_at hl 0 rfl) ?_
    refine gGet X K (o := 0) (k := 9) (v := .int (f 2)) (by decide) kS_o0 rfl inS_o0 (by decide) (tm1 (i := 91) rfl rfl) rfl dS_never_20 ?_
    refine lv_icmp_ge (tgt := 58) hx hb dS_never_23 (by decide) (fun hc => ?_) (fun hc => ?_)
    · replace hw := hw.1 hc
      refine lv_iconst (v := (-1 : Int32)) hx hb dS_never_58 (by decide) ?_
      exact endI X K hr rfl hw (by decide) (by decide) dS_never_59
    · replace hw := hw.2 hc
      refine lv_aload_n hx hb dS_never_26 rfl (lv_at hl 0 rfl) ?_
      refine lv_iload_n hx hb dS_never_27 rfl (lv_at hl 3 rfl) ?_
      refine gcI X K (n0 := 1) (As := [.int x3]) (rest := []) (hM := (met_S_isOpenNeed hl9 D ad ca sa _ x3 f a b _ hw)) (o := 0) (ho := by decide) (hko := kS_o0) (hci := rfl) (hg := wl_good) (w1 := (tm2 (i := 132) rfl rfl)) (w2 := (tm2 (i := 134) rfl rfl)) (w3 := (tm0 (i := 7) rfl rfl)) (w4 := (tm1 (i := 1) rfl rfl)) (w5 := (tm2 (i := 135) rfl rfl)) (hd := ⟨rfl, by decide, by decide, by decide +kernel⟩) (hrc := rfl) (hrs := rfl) (hR := ⟨Nat.le_of_ble_eq_true rfl, Nat.le_of_ble_eq_true rfl⟩) (hn := rfl) (hsz := hl.1) (hst := rfl) (hW := Nat.le_of_ble_eq_true rfl) (hdg := dS_never_28) (hf := ⟨Nat.le_of_ble_eq_true rfl, Nat.le_of_ble_eq_true rfl⟩) (fun _ _ _ _ _ _ _ _ hw => hw.elim) (fun r28 f28 a28 b28 H locs hw K => ?_)
      refine lv_if_eq (tgt := 52) hx hb dS_never_31 (by decide) (fun hc => ?_) (fun hc => ?_)
      · replace hw := hw.1 hc
        exact LS_never_52 X hr (wp_S_never_18 po px n) ih x1 x2 x3 f28 a28 b28 hw _ _ K _ (lv_sub hl [0, 1, 2, 3] rfl)
      · replace hw := hw.2 hc
        refine lv_aload_n hx hb dS_never_34 rfl (lv_at hl 0 rfl) ?_
        refine lv_iload_n hx hb dS_never_35 rfl (lv_at hl 3 rfl) ?_
        refine gcI X K (n0 := 1) (As := [.int x3]) (rest := []) (hM := (met_S_anyCanFill hl9 D ad ca sa _ x3 f28 a28 b28 _ hw)) (o := 0) (ho := by decide) (hko := kS_o0) (hci := rfl) (hg := wl_good) (w1 := (tm3 (i := 92) rfl rfl)) (w2 := (tm3 (i := 94) rfl rfl)) (w3 := (tm0 (i := 29) rfl rfl)) (w4 := (tm1 (i := 1) rfl rfl)) (w5 := (tm3 (i := 95) rfl rfl)) (hd := ⟨rfl, by decide, by decide, by decide +kernel⟩) (hrc := rfl) (hrs := rfl) (hR := ⟨Nat.le_of_ble_eq_true rfl, Nat.le_of_ble_eq_true rfl⟩) (hn := rfl) (hsz := hl.1) (hst := rfl) (hW := Nat.le_of_ble_eq_true rfl) (hdg := dS_never_36) (hf := ⟨Nat.le_of_ble_eq_true rfl, Nat.le_of_ble_eq_true rfl⟩) (fun _ _ _ _ _ _ _ _ hw => hw.elim) (fun r36 f36 a36 b36 H locs hw K => ?_)
        refine lv_if_ne (tgt := 52) hx hb dS_never_39 (by decide) (fun hc => ?_) (fun hc => ?_)
        · replace hw := hw.1 hc
          exact LS_never_52 X hr (wp_S_never_18 po px n) ih x1 x2 x3 f36 a36 b36 hw _ _ K _ (lv_sub hl [0, 1, 2, 3] rfl)
        · replace hw := hw.2 hc
          refine lv_iload_n hx hb dS_never_42 rfl (lv_at hl 2 rfl) ?_
          refine lv_iload_n hx hb dS_never_43 rfl (lv_at hl 1 rfl) ?_
          refine lv_icmp_ne (tgt := 49) hx hb dS_never_44 (by decide) (fun hc => ?_) (fun hc => ?_)
          · replace hw := hw.1 hc
            refine lv_iinc (v := (x2 + (1 : Int32))) (lv' := [(2, .int (x2 + (1 : Int32))), (0, .ref (ad 0)), (1, .int x1), (3, .int x3)]) hx hb dS_never_49 hl (k := 2) rfl rfl (by decide) rfl (fun ls hl => ?_)
            exact LS_never_52 X hr (wp_S_never_18 po px n) ih x1 (x2 + (1 : Int32)) x3 f36 a36 b36 hw _ _ K _ (lv_sub hl [1, 2, 0, 3] rfl)
          · replace hw := hw.2 hc
            refine lv_iload_n hx hb dS_never_47 rfl (lv_at hl 3 rfl) ?_
            exact endI X K hr rfl hw (by decide) (by decide) dS_never_48
set_option maxHeartbeats 4000000 in
set_option maxRecDepth 100000 in
theorem met_S_never {l : Launch} (hl9 : l.stackTraces = false) (D : va_G) (ad : Nat → Nat) (ca : Nat → ClassId) (sa : Nat → Nat) (sz : Nat) (x1 : Int32) (f : wF) (a : wA) (b : wB) (po : Int32 → wF → wA → wB → Prop) (px : String → wF → wA → wB → Prop) (hw : wp_S_never po px x1 f a b) : mI nS kS (tyS ca) txS D vwCl l yS_never (Cond.code yS_never cS_never 4 (some .int) :: Wl) ({ frames := 6, cells := 1, slots := 6, locals := 82 }) [.ref (ad 0), .int x1] ad ca sa sz f a b po px 1 6 := by
  refine ofI (by decide) hl9 (Nat.le_of_ble_eq_true rfl) ?_
  intro p e s m below meth c ls X hr K hl
  obtain ⟨hx, hb, hml, hown, hts, hK, hA, hth, hlk, hl9, hex⟩ := id X
  have hl : lv_has ls 4 [(0, .ref (ad 0)), (1, .int x1)] := hl
  dsimp only [wp_S_never] at hw
  refine lv_iload_n hx hb dS_never_0 rfl (lv_at hl 1 rfl) ?_
  refine lv_if_ge (tgt := 14) hx hb dS_never_1 (by decide) (fun hc => ?_) (fun hc => ?_)
  · replace hw := hw.1 hc
    refine lv_iconst (v := (0 : Int32)) hx hb dS_never_14 (by decide) ?_
    refine lv_istore_n (lv' := [(2, .int (0 : Int32)), (0, .ref (ad 0)), (1, .int x1)]) hx hb dS_never_15 rfl hl (by decide) rfl (fun ls hl => ?_)
    refine lv_iconst (v := (0 : Int32)) hx hb dS_never_16 (by decide) ?_
    refine lv_istore_n (lv' := [(3, .int (0 : Int32)), (2, .int (0 : Int32)), (0, .ref (ad 0)), (1, .int x1)]) hx hb dS_never_17 rfl hl (by decide) rfl (fun ls hl => ?_)
    obtain ⟨n9, hw⟩ := hw
    exact LS_never_18 X hr n9 x1 (0 : Int32) (0 : Int32) f a b hw _ _ K _ (lv_sub hl [2, 3, 1, 0] rfl)
  · replace hw := hw.2 hc
    exact throwX X K (k := 19) (names := ["java/lang/RuntimeException", "java/lang/Exception"]) hw (by decide +kernel) (by decide +kernel) rfl (tm1 (i := 144) rfl rfl) (tm1 (i := 8) rfl rfl) xg_S_71 xb_S_71 xo_S_71_67 hl.1 dS_never_4 dS_never_7 dS_never_8 dS_never_10 dS_never_13 (by decide) (by decide) (by decide) (by decide) (by decide) (by decide)
end
