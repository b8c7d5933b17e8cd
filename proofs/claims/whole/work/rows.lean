section
-- ===== PART A: goes FIRST, ahead of the names: the tables' words, and 'selects' of the private methods out of them =====
/-- a private method of a class that the tables say can be made, by its rows of tables_1 -/
def lw_okq (q : MethodName × Nat) : Prop := (q.1.cls ≠ "java/lang/invoke/MethodHandle" ∧ q.1.cls ≠ "java/lang/invoke/VarHandle") ∧ Cond.instantiable q.1.cls q.2 ∈ tables_1 ∧ Cond.privateMethod q.1 ∈ tables_1 ∧ Cond.instanceMethod q.1 ∈ tables_1
theorem lw_p0 : lw_okq (⟨"TempleRaised$Sawyer", "addUpWeights", "(LTempleRaised$Wall;)V"⟩, 5) := ⟨⟨by decide +kernel, by decide +kernel⟩, List.mem_of_getElem? (i := 218) (by decide +kernel), List.mem_of_getElem? (i := 323) (by decide +kernel), List.mem_of_getElem? (i := 324) (by decide +kernel)⟩
theorem lw_p1 : lw_okq (⟨"TempleRaised$Sawyer", "findBars", "(LTempleRaised$Wall;)V"⟩, 5) := ⟨⟨by decide +kernel, by decide +kernel⟩, List.mem_of_getElem? (i := 218) (by decide +kernel), List.mem_of_getElem? (i := 331) (by decide +kernel), List.mem_of_getElem? (i := 332) (by decide +kernel)⟩
theorem lw_p2 : lw_okq (⟨"TempleRaised$Sawyer", "findBarsOf", "(LTempleRaised$Wall;II)V"⟩, 5) := ⟨⟨by decide +kernel, by decide +kernel⟩, List.mem_of_getElem? (i := 218) (by decide +kernel), List.mem_of_getElem? (i := 336) (by decide +kernel), List.mem_of_getElem? (i := 337) (by decide +kernel)⟩
theorem lw_p3 : lw_okq (⟨"TempleRaised$Sawyer", "findCosts", "(III)V"⟩, 5) := ⟨⟨by decide +kernel, by decide +kernel⟩, List.mem_of_getElem? (i := 218) (by decide +kernel), List.mem_of_getElem? (i := 345) (by decide +kernel), List.mem_of_getElem? (i := 346) (by decide +kernel)⟩
theorem lw_p4 : lw_okq (⟨"TempleRaised$Sawyer", "leastCost", "(IIII)I"⟩, 5) := ⟨⟨by decide +kernel, by decide +kernel⟩, List.mem_of_getElem? (i := 218) (by decide +kernel), List.mem_of_getElem? (i := 355) (by decide +kernel), List.mem_of_getElem? (i := 356) (by decide +kernel)⟩
theorem lw_p5 : lw_okq (⟨"TempleRaised$Sawyer", "weightOfPart", "(IIII)I"⟩, 5) := ⟨⟨by decide +kernel, by decide +kernel⟩, List.mem_of_getElem? (i := 218) (by decide +kernel), List.mem_of_getElem? (i := 359) (by decide +kernel), List.mem_of_getElem? (i := 360) (by decide +kernel)⟩
theorem lw_p6 : lw_okq (⟨"TempleRaised$Sawyer", "uprightCost", "(IIIII)I"⟩, 5) := ⟨⟨by decide +kernel, by decide +kernel⟩, List.mem_of_getElem? (i := 218) (by decide +kernel), List.mem_of_getElem? (i := 364) (by decide +kernel), List.mem_of_getElem? (i := 365) (by decide +kernel)⟩
theorem lw_p7 : lw_okq (⟨"TempleRaised$Sawyer", "levelCost", "(IIIII)I"⟩, 5) := ⟨⟨by decide +kernel, by decide +kernel⟩, List.mem_of_getElem? (i := 218) (by decide +kernel), List.mem_of_getElem? (i := 374) (by decide +kernel), List.mem_of_getElem? (i := 375) (by decide +kernel)⟩
theorem lw_p8 : lw_okq (⟨"TempleRaised$Sawyer", "cutsFirst", "(LTempleRaised$Plan;I)Z"⟩, 5) := ⟨⟨by decide +kernel, by decide +kernel⟩, List.mem_of_getElem? (i := 218) (by decide +kernel), List.mem_of_getElem? (i := 386) (by decide +kernel), List.mem_of_getElem? (i := 387) (by decide +kernel)⟩
theorem lw_p9 : lw_okq (⟨"TempleRaised$Plan", "makeTwo", "(I)V"⟩, 8) := ⟨⟨by decide +kernel, by decide +kernel⟩, List.mem_of_getElem? (i := 68) (by decide +kernel), List.mem_of_getElem? (i := 394) (by decide +kernel), List.mem_of_getElem? (i := 395) (by decide +kernel)⟩
theorem lw_p10 : lw_okq (⟨"TempleRaised$Plan", "moveUp", "([II)V"⟩, 8) := ⟨⟨by decide +kernel, by decide +kernel⟩, List.mem_of_getElem? (i := 68) (by decide +kernel), List.mem_of_getElem? (i := 398) (by decide +kernel), List.mem_of_getElem? (i := 399) (by decide +kernel)⟩
theorem lw_p11 : lw_okq (⟨"TempleRaised$Plan", "numberCellsOf", "(I)V"⟩, 8) := ⟨⟨by decide +kernel, by decide +kernel⟩, List.mem_of_getElem? (i := 68) (by decide +kernel), List.mem_of_getElem? (i := 413) (by decide +kernel), List.mem_of_getElem? (i := 414) (by decide +kernel)⟩
theorem lw_p12 : lw_okq (⟨"TempleRaised$Yard", "pileFor", "(I[I)I"⟩, 6) := ⟨⟨by decide +kernel, by decide +kernel⟩, List.mem_of_getElem? (i := 130) (by decide +kernel), List.mem_of_getElem? (i := 495) (by decide +kernel), List.mem_of_getElem? (i := 496) (by decide +kernel)⟩
theorem lw_p13 : lw_okq (⟨"TempleRaised$Foreman", "findPress", "(LTempleRaised$Site;)V"⟩, 1) := ⟨⟨by decide +kernel, by decide +kernel⟩, List.mem_of_getElem? (i := 240) (by decide +kernel), List.mem_of_getElem? (i := 507) (by decide +kernel), List.mem_of_getElem? (i := 508) (by decide +kernel)⟩
theorem lw_p14 : lw_okq (⟨"TempleRaised$Foreman", "passOverTaken", "(LTempleRaised$Site;)V"⟩, 1) := ⟨⟨by decide +kernel, by decide +kernel⟩, List.mem_of_getElem? (i := 240) (by decide +kernel), List.mem_of_getElem? (i := 515) (by decide +kernel), List.mem_of_getElem? (i := 516) (by decide +kernel)⟩
theorem lw_p15 : lw_okq (⟨"TempleRaised$Foreman", "mostPressing", "(I)I"⟩, 1) := ⟨⟨by decide +kernel, by decide +kernel⟩, List.mem_of_getElem? (i := 240) (by decide +kernel), List.mem_of_getElem? (i := 522) (by decide +kernel), List.mem_of_getElem? (i := 523) (by decide +kernel)⟩
def lw_privs_1 : List (MethodName × Nat) := [(⟨"TempleRaised$Sawyer", "addUpWeights", "(LTempleRaised$Wall;)V"⟩, 5), (⟨"TempleRaised$Sawyer", "findBars", "(LTempleRaised$Wall;)V"⟩, 5), (⟨"TempleRaised$Sawyer", "findBarsOf", "(LTempleRaised$Wall;II)V"⟩, 5), (⟨"TempleRaised$Sawyer", "findCosts", "(III)V"⟩, 5), (⟨"TempleRaised$Sawyer", "leastCost", "(IIII)I"⟩, 5), (⟨"TempleRaised$Sawyer", "weightOfPart", "(IIII)I"⟩, 5), (⟨"TempleRaised$Sawyer", "uprightCost", "(IIIII)I"⟩, 5), (⟨"TempleRaised$Sawyer", "levelCost", "(IIIII)I"⟩, 5), (⟨"TempleRaised$Sawyer", "cutsFirst", "(LTempleRaised$Plan;I)Z"⟩, 5), (⟨"TempleRaised$Plan", "makeTwo", "(I)V"⟩, 8), (⟨"TempleRaised$Plan", "moveUp", "([II)V"⟩, 8), (⟨"TempleRaised$Plan", "numberCellsOf", "(I)V"⟩, 8), (⟨"TempleRaised$Yard", "pileFor", "(I[I)I"⟩, 6), (⟨"TempleRaised$Foreman", "findPress", "(LTempleRaised$Site;)V"⟩, 1), (⟨"TempleRaised$Foreman", "passOverTaken", "(LTempleRaised$Site;)V"⟩, 1), (⟨"TempleRaised$Foreman", "mostPressing", "(I)I"⟩, 1)]
theorem lw_r1 : ∀ q ∈ lw_privs_1, lw_okq q := List.forall_mem_cons.mpr ⟨lw_p0, List.forall_mem_cons.mpr ⟨lw_p1, List.forall_mem_cons.mpr ⟨lw_p2, List.forall_mem_cons.mpr ⟨lw_p3, List.forall_mem_cons.mpr ⟨lw_p4, List.forall_mem_cons.mpr ⟨lw_p5, List.forall_mem_cons.mpr ⟨lw_p6, List.forall_mem_cons.mpr ⟨lw_p7, List.forall_mem_cons.mpr ⟨lw_p8, List.forall_mem_cons.mpr ⟨lw_p9, List.forall_mem_cons.mpr ⟨lw_p10, List.forall_mem_cons.mpr ⟨lw_p11, List.forall_mem_cons.mpr ⟨lw_p12, List.forall_mem_cons.mpr ⟨lw_p13, List.forall_mem_cons.mpr ⟨lw_p14, List.forall_mem_cons.mpr ⟨lw_p15, fun _ h => absurd h List.not_mem_nil⟩⟩⟩⟩⟩⟩⟩⟩⟩⟩⟩⟩⟩⟩⟩⟩
theorem lw_p16 : lw_okq (⟨"TempleRaisedModel", "begins", "(II)V"⟩, 8) := ⟨⟨by decide +kernel, by decide +kernel⟩, List.mem_of_getElem? (i := 628) (by decide +kernel), List.mem_of_getElem? (i := 634) (by decide +kernel), List.mem_of_getElem? (i := 635) (by decide +kernel)⟩
theorem lw_p17 : lw_okq (⟨"TempleRaisedModel", "noPlan", "()V"⟩, 8) := ⟨⟨by decide +kernel, by decide +kernel⟩, List.mem_of_getElem? (i := 628) (by decide +kernel), List.mem_of_getElem? (i := 638) (by decide +kernel), List.mem_of_getElem? (i := 639) (by decide +kernel)⟩
theorem lw_p18 : lw_okq (⟨"TempleRaisedModel", "isCell", "(II)Z"⟩, 8) := ⟨⟨by decide +kernel, by decide +kernel⟩, List.mem_of_getElem? (i := 628) (by decide +kernel), List.mem_of_getElem? (i := 679) (by decide +kernel), List.mem_of_getElem? (i := 680) (by decide +kernel)⟩
theorem lw_p19 : lw_okq (⟨"TempleRaisedModel", "settles", "(IIII)V"⟩, 8) := ⟨⟨by decide +kernel, by decide +kernel⟩, List.mem_of_getElem? (i := 628) (by decide +kernel), List.mem_of_getElem? (i := 699) (by decide +kernel), List.mem_of_getElem? (i := 700) (by decide +kernel)⟩
theorem lw_p20 : lw_okq (⟨"TempleRaisedModel", "weight", "(IIII)I"⟩, 8) := ⟨⟨by decide +kernel, by decide +kernel⟩, List.mem_of_getElem? (i := 628) (by decide +kernel), List.mem_of_getElem? (i := 706) (by decide +kernel), List.mem_of_getElem? (i := 707) (by decide +kernel)⟩
theorem lw_p21 : lw_okq (⟨"TempleRaisedModel", "mayUpright", "(IIII)Z"⟩, 8) := ⟨⟨by decide +kernel, by decide +kernel⟩, List.mem_of_getElem? (i := 628) (by decide +kernel), List.mem_of_getElem? (i := 710) (by decide +kernel), List.mem_of_getElem? (i := 711) (by decide +kernel)⟩
theorem lw_p22 : lw_okq (⟨"TempleRaisedModel", "isOne", "(II)Z"⟩, 8) := ⟨⟨by decide +kernel, by decide +kernel⟩, List.mem_of_getElem? (i := 628) (by decide +kernel), List.mem_of_getElem? (i := 714) (by decide +kernel), List.mem_of_getElem? (i := 715) (by decide +kernel)⟩
theorem lw_p23 : lw_okq (⟨"TempleRaisedModel", "tries", "(IIIII)V"⟩, 8) := ⟨⟨by decide +kernel, by decide +kernel⟩, List.mem_of_getElem? (i := 628) (by decide +kernel), List.mem_of_getElem? (i := 718) (by decide +kernel), List.mem_of_getElem? (i := 719) (by decide +kernel)⟩
theorem lw_p24 : lw_okq (⟨"TempleRaisedModel", "mayLevel", "(IIII)Z"⟩, 8) := ⟨⟨by decide +kernel, by decide +kernel⟩, List.mem_of_getElem? (i := 628) (by decide +kernel), List.mem_of_getElem? (i := 722) (by decide +kernel), List.mem_of_getElem? (i := 723) (by decide +kernel)⟩
theorem lw_p25 : lw_okq (⟨"TempleRaisedModel", "puts", "(IIIII)I"⟩, 8) := ⟨⟨by decide +kernel, by decide +kernel⟩, List.mem_of_getElem? (i := 628) (by decide +kernel), List.mem_of_getElem? (i := 726) (by decide +kernel), List.mem_of_getElem? (i := 727) (by decide +kernel)⟩
theorem lw_p26 : lw_okq (⟨"TempleRaisedModel", "isBlock", "(IIII)V"⟩, 8) := ⟨⟨by decide +kernel, by decide +kernel⟩, List.mem_of_getElem? (i := 628) (by decide +kernel), List.mem_of_getElem? (i := 730) (by decide +kernel), List.mem_of_getElem? (i := 731) (by decide +kernel)⟩
theorem lw_p27 : lw_okq (⟨"TempleRaisedModel", "turnOf", "(I)I"⟩, 8) := ⟨⟨by decide +kernel, by decide +kernel⟩, List.mem_of_getElem? (i := 628) (by decide +kernel), List.mem_of_getElem? (i := 734) (by decide +kernel), List.mem_of_getElem? (i := 735) (by decide +kernel)⟩
theorem lw_p28 : lw_okq (⟨"TempleRaisedModel", "of", "(II)I"⟩, 8) := ⟨⟨by decide +kernel, by decide +kernel⟩, List.mem_of_getElem? (i := 628) (by decide +kernel), List.mem_of_getElem? (i := 738) (by decide +kernel), List.mem_of_getElem? (i := 739) (by decide +kernel)⟩
theorem lw_p29 : lw_okq (⟨"TempleRaisedModel", "isThere", "(I)Z"⟩, 8) := ⟨⟨by decide +kernel, by decide +kernel⟩, List.mem_of_getElem? (i := 628) (by decide +kernel), List.mem_of_getElem? (i := 746) (by decide +kernel), List.mem_of_getElem? (i := 747) (by decide +kernel)⟩
theorem lw_p30 : lw_okq (⟨"TempleRaisedModel", "due", "(I)I"⟩, 8) := ⟨⟨by decide +kernel, by decide +kernel⟩, List.mem_of_getElem? (i := 628) (by decide +kernel), List.mem_of_getElem? (i := 750) (by decide +kernel), List.mem_of_getElem? (i := 751) (by decide +kernel)⟩
theorem lw_p31 : lw_okq (⟨"TempleRaisedModel", "stands", "(I)Z"⟩, 8) := ⟨⟨by decide +kernel, by decide +kernel⟩, List.mem_of_getElem? (i := 628) (by decide +kernel), List.mem_of_getElem? (i := 754) (by decide +kernel), List.mem_of_getElem? (i := 755) (by decide +kernel)⟩
def lw_privs_2 : List (MethodName × Nat) := [(⟨"TempleRaisedModel", "begins", "(II)V"⟩, 8), (⟨"TempleRaisedModel", "noPlan", "()V"⟩, 8), (⟨"TempleRaisedModel", "isCell", "(II)Z"⟩, 8), (⟨"TempleRaisedModel", "settles", "(IIII)V"⟩, 8), (⟨"TempleRaisedModel", "weight", "(IIII)I"⟩, 8), (⟨"TempleRaisedModel", "mayUpright", "(IIII)Z"⟩, 8), (⟨"TempleRaisedModel", "isOne", "(II)Z"⟩, 8), (⟨"TempleRaisedModel", "tries", "(IIIII)V"⟩, 8), (⟨"TempleRaisedModel", "mayLevel", "(IIII)Z"⟩, 8), (⟨"TempleRaisedModel", "puts", "(IIIII)I"⟩, 8), (⟨"TempleRaisedModel", "isBlock", "(IIII)V"⟩, 8), (⟨"TempleRaisedModel", "turnOf", "(I)I"⟩, 8), (⟨"TempleRaisedModel", "of", "(II)I"⟩, 8), (⟨"TempleRaisedModel", "isThere", "(I)Z"⟩, 8), (⟨"TempleRaisedModel", "due", "(I)I"⟩, 8), (⟨"TempleRaisedModel", "stands", "(I)Z"⟩, 8)]
theorem lw_r2 : ∀ q ∈ lw_privs_2, lw_okq q := List.forall_mem_cons.mpr ⟨lw_p16, List.forall_mem_cons.mpr ⟨lw_p17, List.forall_mem_cons.mpr ⟨lw_p18, List.forall_mem_cons.mpr ⟨lw_p19, List.forall_mem_cons.mpr ⟨lw_p20, List.forall_mem_cons.mpr ⟨lw_p21, List.forall_mem_cons.mpr ⟨lw_p22, List.forall_mem_cons.mpr ⟨lw_p23, List.forall_mem_cons.mpr ⟨lw_p24, List.forall_mem_cons.mpr ⟨lw_p25, List.forall_mem_cons.mpr ⟨lw_p26, List.forall_mem_cons.mpr ⟨lw_p27, List.forall_mem_cons.mpr ⟨lw_p28, List.forall_mem_cons.mpr ⟨lw_p29, List.forall_mem_cons.mpr ⟨lw_p30, List.forall_mem_cons.mpr ⟨lw_p31, fun _ h => absurd h List.not_mem_nil⟩⟩⟩⟩⟩⟩⟩⟩⟩⟩⟩⟩⟩⟩⟩⟩
theorem lw_p32 : lw_okq (⟨"TempleRaisedModel", "isFree", "(I)Z"⟩, 8) := ⟨⟨by decide +kernel, by decide +kernel⟩, List.mem_of_getElem? (i := 628) (by decide +kernel), List.mem_of_getElem? (i := 758) (by decide +kernel), List.mem_of_getElem? (i := 759) (by decide +kernel)⟩
theorem lw_p33 : lw_okq (⟨"TempleRaisedModel", "isAbove", "(II)Z"⟩, 8) := ⟨⟨by decide +kernel, by decide +kernel⟩, List.mem_of_getElem? (i := 628) (by decide +kernel), List.mem_of_getElem? (i := 762) (by decide +kernel), List.mem_of_getElem? (i := 763) (by decide +kernel)⟩
theorem lw_p34 : lw_okq (⟨"TempleRaisedModel", "wideOf", "(I)I"⟩, 8) := ⟨⟨by decide +kernel, by decide +kernel⟩, List.mem_of_getElem? (i := 628) (by decide +kernel), List.mem_of_getElem? (i := 766) (by decide +kernel), List.mem_of_getElem? (i := 767) (by decide +kernel)⟩
theorem lw_p35 : lw_okq (⟨"TempleRaisedModel", "uppermost", "(I)I"⟩, 8) := ⟨⟨by decide +kernel, by decide +kernel⟩, List.mem_of_getElem? (i := 628) (by decide +kernel), List.mem_of_getElem? (i := 790) (by decide +kernel), List.mem_of_getElem? (i := 791) (by decide +kernel)⟩
theorem lw_p36 : lw_okq (⟨"TempleRaisedModel", "taken", "()I"⟩, 8) := ⟨⟨by decide +kernel, by decide +kernel⟩, List.mem_of_getElem? (i := 628) (by decide +kernel), List.mem_of_getElem? (i := 794) (by decide +kernel), List.mem_of_getElem? (i := 795) (by decide +kernel)⟩
theorem lw_p37 : lw_okq (⟨"TempleRaisedModel", "presses", "()V"⟩, 8) := ⟨⟨by decide +kernel, by decide +kernel⟩, List.mem_of_getElem? (i := 628) (by decide +kernel), List.mem_of_getElem? (i := 806) (by decide +kernel), List.mem_of_getElem? (i := 807) (by decide +kernel)⟩
theorem lw_p38 : lw_okq (⟨"TempleRaisedModel", "nextBlock", "()I"⟩, 8) := ⟨⟨by decide +kernel, by decide +kernel⟩, List.mem_of_getElem? (i := 628) (by decide +kernel), List.mem_of_getElem? (i := 811) (by decide +kernel), List.mem_of_getElem? (i := 812) (by decide +kernel)⟩
theorem lw_p39 : lw_okq (⟨"TempleRaisedModel", "isFreeThen", "(I)Z"⟩, 8) := ⟨⟨by decide +kernel, by decide +kernel⟩, List.mem_of_getElem? (i := 628) (by decide +kernel), List.mem_of_getElem? (i := 815) (by decide +kernel), List.mem_of_getElem? (i := 816) (by decide +kernel)⟩
def lw_privs_3 : List (MethodName × Nat) := [(⟨"TempleRaisedModel", "isFree", "(I)Z"⟩, 8), (⟨"TempleRaisedModel", "isAbove", "(II)Z"⟩, 8), (⟨"TempleRaisedModel", "wideOf", "(I)I"⟩, 8), (⟨"TempleRaisedModel", "uppermost", "(I)I"⟩, 8), (⟨"TempleRaisedModel", "taken", "()I"⟩, 8), (⟨"TempleRaisedModel", "presses", "()V"⟩, 8), (⟨"TempleRaisedModel", "nextBlock", "()I"⟩, 8), (⟨"TempleRaisedModel", "isFreeThen", "(I)Z"⟩, 8)]
theorem lw_r3 : ∀ q ∈ lw_privs_3, lw_okq q := List.forall_mem_cons.mpr ⟨lw_p32, List.forall_mem_cons.mpr ⟨lw_p33, List.forall_mem_cons.mpr ⟨lw_p34, List.forall_mem_cons.mpr ⟨lw_p35, List.forall_mem_cons.mpr ⟨lw_p36, List.forall_mem_cons.mpr ⟨lw_p37, List.forall_mem_cons.mpr ⟨lw_p38, List.forall_mem_cons.mpr ⟨lw_p39, fun _ h => absurd h List.not_mem_nil⟩⟩⟩⟩⟩⟩⟩⟩
def lw_privs : List (MethodName × Nat) := lw_privs_1 ++ (lw_privs_2 ++ (lw_privs_3))
def lw_tbl : List Cond := k2_sels lw_privs ++ tables_1
theorem lw_privs_ok : ∀ q ∈ lw_privs, lw_okq q := by
  show ∀ q ∈ lw_privs_1 ++ (lw_privs_2 ++ (lw_privs_3)), lw_okq q
  exact List.forall_mem_append.mpr ⟨lw_r1, List.forall_mem_append.mpr ⟨lw_r2, lw_r3⟩⟩
end
section
def RX0 : String := "TempleRaised$Foreman"
def TX0 : u_T := fun k => match k with
  | _ => ("TempleRaised$Foreman", "press", "[I", true)
def tyX0 : Nat → FieldType := fun k => match k with
  | _ => .array .int
abbrev wsX00 : List Cond := u_ws RX0 TX0 1
theorem nmX0 : ∀ a, a < 1 → ∀ b, b < 1 → a ≠ b → (TX0 a).2.1 ≠ (TX0 b).2.1 := by decide +kernel
theorem tyX0_ok : ∀ k, k < 1 → parseFieldDescriptor (TX0 k).2.2.1 = some (tyX0 k) := by decide +kernel
abbrev cX0_init : ByteArray := prog_2_method_1_code
def yX0_init : MethodName := ⟨RX0, "<init>", "()V"⟩
abbrev cX0_arrange : ByteArray := prog_2_method_2_code
def yX0_arrange : MethodName := ⟨RX0, "arrange", "(LTempleRaised$Site;)I"⟩
abbrev cX0_findPress : ByteArray := prog_2_method_3_code
def yX0_findPress : MethodName := ⟨RX0, "findPress", "(LTempleRaised$Site;)V"⟩
abbrev cX0_passOverTaken : ByteArray := prog_2_method_4_code
def yX0_passOverTaken : MethodName := ⟨RX0, "passOverTaken", "(LTempleRaised$Site;)V"⟩
abbrev cX0_mostPressing : ByteArray := prog_2_method_5_code
def yX0_mostPressing : MethodName := ⟨RX0, "mostPressing", "(I)I"⟩
def RX1 : String := "TempleRaised$Order"
def TX1 : u_T := fun k => match k with
  | 0 => ("TempleRaised$Order", "places", "I", false)
  | _ => ("TempleRaised$Order", "block", "[I", true)
def tyX1 : Nat → FieldType := fun k => match k with
  | 0 => .int
  | _ => .array .int
abbrev wsX10 : List Cond := u_ws RX1 TX1 2
theorem nmX1 : ∀ a, a < 2 → ∀ b, b < 2 → a ≠ b → (TX1 a).2.1 ≠ (TX1 b).2.1 := by decide +kernel
theorem tyX1_ok : ∀ k, k < 2 → parseFieldDescriptor (TX1 k).2.2.1 = some (tyX1 k) := by decide +kernel
abbrev cX1_init : ByteArray := prog_3_method_1_code
def yX1_init : MethodName := ⟨RX1, "<init>", "()V"⟩
abbrev cX1_clear : ByteArray := prog_3_method_2_code
def yX1_clear : MethodName := ⟨RX1, "clear", "()V"⟩
abbrev cX1_add : ByteArray := prog_3_method_3_code
def yX1_add : MethodName := ⟨RX1, "add", "(I)V"⟩
abbrev cX1_become : ByteArray := prog_3_method_4_code
def yX1_become : MethodName := ⟨RX1, "become", "(LTempleRaised$Order;)V"⟩
def RX2 : String := "TempleRaised$Plan"
def TX2 : u_T := fun k => match k with
  | 0 => ("TempleRaised$Plan", "blocks", "I", false)
  | 1 => ("TempleRaised$Plan", "sawn", "I", false)
  | 2 => ("TempleRaised$Plan", "left", "[I", true)
  | 3 => ("TempleRaised$Plan", "low", "[I", true)
  | 4 => ("TempleRaised$Plan", "columns", "[I", true)
  | 5 => ("TempleRaised$Plan", "rows", "[I", true)
  | 6 => ("TempleRaised$Plan", "turn", "[I", true)
  | _ => ("TempleRaised$Plan", "blockAt", "[I", true)
def tyX2 : Nat → FieldType := fun k => match k with
  | 0 => .int
  | 1 => .int
  | 2 => .array .int
  | 3 => .array .int
  | 4 => .array .int
  | 5 => .array .int
  | 6 => .array .int
  | _ => .array .int
abbrev wsX20 : List Cond := u_ws RX2 TX2 8
theorem nmX2 : ∀ a, a < 8 → ∀ b, b < 8 → a ≠ b → (TX2 a).2.1 ≠ (TX2 b).2.1 := by decide +kernel
theorem tyX2_ok : ∀ k, k < 8 → parseFieldDescriptor (TX2 k).2.2.1 = some (tyX2 k) := by decide +kernel
abbrev cX2_init : ByteArray := prog_4_method_1_code
def yX2_init : MethodName := ⟨RX2, "<init>", "()V"⟩
abbrev cX2_drop : ByteArray := prog_4_method_2_code
def yX2_drop : MethodName := ⟨RX2, "drop", "()V"⟩
abbrev cX2_has : ByteArray := prog_4_method_3_code
def yX2_has : MethodName := ⟨RX2, "has", "(I)Z"⟩
abbrev cX2_isAbove : ByteArray := prog_4_method_4_code
def yX2_isAbove : MethodName := ⟨RX2, "isAbove", "(II)Z"⟩
abbrev cX2_startWith : ByteArray := prog_4_method_5_code
def yX2_startWith : MethodName := ⟨RX2, "startWith", "(II)V"⟩
abbrev cX2_cutUpright : ByteArray := prog_4_method_6_code
def yX2_cutUpright : MethodName := ⟨RX2, "cutUpright", "(II)V"⟩
abbrev cX2_cutLevel : ByteArray := prog_4_method_7_code
def yX2_cutLevel : MethodName := ⟨RX2, "cutLevel", "(II)V"⟩
abbrev cX2_makeTwo : ByteArray := prog_4_method_8_code
def yX2_makeTwo : MethodName := ⟨RX2, "makeTwo", "(I)V"⟩
abbrev cX2_moveUp : ByteArray := prog_4_method_9_code
def yX2_moveUp : MethodName := ⟨RX2, "moveUp", "([II)V"⟩
abbrev cX2_numberCells : ByteArray := prog_4_method_10_code
def yX2_numberCells : MethodName := ⟨RX2, "numberCells", "()V"⟩
abbrev cX2_numberCellsOf : ByteArray := prog_4_method_11_code
def yX2_numberCellsOf : MethodName := ⟨RX2, "numberCellsOf", "(I)V"⟩
abbrev cX2_findTurns : ByteArray := prog_4_method_12_code
def yX2_findTurns : MethodName := ⟨RX2, "findTurns", "(II)V"⟩
abbrev cX2_become : ByteArray := prog_4_method_13_code
def yX2_become : MethodName := ⟨RX2, "become", "(LTempleRaised$Plan;)V"⟩
def RX3 : String := "TempleRaised$River"
def TX3 : u_T := fun k => match k with
  | _ => ("TempleRaised$River", "height", "[I", true)
def tyX3 : Nat → FieldType := fun k => match k with
  | _ => .array .int
abbrev wsX30 : List Cond := u_ws RX3 TX3 1
theorem nmX3 : ∀ a, a < 1 → ∀ b, b < 1 → a ≠ b → (TX3 a).2.1 ≠ (TX3 b).2.1 := by decide +kernel
theorem tyX3_ok : ∀ k, k < 1 → parseFieldDescriptor (TX3 k).2.2.1 = some (tyX3 k) := by decide +kernel
abbrev cX3_init : ByteArray := prog_5_method_1_code
def yX3_init : MethodName := ⟨RX3, "<init>", "()V"⟩
abbrev cX3_covers : ByteArray := prog_5_method_2_code
def yX3_covers : MethodName := ⟨RX3, "covers", "(II)Z"⟩
abbrev cX3_firstDayOver : ByteArray := prog_5_method_3_code
def yX3_firstDayOver : MethodName := ⟨RX3, "firstDayOver", "(I)I"⟩
abbrev cX3_become : ByteArray := prog_5_method_4_code
def yX3_become : MethodName := ⟨RX3, "become", "(LTempleRaised$River;)V"⟩
def RX4 : String := "TempleRaised$Sawyer"
def TX4 : u_T := fun k => match k with
  | 0 => ("TempleRaised$Sawyer", "limit", "I", false)
  | 1 => ("TempleRaised$Sawyer", "cost", "[I", true)
  | 2 => ("TempleRaised$Sawyer", "weightTo", "[I", true)
  | 3 => ("TempleRaised$Sawyer", "uprightBars", "[I", true)
  | _ => ("TempleRaised$Sawyer", "levelBars", "[I", true)
def tyX4 : Nat → FieldType := fun k => match k with
  | 0 => .int
  | 1 => .array .int
  | 2 => .array .int
  | 3 => .array .int
  | _ => .array .int
abbrev wsX40 : List Cond := u_ws RX4 TX4 5
theorem nmX4 : ∀ a, a < 5 → ∀ b, b < 5 → a ≠ b → (TX4 a).2.1 ≠ (TX4 b).2.1 := by decide +kernel
theorem tyX4_ok : ∀ k, k < 5 → parseFieldDescriptor (TX4 k).2.2.1 = some (tyX4 k) := by decide +kernel
abbrev cX4_init : ByteArray := prog_6_method_1_code
def yX4_init : MethodName := ⟨RX4, "<init>", "()V"⟩
abbrev cX4_findsPlan : ByteArray := prog_6_method_2_code
def yX4_findsPlan : MethodName := ⟨RX4, "findsPlan", "(LTempleRaised$Wall;I)Z"⟩
abbrev cX4_cutUp : ByteArray := prog_6_method_3_code
def yX4_cutUp : MethodName := ⟨RX4, "cutUp", "(LTempleRaised$Wall;LTempleRaised$Plan;)V"⟩
abbrev cX4_cutsFirst : ByteArray := prog_6_method_4_code
def yX4_cutsFirst : MethodName := ⟨RX4, "cutsFirst", "(LTempleRaised$Plan;I)Z"⟩
abbrev cX4_addUpWeights : ByteArray := prog_6_method_5_code
def yX4_addUpWeights : MethodName := ⟨RX4, "addUpWeights", "(LTempleRaised$Wall;)V"⟩
abbrev cX4_findBars : ByteArray := prog_6_method_6_code
def yX4_findBars : MethodName := ⟨RX4, "findBars", "(LTempleRaised$Wall;)V"⟩
abbrev cX4_findBarsOf : ByteArray := prog_6_method_7_code
def yX4_findBarsOf : MethodName := ⟨RX4, "findBarsOf", "(LTempleRaised$Wall;II)V"⟩
abbrev cX4_findCosts : ByteArray := prog_6_method_8_code
def yX4_findCosts : MethodName := ⟨RX4, "findCosts", "(III)V"⟩
abbrev cX4_leastCost : ByteArray := prog_6_method_9_code
def yX4_leastCost : MethodName := ⟨RX4, "leastCost", "(IIII)I"⟩
abbrev cX4_uprightCost : ByteArray := prog_6_method_10_code
def yX4_uprightCost : MethodName := ⟨RX4, "uprightCost", "(IIIII)I"⟩
abbrev cX4_levelCost : ByteArray := prog_6_method_11_code
def yX4_levelCost : MethodName := ⟨RX4, "levelCost", "(IIIII)I"⟩
abbrev cX4_isBarred : ByteArray := prog_6_method_12_code
def yX4_isBarred : MethodName := ⟨RX4, "isBarred", "(III)Z"⟩
abbrev cX4_weightOfPart : ByteArray := prog_6_method_13_code
def yX4_weightOfPart : MethodName := ⟨RX4, "weightOfPart", "(IIII)I"⟩
abbrev cX4_corner : ByteArray := prog_6_method_14_code
def yX4_corner : MethodName := ⟨RX4, "corner", "(II)I"⟩
abbrev cX4_part : ByteArray := prog_6_method_15_code
def yX4_part : MethodName := ⟨RX4, "part", "(IIII)I"⟩
abbrev cX4_span : ByteArray := prog_6_method_16_code
def yX4_span : MethodName := ⟨RX4, "span", "(II)I"⟩
def RX5 : String := "TempleRaised$Site"
def TX5 : u_T := fun k => match k with
  | 0 => ("TempleRaised$Site", "limit", "I", false)
  | 1 => ("TempleRaised$Site", "saw", "I", false)
  | 2 => ("TempleRaised$Site", "day", "I", false)
  | 3 => ("TempleRaised$Site", "wall", "LTempleRaised$Wall;", true)
  | 4 => ("TempleRaised$Site", "plan", "LTempleRaised$Plan;", true)
  | 5 => ("TempleRaised$Site", "river", "LTempleRaised$River;", true)
  | 6 => ("TempleRaised$Site", "yard", "LTempleRaised$Yard;", true)
  | _ => ("TempleRaised$Site", "order", "LTempleRaised$Order;", true)
def tyX5 : Nat → FieldType := fun k => match k with
  | 0 => .int
  | 1 => .int
  | 2 => .int
  | 3 => .object "TempleRaised$Wall"
  | 4 => .object "TempleRaised$Plan"
  | 5 => .object "TempleRaised$River"
  | 6 => .object "TempleRaised$Yard"
  | _ => .object "TempleRaised$Order"
abbrev wsX50 : List Cond := u_ws RX5 TX5 8
theorem nmX5 : ∀ a, a < 8 → ∀ b, b < 8 → a ≠ b → (TX5 a).2.1 ≠ (TX5 b).2.1 := by decide +kernel
theorem tyX5_ok : ∀ k, k < 8 → parseFieldDescriptor (TX5 k).2.2.1 = some (tyX5 k) := by decide +kernel
abbrev cX5_init : ByteArray := prog_7_method_1_code
def yX5_init : MethodName := ⟨RX5, "<init>", "()V"⟩
abbrev cX5_dropPlan : ByteArray := prog_7_method_2_code
def yX5_dropPlan : MethodName := ⟨RX5, "dropPlan", "()V"⟩
abbrev cX5_weightOf : ByteArray := prog_7_method_3_code
def yX5_weightOf : MethodName := ⟨RX5, "weightOf", "(I)I"⟩
abbrev cX5_dueOf : ByteArray := prog_7_method_4_code
def yX5_dueOf : MethodName := ⟨RX5, "dueOf", "(I)I"⟩
abbrev cX5_isInTime : ByteArray := prog_7_method_5_code
def yX5_isInTime : MethodName := ⟨RX5, "isInTime", "(II)Z"⟩
abbrev cX5_isFree : ByteArray := prog_7_method_6_code
def yX5_isFree : MethodName := ⟨RX5, "isFree", "(I)Z"⟩
abbrev cX5_wideOf : ByteArray := prog_7_method_7_code
def yX5_wideOf : MethodName := ⟨RX5, "wideOf", "(I)I"⟩
abbrev cX5_become : ByteArray := prog_7_method_8_code
def yX5_become : MethodName := ⟨RX5, "become", "(LTempleRaised$Site;)V"⟩
def RX6 : String := "TempleRaised$Sun"
def TX6 : u_T := fun k => match k with
  | _ => ("", "", "", false)
def tyX6 : Nat → FieldType := fun k => match k with
  | _ => .int
abbrev wsX60 : List Cond := u_ws RX6 TX6 0
theorem nmX6 : ∀ a, a < 0 → ∀ b, b < 0 → a ≠ b → (TX6 a).2.1 ≠ (TX6 b).2.1 := by decide +kernel
theorem tyX6_ok : ∀ k, k < 0 → parseFieldDescriptor (TX6 k).2.2.1 = some (tyX6 k) := by decide +kernel
abbrev cX6_direction : ByteArray := prog_8_method_2_code
def yX6_direction : MethodName := ⟨RX6, "direction", "(I)I"⟩
abbrev cX6_daysBetween : ByteArray := prog_8_method_3_code
def yX6_daysBetween : MethodName := ⟨RX6, "daysBetween", "(II)I"⟩
abbrev cX6_daysUpTo : ByteArray := prog_8_method_4_code
def yX6_daysUpTo : MethodName := ⟨RX6, "daysUpTo", "(I)I"⟩
abbrev cX6_mostAlike : ByteArray := prog_8_method_5_code
def yX6_mostAlike : MethodName := ⟨RX6, "mostAlike", "(III)I"⟩
def RX7 : String := "TempleRaised$Wall"
def TX7 : u_T := fun k => match k with
  | 0 => ("TempleRaised$Wall", "columns", "I", false)
  | 1 => ("TempleRaised$Wall", "rows", "I", false)
  | 2 => ("TempleRaised$Wall", "weight", "[I", true)
  | _ => ("TempleRaised$Wall", "motif", "[I", true)
def tyX7 : Nat → FieldType := fun k => match k with
  | 0 => .int
  | 1 => .int
  | 2 => .array .int
  | _ => .array .int
abbrev wsX70 : List Cond := u_ws RX7 TX7 4
theorem nmX7 : ∀ a, a < 4 → ∀ b, b < 4 → a ≠ b → (TX7 a).2.1 ≠ (TX7 b).2.1 := by decide +kernel
theorem tyX7_ok : ∀ k, k < 4 → parseFieldDescriptor (TX7 k).2.2.1 = some (tyX7 k) := by decide +kernel
abbrev cX7_init : ByteArray := prog_9_method_1_code
def yX7_init : MethodName := ⟨RX7, "<init>", "()V"⟩
abbrev cX7_build : ByteArray := prog_9_method_2_code
def yX7_build : MethodName := ⟨RX7, "build", "(II)V"⟩
abbrev cX7_has : ByteArray := prog_9_method_3_code
def yX7_has : MethodName := ⟨RX7, "has", "(II)Z"⟩
abbrev cX7_isOneCarving : ByteArray := prog_9_method_4_code
def yX7_isOneCarving : MethodName := ⟨RX7, "isOneCarving", "(II)Z"⟩
abbrev cX7_weightOf : ByteArray := prog_9_method_5_code
def yX7_weightOf : MethodName := ⟨RX7, "weightOf", "(IIII)I"⟩
abbrev cX7_become : ByteArray := prog_9_method_6_code
def yX7_become : MethodName := ⟨RX7, "become", "(LTempleRaised$Wall;)V"⟩
def RX8 : String := "TempleRaised$Yard"
def TX8 : u_T := fun k => match k with
  | 0 => ("TempleRaised$Yard", "taken", "I", false)
  | 1 => ("TempleRaised$Yard", "piles", "I", false)
  | 2 => ("TempleRaised$Yard", "takenOn", "[I", true)
  | 3 => ("TempleRaised$Yard", "pileOf", "[I", true)
  | 4 => ("TempleRaised$Yard", "placeOf", "[I", true)
  | _ => ("TempleRaised$Yard", "uppermost", "[I", true)
def tyX8 : Nat → FieldType := fun k => match k with
  | 0 => .int
  | 1 => .int
  | 2 => .array .int
  | 3 => .array .int
  | 4 => .array .int
  | _ => .array .int
abbrev wsX80 : List Cond := u_ws RX8 TX8 6
theorem nmX8 : ∀ a, a < 6 → ∀ b, b < 6 → a ≠ b → (TX8 a).2.1 ≠ (TX8 b).2.1 := by decide +kernel
theorem tyX8_ok : ∀ k, k < 6 → parseFieldDescriptor (TX8 k).2.2.1 = some (tyX8 k) := by decide +kernel
abbrev cX8_init : ByteArray := prog_10_method_1_code
def yX8_init : MethodName := ⟨RX8, "<init>", "()V"⟩
abbrev cX8_clear : ByteArray := prog_10_method_2_code
def yX8_clear : MethodName := ⟨RX8, "clear", "()V"⟩
abbrev cX8_isTaken : ByteArray := prog_10_method_3_code
def yX8_isTaken : MethodName := ⟨RX8, "isTaken", "(I)Z"⟩
abbrev cX8_lay : ByteArray := prog_10_method_4_code
def yX8_lay : MethodName := ⟨RX8, "lay", "(I[II)I"⟩
abbrev cX8_pileFor : ByteArray := prog_10_method_5_code
def yX8_pileFor : MethodName := ⟨RX8, "pileFor", "(I[I)I"⟩
abbrev cX8_blockIn : ByteArray := prog_10_method_6_code
def yX8_blockIn : MethodName := ⟨RX8, "blockIn", "(III)I"⟩
abbrev cX8_become : ByteArray := prog_10_method_7_code
def yX8_become : MethodName := ⟨RX8, "become", "(LTempleRaised$Yard;)V"⟩
def RX9 : String := "TempleRaised"
def TX9 : u_T := fun k => match k with
  | 0 => ("TempleRaised", "site", "LTempleRaised$Site;", true)
  | 1 => ("TempleRaised", "sawyer", "LTempleRaised$Sawyer;", true)
  | 2 => ("TempleRaised", "foreman", "LTempleRaised$Foreman;", true)
  | _ => ("TempleRaised", "images", "[LTempleRaised$Site;", true)
def tyX9 : Nat → FieldType := fun k => match k with
  | 0 => .object "TempleRaised$Site"
  | 1 => .object "TempleRaised$Sawyer"
  | 2 => .object "TempleRaised$Foreman"
  | _ => .array (.object "TempleRaised$Site")
abbrev wsX90 : List Cond := u_ws RX9 TX9 4
theorem nmX9 : ∀ a, a < 4 → ∀ b, b < 4 → a ≠ b → (TX9 a).2.1 ≠ (TX9 b).2.1 := by decide +kernel
theorem tyX9_ok : ∀ k, k < 4 → parseFieldDescriptor (TX9 k).2.2.1 = some (tyX9 k) := by decide +kernel
abbrev cX9_init : ByteArray := prog_1_method_1_code
def yX9_init : MethodName := ⟨RX9, "<init>", "()V"⟩
abbrev cX9_wall : ByteArray := prog_1_method_2_code
def yX9_wall : MethodName := ⟨RX9, "wall", "(II)Z"⟩
abbrev cX9_cell : ByteArray := prog_1_method_3_code
def yX9_cell : MethodName := ⟨RX9, "cell", "(IIII)Z"⟩
abbrev cX9_motifs : ByteArray := prog_1_method_4_code
def yX9_motifs : MethodName := ⟨RX9, "motifs", "(II)Z"⟩
abbrev cX9_limit : ByteArray := prog_1_method_5_code
def yX9_limit : MethodName := ⟨RX9, "limit", "(I)Z"⟩
abbrev cX9_saw : ByteArray := prog_1_method_6_code
def yX9_saw : MethodName := ⟨RX9, "saw", "(I)Z"⟩
abbrev cX9_plan : ByteArray := prog_1_method_7_code
def yX9_plan : MethodName := ⟨RX9, "plan", "()I"⟩
abbrev cX9_block : ByteArray := prog_1_method_8_code
def yX9_block : MethodName := ⟨RX9, "block", "(II)I"⟩
abbrev cX9_at : ByteArray := prog_1_method_9_code
def yX9_at : MethodName := ⟨RX9, "at", "(II)I"⟩
abbrev cX9_above : ByteArray := prog_1_method_10_code
def yX9_above : MethodName := ⟨RX9, "above", "(II)Z"⟩
abbrev cX9_river : ByteArray := prog_1_method_11_code
def yX9_river : MethodName := ⟨RX9, "river", "(II)Z"⟩
abbrev cX9_days : ByteArray := prog_1_method_12_code
def yX9_days : MethodName := ⟨RX9, "days", "(I)I"⟩
abbrev cX9_take : ByteArray := prog_1_method_13_code
def yX9_take : MethodName := ⟨RX9, "take", "(I)I"⟩
abbrev cX9_order : ByteArray := prog_1_method_14_code
def yX9_order : MethodName := ⟨RX9, "order", "()I"⟩
abbrev cX9_ordered : ByteArray := prog_1_method_15_code
def yX9_ordered : MethodName := ⟨RX9, "ordered", "(I)I"⟩
abbrev cX9_piled : ByteArray := prog_1_method_16_code
def yX9_piled : MethodName := ⟨RX9, "piled", "(II)I"⟩
abbrev cX9_sun : ByteArray := prog_1_method_17_code
def yX9_sun : MethodName := ⟨RX9, "sun", "(I)I"⟩
abbrev cX9_strikes : ByteArray := prog_1_method_18_code
def yX9_strikes : MethodName := ⟨RX9, "strikes", "(II)I"⟩
abbrev cX9_like : ByteArray := prog_1_method_19_code
def yX9_like : MethodName := ⟨RX9, "like", "(III)I"⟩
abbrev cX9_count : ByteArray := prog_1_method_20_code
def yX9_count : MethodName := ⟨RX9, "count", "(I)I"⟩
abbrev cX9_image : ByteArray := prog_1_method_21_code
def yX9_image : MethodName := ⟨RX9, "image", "(I)Z"⟩
abbrev cX9_again : ByteArray := prog_1_method_22_code
def yX9_again : MethodName := ⟨RX9, "again", "(I)Z"⟩
abbrev cX9_within : ByteArray := prog_1_method_23_code
def yX9_within : MethodName := ⟨RX9, "within", "(III)Z"⟩
abbrev cX9_place : ByteArray := prog_1_method_24_code
def yX9_place : MethodName := ⟨RX9, "place", "(II)I"⟩
abbrev cX9_halfByte : ByteArray := prog_1_method_25_code
def yX9_halfByte : MethodName := ⟨RX9, "halfByte", "(II)I"⟩
abbrev cX9_areMotifs : ByteArray := prog_1_method_26_code
def yX9_areMotifs : MethodName := ⟨RX9, "areMotifs", "(I)Z"⟩
abbrev cX9_isPlace : ByteArray := prog_1_method_27_code
def yX9_isPlace : MethodName := ⟨RX9, "isPlace", "(II)Z"⟩
abbrev cX9_copyRow : ByteArray := prog_1_method_28_code
def yX9_copyRow : MethodName := ⟨RX9, "copyRow", "([I[I)V"⟩
def RX10 : String := "TempleRaisedModel"
def TX10 : u_T := fun k => match k with
  | 0 => ("TempleRaisedModel", "all", "[I", true)
  | 1 => ("TempleRaisedModel", "has", "[Z", true)
  | 2 => ("TempleRaisedModel", "few", "[I", true)
  | 3 => ("TempleRaisedModel", "sawn", "[I", true)
  | 4 => ("TempleRaisedModel", "cut", "[I", true)
  | 5 => ("TempleRaisedModel", "todo", "[I", true)
  | 6 => ("TempleRaisedModel", "press", "[I", true)
  | _ => ("TempleRaisedModel", "gone", "[Z", true)
def tyX10 : Nat → FieldType := fun k => match k with
  | 0 => .array .int
  | 1 => .array .boolean
  | 2 => .array .int
  | 3 => .array .int
  | 4 => .array .int
  | 5 => .array .int
  | 6 => .array .int
  | _ => .array .boolean
abbrev wsX100 : List Cond := u_ws RX10 TX10 8
theorem nmX10 : ∀ a, a < 8 → ∀ b, b < 8 → a ≠ b → (TX10 a).2.1 ≠ (TX10 b).2.1 := by decide +kernel
theorem tyX10_ok : ∀ k, k < 8 → parseFieldDescriptor (TX10 k).2.2.1 = some (tyX10 k) := by decide +kernel
abbrev cX10_init : ByteArray := prog_12_method_1_code
def yX10_init : MethodName := ⟨RX10, "<init>", "()V"⟩
abbrev cX10_isIn : ByteArray := prog_12_method_2_code
def yX10_isIn : MethodName := ⟨RX10, "isIn", "(III)Z"⟩
abbrev cX10_noPlan : ByteArray := prog_12_method_3_code
def yX10_noPlan : MethodName := ⟨RX10, "noPlan", "()V"⟩
abbrev cX10_begins : ByteArray := prog_12_method_4_code
def yX10_begins : MethodName := ⟨RX10, "begins", "(II)V"⟩
abbrev cX10_wall : ByteArray := prog_12_method_5_code
def yX10_wall : MethodName := ⟨RX10, "wall", "(II)Z"⟩
abbrev cX10_isCell : ByteArray := prog_12_method_6_code
def yX10_isCell : MethodName := ⟨RX10, "isCell", "(II)Z"⟩
abbrev cX10_cell : ByteArray := prog_12_method_7_code
def yX10_cell : MethodName := ⟨RX10, "cell", "(IIII)Z"⟩
abbrev cX10_motifs : ByteArray := prog_12_method_8_code
def yX10_motifs : MethodName := ⟨RX10, "motifs", "(II)Z"⟩
abbrev cX10_limit : ByteArray := prog_12_method_9_code
def yX10_limit : MethodName := ⟨RX10, "limit", "(I)Z"⟩
abbrev cX10_saw : ByteArray := prog_12_method_10_code
def yX10_saw : MethodName := ⟨RX10, "saw", "(I)Z"⟩
abbrev cX10_part : ByteArray := prog_12_method_11_code
def yX10_part : MethodName := ⟨RX10, "part", "(IIII)I"⟩
abbrev cX10_weight : ByteArray := prog_12_method_12_code
def yX10_weight : MethodName := ⟨RX10, "weight", "(IIII)I"⟩
abbrev cX10_isOne : ByteArray := prog_12_method_13_code
def yX10_isOne : MethodName := ⟨RX10, "isOne", "(II)Z"⟩
abbrev cX10_mayUpright : ByteArray := prog_12_method_14_code
def yX10_mayUpright : MethodName := ⟨RX10, "mayUpright", "(IIII)Z"⟩
abbrev cX10_mayLevel : ByteArray := prog_12_method_15_code
def yX10_mayLevel : MethodName := ⟨RX10, "mayLevel", "(IIII)Z"⟩
abbrev cX10_tries : ByteArray := prog_12_method_16_code
def yX10_tries : MethodName := ⟨RX10, "tries", "(IIIII)V"⟩
abbrev cX10_settles : ByteArray := prog_12_method_17_code
def yX10_settles : MethodName := ⟨RX10, "settles", "(IIII)V"⟩
abbrev cX10_puts : ByteArray := prog_12_method_18_code
def yX10_puts : MethodName := ⟨RX10, "puts", "(IIIII)I"⟩
abbrev cX10_isBlock : ByteArray := prog_12_method_19_code
def yX10_isBlock : MethodName := ⟨RX10, "isBlock", "(IIII)V"⟩
abbrev cX10_plan : ByteArray := prog_12_method_20_code
def yX10_plan : MethodName := ⟨RX10, "plan", "()I"⟩
abbrev cX10_of : ByteArray := prog_12_method_21_code
def yX10_of : MethodName := ⟨RX10, "of", "(II)I"⟩
abbrev cX10_isThere : ByteArray := prog_12_method_22_code
def yX10_isThere : MethodName := ⟨RX10, "isThere", "(I)Z"⟩
abbrev cX10_turnOf : ByteArray := prog_12_method_23_code
def yX10_turnOf : MethodName := ⟨RX10, "turnOf", "(I)I"⟩
abbrev cX10_stands : ByteArray := prog_12_method_24_code
def yX10_stands : MethodName := ⟨RX10, "stands", "(I)Z"⟩
abbrev cX10_isAbove : ByteArray := prog_12_method_25_code
def yX10_isAbove : MethodName := ⟨RX10, "isAbove", "(II)Z"⟩
abbrev cX10_isFree : ByteArray := prog_12_method_26_code
def yX10_isFree : MethodName := ⟨RX10, "isFree", "(I)Z"⟩
abbrev cX10_due : ByteArray := prog_12_method_27_code
def yX10_due : MethodName := ⟨RX10, "due", "(I)I"⟩
abbrev cX10_wideOf : ByteArray := prog_12_method_28_code
def yX10_wideOf : MethodName := ⟨RX10, "wideOf", "(I)I"⟩
abbrev cX10_block : ByteArray := prog_12_method_29_code
def yX10_block : MethodName := ⟨RX10, "block", "(II)I"⟩
abbrev cX10_at : ByteArray := prog_12_method_30_code
def yX10_at : MethodName := ⟨RX10, "at", "(II)I"⟩
abbrev cX10_above : ByteArray := prog_12_method_31_code
def yX10_above : MethodName := ⟨RX10, "above", "(II)Z"⟩
abbrev cX10_river : ByteArray := prog_12_method_32_code
def yX10_river : MethodName := ⟨RX10, "river", "(II)Z"⟩
abbrev cX10_days : ByteArray := prog_12_method_33_code
def yX10_days : MethodName := ⟨RX10, "days", "(I)I"⟩
abbrev cX10_uppermost : ByteArray := prog_12_method_34_code
def yX10_uppermost : MethodName := ⟨RX10, "uppermost", "(I)I"⟩
abbrev cX10_taken : ByteArray := prog_12_method_35_code
def yX10_taken : MethodName := ⟨RX10, "taken", "()I"⟩
abbrev cX10_take : ByteArray := prog_12_method_36_code
def yX10_take : MethodName := ⟨RX10, "take", "(I)I"⟩
abbrev cX10_piled : ByteArray := prog_12_method_37_code
def yX10_piled : MethodName := ⟨RX10, "piled", "(II)I"⟩
abbrev cX10_presses : ByteArray := prog_12_method_38_code
def yX10_presses : MethodName := ⟨RX10, "presses", "()V"⟩
abbrev cX10_isFreeThen : ByteArray := prog_12_method_39_code
def yX10_isFreeThen : MethodName := ⟨RX10, "isFreeThen", "(I)Z"⟩
abbrev cX10_nextBlock : ByteArray := prog_12_method_40_code
def yX10_nextBlock : MethodName := ⟨RX10, "nextBlock", "()I"⟩
abbrev cX10_order : ByteArray := prog_12_method_41_code
def yX10_order : MethodName := ⟨RX10, "order", "()I"⟩
abbrev cX10_ordered : ByteArray := prog_12_method_42_code
def yX10_ordered : MethodName := ⟨RX10, "ordered", "(I)I"⟩
abbrev cX10_direction : ByteArray := prog_12_method_43_code
def yX10_direction : MethodName := ⟨RX10, "direction", "(I)I"⟩
abbrev cX10_sun : ByteArray := prog_12_method_44_code
def yX10_sun : MethodName := ⟨RX10, "sun", "(I)I"⟩
abbrev cX10_strikesOn : ByteArray := prog_12_method_45_code
def yX10_strikesOn : MethodName := ⟨RX10, "strikesOn", "(III)Z"⟩
abbrev cX10_isPlace : ByteArray := prog_12_method_46_code
def yX10_isPlace : MethodName := ⟨RX10, "isPlace", "(II)Z"⟩
abbrev cX10_strikes : ByteArray := prog_12_method_47_code
def yX10_strikes : MethodName := ⟨RX10, "strikes", "(II)I"⟩
abbrev cX10_like : ByteArray := prog_12_method_48_code
def yX10_like : MethodName := ⟨RX10, "like", "(III)I"⟩
abbrev cX10_count : ByteArray := prog_12_method_49_code
def yX10_count : MethodName := ⟨RX10, "count", "(I)I"⟩
abbrev cX10_image : ByteArray := prog_12_method_50_code
def yX10_image : MethodName := ⟨RX10, "image", "(I)Z"⟩
abbrev cX10_again : ByteArray := prog_12_method_51_code
def yX10_again : MethodName := ⟨RX10, "again", "(I)Z"⟩
def RJ9 : String := "java/lang/Math"
def TJ9 : u_T := fun k => match k with
  | _ => ("", "", "", false)
def tyJ9 : Nat → FieldType := fun k => match k with
  | _ => .int
abbrev wsJ90 : List Cond := u_ws RJ9 TJ9 0
theorem nmJ9 : ∀ a, a < 0 → ∀ b, b < 0 → a ≠ b → (TJ9 a).2.1 ≠ (TJ9 b).2.1 := by decide +kernel
theorem tyJ9_ok : ∀ k, k < 0 → parseFieldDescriptor (TJ9 k).2.2.1 = some (tyJ9 k) := by decide +kernel
abbrev cJ9_abs_0f7a4 : ByteArray := prog_13_method_59_code
def yJ9_abs_0f7a4 : MethodName := ⟨RJ9, "abs", "(I)I"⟩
abbrev cJ9_max_7cf53 : ByteArray := prog_13_method_65_code
def yJ9_max_7cf53 : MethodName := ⟨RJ9, "max", "(II)I"⟩
abbrev cJ9_min_7cf53 : ByteArray := prog_13_method_69_code
def yJ9_min_7cf53 : MethodName := ⟨RJ9, "min", "(II)I"⟩
def RJ10 : String := "java/lang/System"
def TJ10 : u_T := fun k => match k with
  | _ => ("", "", "", false)
def tyJ10 : Nat → FieldType := fun k => match k with
  | _ => .int
abbrev wsJ100 : List Cond := u_ws RJ10 TJ10 0
theorem nmJ10 : ∀ a, a < 0 → ∀ b, b < 0 → a ≠ b → (TJ10 a).2.1 ≠ (TJ10 b).2.1 := by decide +kernel
theorem tyJ10_ok : ∀ k, k < 0 → parseFieldDescriptor (TJ10 k).2.2.1 = some (tyJ10 k) := by decide +kernel
def RJ7 : String := "java/util/Arrays"
def TJ7 : u_T := fun k => match k with
  | _ => ("", "", "", false)
def tyJ7 : Nat → FieldType := fun k => match k with
  | _ => .int
abbrev wsJ70 : List Cond := u_ws RJ7 TJ7 0
theorem nmJ7 : ∀ a, a < 0 → ∀ b, b < 0 → a ≠ b → (TJ7 a).2.1 ≠ (TJ7 b).2.1 := by decide +kernel
theorem tyJ7_ok : ∀ k, k < 0 → parseFieldDescriptor (TJ7 k).2.2.1 = some (tyJ7 k) := by decide +kernel
abbrev cJ7_fill_53178 : ByteArray := prog_15_method_103_code
def yJ7_fill_53178 : MethodName := ⟨RJ7, "fill", "([II)V"⟩
def RL : String := "TempleRaisedLaw"
abbrev cL_law : ByteArray := code
def yL_law : MethodName := ⟨RL, "law", "([I)Z"⟩
abbrev vwCl : List vw_C := [(RX0, TX0, 1), (RX1, TX1, 2), (RX2, TX2, 8), (RX3, TX3, 1), (RX4, TX4, 5), (RX5, TX5, 8), (RX7, TX7, 4), (RX8, TX8, 6), (RX9, TX9, 4), (RX10, TX10, 8)]
def tblG : List Cond := lw_tbl.filter goodWord
end
section
theorem dX0_init_0 : decode cX0_init 0 = .ok (.aload_n 0, 1) := by decide +kernel
theorem dX0_init_1 : decode cX0_init 1 = .ok (.invokespecial 5, 3) := by decide +kernel
theorem dX0_init_4 : decode cX0_init 4 = .ok (.aload_n 0, 1) := by decide +kernel
theorem dX0_init_5 : decode cX0_init 5 = .ok (.bipush 64, 2) := by decide +kernel
theorem dX0_init_7 : decode cX0_init 7 = .ok (.newarray .int, 2) := by decide +kernel
theorem dX0_init_9 : decode cX0_init 9 = .ok (.putfield 11, 3) := by decide +kernel
theorem dX0_init_12 : decode cX0_init 12 = .ok (.return_, 1) := by decide +kernel
theorem dX0_arrange_0 : decode cX0_arrange 0 = .ok (.aload_n 0, 1) := by decide +kernel
theorem dX0_arrange_1 : decode cX0_arrange 1 = .ok (.aload_n 1, 1) := by decide +kernel
theorem dX0_arrange_2 : decode cX0_arrange 2 = .ok (.invokevirtual 17, 3) := by decide +kernel
theorem dX0_arrange_5 : decode cX0_arrange 5 = .ok (.aload_n 0, 1) := by decide +kernel
theorem dX0_arrange_6 : decode cX0_arrange 6 = .ok (.aload_n 1, 1) := by decide +kernel
theorem dX0_arrange_7 : decode cX0_arrange 7 = .ok (.invokevirtual 21, 3) := by decide +kernel
theorem dX0_arrange_10 : decode cX0_arrange 10 = .ok (.aload_n 1, 1) := by decide +kernel
theorem dX0_arrange_11 : decode cX0_arrange 11 = .ok (.getfield 24, 3) := by decide +kernel
theorem dX0_arrange_14 : decode cX0_arrange 14 = .ok (.invokevirtual 30, 3) := by decide +kernel
theorem dX0_arrange_17 : decode cX0_arrange 17 = .ok (.iconst 0, 1) := by decide +kernel
theorem dX0_arrange_18 : decode cX0_arrange 18 = .ok (.istore_n 2, 1) := by decide +kernel
theorem dX0_arrange_19 : decode cX0_arrange 19 = .ok (.aload_n 1, 1) := by decide +kernel
theorem dX0_arrange_20 : decode cX0_arrange 20 = .ok (.getfield 35, 3) := by decide +kernel
theorem dX0_arrange_23 : decode cX0_arrange 23 = .ok (.getfield 39, 3) := by decide +kernel
theorem dX0_arrange_26 : decode cX0_arrange 26 = .ok (.aload_n 1, 1) := by decide +kernel
theorem dX0_arrange_27 : decode cX0_arrange 27 = .ok (.getfield 45, 3) := by decide +kernel
theorem dX0_arrange_30 : decode cX0_arrange 30 = .ok (.getfield 49, 3) := by decide +kernel
theorem dX0_arrange_33 : decode cX0_arrange 33 = .ok (.isub, 1) := by decide +kernel
theorem dX0_arrange_34 : decode cX0_arrange 34 = .ok (.istore_n 3, 1) := by decide +kernel
theorem dX0_arrange_35 : decode cX0_arrange 35 = .ok (.iconst 0, 1) := by decide +kernel
theorem dX0_arrange_36 : decode cX0_arrange 36 = .ok (.istore 4, 2) := by decide +kernel
theorem dX0_arrange_38 : decode cX0_arrange 38 = .ok (.iload 4, 2) := by decide +kernel
theorem dX0_arrange_40 : decode cX0_arrange 40 = .ok (.iload_n 3, 1) := by decide +kernel
theorem dX0_arrange_41 : decode cX0_arrange 41 = .ok (.if_icmp .ge 59, 3) := by decide +kernel
theorem dX0_arrange_44 : decode cX0_arrange 44 = .ok (.aload_n 0, 1) := by decide +kernel
theorem dX0_arrange_45 : decode cX0_arrange 45 = .ok (.aload_n 1, 1) := by decide +kernel
theorem dX0_arrange_46 : decode cX0_arrange 46 = .ok (.getfield 35, 3) := by decide +kernel
theorem dX0_arrange_49 : decode cX0_arrange 49 = .ok (.getfield 39, 3) := by decide +kernel
theorem dX0_arrange_52 : decode cX0_arrange 52 = .ok (.invokevirtual 54, 3) := by decide +kernel
theorem dX0_arrange_55 : decode cX0_arrange 55 = .ok (.istore 5, 2) := by decide +kernel
theorem dX0_arrange_57 : decode cX0_arrange 57 = .ok (.aload_n 1, 1) := by decide +kernel
theorem dX0_arrange_58 : decode cX0_arrange 58 = .ok (.getfield 24, 3) := by decide +kernel
theorem dX0_arrange_61 : decode cX0_arrange 61 = .ok (.iload 5, 2) := by decide +kernel
theorem dX0_arrange_63 : decode cX0_arrange 63 = .ok (.invokevirtual 58, 3) := by decide +kernel
theorem dX0_arrange_66 : decode cX0_arrange 66 = .ok (.aload_n 0, 1) := by decide +kernel
theorem dX0_arrange_67 : decode cX0_arrange 67 = .ok (.getfield 11, 3) := by decide +kernel
theorem dX0_arrange_70 : decode cX0_arrange 70 = .ok (.iload 5, 2) := by decide +kernel
theorem dX0_arrange_72 : decode cX0_arrange 72 = .ok (.ldc 62, 2) := by decide +kernel
theorem dX0_arrange_74 : decode cX0_arrange 74 = .ok (.iastore, 1) := by decide +kernel
theorem dX0_arrange_75 : decode cX0_arrange 75 = .ok (.aload_n 1, 1) := by decide +kernel
theorem dX0_arrange_76 : decode cX0_arrange 76 = .ok (.iload 5, 2) := by decide +kernel
theorem dX0_arrange_78 : decode cX0_arrange 78 = .ok (.aload_n 1, 1) := by decide +kernel
theorem dX0_arrange_79 : decode cX0_arrange 79 = .ok (.getfield 63, 3) := by decide +kernel
theorem dX0_arrange_82 : decode cX0_arrange 82 = .ok (.iload 4, 2) := by decide +kernel
theorem dX0_arrange_84 : decode cX0_arrange 84 = .ok (.iadd, 1) := by decide +kernel
theorem dX0_arrange_85 : decode cX0_arrange 85 = .ok (.invokevirtual 66, 3) := by decide +kernel
theorem dX0_arrange_88 : decode cX0_arrange 88 = .ok (.ifCond .ne 6, 3) := by decide +kernel
theorem dX0_arrange_91 : decode cX0_arrange 91 = .ok (.iinc 2 1, 3) := by decide +kernel
theorem dX0_arrange_94 : decode cX0_arrange 94 = .ok (.iinc 4 1, 3) := by decide +kernel
theorem dX0_arrange_97 : decode cX0_arrange 97 = .ok (.goto (-59), 3) := by decide +kernel
theorem dX0_arrange_100 : decode cX0_arrange 100 = .ok (.iload_n 2, 1) := by decide +kernel
theorem dX0_arrange_101 : decode cX0_arrange 101 = .ok (.ireturn, 1) := by decide +kernel
theorem dX0_findPress_0 : decode cX0_findPress 0 = .ok (.aload_n 1, 1) := by decide +kernel
theorem dX0_findPress_1 : decode cX0_findPress 1 = .ok (.getfield 35, 3) := by decide +kernel
theorem dX0_findPress_4 : decode cX0_findPress 4 = .ok (.astore_n 2, 1) := by decide +kernel
theorem dX0_findPress_5 : decode cX0_findPress 5 = .ok (.iconst 0, 1) := by decide +kernel
theorem dX0_findPress_6 : decode cX0_findPress 6 = .ok (.istore_n 3, 1) := by decide +kernel
theorem dX0_findPress_7 : decode cX0_findPress 7 = .ok (.iload_n 3, 1) := by decide +kernel
theorem dX0_findPress_8 : decode cX0_findPress 8 = .ok (.aload_n 2, 1) := by decide +kernel
theorem dX0_findPress_9 : decode cX0_findPress 9 = .ok (.getfield 39, 3) := by decide +kernel
theorem dX0_findPress_12 : decode cX0_findPress 12 = .ok (.if_icmp .ge 35, 3) := by decide +kernel
theorem dX0_findPress_15 : decode cX0_findPress 15 = .ok (.aload_n 1, 1) := by decide +kernel
theorem dX0_findPress_16 : decode cX0_findPress 16 = .ok (.iload_n 3, 1) := by decide +kernel
theorem dX0_findPress_17 : decode cX0_findPress 17 = .ok (.invokevirtual 70, 3) := by decide +kernel
theorem dX0_findPress_20 : decode cX0_findPress 20 = .ok (.istore 4, 2) := by decide +kernel
theorem dX0_findPress_22 : decode cX0_findPress 22 = .ok (.aload_n 0, 1) := by decide +kernel
theorem dX0_findPress_23 : decode cX0_findPress 23 = .ok (.getfield 11, 3) := by decide +kernel
theorem dX0_findPress_26 : decode cX0_findPress 26 = .ok (.iload_n 3, 1) := by decide +kernel
theorem dX0_findPress_27 : decode cX0_findPress 27 = .ok (.iload 4, 2) := by decide +kernel
theorem dX0_findPress_29 : decode cX0_findPress 29 = .ok (.iconst (-1), 1) := by decide +kernel
theorem dX0_findPress_30 : decode cX0_findPress 30 = .ok (.if_icmp .ne 8, 3) := by decide +kernel
theorem dX0_findPress_33 : decode cX0_findPress 33 = .ok (.ldc 73, 2) := by decide +kernel
theorem dX0_findPress_35 : decode cX0_findPress 35 = .ok (.goto 5, 3) := by decide +kernel
theorem dX0_findPress_38 : decode cX0_findPress 38 = .ok (.iload 4, 2) := by decide +kernel
theorem dX0_findPress_40 : decode cX0_findPress 40 = .ok (.iastore, 1) := by decide +kernel
theorem dX0_findPress_41 : decode cX0_findPress 41 = .ok (.iinc 3 1, 3) := by decide +kernel
theorem dX0_findPress_44 : decode cX0_findPress 44 = .ok (.goto (-37), 3) := by decide +kernel
theorem dX0_findPress_47 : decode cX0_findPress 47 = .ok (.iconst 1, 1) := by decide +kernel
theorem dX0_findPress_48 : decode cX0_findPress 48 = .ok (.istore_n 3, 1) := by decide +kernel
theorem dX0_findPress_49 : decode cX0_findPress 49 = .ok (.iload_n 3, 1) := by decide +kernel
theorem dX0_findPress_50 : decode cX0_findPress 50 = .ok (.aload_n 1, 1) := by decide +kernel
theorem dX0_findPress_51 : decode cX0_findPress 51 = .ok (.getfield 74, 3) := by decide +kernel
theorem dX0_findPress_54 : decode cX0_findPress 54 = .ok (.getfield 78, 3) := by decide +kernel
theorem dX0_findPress_57 : decode cX0_findPress 57 = .ok (.if_icmp .ge 91, 3) := by decide +kernel
theorem dX0_findPress_60 : decode cX0_findPress 60 = .ok (.iconst 0, 1) := by decide +kernel
theorem dX0_findPress_61 : decode cX0_findPress 61 = .ok (.istore 4, 2) := by decide +kernel
theorem dX0_findPress_63 : decode cX0_findPress 63 = .ok (.iload 4, 2) := by decide +kernel
theorem dX0_findPress_65 : decode cX0_findPress 65 = .ok (.aload_n 1, 1) := by decide +kernel
theorem dX0_findPress_66 : decode cX0_findPress 66 = .ok (.getfield 74, 3) := by decide +kernel
theorem dX0_findPress_69 : decode cX0_findPress 69 = .ok (.getfield 83, 3) := by decide +kernel
theorem dX0_findPress_72 : decode cX0_findPress 72 = .ok (.if_icmp .ge 70, 3) := by decide +kernel
theorem dX0_findPress_75 : decode cX0_findPress 75 = .ok (.aload_n 2, 1) := by decide +kernel
theorem dX0_findPress_76 : decode cX0_findPress 76 = .ok (.getfield 86, 3) := by decide +kernel
theorem dX0_findPress_79 : decode cX0_findPress 79 = .ok (.iload 4, 2) := by decide +kernel
theorem dX0_findPress_81 : decode cX0_findPress 81 = .ok (.iload_n 3, 1) := by decide +kernel
theorem dX0_findPress_82 : decode cX0_findPress 82 = .ok (.invokestatic 89, 3) := by decide +kernel
theorem dX0_findPress_85 : decode cX0_findPress 85 = .ok (.iaload, 1) := by decide +kernel
theorem dX0_findPress_86 : decode cX0_findPress 86 = .ok (.istore 5, 2) := by decide +kernel
theorem dX0_findPress_88 : decode cX0_findPress 88 = .ok (.aload_n 2, 1) := by decide +kernel
theorem dX0_findPress_89 : decode cX0_findPress 89 = .ok (.getfield 86, 3) := by decide +kernel
theorem dX0_findPress_92 : decode cX0_findPress 92 = .ok (.iload 4, 2) := by decide +kernel
theorem dX0_findPress_94 : decode cX0_findPress 94 = .ok (.iload_n 3, 1) := by decide +kernel
theorem dX0_findPress_95 : decode cX0_findPress 95 = .ok (.iconst 1, 1) := by decide +kernel
theorem dX0_findPress_96 : decode cX0_findPress 96 = .ok (.isub, 1) := by decide +kernel
theorem dX0_findPress_97 : decode cX0_findPress 97 = .ok (.invokestatic 89, 3) := by decide +kernel
theorem dX0_findPress_100 : decode cX0_findPress 100 = .ok (.iaload, 1) := by decide +kernel
theorem dX0_findPress_101 : decode cX0_findPress 101 = .ok (.istore 6, 2) := by decide +kernel
theorem dX0_findPress_103 : decode cX0_findPress 103 = .ok (.iload 5, 2) := by decide +kernel
theorem dX0_findPress_105 : decode cX0_findPress 105 = .ok (.iload 6, 2) := by decide +kernel
theorem dX0_findPress_107 : decode cX0_findPress 107 = .ok (.if_icmp .eq 29, 3) := by decide +kernel
theorem dX0_findPress_110 : decode cX0_findPress 110 = .ok (.aload_n 0, 1) := by decide +kernel
theorem dX0_findPress_111 : decode cX0_findPress 111 = .ok (.getfield 11, 3) := by decide +kernel
theorem dX0_findPress_114 : decode cX0_findPress 114 = .ok (.iload 5, 2) := by decide +kernel
theorem dX0_findPress_116 : decode cX0_findPress 116 = .ok (.aload_n 0, 1) := by decide +kernel
theorem dX0_findPress_117 : decode cX0_findPress 117 = .ok (.getfield 11, 3) := by decide +kernel
theorem dX0_findPress_120 : decode cX0_findPress 120 = .ok (.iload 5, 2) := by decide +kernel
theorem dX0_findPress_122 : decode cX0_findPress 122 = .ok (.iaload, 1) := by decide +kernel
theorem dX0_findPress_123 : decode cX0_findPress 123 = .ok (.aload_n 0, 1) := by decide +kernel
theorem dX0_findPress_124 : decode cX0_findPress 124 = .ok (.getfield 11, 3) := by decide +kernel
theorem dX0_findPress_127 : decode cX0_findPress 127 = .ok (.iload 6, 2) := by decide +kernel
theorem dX0_findPress_129 : decode cX0_findPress 129 = .ok (.iaload, 1) := by decide +kernel
theorem dX0_findPress_130 : decode cX0_findPress 130 = .ok (.iconst 1, 1) := by decide +kernel
theorem dX0_findPress_131 : decode cX0_findPress 131 = .ok (.isub, 1) := by decide +kernel
theorem dX0_findPress_132 : decode cX0_findPress 132 = .ok (.invokestatic 93, 3) := by decide +kernel
theorem dX0_findPress_135 : decode cX0_findPress 135 = .ok (.iastore, 1) := by decide +kernel
theorem dX0_findPress_136 : decode cX0_findPress 136 = .ok (.iinc 4 1, 3) := by decide +kernel
theorem dX0_findPress_139 : decode cX0_findPress 139 = .ok (.goto (-76), 3) := by decide +kernel
theorem dX0_findPress_142 : decode cX0_findPress 142 = .ok (.iinc 3 1, 3) := by decide +kernel
theorem dX0_findPress_145 : decode cX0_findPress 145 = .ok (.goto (-96), 3) := by decide +kernel
theorem dX0_findPress_148 : decode cX0_findPress 148 = .ok (.return_, 1) := by decide +kernel
theorem dX0_passOverTaken_0 : decode cX0_passOverTaken 0 = .ok (.iconst 0, 1) := by decide +kernel
theorem dX0_passOverTaken_1 : decode cX0_passOverTaken 1 = .ok (.istore_n 2, 1) := by decide +kernel
theorem dX0_passOverTaken_2 : decode cX0_passOverTaken 2 = .ok (.iload_n 2, 1) := by decide +kernel
theorem dX0_passOverTaken_3 : decode cX0_passOverTaken 3 = .ok (.aload_n 1, 1) := by decide +kernel
theorem dX0_passOverTaken_4 : decode cX0_passOverTaken 4 = .ok (.getfield 35, 3) := by decide +kernel
theorem dX0_passOverTaken_7 : decode cX0_passOverTaken 7 = .ok (.getfield 39, 3) := by decide +kernel
theorem dX0_passOverTaken_10 : decode cX0_passOverTaken 10 = .ok (.if_icmp .ge 28, 3) := by decide +kernel
theorem dX0_passOverTaken_13 : decode cX0_passOverTaken 13 = .ok (.aload_n 1, 1) := by decide +kernel
theorem dX0_passOverTaken_14 : decode cX0_passOverTaken 14 = .ok (.getfield 45, 3) := by decide +kernel
theorem dX0_passOverTaken_17 : decode cX0_passOverTaken 17 = .ok (.iload_n 2, 1) := by decide +kernel
theorem dX0_passOverTaken_18 : decode cX0_passOverTaken 18 = .ok (.invokevirtual 98, 3) := by decide +kernel
theorem dX0_passOverTaken_21 : decode cX0_passOverTaken 21 = .ok (.ifCond .eq 11, 3) := by decide +kernel
theorem dX0_passOverTaken_24 : decode cX0_passOverTaken 24 = .ok (.aload_n 0, 1) := by decide +kernel
theorem dX0_passOverTaken_25 : decode cX0_passOverTaken 25 = .ok (.getfield 11, 3) := by decide +kernel
theorem dX0_passOverTaken_28 : decode cX0_passOverTaken 28 = .ok (.iload_n 2, 1) := by decide +kernel
theorem dX0_passOverTaken_29 : decode cX0_passOverTaken 29 = .ok (.ldc 62, 2) := by decide +kernel
theorem dX0_passOverTaken_31 : decode cX0_passOverTaken 31 = .ok (.iastore, 1) := by decide +kernel
theorem dX0_passOverTaken_32 : decode cX0_passOverTaken 32 = .ok (.iinc 2 1, 3) := by decide +kernel
theorem dX0_passOverTaken_35 : decode cX0_passOverTaken 35 = .ok (.goto (-33), 3) := by decide +kernel
theorem dX0_passOverTaken_38 : decode cX0_passOverTaken 38 = .ok (.return_, 1) := by decide +kernel
theorem dX0_mostPressing_0 : decode cX0_mostPressing 0 = .ok (.iconst 0, 1) := by decide +kernel
theorem dX0_mostPressing_1 : decode cX0_mostPressing 1 = .ok (.istore_n 2, 1) := by decide +kernel
theorem dX0_mostPressing_2 : decode cX0_mostPressing 2 = .ok (.iconst 1, 1) := by decide +kernel
theorem dX0_mostPressing_3 : decode cX0_mostPressing 3 = .ok (.istore_n 3, 1) := by decide +kernel
theorem dX0_mostPressing_4 : decode cX0_mostPressing 4 = .ok (.iload_n 3, 1) := by decide +kernel
theorem dX0_mostPressing_5 : decode cX0_mostPressing 5 = .ok (.iload_n 1, 1) := by decide +kernel
theorem dX0_mostPressing_6 : decode cX0_mostPressing 6 = .ok (.if_icmp .ge 26, 3) := by decide +kernel
theorem dX0_mostPressing_9 : decode cX0_mostPressing 9 = .ok (.aload_n 0, 1) := by decide +kernel
theorem dX0_mostPressing_10 : decode cX0_mostPressing 10 = .ok (.getfield 11, 3) := by decide +kernel
theorem dX0_mostPressing_13 : decode cX0_mostPressing 13 = .ok (.iload_n 3, 1) := by decide +kernel
theorem dX0_mostPressing_14 : decode cX0_mostPressing 14 = .ok (.iaload, 1) := by decide +kernel
theorem dX0_mostPressing_15 : decode cX0_mostPressing 15 = .ok (.aload_n 0, 1) := by decide +kernel
theorem dX0_mostPressing_16 : decode cX0_mostPressing 16 = .ok (.getfield 11, 3) := by decide +kernel
theorem dX0_mostPressing_19 : decode cX0_mostPressing 19 = .ok (.iload_n 2, 1) := by decide +kernel
theorem dX0_mostPressing_20 : decode cX0_mostPressing 20 = .ok (.iaload, 1) := by decide +kernel
theorem dX0_mostPressing_21 : decode cX0_mostPressing 21 = .ok (.if_icmp .ge 5, 3) := by decide +kernel
theorem dX0_mostPressing_24 : decode cX0_mostPressing 24 = .ok (.iload_n 3, 1) := by decide +kernel
theorem dX0_mostPressing_25 : decode cX0_mostPressing 25 = .ok (.istore_n 2, 1) := by decide +kernel
theorem dX0_mostPressing_26 : decode cX0_mostPressing 26 = .ok (.iinc 3 1, 3) := by decide +kernel
theorem dX0_mostPressing_29 : decode cX0_mostPressing 29 = .ok (.goto (-25), 3) := by decide +kernel
theorem dX0_mostPressing_32 : decode cX0_mostPressing 32 = .ok (.iload_n 2, 1) := by decide +kernel
theorem dX0_mostPressing_33 : decode cX0_mostPressing 33 = .ok (.ireturn, 1) := by decide +kernel
theorem dX1_init_0 : decode cX1_init 0 = .ok (.aload_n 0, 1) := by decide +kernel
theorem dX1_init_1 : decode cX1_init 1 = .ok (.invokespecial 3, 3) := by decide +kernel
theorem dX1_init_4 : decode cX1_init 4 = .ok (.aload_n 0, 1) := by decide +kernel
theorem dX1_init_5 : decode cX1_init 5 = .ok (.bipush 64, 2) := by decide +kernel
theorem dX1_init_7 : decode cX1_init 7 = .ok (.newarray .int, 2) := by decide +kernel
theorem dX1_init_9 : decode cX1_init 9 = .ok (.putfield 9, 3) := by decide +kernel
theorem dX1_init_12 : decode cX1_init 12 = .ok (.return_, 1) := by decide +kernel
theorem dX1_clear_0 : decode cX1_clear 0 = .ok (.aload_n 0, 1) := by decide +kernel
theorem dX1_clear_1 : decode cX1_clear 1 = .ok (.iconst 0, 1) := by decide +kernel
theorem dX1_clear_2 : decode cX1_clear 2 = .ok (.putfield 15, 3) := by decide +kernel
theorem dX1_clear_5 : decode cX1_clear 5 = .ok (.return_, 1) := by decide +kernel
theorem dX1_add_0 : decode cX1_add 0 = .ok (.aload_n 0, 1) := by decide +kernel
theorem dX1_add_1 : decode cX1_add 1 = .ok (.getfield 15, 3) := by decide +kernel
theorem dX1_add_4 : decode cX1_add 4 = .ok (.bipush 64, 2) := by decide +kernel
theorem dX1_add_6 : decode cX1_add 6 = .ok (.if_icmp .ge 23, 3) := by decide +kernel
theorem dX1_add_9 : decode cX1_add 9 = .ok (.aload_n 0, 1) := by decide +kernel
theorem dX1_add_10 : decode cX1_add 10 = .ok (.getfield 9, 3) := by decide +kernel
theorem dX1_add_13 : decode cX1_add 13 = .ok (.aload_n 0, 1) := by decide +kernel
theorem dX1_add_14 : decode cX1_add 14 = .ok (.getfield 15, 3) := by decide +kernel
theorem dX1_add_17 : decode cX1_add 17 = .ok (.iload_n 1, 1) := by decide +kernel
theorem dX1_add_18 : decode cX1_add 18 = .ok (.iastore, 1) := by decide +kernel
theorem dX1_add_19 : decode cX1_add 19 = .ok (.aload_n 0, 1) := by decide +kernel
theorem dX1_add_20 : decode cX1_add 20 = .ok (.dup, 1) := by decide +kernel
theorem dX1_add_21 : decode cX1_add 21 = .ok (.getfield 15, 3) := by decide +kernel
theorem dX1_add_24 : decode cX1_add 24 = .ok (.iconst 1, 1) := by decide +kernel
theorem dX1_add_25 : decode cX1_add 25 = .ok (.iadd, 1) := by decide +kernel
theorem dX1_add_26 : decode cX1_add 26 = .ok (.putfield 15, 3) := by decide +kernel
theorem dX1_add_29 : decode cX1_add 29 = .ok (.return_, 1) := by decide +kernel
theorem dX1_become_0 : decode cX1_become 0 = .ok (.aload_n 0, 1) := by decide +kernel
theorem dX1_become_1 : decode cX1_become 1 = .ok (.aload_n 1, 1) := by decide +kernel
theorem dX1_become_2 : decode cX1_become 2 = .ok (.getfield 15, 3) := by decide +kernel
theorem dX1_become_5 : decode cX1_become 5 = .ok (.putfield 15, 3) := by decide +kernel
theorem dX1_become_8 : decode cX1_become 8 = .ok (.aload_n 1, 1) := by decide +kernel
theorem dX1_become_9 : decode cX1_become 9 = .ok (.getfield 9, 3) := by decide +kernel
theorem dX1_become_12 : decode cX1_become 12 = .ok (.aload_n 0, 1) := by decide +kernel
theorem dX1_become_13 : decode cX1_become 13 = .ok (.getfield 9, 3) := by decide +kernel
theorem dX1_become_16 : decode cX1_become 16 = .ok (.invokestatic 19, 3) := by decide +kernel
theorem dX1_become_19 : decode cX1_become 19 = .ok (.return_, 1) := by decide +kernel
theorem dX2_init_0 : decode cX2_init 0 = .ok (.aload_n 0, 1) := by decide +kernel
theorem dX2_init_1 : decode cX2_init 1 = .ok (.invokespecial 3, 3) := by decide +kernel
theorem dX2_init_4 : decode cX2_init 4 = .ok (.aload_n 0, 1) := by decide +kernel
theorem dX2_init_5 : decode cX2_init 5 = .ok (.bipush 64, 2) := by decide +kernel
theorem dX2_init_7 : decode cX2_init 7 = .ok (.newarray .int, 2) := by decide +kernel
theorem dX2_init_9 : decode cX2_init 9 = .ok (.putfield 9, 3) := by decide +kernel
theorem dX2_init_12 : decode cX2_init 12 = .ok (.aload_n 0, 1) := by decide +kernel
theorem dX2_init_13 : decode cX2_init 13 = .ok (.bipush 64, 2) := by decide +kernel
theorem dX2_init_15 : decode cX2_init 15 = .ok (.newarray .int, 2) := by decide +kernel
theorem dX2_init_17 : decode cX2_init 17 = .ok (.putfield 15, 3) := by decide +kernel
theorem dX2_init_20 : decode cX2_init 20 = .ok (.aload_n 0, 1) := by decide +kernel
theorem dX2_init_21 : decode cX2_init 21 = .ok (.bipush 64, 2) := by decide +kernel
theorem dX2_init_23 : decode cX2_init 23 = .ok (.newarray .int, 2) := by decide +kernel
theorem dX2_init_25 : decode cX2_init 25 = .ok (.putfield 18, 3) := by decide +kernel
theorem dX2_init_28 : decode cX2_init 28 = .ok (.aload_n 0, 1) := by decide +kernel
theorem dX2_init_29 : decode cX2_init 29 = .ok (.bipush 64, 2) := by decide +kernel
theorem dX2_init_31 : decode cX2_init 31 = .ok (.newarray .int, 2) := by decide +kernel
theorem dX2_init_33 : decode cX2_init 33 = .ok (.putfield 21, 3) := by decide +kernel
theorem dX2_init_36 : decode cX2_init 36 = .ok (.aload_n 0, 1) := by decide +kernel
theorem dX2_init_37 : decode cX2_init 37 = .ok (.bipush 64, 2) := by decide +kernel
theorem dX2_init_39 : decode cX2_init 39 = .ok (.newarray .int, 2) := by decide +kernel
theorem dX2_init_41 : decode cX2_init 41 = .ok (.putfield 24, 3) := by decide +kernel
theorem dX2_init_44 : decode cX2_init 44 = .ok (.aload_n 0, 1) := by decide +kernel
theorem dX2_init_45 : decode cX2_init 45 = .ok (.bipush 64, 2) := by decide +kernel
theorem dX2_init_47 : decode cX2_init 47 = .ok (.newarray .int, 2) := by decide +kernel
theorem dX2_init_49 : decode cX2_init 49 = .ok (.putfield 27, 3) := by decide +kernel
theorem dX2_init_52 : decode cX2_init 52 = .ok (.return_, 1) := by decide +kernel
theorem dX2_drop_0 : decode cX2_drop 0 = .ok (.aload_n 0, 1) := by decide +kernel
theorem dX2_drop_1 : decode cX2_drop 1 = .ok (.iconst 0, 1) := by decide +kernel
theorem dX2_drop_2 : decode cX2_drop 2 = .ok (.putfield 30, 3) := by decide +kernel
theorem dX2_drop_5 : decode cX2_drop 5 = .ok (.aload_n 0, 1) := by decide +kernel
theorem dX2_drop_6 : decode cX2_drop 6 = .ok (.iconst 0, 1) := by decide +kernel
theorem dX2_drop_7 : decode cX2_drop 7 = .ok (.putfield 34, 3) := by decide +kernel
theorem dX2_drop_10 : decode cX2_drop 10 = .ok (.return_, 1) := by decide +kernel
theorem dX2_has_0 : decode cX2_has 0 = .ok (.iload_n 1, 1) := by decide +kernel
theorem dX2_has_1 : decode cX2_has 1 = .ok (.iconst 0, 1) := by decide +kernel
theorem dX2_has_2 : decode cX2_has 2 = .ok (.aload_n 0, 1) := by decide +kernel
theorem dX2_has_3 : decode cX2_has 3 = .ok (.getfield 30, 3) := by decide +kernel
theorem dX2_has_6 : decode cX2_has 6 = .ok (.iconst 1, 1) := by decide +kernel
theorem dX2_has_7 : decode cX2_has 7 = .ok (.isub, 1) := by decide +kernel
theorem dX2_has_8 : decode cX2_has 8 = .ok (.invokestatic 37, 3) := by decide +kernel
theorem dX2_has_11 : decode cX2_has 11 = .ok (.ireturn, 1) := by decide +kernel
theorem dX2_isAbove_0 : decode cX2_isAbove 0 = .ok (.aload_n 0, 1) := by decide +kernel
theorem dX2_isAbove_1 : decode cX2_isAbove 1 = .ok (.getfield 15, 3) := by decide +kernel
theorem dX2_isAbove_4 : decode cX2_isAbove 4 = .ok (.iload_n 1, 1) := by decide +kernel
theorem dX2_isAbove_5 : decode cX2_isAbove 5 = .ok (.iaload, 1) := by decide +kernel
theorem dX2_isAbove_6 : decode cX2_isAbove 6 = .ok (.aload_n 0, 1) := by decide +kernel
theorem dX2_isAbove_7 : decode cX2_isAbove 7 = .ok (.getfield 15, 3) := by decide +kernel
theorem dX2_isAbove_10 : decode cX2_isAbove 10 = .ok (.iload_n 2, 1) := by decide +kernel
theorem dX2_isAbove_11 : decode cX2_isAbove 11 = .ok (.iaload, 1) := by decide +kernel
theorem dX2_isAbove_12 : decode cX2_isAbove 12 = .ok (.aload_n 0, 1) := by decide +kernel
theorem dX2_isAbove_13 : decode cX2_isAbove 13 = .ok (.getfield 21, 3) := by decide +kernel
theorem dX2_isAbove_16 : decode cX2_isAbove 16 = .ok (.iload_n 2, 1) := by decide +kernel
theorem dX2_isAbove_17 : decode cX2_isAbove 17 = .ok (.iaload, 1) := by decide +kernel
theorem dX2_isAbove_18 : decode cX2_isAbove 18 = .ok (.iadd, 1) := by decide +kernel
theorem dX2_isAbove_19 : decode cX2_isAbove 19 = .ok (.if_icmp .ne 51, 3) := by decide +kernel
theorem dX2_isAbove_22 : decode cX2_isAbove 22 = .ok (.aload_n 0, 1) := by decide +kernel
theorem dX2_isAbove_23 : decode cX2_isAbove 23 = .ok (.getfield 9, 3) := by decide +kernel
theorem dX2_isAbove_26 : decode cX2_isAbove 26 = .ok (.iload_n 1, 1) := by decide +kernel
theorem dX2_isAbove_27 : decode cX2_isAbove 27 = .ok (.iaload, 1) := by decide +kernel
theorem dX2_isAbove_28 : decode cX2_isAbove 28 = .ok (.aload_n 0, 1) := by decide +kernel
theorem dX2_isAbove_29 : decode cX2_isAbove 29 = .ok (.getfield 9, 3) := by decide +kernel
theorem dX2_isAbove_32 : decode cX2_isAbove 32 = .ok (.iload_n 2, 1) := by decide +kernel
theorem dX2_isAbove_33 : decode cX2_isAbove 33 = .ok (.iaload, 1) := by decide +kernel
theorem dX2_isAbove_34 : decode cX2_isAbove 34 = .ok (.aload_n 0, 1) := by decide +kernel
theorem dX2_isAbove_35 : decode cX2_isAbove 35 = .ok (.getfield 18, 3) := by decide +kernel
theorem dX2_isAbove_38 : decode cX2_isAbove 38 = .ok (.iload_n 2, 1) := by decide +kernel
theorem dX2_isAbove_39 : decode cX2_isAbove 39 = .ok (.iaload, 1) := by decide +kernel
theorem dX2_isAbove_40 : decode cX2_isAbove 40 = .ok (.iadd, 1) := by decide +kernel
theorem dX2_isAbove_41 : decode cX2_isAbove 41 = .ok (.if_icmp .ge 29, 3) := by decide +kernel
theorem dX2_isAbove_44 : decode cX2_isAbove 44 = .ok (.aload_n 0, 1) := by decide +kernel
theorem dX2_isAbove_45 : decode cX2_isAbove 45 = .ok (.getfield 9, 3) := by decide +kernel
theorem dX2_isAbove_48 : decode cX2_isAbove 48 = .ok (.iload_n 2, 1) := by decide +kernel
theorem dX2_isAbove_49 : decode cX2_isAbove 49 = .ok (.iaload, 1) := by decide +kernel
theorem dX2_isAbove_50 : decode cX2_isAbove 50 = .ok (.aload_n 0, 1) := by decide +kernel
theorem dX2_isAbove_51 : decode cX2_isAbove 51 = .ok (.getfield 9, 3) := by decide +kernel
theorem dX2_isAbove_54 : decode cX2_isAbove 54 = .ok (.iload_n 1, 1) := by decide +kernel
theorem dX2_isAbove_55 : decode cX2_isAbove 55 = .ok (.iaload, 1) := by decide +kernel
theorem dX2_isAbove_56 : decode cX2_isAbove 56 = .ok (.aload_n 0, 1) := by decide +kernel
theorem dX2_isAbove_57 : decode cX2_isAbove 57 = .ok (.getfield 18, 3) := by decide +kernel
theorem dX2_isAbove_60 : decode cX2_isAbove 60 = .ok (.iload_n 1, 1) := by decide +kernel
theorem dX2_isAbove_61 : decode cX2_isAbove 61 = .ok (.iaload, 1) := by decide +kernel
theorem dX2_isAbove_62 : decode cX2_isAbove 62 = .ok (.iadd, 1) := by decide +kernel
theorem dX2_isAbove_63 : decode cX2_isAbove 63 = .ok (.if_icmp .ge 7, 3) := by decide +kernel
theorem dX2_isAbove_66 : decode cX2_isAbove 66 = .ok (.iconst 1, 1) := by decide +kernel
theorem dX2_isAbove_67 : decode cX2_isAbove 67 = .ok (.goto 4, 3) := by decide +kernel
theorem dX2_isAbove_70 : decode cX2_isAbove 70 = .ok (.iconst 0, 1) := by decide +kernel
theorem dX2_isAbove_71 : decode cX2_isAbove 71 = .ok (.ireturn, 1) := by decide +kernel
theorem dX2_startWith_0 : decode cX2_startWith 0 = .ok (.aload_n 0, 1) := by decide +kernel
theorem dX2_startWith_1 : decode cX2_startWith 1 = .ok (.iconst 1, 1) := by decide +kernel
theorem dX2_startWith_2 : decode cX2_startWith 2 = .ok (.putfield 30, 3) := by decide +kernel
theorem dX2_startWith_5 : decode cX2_startWith 5 = .ok (.aload_n 0, 1) := by decide +kernel
theorem dX2_startWith_6 : decode cX2_startWith 6 = .ok (.iconst 0, 1) := by decide +kernel
theorem dX2_startWith_7 : decode cX2_startWith 7 = .ok (.putfield 34, 3) := by decide +kernel
theorem dX2_startWith_10 : decode cX2_startWith 10 = .ok (.aload_n 0, 1) := by decide +kernel
theorem dX2_startWith_11 : decode cX2_startWith 11 = .ok (.getfield 9, 3) := by decide +kernel
theorem dX2_startWith_14 : decode cX2_startWith 14 = .ok (.iconst 0, 1) := by decide +kernel
theorem dX2_startWith_15 : decode cX2_startWith 15 = .ok (.iconst 0, 1) := by decide +kernel
theorem dX2_startWith_16 : decode cX2_startWith 16 = .ok (.iastore, 1) := by decide +kernel
theorem dX2_startWith_17 : decode cX2_startWith 17 = .ok (.aload_n 0, 1) := by decide +kernel
theorem dX2_startWith_18 : decode cX2_startWith 18 = .ok (.getfield 15, 3) := by decide +kernel
theorem dX2_startWith_21 : decode cX2_startWith 21 = .ok (.iconst 0, 1) := by decide +kernel
theorem dX2_startWith_22 : decode cX2_startWith 22 = .ok (.iconst 0, 1) := by decide +kernel
theorem dX2_startWith_23 : decode cX2_startWith 23 = .ok (.iastore, 1) := by decide +kernel
theorem dX2_startWith_24 : decode cX2_startWith 24 = .ok (.aload_n 0, 1) := by decide +kernel
theorem dX2_startWith_25 : decode cX2_startWith 25 = .ok (.getfield 18, 3) := by decide +kernel
theorem dX2_startWith_28 : decode cX2_startWith 28 = .ok (.iconst 0, 1) := by decide +kernel
theorem dX2_startWith_29 : decode cX2_startWith 29 = .ok (.iload_n 1, 1) := by decide +kernel
theorem dX2_startWith_30 : decode cX2_startWith 30 = .ok (.iastore, 1) := by decide +kernel
theorem dX2_startWith_31 : decode cX2_startWith 31 = .ok (.aload_n 0, 1) := by decide +kernel
theorem dX2_startWith_32 : decode cX2_startWith 32 = .ok (.getfield 21, 3) := by decide +kernel
theorem dX2_startWith_35 : decode cX2_startWith 35 = .ok (.iconst 0, 1) := by decide +kernel
theorem dX2_startWith_36 : decode cX2_startWith 36 = .ok (.iload_n 2, 1) := by decide +kernel
theorem dX2_startWith_37 : decode cX2_startWith 37 = .ok (.iastore, 1) := by decide +kernel
theorem dX2_startWith_38 : decode cX2_startWith 38 = .ok (.return_, 1) := by decide +kernel
theorem dX2_cutUpright_0 : decode cX2_cutUpright 0 = .ok (.aload_n 0, 1) := by decide +kernel
theorem dX2_cutUpright_1 : decode cX2_cutUpright 1 = .ok (.iload_n 1, 1) := by decide +kernel
theorem dX2_cutUpright_2 : decode cX2_cutUpright 2 = .ok (.invokevirtual 41, 3) := by decide +kernel
theorem dX2_cutUpright_5 : decode cX2_cutUpright 5 = .ok (.aload_n 0, 1) := by decide +kernel
theorem dX2_cutUpright_6 : decode cX2_cutUpright 6 = .ok (.getfield 18, 3) := by decide +kernel
theorem dX2_cutUpright_9 : decode cX2_cutUpright 9 = .ok (.iload_n 1, 1) := by decide +kernel
theorem dX2_cutUpright_10 : decode cX2_cutUpright 10 = .ok (.iload_n 2, 1) := by decide +kernel
theorem dX2_cutUpright_11 : decode cX2_cutUpright 11 = .ok (.iconst 1, 1) := by decide +kernel
theorem dX2_cutUpright_12 : decode cX2_cutUpright 12 = .ok (.iadd, 1) := by decide +kernel
theorem dX2_cutUpright_13 : decode cX2_cutUpright 13 = .ok (.aload_n 0, 1) := by decide +kernel
theorem dX2_cutUpright_14 : decode cX2_cutUpright 14 = .ok (.getfield 9, 3) := by decide +kernel
theorem dX2_cutUpright_17 : decode cX2_cutUpright 17 = .ok (.iload_n 1, 1) := by decide +kernel
theorem dX2_cutUpright_18 : decode cX2_cutUpright 18 = .ok (.iaload, 1) := by decide +kernel
theorem dX2_cutUpright_19 : decode cX2_cutUpright 19 = .ok (.isub, 1) := by decide +kernel
theorem dX2_cutUpright_20 : decode cX2_cutUpright 20 = .ok (.iastore, 1) := by decide +kernel
theorem dX2_cutUpright_21 : decode cX2_cutUpright 21 = .ok (.aload_n 0, 1) := by decide +kernel
theorem dX2_cutUpright_22 : decode cX2_cutUpright 22 = .ok (.getfield 9, 3) := by decide +kernel
theorem dX2_cutUpright_25 : decode cX2_cutUpright 25 = .ok (.iload_n 1, 1) := by decide +kernel
theorem dX2_cutUpright_26 : decode cX2_cutUpright 26 = .ok (.iconst 1, 1) := by decide +kernel
theorem dX2_cutUpright_27 : decode cX2_cutUpright 27 = .ok (.iadd, 1) := by decide +kernel
theorem dX2_cutUpright_28 : decode cX2_cutUpright 28 = .ok (.iload_n 2, 1) := by decide +kernel
theorem dX2_cutUpright_29 : decode cX2_cutUpright 29 = .ok (.iconst 1, 1) := by decide +kernel
theorem dX2_cutUpright_30 : decode cX2_cutUpright 30 = .ok (.iadd, 1) := by decide +kernel
theorem dX2_cutUpright_31 : decode cX2_cutUpright 31 = .ok (.iastore, 1) := by decide +kernel
theorem dX2_cutUpright_32 : decode cX2_cutUpright 32 = .ok (.aload_n 0, 1) := by decide +kernel
theorem dX2_cutUpright_33 : decode cX2_cutUpright 33 = .ok (.getfield 18, 3) := by decide +kernel
theorem dX2_cutUpright_36 : decode cX2_cutUpright 36 = .ok (.iload_n 1, 1) := by decide +kernel
theorem dX2_cutUpright_37 : decode cX2_cutUpright 37 = .ok (.iconst 1, 1) := by decide +kernel
theorem dX2_cutUpright_38 : decode cX2_cutUpright 38 = .ok (.iadd, 1) := by decide +kernel
theorem dX2_cutUpright_39 : decode cX2_cutUpright 39 = .ok (.dup2, 1) := by decide +kernel
theorem dX2_cutUpright_40 : decode cX2_cutUpright 40 = .ok (.iaload, 1) := by decide +kernel
theorem dX2_cutUpright_41 : decode cX2_cutUpright 41 = .ok (.aload_n 0, 1) := by decide +kernel
theorem dX2_cutUpright_42 : decode cX2_cutUpright 42 = .ok (.getfield 18, 3) := by decide +kernel
theorem dX2_cutUpright_45 : decode cX2_cutUpright 45 = .ok (.iload_n 1, 1) := by decide +kernel
theorem dX2_cutUpright_46 : decode cX2_cutUpright 46 = .ok (.iaload, 1) := by decide +kernel
theorem dX2_cutUpright_47 : decode cX2_cutUpright 47 = .ok (.isub, 1) := by decide +kernel
theorem dX2_cutUpright_48 : decode cX2_cutUpright 48 = .ok (.iastore, 1) := by decide +kernel
theorem dX2_cutUpright_49 : decode cX2_cutUpright 49 = .ok (.aload_n 0, 1) := by decide +kernel
theorem dX2_cutUpright_50 : decode cX2_cutUpright 50 = .ok (.dup, 1) := by decide +kernel
theorem dX2_cutUpright_51 : decode cX2_cutUpright 51 = .ok (.getfield 34, 3) := by decide +kernel
theorem dX2_cutUpright_54 : decode cX2_cutUpright 54 = .ok (.aload_n 0, 1) := by decide +kernel
theorem dX2_cutUpright_55 : decode cX2_cutUpright 55 = .ok (.getfield 21, 3) := by decide +kernel
theorem dX2_cutUpright_58 : decode cX2_cutUpright 58 = .ok (.iload_n 1, 1) := by decide +kernel
theorem dX2_cutUpright_59 : decode cX2_cutUpright 59 = .ok (.iaload, 1) := by decide +kernel
theorem dX2_cutUpright_60 : decode cX2_cutUpright 60 = .ok (.iadd, 1) := by decide +kernel
theorem dX2_cutUpright_61 : decode cX2_cutUpright 61 = .ok (.putfield 34, 3) := by decide +kernel
theorem dX2_cutUpright_64 : decode cX2_cutUpright 64 = .ok (.return_, 1) := by decide +kernel
theorem dX2_cutLevel_0 : decode cX2_cutLevel 0 = .ok (.aload_n 0, 1) := by decide +kernel
theorem dX2_cutLevel_1 : decode cX2_cutLevel 1 = .ok (.iload_n 1, 1) := by decide +kernel
theorem dX2_cutLevel_2 : decode cX2_cutLevel 2 = .ok (.invokevirtual 41, 3) := by decide +kernel
theorem dX2_cutLevel_5 : decode cX2_cutLevel 5 = .ok (.aload_n 0, 1) := by decide +kernel
theorem dX2_cutLevel_6 : decode cX2_cutLevel 6 = .ok (.getfield 21, 3) := by decide +kernel
theorem dX2_cutLevel_9 : decode cX2_cutLevel 9 = .ok (.iload_n 1, 1) := by decide +kernel
theorem dX2_cutLevel_10 : decode cX2_cutLevel 10 = .ok (.iload_n 2, 1) := by decide +kernel
theorem dX2_cutLevel_11 : decode cX2_cutLevel 11 = .ok (.iconst 1, 1) := by decide +kernel
theorem dX2_cutLevel_12 : decode cX2_cutLevel 12 = .ok (.iadd, 1) := by decide +kernel
theorem dX2_cutLevel_13 : decode cX2_cutLevel 13 = .ok (.aload_n 0, 1) := by decide +kernel
theorem dX2_cutLevel_14 : decode cX2_cutLevel 14 = .ok (.getfield 15, 3) := by decide +kernel
theorem dX2_cutLevel_17 : decode cX2_cutLevel 17 = .ok (.iload_n 1, 1) := by decide +kernel
theorem dX2_cutLevel_18 : decode cX2_cutLevel 18 = .ok (.iaload, 1) := by decide +kernel
theorem dX2_cutLevel_19 : decode cX2_cutLevel 19 = .ok (.isub, 1) := by decide +kernel
theorem dX2_cutLevel_20 : decode cX2_cutLevel 20 = .ok (.iastore, 1) := by decide +kernel
theorem dX2_cutLevel_21 : decode cX2_cutLevel 21 = .ok (.aload_n 0, 1) := by decide +kernel
theorem dX2_cutLevel_22 : decode cX2_cutLevel 22 = .ok (.getfield 15, 3) := by decide +kernel
theorem dX2_cutLevel_25 : decode cX2_cutLevel 25 = .ok (.iload_n 1, 1) := by decide +kernel
theorem dX2_cutLevel_26 : decode cX2_cutLevel 26 = .ok (.iconst 1, 1) := by decide +kernel
theorem dX2_cutLevel_27 : decode cX2_cutLevel 27 = .ok (.iadd, 1) := by decide +kernel
theorem dX2_cutLevel_28 : decode cX2_cutLevel 28 = .ok (.iload_n 2, 1) := by decide +kernel
theorem dX2_cutLevel_29 : decode cX2_cutLevel 29 = .ok (.iconst 1, 1) := by decide +kernel
theorem dX2_cutLevel_30 : decode cX2_cutLevel 30 = .ok (.iadd, 1) := by decide +kernel
theorem dX2_cutLevel_31 : decode cX2_cutLevel 31 = .ok (.iastore, 1) := by decide +kernel
theorem dX2_cutLevel_32 : decode cX2_cutLevel 32 = .ok (.aload_n 0, 1) := by decide +kernel
theorem dX2_cutLevel_33 : decode cX2_cutLevel 33 = .ok (.getfield 21, 3) := by decide +kernel
theorem dX2_cutLevel_36 : decode cX2_cutLevel 36 = .ok (.iload_n 1, 1) := by decide +kernel
theorem dX2_cutLevel_37 : decode cX2_cutLevel 37 = .ok (.iconst 1, 1) := by decide +kernel
theorem dX2_cutLevel_38 : decode cX2_cutLevel 38 = .ok (.iadd, 1) := by decide +kernel
theorem dX2_cutLevel_39 : decode cX2_cutLevel 39 = .ok (.dup2, 1) := by decide +kernel
theorem dX2_cutLevel_40 : decode cX2_cutLevel 40 = .ok (.iaload, 1) := by decide +kernel
theorem dX2_cutLevel_41 : decode cX2_cutLevel 41 = .ok (.aload_n 0, 1) := by decide +kernel
theorem dX2_cutLevel_42 : decode cX2_cutLevel 42 = .ok (.getfield 21, 3) := by decide +kernel
theorem dX2_cutLevel_45 : decode cX2_cutLevel 45 = .ok (.iload_n 1, 1) := by decide +kernel
theorem dX2_cutLevel_46 : decode cX2_cutLevel 46 = .ok (.iaload, 1) := by decide +kernel
theorem dX2_cutLevel_47 : decode cX2_cutLevel 47 = .ok (.isub, 1) := by decide +kernel
theorem dX2_cutLevel_48 : decode cX2_cutLevel 48 = .ok (.iastore, 1) := by decide +kernel
theorem dX2_cutLevel_49 : decode cX2_cutLevel 49 = .ok (.aload_n 0, 1) := by decide +kernel
theorem dX2_cutLevel_50 : decode cX2_cutLevel 50 = .ok (.dup, 1) := by decide +kernel
theorem dX2_cutLevel_51 : decode cX2_cutLevel 51 = .ok (.getfield 34, 3) := by decide +kernel
theorem dX2_cutLevel_54 : decode cX2_cutLevel 54 = .ok (.aload_n 0, 1) := by decide +kernel
theorem dX2_cutLevel_55 : decode cX2_cutLevel 55 = .ok (.getfield 18, 3) := by decide +kernel
theorem dX2_cutLevel_58 : decode cX2_cutLevel 58 = .ok (.iload_n 1, 1) := by decide +kernel
theorem dX2_cutLevel_59 : decode cX2_cutLevel 59 = .ok (.iaload, 1) := by decide +kernel
theorem dX2_cutLevel_60 : decode cX2_cutLevel 60 = .ok (.iadd, 1) := by decide +kernel
theorem dX2_cutLevel_61 : decode cX2_cutLevel 61 = .ok (.putfield 34, 3) := by decide +kernel
theorem dX2_cutLevel_64 : decode cX2_cutLevel 64 = .ok (.return_, 1) := by decide +kernel
theorem dX2_makeTwo_0 : decode cX2_makeTwo 0 = .ok (.aload_n 0, 1) := by decide +kernel
theorem dX2_makeTwo_1 : decode cX2_makeTwo 1 = .ok (.aload_n 0, 1) := by decide +kernel
theorem dX2_makeTwo_2 : decode cX2_makeTwo 2 = .ok (.getfield 9, 3) := by decide +kernel
theorem dX2_makeTwo_5 : decode cX2_makeTwo 5 = .ok (.iload_n 1, 1) := by decide +kernel
theorem dX2_makeTwo_6 : decode cX2_makeTwo 6 = .ok (.invokevirtual 45, 3) := by decide +kernel
theorem dX2_makeTwo_9 : decode cX2_makeTwo 9 = .ok (.aload_n 0, 1) := by decide +kernel
theorem dX2_makeTwo_10 : decode cX2_makeTwo 10 = .ok (.aload_n 0, 1) := by decide +kernel
theorem dX2_makeTwo_11 : decode cX2_makeTwo 11 = .ok (.getfield 15, 3) := by decide +kernel
theorem dX2_makeTwo_14 : decode cX2_makeTwo 14 = .ok (.iload_n 1, 1) := by decide +kernel
theorem dX2_makeTwo_15 : decode cX2_makeTwo 15 = .ok (.invokevirtual 45, 3) := by decide +kernel
theorem dX2_makeTwo_18 : decode cX2_makeTwo 18 = .ok (.aload_n 0, 1) := by decide +kernel
theorem dX2_makeTwo_19 : decode cX2_makeTwo 19 = .ok (.aload_n 0, 1) := by decide +kernel
theorem dX2_makeTwo_20 : decode cX2_makeTwo 20 = .ok (.getfield 18, 3) := by decide +kernel
theorem dX2_makeTwo_23 : decode cX2_makeTwo 23 = .ok (.iload_n 1, 1) := by decide +kernel
theorem dX2_makeTwo_24 : decode cX2_makeTwo 24 = .ok (.invokevirtual 45, 3) := by decide +kernel
theorem dX2_makeTwo_27 : decode cX2_makeTwo 27 = .ok (.aload_n 0, 1) := by decide +kernel
theorem dX2_makeTwo_28 : decode cX2_makeTwo 28 = .ok (.aload_n 0, 1) := by decide +kernel
theorem dX2_makeTwo_29 : decode cX2_makeTwo 29 = .ok (.getfield 21, 3) := by decide +kernel
theorem dX2_makeTwo_32 : decode cX2_makeTwo 32 = .ok (.iload_n 1, 1) := by decide +kernel
theorem dX2_makeTwo_33 : decode cX2_makeTwo 33 = .ok (.invokevirtual 45, 3) := by decide +kernel
theorem dX2_makeTwo_36 : decode cX2_makeTwo 36 = .ok (.aload_n 0, 1) := by decide +kernel
theorem dX2_makeTwo_37 : decode cX2_makeTwo 37 = .ok (.dup, 1) := by decide +kernel
theorem dX2_makeTwo_38 : decode cX2_makeTwo 38 = .ok (.getfield 30, 3) := by decide +kernel
theorem dX2_makeTwo_41 : decode cX2_makeTwo 41 = .ok (.iconst 1, 1) := by decide +kernel
theorem dX2_makeTwo_42 : decode cX2_makeTwo 42 = .ok (.iadd, 1) := by decide +kernel
theorem dX2_makeTwo_43 : decode cX2_makeTwo 43 = .ok (.putfield 30, 3) := by decide +kernel
theorem dX2_makeTwo_46 : decode cX2_makeTwo 46 = .ok (.return_, 1) := by decide +kernel
theorem dX2_moveUp_0 : decode cX2_moveUp 0 = .ok (.aload_n 1, 1) := by decide +kernel
theorem dX2_moveUp_1 : decode cX2_moveUp 1 = .ok (.iload_n 2, 1) := by decide +kernel
theorem dX2_moveUp_2 : decode cX2_moveUp 2 = .ok (.aload_n 1, 1) := by decide +kernel
theorem dX2_moveUp_3 : decode cX2_moveUp 3 = .ok (.iload_n 2, 1) := by decide +kernel
theorem dX2_moveUp_4 : decode cX2_moveUp 4 = .ok (.iconst 1, 1) := by decide +kernel
theorem dX2_moveUp_5 : decode cX2_moveUp 5 = .ok (.iadd, 1) := by decide +kernel
theorem dX2_moveUp_6 : decode cX2_moveUp 6 = .ok (.aload_n 0, 1) := by decide +kernel
theorem dX2_moveUp_7 : decode cX2_moveUp 7 = .ok (.getfield 30, 3) := by decide +kernel
theorem dX2_moveUp_10 : decode cX2_moveUp 10 = .ok (.iload_n 2, 1) := by decide +kernel
theorem dX2_moveUp_11 : decode cX2_moveUp 11 = .ok (.isub, 1) := by decide +kernel
theorem dX2_moveUp_12 : decode cX2_moveUp 12 = .ok (.invokestatic 49, 3) := by decide +kernel
theorem dX2_moveUp_15 : decode cX2_moveUp 15 = .ok (.return_, 1) := by decide +kernel
theorem dX2_numberCells_0 : decode cX2_numberCells 0 = .ok (.iconst 0, 1) := by decide +kernel
theorem dX2_numberCells_1 : decode cX2_numberCells 1 = .ok (.istore_n 1, 1) := by decide +kernel
theorem dX2_numberCells_2 : decode cX2_numberCells 2 = .ok (.iload_n 1, 1) := by decide +kernel
theorem dX2_numberCells_3 : decode cX2_numberCells 3 = .ok (.aload_n 0, 1) := by decide +kernel
theorem dX2_numberCells_4 : decode cX2_numberCells 4 = .ok (.getfield 30, 3) := by decide +kernel
theorem dX2_numberCells_7 : decode cX2_numberCells 7 = .ok (.if_icmp .ge 14, 3) := by decide +kernel
theorem dX2_numberCells_10 : decode cX2_numberCells 10 = .ok (.aload_n 0, 1) := by decide +kernel
theorem dX2_numberCells_11 : decode cX2_numberCells 11 = .ok (.iload_n 1, 1) := by decide +kernel
theorem dX2_numberCells_12 : decode cX2_numberCells 12 = .ok (.invokevirtual 55, 3) := by decide +kernel
theorem dX2_numberCells_15 : decode cX2_numberCells 15 = .ok (.iinc 1 1, 3) := by decide +kernel
theorem dX2_numberCells_18 : decode cX2_numberCells 18 = .ok (.goto (-16), 3) := by decide +kernel
theorem dX2_numberCells_21 : decode cX2_numberCells 21 = .ok (.return_, 1) := by decide +kernel
theorem dX2_numberCellsOf_0 : decode cX2_numberCellsOf 0 = .ok (.aload_n 0, 1) := by decide +kernel
theorem dX2_numberCellsOf_1 : decode cX2_numberCellsOf 1 = .ok (.getfield 15, 3) := by decide +kernel
theorem dX2_numberCellsOf_4 : decode cX2_numberCellsOf 4 = .ok (.iload_n 1, 1) := by decide +kernel
theorem dX2_numberCellsOf_5 : decode cX2_numberCellsOf 5 = .ok (.iaload, 1) := by decide +kernel
theorem dX2_numberCellsOf_6 : decode cX2_numberCellsOf 6 = .ok (.istore_n 2, 1) := by decide +kernel
theorem dX2_numberCellsOf_7 : decode cX2_numberCellsOf 7 = .ok (.iload_n 2, 1) := by decide +kernel
theorem dX2_numberCellsOf_8 : decode cX2_numberCellsOf 8 = .ok (.aload_n 0, 1) := by decide +kernel
theorem dX2_numberCellsOf_9 : decode cX2_numberCellsOf 9 = .ok (.getfield 15, 3) := by decide +kernel
theorem dX2_numberCellsOf_12 : decode cX2_numberCellsOf 12 = .ok (.iload_n 1, 1) := by decide +kernel
theorem dX2_numberCellsOf_13 : decode cX2_numberCellsOf 13 = .ok (.iaload, 1) := by decide +kernel
theorem dX2_numberCellsOf_14 : decode cX2_numberCellsOf 14 = .ok (.aload_n 0, 1) := by decide +kernel
theorem dX2_numberCellsOf_15 : decode cX2_numberCellsOf 15 = .ok (.getfield 21, 3) := by decide +kernel
theorem dX2_numberCellsOf_18 : decode cX2_numberCellsOf 18 = .ok (.iload_n 1, 1) := by decide +kernel
theorem dX2_numberCellsOf_19 : decode cX2_numberCellsOf 19 = .ok (.iaload, 1) := by decide +kernel
theorem dX2_numberCellsOf_20 : decode cX2_numberCellsOf 20 = .ok (.iadd, 1) := by decide +kernel
theorem dX2_numberCellsOf_21 : decode cX2_numberCellsOf 21 = .ok (.if_icmp .ge 50, 3) := by decide +kernel
theorem dX2_numberCellsOf_24 : decode cX2_numberCellsOf 24 = .ok (.aload_n 0, 1) := by decide +kernel
theorem dX2_numberCellsOf_25 : decode cX2_numberCellsOf 25 = .ok (.getfield 9, 3) := by decide +kernel
theorem dX2_numberCellsOf_28 : decode cX2_numberCellsOf 28 = .ok (.iload_n 1, 1) := by decide +kernel
theorem dX2_numberCellsOf_29 : decode cX2_numberCellsOf 29 = .ok (.iaload, 1) := by decide +kernel
theorem dX2_numberCellsOf_30 : decode cX2_numberCellsOf 30 = .ok (.istore_n 3, 1) := by decide +kernel
theorem dX2_numberCellsOf_31 : decode cX2_numberCellsOf 31 = .ok (.iload_n 3, 1) := by decide +kernel
theorem dX2_numberCellsOf_32 : decode cX2_numberCellsOf 32 = .ok (.aload_n 0, 1) := by decide +kernel
theorem dX2_numberCellsOf_33 : decode cX2_numberCellsOf 33 = .ok (.getfield 9, 3) := by decide +kernel
theorem dX2_numberCellsOf_36 : decode cX2_numberCellsOf 36 = .ok (.iload_n 1, 1) := by decide +kernel
theorem dX2_numberCellsOf_37 : decode cX2_numberCellsOf 37 = .ok (.iaload, 1) := by decide +kernel
theorem dX2_numberCellsOf_38 : decode cX2_numberCellsOf 38 = .ok (.aload_n 0, 1) := by decide +kernel
theorem dX2_numberCellsOf_39 : decode cX2_numberCellsOf 39 = .ok (.getfield 18, 3) := by decide +kernel
theorem dX2_numberCellsOf_42 : decode cX2_numberCellsOf 42 = .ok (.iload_n 1, 1) := by decide +kernel
theorem dX2_numberCellsOf_43 : decode cX2_numberCellsOf 43 = .ok (.iaload, 1) := by decide +kernel
theorem dX2_numberCellsOf_44 : decode cX2_numberCellsOf 44 = .ok (.iadd, 1) := by decide +kernel
theorem dX2_numberCellsOf_45 : decode cX2_numberCellsOf 45 = .ok (.if_icmp .ge 20, 3) := by decide +kernel
theorem dX2_numberCellsOf_48 : decode cX2_numberCellsOf 48 = .ok (.aload_n 0, 1) := by decide +kernel
theorem dX2_numberCellsOf_49 : decode cX2_numberCellsOf 49 = .ok (.getfield 27, 3) := by decide +kernel
theorem dX2_numberCellsOf_52 : decode cX2_numberCellsOf 52 = .ok (.iload_n 3, 1) := by decide +kernel
theorem dX2_numberCellsOf_53 : decode cX2_numberCellsOf 53 = .ok (.iload_n 2, 1) := by decide +kernel
theorem dX2_numberCellsOf_54 : decode cX2_numberCellsOf 54 = .ok (.invokestatic 58, 3) := by decide +kernel
theorem dX2_numberCellsOf_57 : decode cX2_numberCellsOf 57 = .ok (.iload_n 1, 1) := by decide +kernel
theorem dX2_numberCellsOf_58 : decode cX2_numberCellsOf 58 = .ok (.iastore, 1) := by decide +kernel
theorem dX2_numberCellsOf_59 : decode cX2_numberCellsOf 59 = .ok (.iinc 3 1, 3) := by decide +kernel
theorem dX2_numberCellsOf_62 : decode cX2_numberCellsOf 62 = .ok (.goto (-31), 3) := by decide +kernel
theorem dX2_numberCellsOf_65 : decode cX2_numberCellsOf 65 = .ok (.iinc 2 1, 3) := by decide +kernel
theorem dX2_numberCellsOf_68 : decode cX2_numberCellsOf 68 = .ok (.goto (-61), 3) := by decide +kernel
theorem dX2_numberCellsOf_71 : decode cX2_numberCellsOf 71 = .ok (.return_, 1) := by decide +kernel
theorem dX2_findTurns_0 : decode cX2_findTurns 0 = .ok (.iconst 0, 1) := by decide +kernel
theorem dX2_findTurns_1 : decode cX2_findTurns 1 = .ok (.istore_n 3, 1) := by decide +kernel
theorem dX2_findTurns_2 : decode cX2_findTurns 2 = .ok (.iconst 0, 1) := by decide +kernel
theorem dX2_findTurns_3 : decode cX2_findTurns 3 = .ok (.istore 4, 2) := by decide +kernel
theorem dX2_findTurns_5 : decode cX2_findTurns 5 = .ok (.iload 4, 2) := by decide +kernel
theorem dX2_findTurns_7 : decode cX2_findTurns 7 = .ok (.iload_n 2, 1) := by decide +kernel
theorem dX2_findTurns_8 : decode cX2_findTurns 8 = .ok (.if_icmp .ge 73, 3) := by decide +kernel
theorem dX2_findTurns_11 : decode cX2_findTurns 11 = .ok (.iconst 0, 1) := by decide +kernel
theorem dX2_findTurns_12 : decode cX2_findTurns 12 = .ok (.istore 5, 2) := by decide +kernel
theorem dX2_findTurns_14 : decode cX2_findTurns 14 = .ok (.iload 5, 2) := by decide +kernel
theorem dX2_findTurns_16 : decode cX2_findTurns 16 = .ok (.iload_n 1, 1) := by decide +kernel
theorem dX2_findTurns_17 : decode cX2_findTurns 17 = .ok (.if_icmp .ge 58, 3) := by decide +kernel
theorem dX2_findTurns_20 : decode cX2_findTurns 20 = .ok (.aload_n 0, 1) := by decide +kernel
theorem dX2_findTurns_21 : decode cX2_findTurns 21 = .ok (.getfield 27, 3) := by decide +kernel
theorem dX2_findTurns_24 : decode cX2_findTurns 24 = .ok (.iload 5, 2) := by decide +kernel
theorem dX2_findTurns_26 : decode cX2_findTurns 26 = .ok (.iload 4, 2) := by decide +kernel
theorem dX2_findTurns_28 : decode cX2_findTurns 28 = .ok (.invokestatic 58, 3) := by decide +kernel
theorem dX2_findTurns_31 : decode cX2_findTurns 31 = .ok (.iaload, 1) := by decide +kernel
theorem dX2_findTurns_32 : decode cX2_findTurns 32 = .ok (.istore 6, 2) := by decide +kernel
theorem dX2_findTurns_34 : decode cX2_findTurns 34 = .ok (.aload_n 0, 1) := by decide +kernel
theorem dX2_findTurns_35 : decode cX2_findTurns 35 = .ok (.getfield 15, 3) := by decide +kernel
theorem dX2_findTurns_38 : decode cX2_findTurns 38 = .ok (.iload 6, 2) := by decide +kernel
theorem dX2_findTurns_40 : decode cX2_findTurns 40 = .ok (.iaload, 1) := by decide +kernel
theorem dX2_findTurns_41 : decode cX2_findTurns 41 = .ok (.iload 4, 2) := by decide +kernel
theorem dX2_findTurns_43 : decode cX2_findTurns 43 = .ok (.if_icmp .ne 26, 3) := by decide +kernel
theorem dX2_findTurns_46 : decode cX2_findTurns 46 = .ok (.aload_n 0, 1) := by decide +kernel
theorem dX2_findTurns_47 : decode cX2_findTurns 47 = .ok (.getfield 9, 3) := by decide +kernel
theorem dX2_findTurns_50 : decode cX2_findTurns 50 = .ok (.iload 6, 2) := by decide +kernel
theorem dX2_findTurns_52 : decode cX2_findTurns 52 = .ok (.iaload, 1) := by decide +kernel
theorem dX2_findTurns_53 : decode cX2_findTurns 53 = .ok (.iload 5, 2) := by decide +kernel
theorem dX2_findTurns_55 : decode cX2_findTurns 55 = .ok (.if_icmp .ne 14, 3) := by decide +kernel
theorem dX2_findTurns_58 : decode cX2_findTurns 58 = .ok (.aload_n 0, 1) := by decide +kernel
theorem dX2_findTurns_59 : decode cX2_findTurns 59 = .ok (.getfield 24, 3) := by decide +kernel
theorem dX2_findTurns_62 : decode cX2_findTurns 62 = .ok (.iload 6, 2) := by decide +kernel
theorem dX2_findTurns_64 : decode cX2_findTurns 64 = .ok (.iload_n 3, 1) := by decide +kernel
theorem dX2_findTurns_65 : decode cX2_findTurns 65 = .ok (.iastore, 1) := by decide +kernel
theorem dX2_findTurns_66 : decode cX2_findTurns 66 = .ok (.iinc 3 1, 3) := by decide +kernel
theorem dX2_findTurns_69 : decode cX2_findTurns 69 = .ok (.iinc 5 1, 3) := by decide +kernel
theorem dX2_findTurns_72 : decode cX2_findTurns 72 = .ok (.goto (-58), 3) := by decide +kernel
theorem dX2_findTurns_75 : decode cX2_findTurns 75 = .ok (.iinc 4 1, 3) := by decide +kernel
theorem dX2_findTurns_78 : decode cX2_findTurns 78 = .ok (.goto (-73), 3) := by decide +kernel
theorem dX2_findTurns_81 : decode cX2_findTurns 81 = .ok (.return_, 1) := by decide +kernel
theorem dX2_become_0 : decode cX2_become 0 = .ok (.aload_n 0, 1) := by decide +kernel
theorem dX2_become_1 : decode cX2_become 1 = .ok (.aload_n 1, 1) := by decide +kernel
theorem dX2_become_2 : decode cX2_become 2 = .ok (.getfield 30, 3) := by decide +kernel
theorem dX2_become_5 : decode cX2_become 5 = .ok (.putfield 30, 3) := by decide +kernel
theorem dX2_become_8 : decode cX2_become 8 = .ok (.aload_n 0, 1) := by decide +kernel
theorem dX2_become_9 : decode cX2_become 9 = .ok (.aload_n 1, 1) := by decide +kernel
theorem dX2_become_10 : decode cX2_become 10 = .ok (.getfield 34, 3) := by decide +kernel
theorem dX2_become_13 : decode cX2_become 13 = .ok (.putfield 34, 3) := by decide +kernel
theorem dX2_become_16 : decode cX2_become 16 = .ok (.aload_n 1, 1) := by decide +kernel
theorem dX2_become_17 : decode cX2_become 17 = .ok (.getfield 9, 3) := by decide +kernel
theorem dX2_become_20 : decode cX2_become 20 = .ok (.aload_n 0, 1) := by decide +kernel
theorem dX2_become_21 : decode cX2_become 21 = .ok (.getfield 9, 3) := by decide +kernel
theorem dX2_become_24 : decode cX2_become 24 = .ok (.invokestatic 62, 3) := by decide +kernel
theorem dX2_become_27 : decode cX2_become 27 = .ok (.aload_n 1, 1) := by decide +kernel
theorem dX2_become_28 : decode cX2_become 28 = .ok (.getfield 15, 3) := by decide +kernel
theorem dX2_become_31 : decode cX2_become 31 = .ok (.aload_n 0, 1) := by decide +kernel
theorem dX2_become_32 : decode cX2_become 32 = .ok (.getfield 15, 3) := by decide +kernel
theorem dX2_become_35 : decode cX2_become 35 = .ok (.invokestatic 62, 3) := by decide +kernel
theorem dX2_become_38 : decode cX2_become 38 = .ok (.aload_n 1, 1) := by decide +kernel
theorem dX2_become_39 : decode cX2_become 39 = .ok (.getfield 18, 3) := by decide +kernel
theorem dX2_become_42 : decode cX2_become 42 = .ok (.aload_n 0, 1) := by decide +kernel
theorem dX2_become_43 : decode cX2_become 43 = .ok (.getfield 18, 3) := by decide +kernel
theorem dX2_become_46 : decode cX2_become 46 = .ok (.invokestatic 62, 3) := by decide +kernel
theorem dX2_become_49 : decode cX2_become 49 = .ok (.aload_n 1, 1) := by decide +kernel
theorem dX2_become_50 : decode cX2_become 50 = .ok (.getfield 21, 3) := by decide +kernel
theorem dX2_become_53 : decode cX2_become 53 = .ok (.aload_n 0, 1) := by decide +kernel
theorem dX2_become_54 : decode cX2_become 54 = .ok (.getfield 21, 3) := by decide +kernel
theorem dX2_become_57 : decode cX2_become 57 = .ok (.invokestatic 62, 3) := by decide +kernel
theorem dX2_become_60 : decode cX2_become 60 = .ok (.aload_n 1, 1) := by decide +kernel
theorem dX2_become_61 : decode cX2_become 61 = .ok (.getfield 24, 3) := by decide +kernel
theorem dX2_become_64 : decode cX2_become 64 = .ok (.aload_n 0, 1) := by decide +kernel
theorem dX2_become_65 : decode cX2_become 65 = .ok (.getfield 24, 3) := by decide +kernel
theorem dX2_become_68 : decode cX2_become 68 = .ok (.invokestatic 62, 3) := by decide +kernel
theorem dX2_become_71 : decode cX2_become 71 = .ok (.aload_n 1, 1) := by decide +kernel
theorem dX2_become_72 : decode cX2_become 72 = .ok (.getfield 27, 3) := by decide +kernel
theorem dX2_become_75 : decode cX2_become 75 = .ok (.aload_n 0, 1) := by decide +kernel
theorem dX2_become_76 : decode cX2_become 76 = .ok (.getfield 27, 3) := by decide +kernel
theorem dX2_become_79 : decode cX2_become 79 = .ok (.invokestatic 62, 3) := by decide +kernel
theorem dX2_become_82 : decode cX2_become 82 = .ok (.return_, 1) := by decide +kernel
theorem dX3_init_0 : decode cX3_init 0 = .ok (.aload_n 0, 1) := by decide +kernel
theorem dX3_init_1 : decode cX3_init 1 = .ok (.invokespecial 3, 3) := by decide +kernel
theorem dX3_init_4 : decode cX3_init 4 = .ok (.aload_n 0, 1) := by decide +kernel
theorem dX3_init_5 : decode cX3_init 5 = .ok (.bipush 12, 2) := by decide +kernel
theorem dX3_init_7 : decode cX3_init 7 = .ok (.newarray .int, 2) := by decide +kernel
theorem dX3_init_9 : decode cX3_init 9 = .ok (.putfield 9, 3) := by decide +kernel
theorem dX3_init_12 : decode cX3_init 12 = .ok (.return_, 1) := by decide +kernel
theorem dX3_covers_0 : decode cX3_covers 0 = .ok (.iload_n 2, 1) := by decide +kernel
theorem dX3_covers_1 : decode cX3_covers 1 = .ok (.bipush 30, 2) := by decide +kernel
theorem dX3_covers_3 : decode cX3_covers 3 = .ok (.idiv, 1) := by decide +kernel
theorem dX3_covers_4 : decode cX3_covers 4 = .ok (.bipush 11, 2) := by decide +kernel
theorem dX3_covers_6 : decode cX3_covers 6 = .ok (.invokestatic 15, 3) := by decide +kernel
theorem dX3_covers_9 : decode cX3_covers 9 = .ok (.istore_n 3, 1) := by decide +kernel
theorem dX3_covers_10 : decode cX3_covers 10 = .ok (.iload_n 1, 1) := by decide +kernel
theorem dX3_covers_11 : decode cX3_covers 11 = .ok (.aload_n 0, 1) := by decide +kernel
theorem dX3_covers_12 : decode cX3_covers 12 = .ok (.getfield 9, 3) := by decide +kernel
theorem dX3_covers_15 : decode cX3_covers 15 = .ok (.iload_n 3, 1) := by decide +kernel
theorem dX3_covers_16 : decode cX3_covers 16 = .ok (.iaload, 1) := by decide +kernel
theorem dX3_covers_17 : decode cX3_covers 17 = .ok (.if_icmp .ge 7, 3) := by decide +kernel
theorem dX3_covers_20 : decode cX3_covers 20 = .ok (.iconst 1, 1) := by decide +kernel
theorem dX3_covers_21 : decode cX3_covers 21 = .ok (.goto 4, 3) := by decide +kernel
theorem dX3_covers_24 : decode cX3_covers 24 = .ok (.iconst 0, 1) := by decide +kernel
theorem dX3_covers_25 : decode cX3_covers 25 = .ok (.ireturn, 1) := by decide +kernel
theorem dX3_firstDayOver_0 : decode cX3_firstDayOver 0 = .ok (.iconst 0, 1) := by decide +kernel
theorem dX3_firstDayOver_1 : decode cX3_firstDayOver 1 = .ok (.istore_n 2, 1) := by decide +kernel
theorem dX3_firstDayOver_2 : decode cX3_firstDayOver 2 = .ok (.iload_n 2, 1) := by decide +kernel
theorem dX3_firstDayOver_3 : decode cX3_firstDayOver 3 = .ok (.bipush 12, 2) := by decide +kernel
theorem dX3_firstDayOver_5 : decode cX3_firstDayOver 5 = .ok (.if_icmp .ge 24, 3) := by decide +kernel
theorem dX3_firstDayOver_8 : decode cX3_firstDayOver 8 = .ok (.iload_n 1, 1) := by decide +kernel
theorem dX3_firstDayOver_9 : decode cX3_firstDayOver 9 = .ok (.aload_n 0, 1) := by decide +kernel
theorem dX3_firstDayOver_10 : decode cX3_firstDayOver 10 = .ok (.getfield 9, 3) := by decide +kernel
theorem dX3_firstDayOver_13 : decode cX3_firstDayOver 13 = .ok (.iload_n 2, 1) := by decide +kernel
theorem dX3_firstDayOver_14 : decode cX3_firstDayOver 14 = .ok (.iaload, 1) := by decide +kernel
theorem dX3_firstDayOver_15 : decode cX3_firstDayOver 15 = .ok (.if_icmp .ge 8, 3) := by decide +kernel
theorem dX3_firstDayOver_18 : decode cX3_firstDayOver 18 = .ok (.iload_n 2, 1) := by decide +kernel
theorem dX3_firstDayOver_19 : decode cX3_firstDayOver 19 = .ok (.bipush 30, 2) := by decide +kernel
theorem dX3_firstDayOver_21 : decode cX3_firstDayOver 21 = .ok (.imul, 1) := by decide +kernel
theorem dX3_firstDayOver_22 : decode cX3_firstDayOver 22 = .ok (.ireturn, 1) := by decide +kernel
theorem dX3_firstDayOver_23 : decode cX3_firstDayOver 23 = .ok (.iinc 2 1, 3) := by decide +kernel
theorem dX3_firstDayOver_26 : decode cX3_firstDayOver 26 = .ok (.goto (-24), 3) := by decide +kernel
theorem dX3_firstDayOver_29 : decode cX3_firstDayOver 29 = .ok (.iconst (-1), 1) := by decide +kernel
theorem dX3_firstDayOver_30 : decode cX3_firstDayOver 30 = .ok (.ireturn, 1) := by decide +kernel
theorem dX3_become_0 : decode cX3_become 0 = .ok (.aload_n 1, 1) := by decide +kernel
theorem dX3_become_1 : decode cX3_become 1 = .ok (.getfield 9, 3) := by decide +kernel
theorem dX3_become_4 : decode cX3_become 4 = .ok (.aload_n 0, 1) := by decide +kernel
theorem dX3_become_5 : decode cX3_become 5 = .ok (.getfield 9, 3) := by decide +kernel
theorem dX3_become_8 : decode cX3_become 8 = .ok (.invokestatic 21, 3) := by decide +kernel
theorem dX3_become_11 : decode cX3_become 11 = .ok (.return_, 1) := by decide +kernel
theorem dX4_init_0 : decode cX4_init 0 = .ok (.aload_n 0, 1) := by decide +kernel
theorem dX4_init_1 : decode cX4_init 1 = .ok (.invokespecial 3, 3) := by decide +kernel
theorem dX4_init_4 : decode cX4_init 4 = .ok (.aload_n 0, 1) := by decide +kernel
theorem dX4_init_5 : decode cX4_init 5 = .ok (.sipush 1296, 3) := by decide +kernel
theorem dX4_init_8 : decode cX4_init 8 = .ok (.newarray .int, 2) := by decide +kernel
theorem dX4_init_10 : decode cX4_init 10 = .ok (.putfield 11, 3) := by decide +kernel
theorem dX4_init_13 : decode cX4_init 13 = .ok (.aload_n 0, 1) := by decide +kernel
theorem dX4_init_14 : decode cX4_init 14 = .ok (.bipush 81, 2) := by decide +kernel
theorem dX4_init_16 : decode cX4_init 16 = .ok (.newarray .int, 2) := by decide +kernel
theorem dX4_init_18 : decode cX4_init 18 = .ok (.putfield 15, 3) := by decide +kernel
theorem dX4_init_21 : decode cX4_init 21 = .ok (.aload_n 0, 1) := by decide +kernel
theorem dX4_init_22 : decode cX4_init 22 = .ok (.bipush 8, 2) := by decide +kernel
theorem dX4_init_24 : decode cX4_init 24 = .ok (.newarray .int, 2) := by decide +kernel
theorem dX4_init_26 : decode cX4_init 26 = .ok (.putfield 18, 3) := by decide +kernel
theorem dX4_init_29 : decode cX4_init 29 = .ok (.aload_n 0, 1) := by decide +kernel
theorem dX4_init_30 : decode cX4_init 30 = .ok (.bipush 8, 2) := by decide +kernel
theorem dX4_init_32 : decode cX4_init 32 = .ok (.newarray .int, 2) := by decide +kernel
theorem dX4_init_34 : decode cX4_init 34 = .ok (.putfield 21, 3) := by decide +kernel
theorem dX4_init_37 : decode cX4_init 37 = .ok (.return_, 1) := by decide +kernel
theorem dX4_findsPlan_0 : decode cX4_findsPlan 0 = .ok (.aload_n 0, 1) := by decide +kernel
theorem dX4_findsPlan_1 : decode cX4_findsPlan 1 = .ok (.iload_n 2, 1) := by decide +kernel
theorem dX4_findsPlan_2 : decode cX4_findsPlan 2 = .ok (.putfield 24, 3) := by decide +kernel
theorem dX4_findsPlan_5 : decode cX4_findsPlan 5 = .ok (.aload_n 0, 1) := by decide +kernel
theorem dX4_findsPlan_6 : decode cX4_findsPlan 6 = .ok (.aload_n 1, 1) := by decide +kernel
theorem dX4_findsPlan_7 : decode cX4_findsPlan 7 = .ok (.invokevirtual 28, 3) := by decide +kernel
theorem dX4_findsPlan_10 : decode cX4_findsPlan 10 = .ok (.aload_n 0, 1) := by decide +kernel
theorem dX4_findsPlan_11 : decode cX4_findsPlan 11 = .ok (.aload_n 1, 1) := by decide +kernel
theorem dX4_findsPlan_12 : decode cX4_findsPlan 12 = .ok (.invokevirtual 32, 3) := by decide +kernel
theorem dX4_findsPlan_15 : decode cX4_findsPlan 15 = .ok (.iconst 0, 1) := by decide +kernel
theorem dX4_findsPlan_16 : decode cX4_findsPlan 16 = .ok (.istore_n 3, 1) := by decide +kernel
theorem dX4_findsPlan_17 : decode cX4_findsPlan 17 = .ok (.iload_n 3, 1) := by decide +kernel
theorem dX4_findsPlan_18 : decode cX4_findsPlan 18 = .ok (.aload_n 1, 1) := by decide +kernel
theorem dX4_findsPlan_19 : decode cX4_findsPlan 19 = .ok (.getfield 35, 3) := by decide +kernel
theorem dX4_findsPlan_22 : decode cX4_findsPlan 22 = .ok (.if_icmp .ge 34, 3) := by decide +kernel
theorem dX4_findsPlan_25 : decode cX4_findsPlan 25 = .ok (.iload_n 3, 1) := by decide +kernel
theorem dX4_findsPlan_26 : decode cX4_findsPlan 26 = .ok (.istore 4, 2) := by decide +kernel
theorem dX4_findsPlan_28 : decode cX4_findsPlan 28 = .ok (.iload 4, 2) := by decide +kernel
theorem dX4_findsPlan_30 : decode cX4_findsPlan 30 = .ok (.ifCond .lt 20, 3) := by decide +kernel
theorem dX4_findsPlan_33 : decode cX4_findsPlan 33 = .ok (.aload_n 0, 1) := by decide +kernel
theorem dX4_findsPlan_34 : decode cX4_findsPlan 34 = .ok (.iload 4, 2) := by decide +kernel
theorem dX4_findsPlan_36 : decode cX4_findsPlan 36 = .ok (.iload_n 3, 1) := by decide +kernel
theorem dX4_findsPlan_37 : decode cX4_findsPlan 37 = .ok (.aload_n 1, 1) := by decide +kernel
theorem dX4_findsPlan_38 : decode cX4_findsPlan 38 = .ok (.getfield 40, 3) := by decide +kernel
theorem dX4_findsPlan_41 : decode cX4_findsPlan 41 = .ok (.invokevirtual 43, 3) := by decide +kernel
theorem dX4_findsPlan_44 : decode cX4_findsPlan 44 = .ok (.iinc 4 (-1), 3) := by decide +kernel
theorem dX4_findsPlan_47 : decode cX4_findsPlan 47 = .ok (.goto (-19), 3) := by decide +kernel
theorem dX4_findsPlan_50 : decode cX4_findsPlan 50 = .ok (.iinc 3 1, 3) := by decide +kernel
theorem dX4_findsPlan_53 : decode cX4_findsPlan 53 = .ok (.goto (-36), 3) := by decide +kernel
theorem dX4_findsPlan_56 : decode cX4_findsPlan 56 = .ok (.aload_n 0, 1) := by decide +kernel
theorem dX4_findsPlan_57 : decode cX4_findsPlan 57 = .ok (.getfield 11, 3) := by decide +kernel
theorem dX4_findsPlan_60 : decode cX4_findsPlan 60 = .ok (.iconst 0, 1) := by decide +kernel
theorem dX4_findsPlan_61 : decode cX4_findsPlan 61 = .ok (.aload_n 1, 1) := by decide +kernel
theorem dX4_findsPlan_62 : decode cX4_findsPlan 62 = .ok (.getfield 35, 3) := by decide +kernel
theorem dX4_findsPlan_65 : decode cX4_findsPlan 65 = .ok (.iconst 1, 1) := by decide +kernel
theorem dX4_findsPlan_66 : decode cX4_findsPlan 66 = .ok (.isub, 1) := by decide +kernel
theorem dX4_findsPlan_67 : decode cX4_findsPlan 67 = .ok (.iconst 0, 1) := by decide +kernel
theorem dX4_findsPlan_68 : decode cX4_findsPlan 68 = .ok (.aload_n 1, 1) := by decide +kernel
theorem dX4_findsPlan_69 : decode cX4_findsPlan 69 = .ok (.getfield 40, 3) := by decide +kernel
theorem dX4_findsPlan_72 : decode cX4_findsPlan 72 = .ok (.iconst 1, 1) := by decide +kernel
theorem dX4_findsPlan_73 : decode cX4_findsPlan 73 = .ok (.isub, 1) := by decide +kernel
theorem dX4_findsPlan_74 : decode cX4_findsPlan 74 = .ok (.invokestatic 47, 3) := by decide +kernel
theorem dX4_findsPlan_77 : decode cX4_findsPlan 77 = .ok (.iaload, 1) := by decide +kernel
theorem dX4_findsPlan_78 : decode cX4_findsPlan 78 = .ok (.ldc 51, 2) := by decide +kernel
theorem dX4_findsPlan_80 : decode cX4_findsPlan 80 = .ok (.if_icmp .ge 7, 3) := by decide +kernel
theorem dX4_findsPlan_83 : decode cX4_findsPlan 83 = .ok (.iconst 1, 1) := by decide +kernel
theorem dX4_findsPlan_84 : decode cX4_findsPlan 84 = .ok (.goto 4, 3) := by decide +kernel
theorem dX4_findsPlan_87 : decode cX4_findsPlan 87 = .ok (.iconst 0, 1) := by decide +kernel
theorem dX4_findsPlan_88 : decode cX4_findsPlan 88 = .ok (.ireturn, 1) := by decide +kernel
theorem dX4_cutUp_0 : decode cX4_cutUp 0 = .ok (.aload_n 2, 1) := by decide +kernel
theorem dX4_cutUp_1 : decode cX4_cutUp 1 = .ok (.aload_n 1, 1) := by decide +kernel
theorem dX4_cutUp_2 : decode cX4_cutUp 2 = .ok (.getfield 35, 3) := by decide +kernel
theorem dX4_cutUp_5 : decode cX4_cutUp 5 = .ok (.aload_n 1, 1) := by decide +kernel
theorem dX4_cutUp_6 : decode cX4_cutUp 6 = .ok (.getfield 40, 3) := by decide +kernel
theorem dX4_cutUp_9 : decode cX4_cutUp 9 = .ok (.invokevirtual 52, 3) := by decide +kernel
theorem dX4_cutUp_12 : decode cX4_cutUp 12 = .ok (.iconst 0, 1) := by decide +kernel
theorem dX4_cutUp_13 : decode cX4_cutUp 13 = .ok (.istore_n 3, 1) := by decide +kernel
theorem dX4_cutUp_14 : decode cX4_cutUp 14 = .ok (.iconst 0, 1) := by decide +kernel
theorem dX4_cutUp_15 : decode cX4_cutUp 15 = .ok (.istore 4, 2) := by decide +kernel
theorem dX4_cutUp_17 : decode cX4_cutUp 17 = .ok (.iload 4, 2) := by decide +kernel
theorem dX4_cutUp_19 : decode cX4_cutUp 19 = .ok (.sipush 128, 3) := by decide +kernel
theorem dX4_cutUp_22 : decode cX4_cutUp 22 = .ok (.if_icmp .ge 29, 3) := by decide +kernel
theorem dX4_cutUp_25 : decode cX4_cutUp 25 = .ok (.iload_n 3, 1) := by decide +kernel
theorem dX4_cutUp_26 : decode cX4_cutUp 26 = .ok (.aload_n 2, 1) := by decide +kernel
theorem dX4_cutUp_27 : decode cX4_cutUp 27 = .ok (.getfield 58, 3) := by decide +kernel
theorem dX4_cutUp_30 : decode cX4_cutUp 30 = .ok (.if_icmp .ge 21, 3) := by decide +kernel
theorem dX4_cutUp_33 : decode cX4_cutUp 33 = .ok (.aload_n 0, 1) := by decide +kernel
theorem dX4_cutUp_34 : decode cX4_cutUp 34 = .ok (.aload_n 2, 1) := by decide +kernel
theorem dX4_cutUp_35 : decode cX4_cutUp 35 = .ok (.iload_n 3, 1) := by decide +kernel
theorem dX4_cutUp_36 : decode cX4_cutUp 36 = .ok (.invokevirtual 61, 3) := by decide +kernel
theorem dX4_cutUp_39 : decode cX4_cutUp 39 = .ok (.ifCond .ne 6, 3) := by decide +kernel
theorem dX4_cutUp_42 : decode cX4_cutUp 42 = .ok (.iinc 3 1, 3) := by decide +kernel
theorem dX4_cutUp_45 : decode cX4_cutUp 45 = .ok (.iinc 4 1, 3) := by decide +kernel
theorem dX4_cutUp_48 : decode cX4_cutUp 48 = .ok (.goto (-31), 3) := by decide +kernel
theorem dX4_cutUp_51 : decode cX4_cutUp 51 = .ok (.aload_n 2, 1) := by decide +kernel
theorem dX4_cutUp_52 : decode cX4_cutUp 52 = .ok (.invokevirtual 65, 3) := by decide +kernel
theorem dX4_cutUp_55 : decode cX4_cutUp 55 = .ok (.aload_n 2, 1) := by decide +kernel
theorem dX4_cutUp_56 : decode cX4_cutUp 56 = .ok (.aload_n 1, 1) := by decide +kernel
theorem dX4_cutUp_57 : decode cX4_cutUp 57 = .ok (.getfield 35, 3) := by decide +kernel
theorem dX4_cutUp_60 : decode cX4_cutUp 60 = .ok (.aload_n 1, 1) := by decide +kernel
theorem dX4_cutUp_61 : decode cX4_cutUp 61 = .ok (.getfield 40, 3) := by decide +kernel
theorem dX4_cutUp_64 : decode cX4_cutUp 64 = .ok (.invokevirtual 68, 3) := by decide +kernel
theorem dX4_cutUp_67 : decode cX4_cutUp 67 = .ok (.return_, 1) := by decide +kernel
theorem dX4_cutsFirst_0 : decode cX4_cutsFirst 0 = .ok (.aload_n 1, 1) := by decide +kernel
theorem dX4_cutsFirst_1 : decode cX4_cutsFirst 1 = .ok (.getfield 71, 3) := by decide +kernel
theorem dX4_cutsFirst_4 : decode cX4_cutsFirst 4 = .ok (.iload_n 2, 1) := by decide +kernel
theorem dX4_cutsFirst_5 : decode cX4_cutsFirst 5 = .ok (.iaload, 1) := by decide +kernel
theorem dX4_cutsFirst_6 : decode cX4_cutsFirst 6 = .ok (.istore_n 3, 1) := by decide +kernel
theorem dX4_cutsFirst_7 : decode cX4_cutsFirst 7 = .ok (.iload_n 3, 1) := by decide +kernel
theorem dX4_cutsFirst_8 : decode cX4_cutsFirst 8 = .ok (.aload_n 1, 1) := by decide +kernel
theorem dX4_cutsFirst_9 : decode cX4_cutsFirst 9 = .ok (.getfield 74, 3) := by decide +kernel
theorem dX4_cutsFirst_12 : decode cX4_cutsFirst 12 = .ok (.iload_n 2, 1) := by decide +kernel
theorem dX4_cutsFirst_13 : decode cX4_cutsFirst 13 = .ok (.iaload, 1) := by decide +kernel
theorem dX4_cutsFirst_14 : decode cX4_cutsFirst 14 = .ok (.iadd, 1) := by decide +kernel
theorem dX4_cutsFirst_15 : decode cX4_cutsFirst 15 = .ok (.iconst 1, 1) := by decide +kernel
theorem dX4_cutsFirst_16 : decode cX4_cutsFirst 16 = .ok (.isub, 1) := by decide +kernel
theorem dX4_cutsFirst_17 : decode cX4_cutsFirst 17 = .ok (.istore 4, 2) := by decide +kernel
theorem dX4_cutsFirst_19 : decode cX4_cutsFirst 19 = .ok (.aload_n 1, 1) := by decide +kernel
theorem dX4_cutsFirst_20 : decode cX4_cutsFirst 20 = .ok (.getfield 76, 3) := by decide +kernel
theorem dX4_cutsFirst_23 : decode cX4_cutsFirst 23 = .ok (.iload_n 2, 1) := by decide +kernel
theorem dX4_cutsFirst_24 : decode cX4_cutsFirst 24 = .ok (.iaload, 1) := by decide +kernel
theorem dX4_cutsFirst_25 : decode cX4_cutsFirst 25 = .ok (.istore 5, 2) := by decide +kernel
theorem dX4_cutsFirst_27 : decode cX4_cutsFirst 27 = .ok (.iload 5, 2) := by decide +kernel
theorem dX4_cutsFirst_29 : decode cX4_cutsFirst 29 = .ok (.aload_n 1, 1) := by decide +kernel
theorem dX4_cutsFirst_30 : decode cX4_cutsFirst 30 = .ok (.getfield 79, 3) := by decide +kernel
theorem dX4_cutsFirst_33 : decode cX4_cutsFirst 33 = .ok (.iload_n 2, 1) := by decide +kernel
theorem dX4_cutsFirst_34 : decode cX4_cutsFirst 34 = .ok (.iaload, 1) := by decide +kernel
theorem dX4_cutsFirst_35 : decode cX4_cutsFirst 35 = .ok (.iadd, 1) := by decide +kernel
theorem dX4_cutsFirst_36 : decode cX4_cutsFirst 36 = .ok (.iconst 1, 1) := by decide +kernel
theorem dX4_cutsFirst_37 : decode cX4_cutsFirst 37 = .ok (.isub, 1) := by decide +kernel
theorem dX4_cutsFirst_38 : decode cX4_cutsFirst 38 = .ok (.istore 6, 2) := by decide +kernel
theorem dX4_cutsFirst_40 : decode cX4_cutsFirst 40 = .ok (.aload_n 0, 1) := by decide +kernel
theorem dX4_cutsFirst_41 : decode cX4_cutsFirst 41 = .ok (.getfield 11, 3) := by decide +kernel
theorem dX4_cutsFirst_44 : decode cX4_cutsFirst 44 = .ok (.iload_n 3, 1) := by decide +kernel
theorem dX4_cutsFirst_45 : decode cX4_cutsFirst 45 = .ok (.iload 4, 2) := by decide +kernel
theorem dX4_cutsFirst_47 : decode cX4_cutsFirst 47 = .ok (.iload 5, 2) := by decide +kernel
theorem dX4_cutsFirst_49 : decode cX4_cutsFirst 49 = .ok (.iload 6, 2) := by decide +kernel
theorem dX4_cutsFirst_51 : decode cX4_cutsFirst 51 = .ok (.invokestatic 47, 3) := by decide +kernel
theorem dX4_cutsFirst_54 : decode cX4_cutsFirst 54 = .ok (.iaload, 1) := by decide +kernel
theorem dX4_cutsFirst_55 : decode cX4_cutsFirst 55 = .ok (.istore 7, 2) := by decide +kernel
theorem dX4_cutsFirst_57 : decode cX4_cutsFirst 57 = .ok (.iload 7, 2) := by decide +kernel
theorem dX4_cutsFirst_59 : decode cX4_cutsFirst 59 = .ok (.sipush 256, 3) := by decide +kernel
theorem dX4_cutsFirst_62 : decode cX4_cutsFirst 62 = .ok (.if_icmp .eq 12, 3) := by decide +kernel
theorem dX4_cutsFirst_65 : decode cX4_cutsFirst 65 = .ok (.aload_n 1, 1) := by decide +kernel
theorem dX4_cutsFirst_66 : decode cX4_cutsFirst 66 = .ok (.getfield 58, 3) := by decide +kernel
theorem dX4_cutsFirst_69 : decode cX4_cutsFirst 69 = .ok (.bipush 64, 2) := by decide +kernel
theorem dX4_cutsFirst_71 : decode cX4_cutsFirst 71 = .ok (.if_icmp .lt 5, 3) := by decide +kernel
theorem dX4_cutsFirst_74 : decode cX4_cutsFirst 74 = .ok (.iconst 0, 1) := by decide +kernel
theorem dX4_cutsFirst_75 : decode cX4_cutsFirst 75 = .ok (.ireturn, 1) := by decide +kernel
theorem dX4_cutsFirst_76 : decode cX4_cutsFirst 76 = .ok (.iload_n 3, 1) := by decide +kernel
theorem dX4_cutsFirst_77 : decode cX4_cutsFirst 77 = .ok (.istore 8, 2) := by decide +kernel
theorem dX4_cutsFirst_79 : decode cX4_cutsFirst 79 = .ok (.iload 8, 2) := by decide +kernel
theorem dX4_cutsFirst_81 : decode cX4_cutsFirst 81 = .ok (.iload 4, 2) := by decide +kernel
theorem dX4_cutsFirst_83 : decode cX4_cutsFirst 83 = .ok (.if_icmp .ge 36, 3) := by decide +kernel
theorem dX4_cutsFirst_86 : decode cX4_cutsFirst 86 = .ok (.aload_n 0, 1) := by decide +kernel
theorem dX4_cutsFirst_87 : decode cX4_cutsFirst 87 = .ok (.iload_n 3, 1) := by decide +kernel
theorem dX4_cutsFirst_88 : decode cX4_cutsFirst 88 = .ok (.iload 4, 2) := by decide +kernel
theorem dX4_cutsFirst_90 : decode cX4_cutsFirst 90 = .ok (.iload 5, 2) := by decide +kernel
theorem dX4_cutsFirst_92 : decode cX4_cutsFirst 92 = .ok (.iload 6, 2) := by decide +kernel
theorem dX4_cutsFirst_94 : decode cX4_cutsFirst 94 = .ok (.iload 8, 2) := by decide +kernel
theorem dX4_cutsFirst_96 : decode cX4_cutsFirst 96 = .ok (.invokevirtual 81, 3) := by decide +kernel
theorem dX4_cutsFirst_99 : decode cX4_cutsFirst 99 = .ok (.iload 7, 2) := by decide +kernel
theorem dX4_cutsFirst_101 : decode cX4_cutsFirst 101 = .ok (.if_icmp .ne 12, 3) := by decide +kernel
theorem dX4_cutsFirst_104 : decode cX4_cutsFirst 104 = .ok (.aload_n 1, 1) := by decide +kernel
theorem dX4_cutsFirst_105 : decode cX4_cutsFirst 105 = .ok (.iload_n 2, 1) := by decide +kernel
theorem dX4_cutsFirst_106 : decode cX4_cutsFirst 106 = .ok (.iload 8, 2) := by decide +kernel
theorem dX4_cutsFirst_108 : decode cX4_cutsFirst 108 = .ok (.invokevirtual 85, 3) := by decide +kernel
theorem dX4_cutsFirst_111 : decode cX4_cutsFirst 111 = .ok (.iconst 1, 1) := by decide +kernel
theorem dX4_cutsFirst_112 : decode cX4_cutsFirst 112 = .ok (.ireturn, 1) := by decide +kernel
theorem dX4_cutsFirst_113 : decode cX4_cutsFirst 113 = .ok (.iinc 8 1, 3) := by decide +kernel
theorem dX4_cutsFirst_116 : decode cX4_cutsFirst 116 = .ok (.goto (-37), 3) := by decide +kernel
theorem dX4_cutsFirst_119 : decode cX4_cutsFirst 119 = .ok (.iload 5, 2) := by decide +kernel
theorem dX4_cutsFirst_121 : decode cX4_cutsFirst 121 = .ok (.istore 8, 2) := by decide +kernel
theorem dX4_cutsFirst_123 : decode cX4_cutsFirst 123 = .ok (.iload 8, 2) := by decide +kernel
theorem dX4_cutsFirst_125 : decode cX4_cutsFirst 125 = .ok (.iload 6, 2) := by decide +kernel
theorem dX4_cutsFirst_127 : decode cX4_cutsFirst 127 = .ok (.if_icmp .ge 36, 3) := by decide +kernel
theorem dX4_cutsFirst_130 : decode cX4_cutsFirst 130 = .ok (.aload_n 0, 1) := by decide +kernel
theorem dX4_cutsFirst_131 : decode cX4_cutsFirst 131 = .ok (.iload_n 3, 1) := by decide +kernel
theorem dX4_cutsFirst_132 : decode cX4_cutsFirst 132 = .ok (.iload 4, 2) := by decide +kernel
theorem dX4_cutsFirst_134 : decode cX4_cutsFirst 134 = .ok (.iload 5, 2) := by decide +kernel
theorem dX4_cutsFirst_136 : decode cX4_cutsFirst 136 = .ok (.iload 6, 2) := by decide +kernel
theorem dX4_cutsFirst_138 : decode cX4_cutsFirst 138 = .ok (.iload 8, 2) := by decide +kernel
theorem dX4_cutsFirst_140 : decode cX4_cutsFirst 140 = .ok (.invokevirtual 88, 3) := by decide +kernel
theorem dX4_cutsFirst_143 : decode cX4_cutsFirst 143 = .ok (.iload 7, 2) := by decide +kernel
theorem dX4_cutsFirst_145 : decode cX4_cutsFirst 145 = .ok (.if_icmp .ne 12, 3) := by decide +kernel
theorem dX4_cutsFirst_148 : decode cX4_cutsFirst 148 = .ok (.aload_n 1, 1) := by decide +kernel
theorem dX4_cutsFirst_149 : decode cX4_cutsFirst 149 = .ok (.iload_n 2, 1) := by decide +kernel
theorem dX4_cutsFirst_150 : decode cX4_cutsFirst 150 = .ok (.iload 8, 2) := by decide +kernel
theorem dX4_cutsFirst_152 : decode cX4_cutsFirst 152 = .ok (.invokevirtual 91, 3) := by decide +kernel
theorem dX4_cutsFirst_155 : decode cX4_cutsFirst 155 = .ok (.iconst 1, 1) := by decide +kernel
theorem dX4_cutsFirst_156 : decode cX4_cutsFirst 156 = .ok (.ireturn, 1) := by decide +kernel
theorem dX4_cutsFirst_157 : decode cX4_cutsFirst 157 = .ok (.iinc 8 1, 3) := by decide +kernel
theorem dX4_cutsFirst_160 : decode cX4_cutsFirst 160 = .ok (.goto (-37), 3) := by decide +kernel
theorem dX4_cutsFirst_163 : decode cX4_cutsFirst 163 = .ok (.iconst 0, 1) := by decide +kernel
theorem dX4_cutsFirst_164 : decode cX4_cutsFirst 164 = .ok (.ireturn, 1) := by decide +kernel
theorem dX4_addUpWeights_0 : decode cX4_addUpWeights 0 = .ok (.iconst 0, 1) := by decide +kernel
theorem dX4_addUpWeights_1 : decode cX4_addUpWeights 1 = .ok (.istore_n 2, 1) := by decide +kernel
theorem dX4_addUpWeights_2 : decode cX4_addUpWeights 2 = .ok (.iload_n 2, 1) := by decide +kernel
theorem dX4_addUpWeights_3 : decode cX4_addUpWeights 3 = .ok (.aload_n 1, 1) := by decide +kernel
theorem dX4_addUpWeights_4 : decode cX4_addUpWeights 4 = .ok (.getfield 40, 3) := by decide +kernel
theorem dX4_addUpWeights_7 : decode cX4_addUpWeights 7 = .ok (.if_icmp .ge 73, 3) := by decide +kernel
theorem dX4_addUpWeights_10 : decode cX4_addUpWeights 10 = .ok (.iconst 0, 1) := by decide +kernel
theorem dX4_addUpWeights_11 : decode cX4_addUpWeights 11 = .ok (.istore_n 3, 1) := by decide +kernel
theorem dX4_addUpWeights_12 : decode cX4_addUpWeights 12 = .ok (.iconst 0, 1) := by decide +kernel
theorem dX4_addUpWeights_13 : decode cX4_addUpWeights 13 = .ok (.istore 4, 2) := by decide +kernel
theorem dX4_addUpWeights_15 : decode cX4_addUpWeights 15 = .ok (.iload 4, 2) := by decide +kernel
theorem dX4_addUpWeights_17 : decode cX4_addUpWeights 17 = .ok (.aload_n 1, 1) := by decide +kernel
theorem dX4_addUpWeights_18 : decode cX4_addUpWeights 18 = .ok (.getfield 35, 3) := by decide +kernel
theorem dX4_addUpWeights_21 : decode cX4_addUpWeights 21 = .ok (.if_icmp .ge 53, 3) := by decide +kernel
theorem dX4_addUpWeights_24 : decode cX4_addUpWeights 24 = .ok (.iload_n 3, 1) := by decide +kernel
theorem dX4_addUpWeights_25 : decode cX4_addUpWeights 25 = .ok (.aload_n 1, 1) := by decide +kernel
theorem dX4_addUpWeights_26 : decode cX4_addUpWeights 26 = .ok (.getfield 94, 3) := by decide +kernel
theorem dX4_addUpWeights_29 : decode cX4_addUpWeights 29 = .ok (.iload 4, 2) := by decide +kernel
theorem dX4_addUpWeights_31 : decode cX4_addUpWeights 31 = .ok (.iload_n 2, 1) := by decide +kernel
theorem dX4_addUpWeights_32 : decode cX4_addUpWeights 32 = .ok (.invokestatic 97, 3) := by decide +kernel
theorem dX4_addUpWeights_35 : decode cX4_addUpWeights 35 = .ok (.iaload, 1) := by decide +kernel
theorem dX4_addUpWeights_36 : decode cX4_addUpWeights 36 = .ok (.iadd, 1) := by decide +kernel
theorem dX4_addUpWeights_37 : decode cX4_addUpWeights 37 = .ok (.istore_n 3, 1) := by decide +kernel
theorem dX4_addUpWeights_38 : decode cX4_addUpWeights 38 = .ok (.aload_n 0, 1) := by decide +kernel
theorem dX4_addUpWeights_39 : decode cX4_addUpWeights 39 = .ok (.getfield 15, 3) := by decide +kernel
theorem dX4_addUpWeights_42 : decode cX4_addUpWeights 42 = .ok (.iload 4, 2) := by decide +kernel
theorem dX4_addUpWeights_44 : decode cX4_addUpWeights 44 = .ok (.iconst 1, 1) := by decide +kernel
theorem dX4_addUpWeights_45 : decode cX4_addUpWeights 45 = .ok (.iadd, 1) := by decide +kernel
theorem dX4_addUpWeights_46 : decode cX4_addUpWeights 46 = .ok (.iload_n 2, 1) := by decide +kernel
theorem dX4_addUpWeights_47 : decode cX4_addUpWeights 47 = .ok (.iconst 1, 1) := by decide +kernel
theorem dX4_addUpWeights_48 : decode cX4_addUpWeights 48 = .ok (.iadd, 1) := by decide +kernel
theorem dX4_addUpWeights_49 : decode cX4_addUpWeights 49 = .ok (.invokestatic 101, 3) := by decide +kernel
theorem dX4_addUpWeights_52 : decode cX4_addUpWeights 52 = .ok (.aload_n 0, 1) := by decide +kernel
theorem dX4_addUpWeights_53 : decode cX4_addUpWeights 53 = .ok (.getfield 15, 3) := by decide +kernel
theorem dX4_addUpWeights_56 : decode cX4_addUpWeights 56 = .ok (.iload 4, 2) := by decide +kernel
theorem dX4_addUpWeights_58 : decode cX4_addUpWeights 58 = .ok (.iconst 1, 1) := by decide +kernel
theorem dX4_addUpWeights_59 : decode cX4_addUpWeights 59 = .ok (.iadd, 1) := by decide +kernel
theorem dX4_addUpWeights_60 : decode cX4_addUpWeights 60 = .ok (.iload_n 2, 1) := by decide +kernel
theorem dX4_addUpWeights_61 : decode cX4_addUpWeights 61 = .ok (.invokestatic 101, 3) := by decide +kernel
theorem dX4_addUpWeights_64 : decode cX4_addUpWeights 64 = .ok (.iaload, 1) := by decide +kernel
theorem dX4_addUpWeights_65 : decode cX4_addUpWeights 65 = .ok (.iload_n 3, 1) := by decide +kernel
theorem dX4_addUpWeights_66 : decode cX4_addUpWeights 66 = .ok (.iadd, 1) := by decide +kernel
theorem dX4_addUpWeights_67 : decode cX4_addUpWeights 67 = .ok (.iastore, 1) := by decide +kernel
theorem dX4_addUpWeights_68 : decode cX4_addUpWeights 68 = .ok (.iinc 4 1, 3) := by decide +kernel
theorem dX4_addUpWeights_71 : decode cX4_addUpWeights 71 = .ok (.goto (-56), 3) := by decide +kernel
theorem dX4_addUpWeights_74 : decode cX4_addUpWeights 74 = .ok (.iinc 2 1, 3) := by decide +kernel
theorem dX4_addUpWeights_77 : decode cX4_addUpWeights 77 = .ok (.goto (-75), 3) := by decide +kernel
theorem dX4_addUpWeights_80 : decode cX4_addUpWeights 80 = .ok (.return_, 1) := by decide +kernel
theorem dX4_findBars_0 : decode cX4_findBars 0 = .ok (.aload_n 0, 1) := by decide +kernel
theorem dX4_findBars_1 : decode cX4_findBars 1 = .ok (.getfield 18, 3) := by decide +kernel
theorem dX4_findBars_4 : decode cX4_findBars 4 = .ok (.iconst 0, 1) := by decide +kernel
theorem dX4_findBars_5 : decode cX4_findBars 5 = .ok (.invokestatic 104, 3) := by decide +kernel
theorem dX4_findBars_8 : decode cX4_findBars 8 = .ok (.aload_n 0, 1) := by decide +kernel
theorem dX4_findBars_9 : decode cX4_findBars 9 = .ok (.getfield 21, 3) := by decide +kernel
theorem dX4_findBars_12 : decode cX4_findBars 12 = .ok (.iconst 0, 1) := by decide +kernel
theorem dX4_findBars_13 : decode cX4_findBars 13 = .ok (.invokestatic 104, 3) := by decide +kernel
end
section
theorem dX4_findBars_16 : decode cX4_findBars 16 = .ok (.iconst 0, 1) := by decide +kernel
theorem dX4_findBars_17 : decode cX4_findBars 17 = .ok (.istore_n 2, 1) := by decide +kernel
theorem dX4_findBars_18 : decode cX4_findBars 18 = .ok (.iload_n 2, 1) := by decide +kernel
theorem dX4_findBars_19 : decode cX4_findBars 19 = .ok (.aload_n 1, 1) := by decide +kernel
theorem dX4_findBars_20 : decode cX4_findBars 20 = .ok (.getfield 40, 3) := by decide +kernel
theorem dX4_findBars_23 : decode cX4_findBars 23 = .ok (.if_icmp .ge 32, 3) := by decide +kernel
theorem dX4_findBars_26 : decode cX4_findBars 26 = .ok (.iconst 0, 1) := by decide +kernel
theorem dX4_findBars_27 : decode cX4_findBars 27 = .ok (.istore_n 3, 1) := by decide +kernel
theorem dX4_findBars_28 : decode cX4_findBars 28 = .ok (.iload_n 3, 1) := by decide +kernel
theorem dX4_findBars_29 : decode cX4_findBars 29 = .ok (.aload_n 1, 1) := by decide +kernel
theorem dX4_findBars_30 : decode cX4_findBars 30 = .ok (.getfield 35, 3) := by decide +kernel
theorem dX4_findBars_33 : decode cX4_findBars 33 = .ok (.if_icmp .ge 16, 3) := by decide +kernel
theorem dX4_findBars_36 : decode cX4_findBars 36 = .ok (.aload_n 0, 1) := by decide +kernel
theorem dX4_findBars_37 : decode cX4_findBars 37 = .ok (.aload_n 1, 1) := by decide +kernel
theorem dX4_findBars_38 : decode cX4_findBars 38 = .ok (.iload_n 3, 1) := by decide +kernel
theorem dX4_findBars_39 : decode cX4_findBars 39 = .ok (.iload_n 2, 1) := by decide +kernel
theorem dX4_findBars_40 : decode cX4_findBars 40 = .ok (.invokevirtual 110, 3) := by decide +kernel
theorem dX4_findBars_43 : decode cX4_findBars 43 = .ok (.iinc 3 1, 3) := by decide +kernel
theorem dX4_findBars_46 : decode cX4_findBars 46 = .ok (.goto (-18), 3) := by decide +kernel
theorem dX4_findBars_49 : decode cX4_findBars 49 = .ok (.iinc 2 1, 3) := by decide +kernel
theorem dX4_findBars_52 : decode cX4_findBars 52 = .ok (.goto (-34), 3) := by decide +kernel
theorem dX4_findBars_55 : decode cX4_findBars 55 = .ok (.return_, 1) := by decide +kernel
theorem dX4_findBarsOf_0 : decode cX4_findBarsOf 0 = .ok (.iload_n 2, 1) := by decide +kernel
theorem dX4_findBarsOf_1 : decode cX4_findBarsOf 1 = .ok (.iload_n 3, 1) := by decide +kernel
theorem dX4_findBarsOf_2 : decode cX4_findBarsOf 2 = .ok (.invokestatic 97, 3) := by decide +kernel
theorem dX4_findBarsOf_5 : decode cX4_findBarsOf 5 = .ok (.istore 4, 2) := by decide +kernel
theorem dX4_findBarsOf_7 : decode cX4_findBarsOf 7 = .ok (.aload_n 1, 1) := by decide +kernel
theorem dX4_findBarsOf_8 : decode cX4_findBarsOf 8 = .ok (.iload_n 2, 1) := by decide +kernel
theorem dX4_findBarsOf_9 : decode cX4_findBarsOf 9 = .ok (.iconst 1, 1) := by decide +kernel
theorem dX4_findBarsOf_10 : decode cX4_findBarsOf 10 = .ok (.iadd, 1) := by decide +kernel
theorem dX4_findBarsOf_11 : decode cX4_findBarsOf 11 = .ok (.iload_n 3, 1) := by decide +kernel
theorem dX4_findBarsOf_12 : decode cX4_findBarsOf 12 = .ok (.invokevirtual 114, 3) := by decide +kernel
theorem dX4_findBarsOf_15 : decode cX4_findBarsOf 15 = .ok (.ifCond .eq 31, 3) := by decide +kernel
theorem dX4_findBarsOf_18 : decode cX4_findBarsOf 18 = .ok (.aload_n 1, 1) := by decide +kernel
theorem dX4_findBarsOf_19 : decode cX4_findBarsOf 19 = .ok (.iload 4, 2) := by decide +kernel
theorem dX4_findBarsOf_21 : decode cX4_findBarsOf 21 = .ok (.iload_n 2, 1) := by decide +kernel
theorem dX4_findBarsOf_22 : decode cX4_findBarsOf 22 = .ok (.iconst 1, 1) := by decide +kernel
theorem dX4_findBarsOf_23 : decode cX4_findBarsOf 23 = .ok (.iadd, 1) := by decide +kernel
theorem dX4_findBarsOf_24 : decode cX4_findBarsOf 24 = .ok (.iload_n 3, 1) := by decide +kernel
theorem dX4_findBarsOf_25 : decode cX4_findBarsOf 25 = .ok (.invokestatic 97, 3) := by decide +kernel
theorem dX4_findBarsOf_28 : decode cX4_findBarsOf 28 = .ok (.invokevirtual 118, 3) := by decide +kernel
theorem dX4_findBarsOf_31 : decode cX4_findBarsOf 31 = .ok (.ifCond .eq 15, 3) := by decide +kernel
theorem dX4_findBarsOf_34 : decode cX4_findBarsOf 34 = .ok (.aload_n 0, 1) := by decide +kernel
theorem dX4_findBarsOf_35 : decode cX4_findBarsOf 35 = .ok (.getfield 18, 3) := by decide +kernel
theorem dX4_findBarsOf_38 : decode cX4_findBarsOf 38 = .ok (.iload_n 2, 1) := by decide +kernel
theorem dX4_findBarsOf_39 : decode cX4_findBarsOf 39 = .ok (.dup2, 1) := by decide +kernel
theorem dX4_findBarsOf_40 : decode cX4_findBarsOf 40 = .ok (.iaload, 1) := by decide +kernel
theorem dX4_findBarsOf_41 : decode cX4_findBarsOf 41 = .ok (.iconst 1, 1) := by decide +kernel
theorem dX4_findBarsOf_42 : decode cX4_findBarsOf 42 = .ok (.iload_n 3, 1) := by decide +kernel
theorem dX4_findBarsOf_43 : decode cX4_findBarsOf 43 = .ok (.ishl, 1) := by decide +kernel
theorem dX4_findBarsOf_44 : decode cX4_findBarsOf 44 = .ok (.ior, 1) := by decide +kernel
theorem dX4_findBarsOf_45 : decode cX4_findBarsOf 45 = .ok (.iastore, 1) := by decide +kernel
theorem dX4_findBarsOf_46 : decode cX4_findBarsOf 46 = .ok (.aload_n 1, 1) := by decide +kernel
theorem dX4_findBarsOf_47 : decode cX4_findBarsOf 47 = .ok (.iload_n 2, 1) := by decide +kernel
theorem dX4_findBarsOf_48 : decode cX4_findBarsOf 48 = .ok (.iload_n 3, 1) := by decide +kernel
theorem dX4_findBarsOf_49 : decode cX4_findBarsOf 49 = .ok (.iconst 1, 1) := by decide +kernel
theorem dX4_findBarsOf_50 : decode cX4_findBarsOf 50 = .ok (.iadd, 1) := by decide +kernel
theorem dX4_findBarsOf_51 : decode cX4_findBarsOf 51 = .ok (.invokevirtual 114, 3) := by decide +kernel
theorem dX4_findBarsOf_54 : decode cX4_findBarsOf 54 = .ok (.ifCond .eq 31, 3) := by decide +kernel
theorem dX4_findBarsOf_57 : decode cX4_findBarsOf 57 = .ok (.aload_n 1, 1) := by decide +kernel
theorem dX4_findBarsOf_58 : decode cX4_findBarsOf 58 = .ok (.iload 4, 2) := by decide +kernel
theorem dX4_findBarsOf_60 : decode cX4_findBarsOf 60 = .ok (.iload_n 2, 1) := by decide +kernel
theorem dX4_findBarsOf_61 : decode cX4_findBarsOf 61 = .ok (.iload_n 3, 1) := by decide +kernel
theorem dX4_findBarsOf_62 : decode cX4_findBarsOf 62 = .ok (.iconst 1, 1) := by decide +kernel
theorem dX4_findBarsOf_63 : decode cX4_findBarsOf 63 = .ok (.iadd, 1) := by decide +kernel
theorem dX4_findBarsOf_64 : decode cX4_findBarsOf 64 = .ok (.invokestatic 97, 3) := by decide +kernel
theorem dX4_findBarsOf_67 : decode cX4_findBarsOf 67 = .ok (.invokevirtual 118, 3) := by decide +kernel
theorem dX4_findBarsOf_70 : decode cX4_findBarsOf 70 = .ok (.ifCond .eq 15, 3) := by decide +kernel
theorem dX4_findBarsOf_73 : decode cX4_findBarsOf 73 = .ok (.aload_n 0, 1) := by decide +kernel
theorem dX4_findBarsOf_74 : decode cX4_findBarsOf 74 = .ok (.getfield 21, 3) := by decide +kernel
theorem dX4_findBarsOf_77 : decode cX4_findBarsOf 77 = .ok (.iload_n 3, 1) := by decide +kernel
theorem dX4_findBarsOf_78 : decode cX4_findBarsOf 78 = .ok (.dup2, 1) := by decide +kernel
theorem dX4_findBarsOf_79 : decode cX4_findBarsOf 79 = .ok (.iaload, 1) := by decide +kernel
theorem dX4_findBarsOf_80 : decode cX4_findBarsOf 80 = .ok (.iconst 1, 1) := by decide +kernel
theorem dX4_findBarsOf_81 : decode cX4_findBarsOf 81 = .ok (.iload_n 2, 1) := by decide +kernel
theorem dX4_findBarsOf_82 : decode cX4_findBarsOf 82 = .ok (.ishl, 1) := by decide +kernel
theorem dX4_findBarsOf_83 : decode cX4_findBarsOf 83 = .ok (.ior, 1) := by decide +kernel
theorem dX4_findBarsOf_84 : decode cX4_findBarsOf 84 = .ok (.iastore, 1) := by decide +kernel
theorem dX4_findBarsOf_85 : decode cX4_findBarsOf 85 = .ok (.return_, 1) := by decide +kernel
theorem dX4_findCosts_0 : decode cX4_findCosts 0 = .ok (.iconst 0, 1) := by decide +kernel
theorem dX4_findCosts_1 : decode cX4_findCosts 1 = .ok (.istore 4, 2) := by decide +kernel
theorem dX4_findCosts_3 : decode cX4_findCosts 3 = .ok (.iload 4, 2) := by decide +kernel
theorem dX4_findCosts_5 : decode cX4_findCosts 5 = .ok (.iload_n 3, 1) := by decide +kernel
theorem dX4_findCosts_6 : decode cX4_findCosts 6 = .ok (.if_icmp .ge 48, 3) := by decide +kernel
theorem dX4_findCosts_9 : decode cX4_findCosts 9 = .ok (.iload 4, 2) := by decide +kernel
theorem dX4_findCosts_11 : decode cX4_findCosts 11 = .ok (.istore 5, 2) := by decide +kernel
theorem dX4_findCosts_13 : decode cX4_findCosts 13 = .ok (.iload 5, 2) := by decide +kernel
theorem dX4_findCosts_15 : decode cX4_findCosts 15 = .ok (.ifCond .lt 33, 3) := by decide +kernel
theorem dX4_findCosts_18 : decode cX4_findCosts 18 = .ok (.aload_n 0, 1) := by decide +kernel
theorem dX4_findCosts_19 : decode cX4_findCosts 19 = .ok (.getfield 11, 3) := by decide +kernel
theorem dX4_findCosts_22 : decode cX4_findCosts 22 = .ok (.iload_n 1, 1) := by decide +kernel
theorem dX4_findCosts_23 : decode cX4_findCosts 23 = .ok (.iload_n 2, 1) := by decide +kernel
theorem dX4_findCosts_24 : decode cX4_findCosts 24 = .ok (.iload 5, 2) := by decide +kernel
theorem dX4_findCosts_26 : decode cX4_findCosts 26 = .ok (.iload 4, 2) := by decide +kernel
theorem dX4_findCosts_28 : decode cX4_findCosts 28 = .ok (.invokestatic 47, 3) := by decide +kernel
theorem dX4_findCosts_31 : decode cX4_findCosts 31 = .ok (.aload_n 0, 1) := by decide +kernel
theorem dX4_findCosts_32 : decode cX4_findCosts 32 = .ok (.iload_n 1, 1) := by decide +kernel
theorem dX4_findCosts_33 : decode cX4_findCosts 33 = .ok (.iload_n 2, 1) := by decide +kernel
theorem dX4_findCosts_34 : decode cX4_findCosts 34 = .ok (.iload 5, 2) := by decide +kernel
theorem dX4_findCosts_36 : decode cX4_findCosts 36 = .ok (.iload 4, 2) := by decide +kernel
theorem dX4_findCosts_38 : decode cX4_findCosts 38 = .ok (.invokevirtual 121, 3) := by decide +kernel
theorem dX4_findCosts_41 : decode cX4_findCosts 41 = .ok (.iastore, 1) := by decide +kernel
theorem dX4_findCosts_42 : decode cX4_findCosts 42 = .ok (.iinc 5 (-1), 3) := by decide +kernel
theorem dX4_findCosts_45 : decode cX4_findCosts 45 = .ok (.goto (-32), 3) := by decide +kernel
theorem dX4_findCosts_48 : decode cX4_findCosts 48 = .ok (.iinc 4 1, 3) := by decide +kernel
theorem dX4_findCosts_51 : decode cX4_findCosts 51 = .ok (.goto (-48), 3) := by decide +kernel
theorem dX4_findCosts_54 : decode cX4_findCosts 54 = .ok (.return_, 1) := by decide +kernel
theorem dX4_leastCost_0 : decode cX4_leastCost 0 = .ok (.aload_n 0, 1) := by decide +kernel
theorem dX4_leastCost_1 : decode cX4_leastCost 1 = .ok (.iload_n 1, 1) := by decide +kernel
theorem dX4_leastCost_2 : decode cX4_leastCost 2 = .ok (.iload_n 2, 1) := by decide +kernel
theorem dX4_leastCost_3 : decode cX4_leastCost 3 = .ok (.iload_n 3, 1) := by decide +kernel
theorem dX4_leastCost_4 : decode cX4_leastCost 4 = .ok (.iload 4, 2) := by decide +kernel
theorem dX4_leastCost_6 : decode cX4_leastCost 6 = .ok (.invokevirtual 124, 3) := by decide +kernel
theorem dX4_leastCost_9 : decode cX4_leastCost 9 = .ok (.aload_n 0, 1) := by decide +kernel
theorem dX4_leastCost_10 : decode cX4_leastCost 10 = .ok (.getfield 24, 3) := by decide +kernel
theorem dX4_leastCost_13 : decode cX4_leastCost 13 = .ok (.if_icmp .gt 7, 3) := by decide +kernel
theorem dX4_leastCost_16 : decode cX4_leastCost 16 = .ok (.sipush 256, 3) := by decide +kernel
theorem dX4_leastCost_19 : decode cX4_leastCost 19 = .ok (.ireturn, 1) := by decide +kernel
theorem dX4_leastCost_20 : decode cX4_leastCost 20 = .ok (.ldc 51, 2) := by decide +kernel
theorem dX4_leastCost_22 : decode cX4_leastCost 22 = .ok (.istore 5, 2) := by decide +kernel
theorem dX4_leastCost_24 : decode cX4_leastCost 24 = .ok (.iload_n 1, 1) := by decide +kernel
theorem dX4_leastCost_25 : decode cX4_leastCost 25 = .ok (.istore 6, 2) := by decide +kernel
theorem dX4_leastCost_27 : decode cX4_leastCost 27 = .ok (.iload 6, 2) := by decide +kernel
theorem dX4_leastCost_29 : decode cX4_leastCost 29 = .ok (.iload_n 2, 1) := by decide +kernel
theorem dX4_leastCost_30 : decode cX4_leastCost 30 = .ok (.if_icmp .ge 27, 3) := by decide +kernel
theorem dX4_leastCost_33 : decode cX4_leastCost 33 = .ok (.iload 5, 2) := by decide +kernel
theorem dX4_leastCost_35 : decode cX4_leastCost 35 = .ok (.aload_n 0, 1) := by decide +kernel
theorem dX4_leastCost_36 : decode cX4_leastCost 36 = .ok (.iload_n 1, 1) := by decide +kernel
theorem dX4_leastCost_37 : decode cX4_leastCost 37 = .ok (.iload_n 2, 1) := by decide +kernel
theorem dX4_leastCost_38 : decode cX4_leastCost 38 = .ok (.iload_n 3, 1) := by decide +kernel
theorem dX4_leastCost_39 : decode cX4_leastCost 39 = .ok (.iload 4, 2) := by decide +kernel
theorem dX4_leastCost_41 : decode cX4_leastCost 41 = .ok (.iload 6, 2) := by decide +kernel
theorem dX4_leastCost_43 : decode cX4_leastCost 43 = .ok (.invokevirtual 81, 3) := by decide +kernel
theorem dX4_leastCost_46 : decode cX4_leastCost 46 = .ok (.invokestatic 127, 3) := by decide +kernel
theorem dX4_leastCost_49 : decode cX4_leastCost 49 = .ok (.istore 5, 2) := by decide +kernel
theorem dX4_leastCost_51 : decode cX4_leastCost 51 = .ok (.iinc 6 1, 3) := by decide +kernel
theorem dX4_leastCost_54 : decode cX4_leastCost 54 = .ok (.goto (-27), 3) := by decide +kernel
theorem dX4_leastCost_57 : decode cX4_leastCost 57 = .ok (.iload_n 3, 1) := by decide +kernel
theorem dX4_leastCost_58 : decode cX4_leastCost 58 = .ok (.istore 6, 2) := by decide +kernel
theorem dX4_leastCost_60 : decode cX4_leastCost 60 = .ok (.iload 6, 2) := by decide +kernel
theorem dX4_leastCost_62 : decode cX4_leastCost 62 = .ok (.iload 4, 2) := by decide +kernel
theorem dX4_leastCost_64 : decode cX4_leastCost 64 = .ok (.if_icmp .ge 27, 3) := by decide +kernel
theorem dX4_leastCost_67 : decode cX4_leastCost 67 = .ok (.iload 5, 2) := by decide +kernel
theorem dX4_leastCost_69 : decode cX4_leastCost 69 = .ok (.aload_n 0, 1) := by decide +kernel
theorem dX4_leastCost_70 : decode cX4_leastCost 70 = .ok (.iload_n 1, 1) := by decide +kernel
theorem dX4_leastCost_71 : decode cX4_leastCost 71 = .ok (.iload_n 2, 1) := by decide +kernel
theorem dX4_leastCost_72 : decode cX4_leastCost 72 = .ok (.iload_n 3, 1) := by decide +kernel
theorem dX4_leastCost_73 : decode cX4_leastCost 73 = .ok (.iload 4, 2) := by decide +kernel
theorem dX4_leastCost_75 : decode cX4_leastCost 75 = .ok (.iload 6, 2) := by decide +kernel
theorem dX4_leastCost_77 : decode cX4_leastCost 77 = .ok (.invokevirtual 88, 3) := by decide +kernel
theorem dX4_leastCost_80 : decode cX4_leastCost 80 = .ok (.invokestatic 127, 3) := by decide +kernel
theorem dX4_leastCost_83 : decode cX4_leastCost 83 = .ok (.istore 5, 2) := by decide +kernel
theorem dX4_leastCost_85 : decode cX4_leastCost 85 = .ok (.iinc 6 1, 3) := by decide +kernel
theorem dX4_leastCost_88 : decode cX4_leastCost 88 = .ok (.goto (-28), 3) := by decide +kernel
theorem dX4_leastCost_91 : decode cX4_leastCost 91 = .ok (.iload 5, 2) := by decide +kernel
theorem dX4_leastCost_93 : decode cX4_leastCost 93 = .ok (.ireturn, 1) := by decide +kernel
theorem dX4_uprightCost_0 : decode cX4_uprightCost 0 = .ok (.aload_n 0, 1) := by decide +kernel
theorem dX4_uprightCost_1 : decode cX4_uprightCost 1 = .ok (.getfield 18, 3) := by decide +kernel
theorem dX4_uprightCost_4 : decode cX4_uprightCost 4 = .ok (.iload 5, 2) := by decide +kernel
theorem dX4_uprightCost_6 : decode cX4_uprightCost 6 = .ok (.iaload, 1) := by decide +kernel
theorem dX4_uprightCost_7 : decode cX4_uprightCost 7 = .ok (.iload_n 3, 1) := by decide +kernel
theorem dX4_uprightCost_8 : decode cX4_uprightCost 8 = .ok (.iload 4, 2) := by decide +kernel
theorem dX4_uprightCost_10 : decode cX4_uprightCost 10 = .ok (.invokestatic 132, 3) := by decide +kernel
theorem dX4_uprightCost_13 : decode cX4_uprightCost 13 = .ok (.ifCond .eq 6, 3) := by decide +kernel
theorem dX4_uprightCost_16 : decode cX4_uprightCost 16 = .ok (.ldc 51, 2) := by decide +kernel
theorem dX4_uprightCost_18 : decode cX4_uprightCost 18 = .ok (.ireturn, 1) := by decide +kernel
theorem dX4_uprightCost_19 : decode cX4_uprightCost 19 = .ok (.aload_n 0, 1) := by decide +kernel
theorem dX4_uprightCost_20 : decode cX4_uprightCost 20 = .ok (.getfield 11, 3) := by decide +kernel
theorem dX4_uprightCost_23 : decode cX4_uprightCost 23 = .ok (.iload_n 1, 1) := by decide +kernel
theorem dX4_uprightCost_24 : decode cX4_uprightCost 24 = .ok (.iload 5, 2) := by decide +kernel
theorem dX4_uprightCost_26 : decode cX4_uprightCost 26 = .ok (.iload_n 3, 1) := by decide +kernel
theorem dX4_uprightCost_27 : decode cX4_uprightCost 27 = .ok (.iload 4, 2) := by decide +kernel
theorem dX4_uprightCost_29 : decode cX4_uprightCost 29 = .ok (.invokestatic 47, 3) := by decide +kernel
theorem dX4_uprightCost_32 : decode cX4_uprightCost 32 = .ok (.iaload, 1) := by decide +kernel
theorem dX4_uprightCost_33 : decode cX4_uprightCost 33 = .ok (.aload_n 0, 1) := by decide +kernel
theorem dX4_uprightCost_34 : decode cX4_uprightCost 34 = .ok (.getfield 11, 3) := by decide +kernel
theorem dX4_uprightCost_37 : decode cX4_uprightCost 37 = .ok (.iload 5, 2) := by decide +kernel
theorem dX4_uprightCost_39 : decode cX4_uprightCost 39 = .ok (.iconst 1, 1) := by decide +kernel
theorem dX4_uprightCost_40 : decode cX4_uprightCost 40 = .ok (.iadd, 1) := by decide +kernel
theorem dX4_uprightCost_41 : decode cX4_uprightCost 41 = .ok (.iload_n 2, 1) := by decide +kernel
theorem dX4_uprightCost_42 : decode cX4_uprightCost 42 = .ok (.iload_n 3, 1) := by decide +kernel
theorem dX4_uprightCost_43 : decode cX4_uprightCost 43 = .ok (.iload 4, 2) := by decide +kernel
theorem dX4_uprightCost_45 : decode cX4_uprightCost 45 = .ok (.invokestatic 47, 3) := by decide +kernel
theorem dX4_uprightCost_48 : decode cX4_uprightCost 48 = .ok (.iaload, 1) := by decide +kernel
theorem dX4_uprightCost_49 : decode cX4_uprightCost 49 = .ok (.iadd, 1) := by decide +kernel
theorem dX4_uprightCost_50 : decode cX4_uprightCost 50 = .ok (.iload 4, 2) := by decide +kernel
theorem dX4_uprightCost_52 : decode cX4_uprightCost 52 = .ok (.iadd, 1) := by decide +kernel
theorem dX4_uprightCost_53 : decode cX4_uprightCost 53 = .ok (.iload_n 3, 1) := by decide +kernel
theorem dX4_uprightCost_54 : decode cX4_uprightCost 54 = .ok (.isub, 1) := by decide +kernel
theorem dX4_uprightCost_55 : decode cX4_uprightCost 55 = .ok (.iconst 1, 1) := by decide +kernel
theorem dX4_uprightCost_56 : decode cX4_uprightCost 56 = .ok (.iadd, 1) := by decide +kernel
theorem dX4_uprightCost_57 : decode cX4_uprightCost 57 = .ok (.ireturn, 1) := by decide +kernel
theorem dX4_levelCost_0 : decode cX4_levelCost 0 = .ok (.aload_n 0, 1) := by decide +kernel
theorem dX4_levelCost_1 : decode cX4_levelCost 1 = .ok (.getfield 21, 3) := by decide +kernel
theorem dX4_levelCost_4 : decode cX4_levelCost 4 = .ok (.iload 5, 2) := by decide +kernel
theorem dX4_levelCost_6 : decode cX4_levelCost 6 = .ok (.iaload, 1) := by decide +kernel
theorem dX4_levelCost_7 : decode cX4_levelCost 7 = .ok (.iload_n 1, 1) := by decide +kernel
theorem dX4_levelCost_8 : decode cX4_levelCost 8 = .ok (.iload_n 2, 1) := by decide +kernel
theorem dX4_levelCost_9 : decode cX4_levelCost 9 = .ok (.invokestatic 132, 3) := by decide +kernel
theorem dX4_levelCost_12 : decode cX4_levelCost 12 = .ok (.ifCond .eq 6, 3) := by decide +kernel
theorem dX4_levelCost_15 : decode cX4_levelCost 15 = .ok (.ldc 51, 2) := by decide +kernel
theorem dX4_levelCost_17 : decode cX4_levelCost 17 = .ok (.ireturn, 1) := by decide +kernel
theorem dX4_levelCost_18 : decode cX4_levelCost 18 = .ok (.aload_n 0, 1) := by decide +kernel
theorem dX4_levelCost_19 : decode cX4_levelCost 19 = .ok (.getfield 11, 3) := by decide +kernel
theorem dX4_levelCost_22 : decode cX4_levelCost 22 = .ok (.iload_n 1, 1) := by decide +kernel
theorem dX4_levelCost_23 : decode cX4_levelCost 23 = .ok (.iload_n 2, 1) := by decide +kernel
theorem dX4_levelCost_24 : decode cX4_levelCost 24 = .ok (.iload_n 3, 1) := by decide +kernel
theorem dX4_levelCost_25 : decode cX4_levelCost 25 = .ok (.iload 5, 2) := by decide +kernel
theorem dX4_levelCost_27 : decode cX4_levelCost 27 = .ok (.invokestatic 47, 3) := by decide +kernel
theorem dX4_levelCost_30 : decode cX4_levelCost 30 = .ok (.iaload, 1) := by decide +kernel
theorem dX4_levelCost_31 : decode cX4_levelCost 31 = .ok (.aload_n 0, 1) := by decide +kernel
theorem dX4_levelCost_32 : decode cX4_levelCost 32 = .ok (.getfield 11, 3) := by decide +kernel
theorem dX4_levelCost_35 : decode cX4_levelCost 35 = .ok (.iload_n 1, 1) := by decide +kernel
theorem dX4_levelCost_36 : decode cX4_levelCost 36 = .ok (.iload_n 2, 1) := by decide +kernel
theorem dX4_levelCost_37 : decode cX4_levelCost 37 = .ok (.iload 5, 2) := by decide +kernel
theorem dX4_levelCost_39 : decode cX4_levelCost 39 = .ok (.iconst 1, 1) := by decide +kernel
theorem dX4_levelCost_40 : decode cX4_levelCost 40 = .ok (.iadd, 1) := by decide +kernel
theorem dX4_levelCost_41 : decode cX4_levelCost 41 = .ok (.iload 4, 2) := by decide +kernel
theorem dX4_levelCost_43 : decode cX4_levelCost 43 = .ok (.invokestatic 47, 3) := by decide +kernel
theorem dX4_levelCost_46 : decode cX4_levelCost 46 = .ok (.iaload, 1) := by decide +kernel
theorem dX4_levelCost_47 : decode cX4_levelCost 47 = .ok (.iadd, 1) := by decide +kernel
theorem dX4_levelCost_48 : decode cX4_levelCost 48 = .ok (.iload_n 2, 1) := by decide +kernel
theorem dX4_levelCost_49 : decode cX4_levelCost 49 = .ok (.iadd, 1) := by decide +kernel
theorem dX4_levelCost_50 : decode cX4_levelCost 50 = .ok (.iload_n 1, 1) := by decide +kernel
theorem dX4_levelCost_51 : decode cX4_levelCost 51 = .ok (.isub, 1) := by decide +kernel
theorem dX4_levelCost_52 : decode cX4_levelCost 52 = .ok (.iconst 1, 1) := by decide +kernel
theorem dX4_levelCost_53 : decode cX4_levelCost 53 = .ok (.iadd, 1) := by decide +kernel
theorem dX4_levelCost_54 : decode cX4_levelCost 54 = .ok (.ireturn, 1) := by decide +kernel
theorem dX4_isBarred_0 : decode cX4_isBarred 0 = .ok (.iload_n 0, 1) := by decide +kernel
theorem dX4_isBarred_1 : decode cX4_isBarred 1 = .ok (.iload_n 1, 1) := by decide +kernel
theorem dX4_isBarred_2 : decode cX4_isBarred 2 = .ok (.ishr, 1) := by decide +kernel
theorem dX4_isBarred_3 : decode cX4_isBarred 3 = .ok (.iconst 1, 1) := by decide +kernel
theorem dX4_isBarred_4 : decode cX4_isBarred 4 = .ok (.iload_n 2, 1) := by decide +kernel
theorem dX4_isBarred_5 : decode cX4_isBarred 5 = .ok (.iload_n 1, 1) := by decide +kernel
theorem dX4_isBarred_6 : decode cX4_isBarred 6 = .ok (.isub, 1) := by decide +kernel
theorem dX4_isBarred_7 : decode cX4_isBarred 7 = .ok (.iconst 1, 1) := by decide +kernel
theorem dX4_isBarred_8 : decode cX4_isBarred 8 = .ok (.iadd, 1) := by decide +kernel
theorem dX4_isBarred_9 : decode cX4_isBarred 9 = .ok (.ishl, 1) := by decide +kernel
theorem dX4_isBarred_10 : decode cX4_isBarred 10 = .ok (.iconst 1, 1) := by decide +kernel
theorem dX4_isBarred_11 : decode cX4_isBarred 11 = .ok (.isub, 1) := by decide +kernel
theorem dX4_isBarred_12 : decode cX4_isBarred 12 = .ok (.iand, 1) := by decide +kernel
theorem dX4_isBarred_13 : decode cX4_isBarred 13 = .ok (.ifCond .eq 7, 3) := by decide +kernel
theorem dX4_isBarred_16 : decode cX4_isBarred 16 = .ok (.iconst 1, 1) := by decide +kernel
theorem dX4_isBarred_17 : decode cX4_isBarred 17 = .ok (.goto 4, 3) := by decide +kernel
theorem dX4_isBarred_20 : decode cX4_isBarred 20 = .ok (.iconst 0, 1) := by decide +kernel
theorem dX4_isBarred_21 : decode cX4_isBarred 21 = .ok (.ireturn, 1) := by decide +kernel
theorem dX4_weightOfPart_0 : decode cX4_weightOfPart 0 = .ok (.aload_n 0, 1) := by decide +kernel
theorem dX4_weightOfPart_1 : decode cX4_weightOfPart 1 = .ok (.getfield 15, 3) := by decide +kernel
theorem dX4_weightOfPart_4 : decode cX4_weightOfPart 4 = .ok (.iload_n 2, 1) := by decide +kernel
theorem dX4_weightOfPart_5 : decode cX4_weightOfPart 5 = .ok (.iconst 1, 1) := by decide +kernel
theorem dX4_weightOfPart_6 : decode cX4_weightOfPart 6 = .ok (.iadd, 1) := by decide +kernel
theorem dX4_weightOfPart_7 : decode cX4_weightOfPart 7 = .ok (.iload 4, 2) := by decide +kernel
theorem dX4_weightOfPart_9 : decode cX4_weightOfPart 9 = .ok (.iconst 1, 1) := by decide +kernel
theorem dX4_weightOfPart_10 : decode cX4_weightOfPart 10 = .ok (.iadd, 1) := by decide +kernel
theorem dX4_weightOfPart_11 : decode cX4_weightOfPart 11 = .ok (.invokestatic 101, 3) := by decide +kernel
theorem dX4_weightOfPart_14 : decode cX4_weightOfPart 14 = .ok (.iaload, 1) := by decide +kernel
theorem dX4_weightOfPart_15 : decode cX4_weightOfPart 15 = .ok (.aload_n 0, 1) := by decide +kernel
theorem dX4_weightOfPart_16 : decode cX4_weightOfPart 16 = .ok (.getfield 15, 3) := by decide +kernel
theorem dX4_weightOfPart_19 : decode cX4_weightOfPart 19 = .ok (.iload_n 1, 1) := by decide +kernel
theorem dX4_weightOfPart_20 : decode cX4_weightOfPart 20 = .ok (.iload 4, 2) := by decide +kernel
theorem dX4_weightOfPart_22 : decode cX4_weightOfPart 22 = .ok (.iconst 1, 1) := by decide +kernel
theorem dX4_weightOfPart_23 : decode cX4_weightOfPart 23 = .ok (.iadd, 1) := by decide +kernel
theorem dX4_weightOfPart_24 : decode cX4_weightOfPart 24 = .ok (.invokestatic 101, 3) := by decide +kernel
theorem dX4_weightOfPart_27 : decode cX4_weightOfPart 27 = .ok (.iaload, 1) := by decide +kernel
theorem dX4_weightOfPart_28 : decode cX4_weightOfPart 28 = .ok (.isub, 1) := by decide +kernel
theorem dX4_weightOfPart_29 : decode cX4_weightOfPart 29 = .ok (.aload_n 0, 1) := by decide +kernel
theorem dX4_weightOfPart_30 : decode cX4_weightOfPart 30 = .ok (.getfield 15, 3) := by decide +kernel
theorem dX4_weightOfPart_33 : decode cX4_weightOfPart 33 = .ok (.iload_n 2, 1) := by decide +kernel
theorem dX4_weightOfPart_34 : decode cX4_weightOfPart 34 = .ok (.iconst 1, 1) := by decide +kernel
theorem dX4_weightOfPart_35 : decode cX4_weightOfPart 35 = .ok (.iadd, 1) := by decide +kernel
theorem dX4_weightOfPart_36 : decode cX4_weightOfPart 36 = .ok (.iload_n 3, 1) := by decide +kernel
theorem dX4_weightOfPart_37 : decode cX4_weightOfPart 37 = .ok (.invokestatic 101, 3) := by decide +kernel
theorem dX4_weightOfPart_40 : decode cX4_weightOfPart 40 = .ok (.iaload, 1) := by decide +kernel
theorem dX4_weightOfPart_41 : decode cX4_weightOfPart 41 = .ok (.isub, 1) := by decide +kernel
theorem dX4_weightOfPart_42 : decode cX4_weightOfPart 42 = .ok (.aload_n 0, 1) := by decide +kernel
theorem dX4_weightOfPart_43 : decode cX4_weightOfPart 43 = .ok (.getfield 15, 3) := by decide +kernel
theorem dX4_weightOfPart_46 : decode cX4_weightOfPart 46 = .ok (.iload_n 1, 1) := by decide +kernel
theorem dX4_weightOfPart_47 : decode cX4_weightOfPart 47 = .ok (.iload_n 3, 1) := by decide +kernel
theorem dX4_weightOfPart_48 : decode cX4_weightOfPart 48 = .ok (.invokestatic 101, 3) := by decide +kernel
theorem dX4_weightOfPart_51 : decode cX4_weightOfPart 51 = .ok (.iaload, 1) := by decide +kernel
theorem dX4_weightOfPart_52 : decode cX4_weightOfPart 52 = .ok (.iadd, 1) := by decide +kernel
theorem dX4_weightOfPart_53 : decode cX4_weightOfPart 53 = .ok (.ireturn, 1) := by decide +kernel
theorem dX4_corner_0 : decode cX4_corner 0 = .ok (.iload_n 1, 1) := by decide +kernel
theorem dX4_corner_1 : decode cX4_corner 1 = .ok (.bipush 9, 2) := by decide +kernel
theorem dX4_corner_3 : decode cX4_corner 3 = .ok (.imul, 1) := by decide +kernel
theorem dX4_corner_4 : decode cX4_corner 4 = .ok (.iload_n 0, 1) := by decide +kernel
theorem dX4_corner_5 : decode cX4_corner 5 = .ok (.iadd, 1) := by decide +kernel
theorem dX4_corner_6 : decode cX4_corner 6 = .ok (.ireturn, 1) := by decide +kernel
theorem dX4_part_0 : decode cX4_part 0 = .ok (.iload_n 0, 1) := by decide +kernel
theorem dX4_part_1 : decode cX4_part 1 = .ok (.iload_n 1, 1) := by decide +kernel
theorem dX4_part_2 : decode cX4_part 2 = .ok (.invokestatic 136, 3) := by decide +kernel
theorem dX4_part_5 : decode cX4_part 5 = .ok (.bipush 36, 2) := by decide +kernel
theorem dX4_part_7 : decode cX4_part 7 = .ok (.imul, 1) := by decide +kernel
theorem dX4_part_8 : decode cX4_part 8 = .ok (.iload_n 2, 1) := by decide +kernel
theorem dX4_part_9 : decode cX4_part 9 = .ok (.iload_n 3, 1) := by decide +kernel
theorem dX4_part_10 : decode cX4_part 10 = .ok (.invokestatic 136, 3) := by decide +kernel
theorem dX4_part_13 : decode cX4_part 13 = .ok (.iadd, 1) := by decide +kernel
theorem dX4_part_14 : decode cX4_part 14 = .ok (.ireturn, 1) := by decide +kernel
theorem dX4_span_0 : decode cX4_span 0 = .ok (.iload_n 1, 1) := by decide +kernel
theorem dX4_span_1 : decode cX4_span 1 = .ok (.iload_n 1, 1) := by decide +kernel
theorem dX4_span_2 : decode cX4_span 2 = .ok (.iconst 1, 1) := by decide +kernel
theorem dX4_span_3 : decode cX4_span 3 = .ok (.iadd, 1) := by decide +kernel
theorem dX4_span_4 : decode cX4_span 4 = .ok (.imul, 1) := by decide +kernel
theorem dX4_span_5 : decode cX4_span 5 = .ok (.iconst 2, 1) := by decide +kernel
theorem dX4_span_6 : decode cX4_span 6 = .ok (.idiv, 1) := by decide +kernel
theorem dX4_span_7 : decode cX4_span 7 = .ok (.iload_n 0, 1) := by decide +kernel
theorem dX4_span_8 : decode cX4_span 8 = .ok (.iadd, 1) := by decide +kernel
theorem dX4_span_9 : decode cX4_span 9 = .ok (.ireturn, 1) := by decide +kernel
theorem dX5_init_0 : decode cX5_init 0 = .ok (.aload_n 0, 1) := by decide +kernel
theorem dX5_init_1 : decode cX5_init 1 = .ok (.invokespecial 3, 3) := by decide +kernel
theorem dX5_init_4 : decode cX5_init 4 = .ok (.aload_n 0, 1) := by decide +kernel
theorem dX5_init_5 : decode cX5_init 5 = .ok (.bipush 40, 2) := by decide +kernel
theorem dX5_init_7 : decode cX5_init 7 = .ok (.putfield 11, 3) := by decide +kernel
theorem dX5_init_10 : decode cX5_init 10 = .ok (.aload_n 0, 1) := by decide +kernel
theorem dX5_init_11 : decode cX5_init 11 = .ok (.iconst 1, 1) := by decide +kernel
theorem dX5_init_12 : decode cX5_init 12 = .ok (.putfield 15, 3) := by decide +kernel
theorem dX5_init_15 : decode cX5_init 15 = .ok (.aload_n 0, 1) := by decide +kernel
theorem dX5_init_16 : decode cX5_init 16 = .ok (.iconst 0, 1) := by decide +kernel
theorem dX5_init_17 : decode cX5_init 17 = .ok (.putfield 18, 3) := by decide +kernel
theorem dX5_init_20 : decode cX5_init 20 = .ok (.aload_n 0, 1) := by decide +kernel
theorem dX5_init_21 : decode cX5_init 21 = .ok (.new 21, 3) := by decide +kernel
theorem dX5_init_24 : decode cX5_init 24 = .ok (.dup, 1) := by decide +kernel
theorem dX5_init_25 : decode cX5_init 25 = .ok (.invokespecial 23, 3) := by decide +kernel
theorem dX5_init_28 : decode cX5_init 28 = .ok (.putfield 24, 3) := by decide +kernel
theorem dX5_init_31 : decode cX5_init 31 = .ok (.aload_n 0, 1) := by decide +kernel
theorem dX5_init_32 : decode cX5_init 32 = .ok (.new 28, 3) := by decide +kernel
theorem dX5_init_35 : decode cX5_init 35 = .ok (.dup, 1) := by decide +kernel
theorem dX5_init_36 : decode cX5_init 36 = .ok (.invokespecial 30, 3) := by decide +kernel
theorem dX5_init_39 : decode cX5_init 39 = .ok (.putfield 31, 3) := by decide +kernel
theorem dX5_init_42 : decode cX5_init 42 = .ok (.aload_n 0, 1) := by decide +kernel
theorem dX5_init_43 : decode cX5_init 43 = .ok (.new 35, 3) := by decide +kernel
theorem dX5_init_46 : decode cX5_init 46 = .ok (.dup, 1) := by decide +kernel
theorem dX5_init_47 : decode cX5_init 47 = .ok (.invokespecial 37, 3) := by decide +kernel
theorem dX5_init_50 : decode cX5_init 50 = .ok (.putfield 38, 3) := by decide +kernel
theorem dX5_init_53 : decode cX5_init 53 = .ok (.aload_n 0, 1) := by decide +kernel
theorem dX5_init_54 : decode cX5_init 54 = .ok (.new 42, 3) := by decide +kernel
theorem dX5_init_57 : decode cX5_init 57 = .ok (.dup, 1) := by decide +kernel
theorem dX5_init_58 : decode cX5_init 58 = .ok (.invokespecial 44, 3) := by decide +kernel
theorem dX5_init_61 : decode cX5_init 61 = .ok (.putfield 45, 3) := by decide +kernel
theorem dX5_init_64 : decode cX5_init 64 = .ok (.aload_n 0, 1) := by decide +kernel
theorem dX5_init_65 : decode cX5_init 65 = .ok (.new 49, 3) := by decide +kernel
theorem dX5_init_68 : decode cX5_init 68 = .ok (.dup, 1) := by decide +kernel
theorem dX5_init_69 : decode cX5_init 69 = .ok (.invokespecial 51, 3) := by decide +kernel
theorem dX5_init_72 : decode cX5_init 72 = .ok (.putfield 52, 3) := by decide +kernel
theorem dX5_init_75 : decode cX5_init 75 = .ok (.return_, 1) := by decide +kernel
theorem dX5_dropPlan_0 : decode cX5_dropPlan 0 = .ok (.aload_n 0, 1) := by decide +kernel
theorem dX5_dropPlan_1 : decode cX5_dropPlan 1 = .ok (.getfield 31, 3) := by decide +kernel
theorem dX5_dropPlan_4 : decode cX5_dropPlan 4 = .ok (.invokevirtual 56, 3) := by decide +kernel
theorem dX5_dropPlan_7 : decode cX5_dropPlan 7 = .ok (.aload_n 0, 1) := by decide +kernel
theorem dX5_dropPlan_8 : decode cX5_dropPlan 8 = .ok (.getfield 45, 3) := by decide +kernel
theorem dX5_dropPlan_11 : decode cX5_dropPlan 11 = .ok (.invokevirtual 59, 3) := by decide +kernel
theorem dX5_dropPlan_14 : decode cX5_dropPlan 14 = .ok (.aload_n 0, 1) := by decide +kernel
theorem dX5_dropPlan_15 : decode cX5_dropPlan 15 = .ok (.getfield 52, 3) := by decide +kernel
theorem dX5_dropPlan_18 : decode cX5_dropPlan 18 = .ok (.invokevirtual 62, 3) := by decide +kernel
theorem dX5_dropPlan_21 : decode cX5_dropPlan 21 = .ok (.return_, 1) := by decide +kernel
theorem dX5_weightOf_0 : decode cX5_weightOf 0 = .ok (.aload_n 0, 1) := by decide +kernel
theorem dX5_weightOf_1 : decode cX5_weightOf 1 = .ok (.getfield 24, 3) := by decide +kernel
theorem dX5_weightOf_4 : decode cX5_weightOf 4 = .ok (.aload_n 0, 1) := by decide +kernel
theorem dX5_weightOf_5 : decode cX5_weightOf 5 = .ok (.getfield 31, 3) := by decide +kernel
theorem dX5_weightOf_8 : decode cX5_weightOf 8 = .ok (.getfield 63, 3) := by decide +kernel
theorem dX5_weightOf_11 : decode cX5_weightOf 11 = .ok (.iload_n 1, 1) := by decide +kernel
theorem dX5_weightOf_12 : decode cX5_weightOf 12 = .ok (.iaload, 1) := by decide +kernel
theorem dX5_weightOf_13 : decode cX5_weightOf 13 = .ok (.aload_n 0, 1) := by decide +kernel
theorem dX5_weightOf_14 : decode cX5_weightOf 14 = .ok (.getfield 31, 3) := by decide +kernel
theorem dX5_weightOf_17 : decode cX5_weightOf 17 = .ok (.getfield 67, 3) := by decide +kernel
theorem dX5_weightOf_20 : decode cX5_weightOf 20 = .ok (.iload_n 1, 1) := by decide +kernel
theorem dX5_weightOf_21 : decode cX5_weightOf 21 = .ok (.iaload, 1) := by decide +kernel
theorem dX5_weightOf_22 : decode cX5_weightOf 22 = .ok (.aload_n 0, 1) := by decide +kernel
theorem dX5_weightOf_23 : decode cX5_weightOf 23 = .ok (.getfield 31, 3) := by decide +kernel
theorem dX5_weightOf_26 : decode cX5_weightOf 26 = .ok (.getfield 70, 3) := by decide +kernel
theorem dX5_weightOf_29 : decode cX5_weightOf 29 = .ok (.iload_n 1, 1) := by decide +kernel
theorem dX5_weightOf_30 : decode cX5_weightOf 30 = .ok (.iaload, 1) := by decide +kernel
theorem dX5_weightOf_31 : decode cX5_weightOf 31 = .ok (.aload_n 0, 1) := by decide +kernel
theorem dX5_weightOf_32 : decode cX5_weightOf 32 = .ok (.getfield 31, 3) := by decide +kernel
theorem dX5_weightOf_35 : decode cX5_weightOf 35 = .ok (.getfield 73, 3) := by decide +kernel
theorem dX5_weightOf_38 : decode cX5_weightOf 38 = .ok (.iload_n 1, 1) := by decide +kernel
theorem dX5_weightOf_39 : decode cX5_weightOf 39 = .ok (.iaload, 1) := by decide +kernel
theorem dX5_weightOf_40 : decode cX5_weightOf 40 = .ok (.invokevirtual 76, 3) := by decide +kernel
theorem dX5_weightOf_43 : decode cX5_weightOf 43 = .ok (.ireturn, 1) := by decide +kernel
theorem dX5_dueOf_0 : decode cX5_dueOf 0 = .ok (.aload_n 0, 1) := by decide +kernel
theorem dX5_dueOf_1 : decode cX5_dueOf 1 = .ok (.getfield 38, 3) := by decide +kernel
theorem dX5_dueOf_4 : decode cX5_dueOf 4 = .ok (.aload_n 0, 1) := by decide +kernel
theorem dX5_dueOf_5 : decode cX5_dueOf 5 = .ok (.getfield 31, 3) := by decide +kernel
theorem dX5_dueOf_8 : decode cX5_dueOf 8 = .ok (.getfield 70, 3) := by decide +kernel
theorem dX5_dueOf_11 : decode cX5_dueOf 11 = .ok (.iload_n 1, 1) := by decide +kernel
theorem dX5_dueOf_12 : decode cX5_dueOf 12 = .ok (.iaload, 1) := by decide +kernel
theorem dX5_dueOf_13 : decode cX5_dueOf 13 = .ok (.invokevirtual 80, 3) := by decide +kernel
theorem dX5_dueOf_16 : decode cX5_dueOf 16 = .ok (.ireturn, 1) := by decide +kernel
theorem dX5_isInTime_0 : decode cX5_isInTime 0 = .ok (.aload_n 0, 1) := by decide +kernel
theorem dX5_isInTime_1 : decode cX5_isInTime 1 = .ok (.iload_n 1, 1) := by decide +kernel
theorem dX5_isInTime_2 : decode cX5_isInTime 2 = .ok (.invokevirtual 84, 3) := by decide +kernel
theorem dX5_isInTime_5 : decode cX5_isInTime 5 = .ok (.istore_n 3, 1) := by decide +kernel
theorem dX5_isInTime_6 : decode cX5_isInTime 6 = .ok (.iload_n 3, 1) := by decide +kernel
theorem dX5_isInTime_7 : decode cX5_isInTime 7 = .ok (.iconst (-1), 1) := by decide +kernel
theorem dX5_isInTime_8 : decode cX5_isInTime 8 = .ok (.if_icmp .eq 8, 3) := by decide +kernel
theorem dX5_isInTime_11 : decode cX5_isInTime 11 = .ok (.iload_n 2, 1) := by decide +kernel
theorem dX5_isInTime_12 : decode cX5_isInTime 12 = .ok (.iload_n 3, 1) := by decide +kernel
theorem dX5_isInTime_13 : decode cX5_isInTime 13 = .ok (.if_icmp .ge 7, 3) := by decide +kernel
theorem dX5_isInTime_16 : decode cX5_isInTime 16 = .ok (.iconst 1, 1) := by decide +kernel
theorem dX5_isInTime_17 : decode cX5_isInTime 17 = .ok (.goto 4, 3) := by decide +kernel
theorem dX5_isInTime_20 : decode cX5_isInTime 20 = .ok (.iconst 0, 1) := by decide +kernel
theorem dX5_isInTime_21 : decode cX5_isInTime 21 = .ok (.ireturn, 1) := by decide +kernel
theorem dX5_isFree_0 : decode cX5_isFree 0 = .ok (.aload_n 0, 1) := by decide +kernel
theorem dX5_isFree_1 : decode cX5_isFree 1 = .ok (.getfield 45, 3) := by decide +kernel
theorem dX5_isFree_4 : decode cX5_isFree 4 = .ok (.iload_n 1, 1) := by decide +kernel
theorem dX5_isFree_5 : decode cX5_isFree 5 = .ok (.invokevirtual 87, 3) := by decide +kernel
theorem dX5_isFree_8 : decode cX5_isFree 8 = .ok (.ifCond .eq 5, 3) := by decide +kernel
theorem dX5_isFree_11 : decode cX5_isFree 11 = .ok (.iconst 0, 1) := by decide +kernel
theorem dX5_isFree_12 : decode cX5_isFree 12 = .ok (.ireturn, 1) := by decide +kernel
theorem dX5_isFree_13 : decode cX5_isFree 13 = .ok (.aload_n 0, 1) := by decide +kernel
theorem dX5_isFree_14 : decode cX5_isFree 14 = .ok (.getfield 31, 3) := by decide +kernel
theorem dX5_isFree_17 : decode cX5_isFree 17 = .ok (.getfield 70, 3) := by decide +kernel
theorem dX5_isFree_20 : decode cX5_isFree 20 = .ok (.iload_n 1, 1) := by decide +kernel
theorem dX5_isFree_21 : decode cX5_isFree 21 = .ok (.iaload, 1) := by decide +kernel
theorem dX5_isFree_22 : decode cX5_isFree 22 = .ok (.aload_n 0, 1) := by decide +kernel
theorem dX5_isFree_23 : decode cX5_isFree 23 = .ok (.getfield 31, 3) := by decide +kernel
theorem dX5_isFree_26 : decode cX5_isFree 26 = .ok (.getfield 73, 3) := by decide +kernel
theorem dX5_isFree_29 : decode cX5_isFree 29 = .ok (.iload_n 1, 1) := by decide +kernel
theorem dX5_isFree_30 : decode cX5_isFree 30 = .ok (.iaload, 1) := by decide +kernel
theorem dX5_isFree_31 : decode cX5_isFree 31 = .ok (.iadd, 1) := by decide +kernel
theorem dX5_isFree_32 : decode cX5_isFree 32 = .ok (.istore_n 2, 1) := by decide +kernel
theorem dX5_isFree_33 : decode cX5_isFree 33 = .ok (.iload_n 2, 1) := by decide +kernel
theorem dX5_isFree_34 : decode cX5_isFree 34 = .ok (.aload_n 0, 1) := by decide +kernel
theorem dX5_isFree_35 : decode cX5_isFree 35 = .ok (.getfield 24, 3) := by decide +kernel
theorem dX5_isFree_38 : decode cX5_isFree 38 = .ok (.getfield 91, 3) := by decide +kernel
theorem dX5_isFree_41 : decode cX5_isFree 41 = .ok (.if_icmp .lt 5, 3) := by decide +kernel
theorem dX5_isFree_44 : decode cX5_isFree 44 = .ok (.iconst 1, 1) := by decide +kernel
theorem dX5_isFree_45 : decode cX5_isFree 45 = .ok (.ireturn, 1) := by decide +kernel
theorem dX5_isFree_46 : decode cX5_isFree 46 = .ok (.aload_n 0, 1) := by decide +kernel
theorem dX5_isFree_47 : decode cX5_isFree 47 = .ok (.getfield 31, 3) := by decide +kernel
theorem dX5_isFree_50 : decode cX5_isFree 50 = .ok (.getfield 63, 3) := by decide +kernel
theorem dX5_isFree_53 : decode cX5_isFree 53 = .ok (.iload_n 1, 1) := by decide +kernel
theorem dX5_isFree_54 : decode cX5_isFree 54 = .ok (.iaload, 1) := by decide +kernel
theorem dX5_isFree_55 : decode cX5_isFree 55 = .ok (.istore_n 3, 1) := by decide +kernel
theorem dX5_isFree_56 : decode cX5_isFree 56 = .ok (.iload_n 3, 1) := by decide +kernel
theorem dX5_isFree_57 : decode cX5_isFree 57 = .ok (.aload_n 0, 1) := by decide +kernel
theorem dX5_isFree_58 : decode cX5_isFree 58 = .ok (.getfield 31, 3) := by decide +kernel
theorem dX5_isFree_61 : decode cX5_isFree 61 = .ok (.getfield 63, 3) := by decide +kernel
theorem dX5_isFree_64 : decode cX5_isFree 64 = .ok (.iload_n 1, 1) := by decide +kernel
theorem dX5_isFree_65 : decode cX5_isFree 65 = .ok (.iaload, 1) := by decide +kernel
theorem dX5_isFree_66 : decode cX5_isFree 66 = .ok (.aload_n 0, 1) := by decide +kernel
theorem dX5_isFree_67 : decode cX5_isFree 67 = .ok (.getfield 31, 3) := by decide +kernel
theorem dX5_isFree_70 : decode cX5_isFree 70 = .ok (.getfield 67, 3) := by decide +kernel
theorem dX5_isFree_73 : decode cX5_isFree 73 = .ok (.iload_n 1, 1) := by decide +kernel
theorem dX5_isFree_74 : decode cX5_isFree 74 = .ok (.iaload, 1) := by decide +kernel
theorem dX5_isFree_75 : decode cX5_isFree 75 = .ok (.iadd, 1) := by decide +kernel
theorem dX5_isFree_76 : decode cX5_isFree 76 = .ok (.if_icmp .ge 34, 3) := by decide +kernel
theorem dX5_isFree_79 : decode cX5_isFree 79 = .ok (.aload_n 0, 1) := by decide +kernel
theorem dX5_isFree_80 : decode cX5_isFree 80 = .ok (.getfield 45, 3) := by decide +kernel
theorem dX5_isFree_83 : decode cX5_isFree 83 = .ok (.aload_n 0, 1) := by decide +kernel
theorem dX5_isFree_84 : decode cX5_isFree 84 = .ok (.getfield 31, 3) := by decide +kernel
theorem dX5_isFree_87 : decode cX5_isFree 87 = .ok (.getfield 93, 3) := by decide +kernel
theorem dX5_isFree_90 : decode cX5_isFree 90 = .ok (.iload_n 3, 1) := by decide +kernel
theorem dX5_isFree_91 : decode cX5_isFree 91 = .ok (.iload_n 2, 1) := by decide +kernel
theorem dX5_isFree_92 : decode cX5_isFree 92 = .ok (.invokestatic 96, 3) := by decide +kernel
theorem dX5_isFree_95 : decode cX5_isFree 95 = .ok (.iaload, 1) := by decide +kernel
theorem dX5_isFree_96 : decode cX5_isFree 96 = .ok (.invokevirtual 87, 3) := by decide +kernel
theorem dX5_isFree_99 : decode cX5_isFree 99 = .ok (.ifCond .ne 5, 3) := by decide +kernel
theorem dX5_isFree_102 : decode cX5_isFree 102 = .ok (.iconst 0, 1) := by decide +kernel
theorem dX5_isFree_103 : decode cX5_isFree 103 = .ok (.ireturn, 1) := by decide +kernel
theorem dX5_isFree_104 : decode cX5_isFree 104 = .ok (.iinc 3 1, 3) := by decide +kernel
theorem dX5_isFree_107 : decode cX5_isFree 107 = .ok (.goto (-51), 3) := by decide +kernel
theorem dX5_isFree_110 : decode cX5_isFree 110 = .ok (.iconst 1, 1) := by decide +kernel
theorem dX5_isFree_111 : decode cX5_isFree 111 = .ok (.ireturn, 1) := by decide +kernel
theorem dX5_wideOf_0 : decode cX5_wideOf 0 = .ok (.sipush 200, 3) := by decide +kernel
theorem dX5_wideOf_3 : decode cX5_wideOf 3 = .ok (.aload_n 0, 1) := by decide +kernel
theorem dX5_wideOf_4 : decode cX5_wideOf 4 = .ok (.getfield 31, 3) := by decide +kernel
theorem dX5_wideOf_7 : decode cX5_wideOf 7 = .ok (.getfield 67, 3) := by decide +kernel
theorem dX5_wideOf_10 : decode cX5_wideOf 10 = .ok (.iload_n 1, 1) := by decide +kernel
theorem dX5_wideOf_11 : decode cX5_wideOf 11 = .ok (.iaload, 1) := by decide +kernel
theorem dX5_wideOf_12 : decode cX5_wideOf 12 = .ok (.imul, 1) := by decide +kernel
theorem dX5_wideOf_13 : decode cX5_wideOf 13 = .ok (.istore_n 2, 1) := by decide +kernel
theorem dX5_wideOf_14 : decode cX5_wideOf 14 = .ok (.aload_n 0, 1) := by decide +kernel
theorem dX5_wideOf_15 : decode cX5_wideOf 15 = .ok (.getfield 31, 3) := by decide +kernel
theorem dX5_wideOf_18 : decode cX5_wideOf 18 = .ok (.getfield 63, 3) := by decide +kernel
theorem dX5_wideOf_21 : decode cX5_wideOf 21 = .ok (.iload_n 1, 1) := by decide +kernel
theorem dX5_wideOf_22 : decode cX5_wideOf 22 = .ok (.iaload, 1) := by decide +kernel
theorem dX5_wideOf_23 : decode cX5_wideOf 23 = .ok (.ifCond .le 10, 3) := by decide +kernel
theorem dX5_wideOf_26 : decode cX5_wideOf 26 = .ok (.iload_n 2, 1) := by decide +kernel
theorem dX5_wideOf_27 : decode cX5_wideOf 27 = .ok (.aload_n 0, 1) := by decide +kernel
theorem dX5_wideOf_28 : decode cX5_wideOf 28 = .ok (.getfield 15, 3) := by decide +kernel
theorem dX5_wideOf_31 : decode cX5_wideOf 31 = .ok (.isub, 1) := by decide +kernel
theorem dX5_wideOf_32 : decode cX5_wideOf 32 = .ok (.istore_n 2, 1) := by decide +kernel
theorem dX5_wideOf_33 : decode cX5_wideOf 33 = .ok (.aload_n 0, 1) := by decide +kernel
theorem dX5_wideOf_34 : decode cX5_wideOf 34 = .ok (.getfield 31, 3) := by decide +kernel
theorem dX5_wideOf_37 : decode cX5_wideOf 37 = .ok (.getfield 63, 3) := by decide +kernel
theorem dX5_wideOf_40 : decode cX5_wideOf 40 = .ok (.iload_n 1, 1) := by decide +kernel
theorem dX5_wideOf_41 : decode cX5_wideOf 41 = .ok (.iaload, 1) := by decide +kernel
theorem dX5_wideOf_42 : decode cX5_wideOf 42 = .ok (.aload_n 0, 1) := by decide +kernel
theorem dX5_wideOf_43 : decode cX5_wideOf 43 = .ok (.getfield 31, 3) := by decide +kernel
theorem dX5_wideOf_46 : decode cX5_wideOf 46 = .ok (.getfield 67, 3) := by decide +kernel
theorem dX5_wideOf_49 : decode cX5_wideOf 49 = .ok (.iload_n 1, 1) := by decide +kernel
theorem dX5_wideOf_50 : decode cX5_wideOf 50 = .ok (.iaload, 1) := by decide +kernel
theorem dX5_wideOf_51 : decode cX5_wideOf 51 = .ok (.iadd, 1) := by decide +kernel
theorem dX5_wideOf_52 : decode cX5_wideOf 52 = .ok (.aload_n 0, 1) := by decide +kernel
theorem dX5_wideOf_53 : decode cX5_wideOf 53 = .ok (.getfield 24, 3) := by decide +kernel
theorem dX5_wideOf_56 : decode cX5_wideOf 56 = .ok (.getfield 100, 3) := by decide +kernel
theorem dX5_wideOf_59 : decode cX5_wideOf 59 = .ok (.if_icmp .ge 10, 3) := by decide +kernel
theorem dX5_wideOf_62 : decode cX5_wideOf 62 = .ok (.iload_n 2, 1) := by decide +kernel
theorem dX5_wideOf_63 : decode cX5_wideOf 63 = .ok (.aload_n 0, 1) := by decide +kernel
theorem dX5_wideOf_64 : decode cX5_wideOf 64 = .ok (.getfield 15, 3) := by decide +kernel
theorem dX5_wideOf_67 : decode cX5_wideOf 67 = .ok (.isub, 1) := by decide +kernel
theorem dX5_wideOf_68 : decode cX5_wideOf 68 = .ok (.istore_n 2, 1) := by decide +kernel
theorem dX5_wideOf_69 : decode cX5_wideOf 69 = .ok (.iload_n 2, 1) := by decide +kernel
theorem dX5_wideOf_70 : decode cX5_wideOf 70 = .ok (.ireturn, 1) := by decide +kernel
theorem dX5_become_0 : decode cX5_become 0 = .ok (.aload_n 0, 1) := by decide +kernel
theorem dX5_become_1 : decode cX5_become 1 = .ok (.aload_n 1, 1) := by decide +kernel
theorem dX5_become_2 : decode cX5_become 2 = .ok (.getfield 11, 3) := by decide +kernel
theorem dX5_become_5 : decode cX5_become 5 = .ok (.putfield 11, 3) := by decide +kernel
theorem dX5_become_8 : decode cX5_become 8 = .ok (.aload_n 0, 1) := by decide +kernel
theorem dX5_become_9 : decode cX5_become 9 = .ok (.aload_n 1, 1) := by decide +kernel
theorem dX5_become_10 : decode cX5_become 10 = .ok (.getfield 15, 3) := by decide +kernel
theorem dX5_become_13 : decode cX5_become 13 = .ok (.putfield 15, 3) := by decide +kernel
theorem dX5_become_16 : decode cX5_become 16 = .ok (.aload_n 0, 1) := by decide +kernel
theorem dX5_become_17 : decode cX5_become 17 = .ok (.aload_n 1, 1) := by decide +kernel
theorem dX5_become_18 : decode cX5_become 18 = .ok (.getfield 18, 3) := by decide +kernel
theorem dX5_become_21 : decode cX5_become 21 = .ok (.putfield 18, 3) := by decide +kernel
theorem dX5_become_24 : decode cX5_become 24 = .ok (.aload_n 0, 1) := by decide +kernel
theorem dX5_become_25 : decode cX5_become 25 = .ok (.getfield 24, 3) := by decide +kernel
theorem dX5_become_28 : decode cX5_become 28 = .ok (.aload_n 1, 1) := by decide +kernel
theorem dX5_become_29 : decode cX5_become 29 = .ok (.getfield 24, 3) := by decide +kernel
theorem dX5_become_32 : decode cX5_become 32 = .ok (.invokevirtual 102, 3) := by decide +kernel
theorem dX5_become_35 : decode cX5_become 35 = .ok (.aload_n 0, 1) := by decide +kernel
theorem dX5_become_36 : decode cX5_become 36 = .ok (.getfield 31, 3) := by decide +kernel
theorem dX5_become_39 : decode cX5_become 39 = .ok (.aload_n 1, 1) := by decide +kernel
theorem dX5_become_40 : decode cX5_become 40 = .ok (.getfield 31, 3) := by decide +kernel
theorem dX5_become_43 : decode cX5_become 43 = .ok (.invokevirtual 106, 3) := by decide +kernel
theorem dX5_become_46 : decode cX5_become 46 = .ok (.aload_n 0, 1) := by decide +kernel
theorem dX5_become_47 : decode cX5_become 47 = .ok (.getfield 38, 3) := by decide +kernel
theorem dX5_become_50 : decode cX5_become 50 = .ok (.aload_n 1, 1) := by decide +kernel
theorem dX5_become_51 : decode cX5_become 51 = .ok (.getfield 38, 3) := by decide +kernel
theorem dX5_become_54 : decode cX5_become 54 = .ok (.invokevirtual 109, 3) := by decide +kernel
theorem dX5_become_57 : decode cX5_become 57 = .ok (.aload_n 0, 1) := by decide +kernel
theorem dX5_become_58 : decode cX5_become 58 = .ok (.getfield 45, 3) := by decide +kernel
theorem dX5_become_61 : decode cX5_become 61 = .ok (.aload_n 1, 1) := by decide +kernel
theorem dX5_become_62 : decode cX5_become 62 = .ok (.getfield 45, 3) := by decide +kernel
theorem dX5_become_65 : decode cX5_become 65 = .ok (.invokevirtual 112, 3) := by decide +kernel
theorem dX5_become_68 : decode cX5_become 68 = .ok (.aload_n 0, 1) := by decide +kernel
theorem dX5_become_69 : decode cX5_become 69 = .ok (.getfield 52, 3) := by decide +kernel
theorem dX5_become_72 : decode cX5_become 72 = .ok (.aload_n 1, 1) := by decide +kernel
theorem dX5_become_73 : decode cX5_become 73 = .ok (.getfield 52, 3) := by decide +kernel
theorem dX5_become_76 : decode cX5_become 76 = .ok (.invokevirtual 115, 3) := by decide +kernel
theorem dX5_become_79 : decode cX5_become 79 = .ok (.return_, 1) := by decide +kernel
theorem dX6_direction_0 : decode cX6_direction 0 = .ok (.iconst 4, 1) := by decide +kernel
theorem dX6_direction_1 : decode cX6_direction 1 = .ok (.iload_n 0, 1) := by decide +kernel
theorem dX6_direction_2 : decode cX6_direction 2 = .ok (.imul, 1) := by decide +kernel
theorem dX6_direction_3 : decode cX6_direction 3 = .ok (.sipush 1460, 3) := by decide +kernel
theorem dX6_direction_6 : decode cX6_direction 6 = .ok (.irem, 1) := by decide +kernel
theorem dX6_direction_7 : decode cX6_direction 7 = .ok (.sipush 730, 3) := by decide +kernel
theorem dX6_direction_10 : decode cX6_direction 10 = .ok (.isub, 1) := by decide +kernel
theorem dX6_direction_11 : decode cX6_direction 11 = .ok (.invokestatic 9, 3) := by decide +kernel
theorem dX6_direction_14 : decode cX6_direction 14 = .ok (.sipush 365, 3) := by decide +kernel
theorem dX6_direction_17 : decode cX6_direction 17 = .ok (.isub, 1) := by decide +kernel
theorem dX6_direction_18 : decode cX6_direction 18 = .ok (.ireturn, 1) := by decide +kernel
theorem dX6_daysBetween_0 : decode cX6_daysBetween 0 = .ok (.iload_n 0, 1) := by decide +kernel
theorem dX6_daysBetween_1 : decode cX6_daysBetween 1 = .ok (.iload_n 1, 1) := by decide +kernel
theorem dX6_daysBetween_2 : decode cX6_daysBetween 2 = .ok (.if_icmp .le 7, 3) := by decide +kernel
theorem dX6_daysBetween_5 : decode cX6_daysBetween 5 = .ok (.iconst 0, 1) := by decide +kernel
theorem dX6_daysBetween_6 : decode cX6_daysBetween 6 = .ok (.goto 14, 3) := by decide +kernel
theorem dX6_daysBetween_9 : decode cX6_daysBetween 9 = .ok (.iload_n 1, 1) := by decide +kernel
theorem dX6_daysBetween_10 : decode cX6_daysBetween 10 = .ok (.invokestatic 15, 3) := by decide +kernel
theorem dX6_daysBetween_13 : decode cX6_daysBetween 13 = .ok (.iload_n 0, 1) := by decide +kernel
theorem dX6_daysBetween_14 : decode cX6_daysBetween 14 = .ok (.iconst 1, 1) := by decide +kernel
theorem dX6_daysBetween_15 : decode cX6_daysBetween 15 = .ok (.isub, 1) := by decide +kernel
theorem dX6_daysBetween_16 : decode cX6_daysBetween 16 = .ok (.invokestatic 15, 3) := by decide +kernel
theorem dX6_daysBetween_19 : decode cX6_daysBetween 19 = .ok (.isub, 1) := by decide +kernel
theorem dX6_daysBetween_20 : decode cX6_daysBetween 20 = .ok (.ireturn, 1) := by decide +kernel
theorem dX6_daysUpTo_0 : decode cX6_daysUpTo 0 = .ok (.iload_n 0, 1) := by decide +kernel
theorem dX6_daysUpTo_1 : decode cX6_daysUpTo 1 = .ok (.sipush (-363), 3) := by decide +kernel
theorem dX6_daysUpTo_4 : decode cX6_daysUpTo 4 = .ok (.if_icmp .ge 5, 3) := by decide +kernel
theorem dX6_daysUpTo_7 : decode cX6_daysUpTo 7 = .ok (.iconst 0, 1) := by decide +kernel
theorem dX6_daysUpTo_8 : decode cX6_daysUpTo 8 = .ok (.ireturn, 1) := by decide +kernel
theorem dX6_daysUpTo_9 : decode cX6_daysUpTo 9 = .ok (.iload_n 0, 1) := by decide +kernel
theorem dX6_daysUpTo_10 : decode cX6_daysUpTo 10 = .ok (.sipush 365, 3) := by decide +kernel
theorem dX6_daysUpTo_13 : decode cX6_daysUpTo 13 = .ok (.if_icmp .lt 7, 3) := by decide +kernel
theorem dX6_daysUpTo_16 : decode cX6_daysUpTo 16 = .ok (.sipush 365, 3) := by decide +kernel
theorem dX6_daysUpTo_19 : decode cX6_daysUpTo 19 = .ok (.ireturn, 1) := by decide +kernel
theorem dX6_daysUpTo_20 : decode cX6_daysUpTo 20 = .ok (.iconst 2, 1) := by decide +kernel
theorem dX6_daysUpTo_21 : decode cX6_daysUpTo 21 = .ok (.iload_n 0, 1) := by decide +kernel
theorem dX6_daysUpTo_22 : decode cX6_daysUpTo 22 = .ok (.sipush (-363), 3) := by decide +kernel
theorem dX6_daysUpTo_25 : decode cX6_daysUpTo 25 = .ok (.isub, 1) := by decide +kernel
theorem dX6_daysUpTo_26 : decode cX6_daysUpTo 26 = .ok (.iconst 4, 1) := by decide +kernel
theorem dX6_daysUpTo_27 : decode cX6_daysUpTo 27 = .ok (.idiv, 1) := by decide +kernel
theorem dX6_daysUpTo_28 : decode cX6_daysUpTo 28 = .ok (.iconst 1, 1) := by decide +kernel
theorem dX6_daysUpTo_29 : decode cX6_daysUpTo 29 = .ok (.iadd, 1) := by decide +kernel
theorem dX6_daysUpTo_30 : decode cX6_daysUpTo 30 = .ok (.imul, 1) := by decide +kernel
theorem dX6_daysUpTo_31 : decode cX6_daysUpTo 31 = .ok (.ireturn, 1) := by decide +kernel
theorem dX6_mostAlike_0 : decode cX6_mostAlike 0 = .ok (.iload_n 0, 1) := by decide +kernel
theorem dX6_mostAlike_1 : decode cX6_mostAlike 1 = .ok (.iload_n 1, 1) := by decide +kernel
theorem dX6_mostAlike_2 : decode cX6_mostAlike 2 = .ok (.isub, 1) := by decide +kernel
theorem dX6_mostAlike_3 : decode cX6_mostAlike 3 = .ok (.iload_n 0, 1) := by decide +kernel
theorem dX6_mostAlike_4 : decode cX6_mostAlike 4 = .ok (.iload_n 1, 1) := by decide +kernel
theorem dX6_mostAlike_5 : decode cX6_mostAlike 5 = .ok (.iadd, 1) := by decide +kernel
theorem dX6_mostAlike_6 : decode cX6_mostAlike 6 = .ok (.invokestatic 20, 3) := by decide +kernel
theorem dX6_mostAlike_9 : decode cX6_mostAlike 9 = .ok (.istore_n 3, 1) := by decide +kernel
theorem dX6_mostAlike_10 : decode cX6_mostAlike 10 = .ok (.sipush (-400), 3) := by decide +kernel
theorem dX6_mostAlike_13 : decode cX6_mostAlike 13 = .ok (.istore 4, 2) := by decide +kernel
theorem dX6_mostAlike_15 : decode cX6_mostAlike 15 = .ok (.sipush 730, 3) := by decide +kernel
theorem dX6_mostAlike_18 : decode cX6_mostAlike 18 = .ok (.istore 5, 2) := by decide +kernel
theorem dX6_mostAlike_20 : decode cX6_mostAlike 20 = .ok (.sipush (-400), 3) := by decide +kernel
theorem dX6_mostAlike_23 : decode cX6_mostAlike 23 = .ok (.istore 6, 2) := by decide +kernel
theorem dX6_mostAlike_25 : decode cX6_mostAlike 25 = .ok (.iload 6, 2) := by decide +kernel
theorem dX6_mostAlike_27 : decode cX6_mostAlike 27 = .ok (.sipush 400, 3) := by decide +kernel
theorem dX6_mostAlike_30 : decode cX6_mostAlike 30 = .ok (.if_icmp .gt 73, 3) := by decide +kernel
theorem dX6_mostAlike_33 : decode cX6_mostAlike 33 = .ok (.iload 6, 2) := by decide +kernel
theorem dX6_mostAlike_35 : decode cX6_mostAlike 35 = .ok (.iload_n 2, 1) := by decide +kernel
theorem dX6_mostAlike_36 : decode cX6_mostAlike 36 = .ok (.isub, 1) := by decide +kernel
theorem dX6_mostAlike_37 : decode cX6_mostAlike 37 = .ok (.iload 6, 2) := by decide +kernel
theorem dX6_mostAlike_39 : decode cX6_mostAlike 39 = .ok (.iload_n 2, 1) := by decide +kernel
theorem dX6_mostAlike_40 : decode cX6_mostAlike 40 = .ok (.iadd, 1) := by decide +kernel
theorem dX6_mostAlike_41 : decode cX6_mostAlike 41 = .ok (.invokestatic 20, 3) := by decide +kernel
theorem dX6_mostAlike_44 : decode cX6_mostAlike 44 = .ok (.istore 7, 2) := by decide +kernel
theorem dX6_mostAlike_46 : decode cX6_mostAlike 46 = .ok (.iload_n 0, 1) := by decide +kernel
theorem dX6_mostAlike_47 : decode cX6_mostAlike 47 = .ok (.iload_n 1, 1) := by decide +kernel
theorem dX6_mostAlike_48 : decode cX6_mostAlike 48 = .ok (.isub, 1) := by decide +kernel
theorem dX6_mostAlike_49 : decode cX6_mostAlike 49 = .ok (.iload 6, 2) := by decide +kernel
theorem dX6_mostAlike_51 : decode cX6_mostAlike 51 = .ok (.iload_n 2, 1) := by decide +kernel
theorem dX6_mostAlike_52 : decode cX6_mostAlike 52 = .ok (.isub, 1) := by decide +kernel
theorem dX6_mostAlike_53 : decode cX6_mostAlike 53 = .ok (.invokestatic 24, 3) := by decide +kernel
theorem dX6_mostAlike_56 : decode cX6_mostAlike 56 = .ok (.iload_n 0, 1) := by decide +kernel
theorem dX6_mostAlike_57 : decode cX6_mostAlike 57 = .ok (.iload_n 1, 1) := by decide +kernel
theorem dX6_mostAlike_58 : decode cX6_mostAlike 58 = .ok (.iadd, 1) := by decide +kernel
theorem dX6_mostAlike_59 : decode cX6_mostAlike 59 = .ok (.iload 6, 2) := by decide +kernel
theorem dX6_mostAlike_61 : decode cX6_mostAlike 61 = .ok (.iload_n 2, 1) := by decide +kernel
theorem dX6_mostAlike_62 : decode cX6_mostAlike 62 = .ok (.iadd, 1) := by decide +kernel
theorem dX6_mostAlike_63 : decode cX6_mostAlike 63 = .ok (.invokestatic 27, 3) := by decide +kernel
theorem dX6_mostAlike_66 : decode cX6_mostAlike 66 = .ok (.invokestatic 20, 3) := by decide +kernel
theorem dX6_mostAlike_69 : decode cX6_mostAlike 69 = .ok (.istore 8, 2) := by decide +kernel
theorem dX6_mostAlike_71 : decode cX6_mostAlike 71 = .ok (.iload_n 3, 1) := by decide +kernel
theorem dX6_mostAlike_72 : decode cX6_mostAlike 72 = .ok (.iload 7, 2) := by decide +kernel
theorem dX6_mostAlike_74 : decode cX6_mostAlike 74 = .ok (.iadd, 1) := by decide +kernel
theorem dX6_mostAlike_75 : decode cX6_mostAlike 75 = .ok (.iconst 2, 1) := by decide +kernel
theorem dX6_mostAlike_76 : decode cX6_mostAlike 76 = .ok (.iload 8, 2) := by decide +kernel
theorem dX6_mostAlike_78 : decode cX6_mostAlike 78 = .ok (.imul, 1) := by decide +kernel
theorem dX6_mostAlike_79 : decode cX6_mostAlike 79 = .ok (.isub, 1) := by decide +kernel
theorem dX6_mostAlike_80 : decode cX6_mostAlike 80 = .ok (.istore 9, 2) := by decide +kernel
theorem dX6_mostAlike_82 : decode cX6_mostAlike 82 = .ok (.iload 9, 2) := by decide +kernel
theorem dX6_mostAlike_84 : decode cX6_mostAlike 84 = .ok (.iload 5, 2) := by decide +kernel
theorem dX6_mostAlike_86 : decode cX6_mostAlike 86 = .ok (.if_icmp .ge 11, 3) := by decide +kernel
theorem dX6_mostAlike_89 : decode cX6_mostAlike 89 = .ok (.iload 6, 2) := by decide +kernel
theorem dX6_mostAlike_91 : decode cX6_mostAlike 91 = .ok (.istore 4, 2) := by decide +kernel
theorem dX6_mostAlike_93 : decode cX6_mostAlike 93 = .ok (.iload 9, 2) := by decide +kernel
theorem dX6_mostAlike_95 : decode cX6_mostAlike 95 = .ok (.istore 5, 2) := by decide +kernel
theorem dX6_mostAlike_97 : decode cX6_mostAlike 97 = .ok (.iinc 6 1, 3) := by decide +kernel
theorem dX6_mostAlike_100 : decode cX6_mostAlike 100 = .ok (.goto (-75), 3) := by decide +kernel
theorem dX6_mostAlike_103 : decode cX6_mostAlike 103 = .ok (.iload 4, 2) := by decide +kernel
theorem dX6_mostAlike_105 : decode cX6_mostAlike 105 = .ok (.ireturn, 1) := by decide +kernel
theorem dX7_init_0 : decode cX7_init 0 = .ok (.aload_n 0, 1) := by decide +kernel
theorem dX7_init_1 : decode cX7_init 1 = .ok (.invokespecial 3, 3) := by decide +kernel
theorem dX7_init_4 : decode cX7_init 4 = .ok (.aload_n 0, 1) := by decide +kernel
theorem dX7_init_5 : decode cX7_init 5 = .ok (.bipush 64, 2) := by decide +kernel
theorem dX7_init_7 : decode cX7_init 7 = .ok (.newarray .int, 2) := by decide +kernel
theorem dX7_init_9 : decode cX7_init 9 = .ok (.putfield 9, 3) := by decide +kernel
theorem dX7_init_12 : decode cX7_init 12 = .ok (.aload_n 0, 1) := by decide +kernel
theorem dX7_init_13 : decode cX7_init 13 = .ok (.bipush 64, 2) := by decide +kernel
theorem dX7_init_15 : decode cX7_init 15 = .ok (.newarray .int, 2) := by decide +kernel
theorem dX7_init_17 : decode cX7_init 17 = .ok (.putfield 15, 3) := by decide +kernel
theorem dX7_init_20 : decode cX7_init 20 = .ok (.aload_n 0, 1) := by decide +kernel
theorem dX7_init_21 : decode cX7_init 21 = .ok (.iconst 4, 1) := by decide +kernel
theorem dX7_init_22 : decode cX7_init 22 = .ok (.iconst 4, 1) := by decide +kernel
theorem dX7_init_23 : decode cX7_init 23 = .ok (.invokevirtual 18, 3) := by decide +kernel
theorem dX7_init_26 : decode cX7_init 26 = .ok (.return_, 1) := by decide +kernel
theorem dX7_build_0 : decode cX7_build 0 = .ok (.aload_n 0, 1) := by decide +kernel
theorem dX7_build_1 : decode cX7_build 1 = .ok (.iload_n 1, 1) := by decide +kernel
theorem dX7_build_2 : decode cX7_build 2 = .ok (.putfield 22, 3) := by decide +kernel
theorem dX7_build_5 : decode cX7_build 5 = .ok (.aload_n 0, 1) := by decide +kernel
theorem dX7_build_6 : decode cX7_build 6 = .ok (.iload_n 2, 1) := by decide +kernel
theorem dX7_build_7 : decode cX7_build 7 = .ok (.putfield 26, 3) := by decide +kernel
theorem dX7_build_10 : decode cX7_build 10 = .ok (.aload_n 0, 1) := by decide +kernel
theorem dX7_build_11 : decode cX7_build 11 = .ok (.getfield 9, 3) := by decide +kernel
theorem dX7_build_14 : decode cX7_build 14 = .ok (.bipush 10, 2) := by decide +kernel
theorem dX7_build_16 : decode cX7_build 16 = .ok (.invokestatic 29, 3) := by decide +kernel
theorem dX7_build_19 : decode cX7_build 19 = .ok (.aload_n 0, 1) := by decide +kernel
theorem dX7_build_20 : decode cX7_build 20 = .ok (.getfield 15, 3) := by decide +kernel
theorem dX7_build_23 : decode cX7_build 23 = .ok (.iconst 0, 1) := by decide +kernel
theorem dX7_build_24 : decode cX7_build 24 = .ok (.invokestatic 29, 3) := by decide +kernel
theorem dX7_build_27 : decode cX7_build 27 = .ok (.return_, 1) := by decide +kernel
theorem dX7_has_0 : decode cX7_has 0 = .ok (.iload_n 1, 1) := by decide +kernel
theorem dX7_has_1 : decode cX7_has 1 = .ok (.iconst 0, 1) := by decide +kernel
theorem dX7_has_2 : decode cX7_has 2 = .ok (.aload_n 0, 1) := by decide +kernel
theorem dX7_has_3 : decode cX7_has 3 = .ok (.getfield 22, 3) := by decide +kernel
theorem dX7_has_6 : decode cX7_has 6 = .ok (.iconst 1, 1) := by decide +kernel
theorem dX7_has_7 : decode cX7_has 7 = .ok (.isub, 1) := by decide +kernel
theorem dX7_has_8 : decode cX7_has 8 = .ok (.invokestatic 35, 3) := by decide +kernel
theorem dX7_has_11 : decode cX7_has 11 = .ok (.ifCond .eq 21, 3) := by decide +kernel
theorem dX7_has_14 : decode cX7_has 14 = .ok (.iload_n 2, 1) := by decide +kernel
theorem dX7_has_15 : decode cX7_has 15 = .ok (.iconst 0, 1) := by decide +kernel
theorem dX7_has_16 : decode cX7_has 16 = .ok (.aload_n 0, 1) := by decide +kernel
theorem dX7_has_17 : decode cX7_has 17 = .ok (.getfield 26, 3) := by decide +kernel
theorem dX7_has_20 : decode cX7_has 20 = .ok (.iconst 1, 1) := by decide +kernel
theorem dX7_has_21 : decode cX7_has 21 = .ok (.isub, 1) := by decide +kernel
theorem dX7_has_22 : decode cX7_has 22 = .ok (.invokestatic 35, 3) := by decide +kernel
theorem dX7_has_25 : decode cX7_has 25 = .ok (.ifCond .eq 7, 3) := by decide +kernel
theorem dX7_has_28 : decode cX7_has 28 = .ok (.iconst 1, 1) := by decide +kernel
theorem dX7_has_29 : decode cX7_has 29 = .ok (.goto 4, 3) := by decide +kernel
theorem dX7_has_32 : decode cX7_has 32 = .ok (.iconst 0, 1) := by decide +kernel
theorem dX7_has_33 : decode cX7_has 33 = .ok (.ireturn, 1) := by decide +kernel
theorem dX7_isOneCarving_0 : decode cX7_isOneCarving 0 = .ok (.aload_n 0, 1) := by decide +kernel
theorem dX7_isOneCarving_1 : decode cX7_isOneCarving 1 = .ok (.getfield 15, 3) := by decide +kernel
theorem dX7_isOneCarving_4 : decode cX7_isOneCarving 4 = .ok (.iload_n 1, 1) := by decide +kernel
theorem dX7_isOneCarving_5 : decode cX7_isOneCarving 5 = .ok (.iaload, 1) := by decide +kernel
theorem dX7_isOneCarving_6 : decode cX7_isOneCarving 6 = .ok (.ifCond .eq 22, 3) := by decide +kernel
theorem dX7_isOneCarving_9 : decode cX7_isOneCarving 9 = .ok (.aload_n 0, 1) := by decide +kernel
theorem dX7_isOneCarving_10 : decode cX7_isOneCarving 10 = .ok (.getfield 15, 3) := by decide +kernel
theorem dX7_isOneCarving_13 : decode cX7_isOneCarving 13 = .ok (.iload_n 1, 1) := by decide +kernel
theorem dX7_isOneCarving_14 : decode cX7_isOneCarving 14 = .ok (.iaload, 1) := by decide +kernel
theorem dX7_isOneCarving_15 : decode cX7_isOneCarving 15 = .ok (.aload_n 0, 1) := by decide +kernel
theorem dX7_isOneCarving_16 : decode cX7_isOneCarving 16 = .ok (.getfield 15, 3) := by decide +kernel
theorem dX7_isOneCarving_19 : decode cX7_isOneCarving 19 = .ok (.iload_n 2, 1) := by decide +kernel
theorem dX7_isOneCarving_20 : decode cX7_isOneCarving 20 = .ok (.iaload, 1) := by decide +kernel
theorem dX7_isOneCarving_21 : decode cX7_isOneCarving 21 = .ok (.if_icmp .ne 7, 3) := by decide +kernel
theorem dX7_isOneCarving_24 : decode cX7_isOneCarving 24 = .ok (.iconst 1, 1) := by decide +kernel
theorem dX7_isOneCarving_25 : decode cX7_isOneCarving 25 = .ok (.goto 4, 3) := by decide +kernel
theorem dX7_isOneCarving_28 : decode cX7_isOneCarving 28 = .ok (.iconst 0, 1) := by decide +kernel
theorem dX7_isOneCarving_29 : decode cX7_isOneCarving 29 = .ok (.ireturn, 1) := by decide +kernel
theorem dX7_weightOf_0 : decode cX7_weightOf 0 = .ok (.iconst 0, 1) := by decide +kernel
theorem dX7_weightOf_1 : decode cX7_weightOf 1 = .ok (.istore 5, 2) := by decide +kernel
theorem dX7_weightOf_3 : decode cX7_weightOf 3 = .ok (.iload_n 3, 1) := by decide +kernel
theorem dX7_weightOf_4 : decode cX7_weightOf 4 = .ok (.istore 6, 2) := by decide +kernel
theorem dX7_weightOf_6 : decode cX7_weightOf 6 = .ok (.iload 6, 2) := by decide +kernel
theorem dX7_weightOf_8 : decode cX7_weightOf 8 = .ok (.iload_n 3, 1) := by decide +kernel
theorem dX7_weightOf_9 : decode cX7_weightOf 9 = .ok (.iload 4, 2) := by decide +kernel
theorem dX7_weightOf_11 : decode cX7_weightOf 11 = .ok (.iadd, 1) := by decide +kernel
theorem dX7_weightOf_12 : decode cX7_weightOf 12 = .ok (.if_icmp .ge 43, 3) := by decide +kernel
theorem dX7_weightOf_15 : decode cX7_weightOf 15 = .ok (.iload_n 1, 1) := by decide +kernel
theorem dX7_weightOf_16 : decode cX7_weightOf 16 = .ok (.istore 7, 2) := by decide +kernel
theorem dX7_weightOf_18 : decode cX7_weightOf 18 = .ok (.iload 7, 2) := by decide +kernel
theorem dX7_weightOf_20 : decode cX7_weightOf 20 = .ok (.iload_n 1, 1) := by decide +kernel
theorem dX7_weightOf_21 : decode cX7_weightOf 21 = .ok (.iload_n 2, 1) := by decide +kernel
theorem dX7_weightOf_22 : decode cX7_weightOf 22 = .ok (.iadd, 1) := by decide +kernel
theorem dX7_weightOf_23 : decode cX7_weightOf 23 = .ok (.if_icmp .ge 26, 3) := by decide +kernel
theorem dX7_weightOf_26 : decode cX7_weightOf 26 = .ok (.iload 5, 2) := by decide +kernel
theorem dX7_weightOf_28 : decode cX7_weightOf 28 = .ok (.aload_n 0, 1) := by decide +kernel
theorem dX7_weightOf_29 : decode cX7_weightOf 29 = .ok (.getfield 9, 3) := by decide +kernel
theorem dX7_weightOf_32 : decode cX7_weightOf 32 = .ok (.iload 7, 2) := by decide +kernel
theorem dX7_weightOf_34 : decode cX7_weightOf 34 = .ok (.iload 6, 2) := by decide +kernel
theorem dX7_weightOf_36 : decode cX7_weightOf 36 = .ok (.invokestatic 39, 3) := by decide +kernel
theorem dX7_weightOf_39 : decode cX7_weightOf 39 = .ok (.iaload, 1) := by decide +kernel
theorem dX7_weightOf_40 : decode cX7_weightOf 40 = .ok (.iadd, 1) := by decide +kernel
theorem dX7_weightOf_41 : decode cX7_weightOf 41 = .ok (.istore 5, 2) := by decide +kernel
theorem dX7_weightOf_43 : decode cX7_weightOf 43 = .ok (.iinc 7 1, 3) := by decide +kernel
theorem dX7_weightOf_46 : decode cX7_weightOf 46 = .ok (.goto (-28), 3) := by decide +kernel
theorem dX7_weightOf_49 : decode cX7_weightOf 49 = .ok (.iinc 6 1, 3) := by decide +kernel
theorem dX7_weightOf_52 : decode cX7_weightOf 52 = .ok (.goto (-46), 3) := by decide +kernel
theorem dX7_weightOf_55 : decode cX7_weightOf 55 = .ok (.iload 5, 2) := by decide +kernel
theorem dX7_weightOf_57 : decode cX7_weightOf 57 = .ok (.ireturn, 1) := by decide +kernel
theorem dX7_become_0 : decode cX7_become 0 = .ok (.aload_n 0, 1) := by decide +kernel
theorem dX7_become_1 : decode cX7_become 1 = .ok (.aload_n 1, 1) := by decide +kernel
theorem dX7_become_2 : decode cX7_become 2 = .ok (.getfield 22, 3) := by decide +kernel
theorem dX7_become_5 : decode cX7_become 5 = .ok (.putfield 22, 3) := by decide +kernel
theorem dX7_become_8 : decode cX7_become 8 = .ok (.aload_n 0, 1) := by decide +kernel
theorem dX7_become_9 : decode cX7_become 9 = .ok (.aload_n 1, 1) := by decide +kernel
theorem dX7_become_10 : decode cX7_become 10 = .ok (.getfield 26, 3) := by decide +kernel
theorem dX7_become_13 : decode cX7_become 13 = .ok (.putfield 26, 3) := by decide +kernel
theorem dX7_become_16 : decode cX7_become 16 = .ok (.aload_n 1, 1) := by decide +kernel
theorem dX7_become_17 : decode cX7_become 17 = .ok (.getfield 9, 3) := by decide +kernel
theorem dX7_become_20 : decode cX7_become 20 = .ok (.aload_n 0, 1) := by decide +kernel
theorem dX7_become_21 : decode cX7_become 21 = .ok (.getfield 9, 3) := by decide +kernel
theorem dX7_become_24 : decode cX7_become 24 = .ok (.invokestatic 43, 3) := by decide +kernel
theorem dX7_become_27 : decode cX7_become 27 = .ok (.aload_n 1, 1) := by decide +kernel
theorem dX7_become_28 : decode cX7_become 28 = .ok (.getfield 15, 3) := by decide +kernel
theorem dX7_become_31 : decode cX7_become 31 = .ok (.aload_n 0, 1) := by decide +kernel
theorem dX7_become_32 : decode cX7_become 32 = .ok (.getfield 15, 3) := by decide +kernel
theorem dX7_become_35 : decode cX7_become 35 = .ok (.invokestatic 43, 3) := by decide +kernel
theorem dX7_become_38 : decode cX7_become 38 = .ok (.return_, 1) := by decide +kernel
theorem dX8_init_0 : decode cX8_init 0 = .ok (.aload_n 0, 1) := by decide +kernel
theorem dX8_init_1 : decode cX8_init 1 = .ok (.invokespecial 3, 3) := by decide +kernel
theorem dX8_init_4 : decode cX8_init 4 = .ok (.aload_n 0, 1) := by decide +kernel
theorem dX8_init_5 : decode cX8_init 5 = .ok (.bipush 64, 2) := by decide +kernel
theorem dX8_init_7 : decode cX8_init 7 = .ok (.newarray .int, 2) := by decide +kernel
theorem dX8_init_9 : decode cX8_init 9 = .ok (.putfield 9, 3) := by decide +kernel
theorem dX8_init_12 : decode cX8_init 12 = .ok (.aload_n 0, 1) := by decide +kernel
theorem dX8_init_13 : decode cX8_init 13 = .ok (.bipush 64, 2) := by decide +kernel
theorem dX8_init_15 : decode cX8_init 15 = .ok (.newarray .int, 2) := by decide +kernel
theorem dX8_init_17 : decode cX8_init 17 = .ok (.putfield 15, 3) := by decide +kernel
theorem dX8_init_20 : decode cX8_init 20 = .ok (.aload_n 0, 1) := by decide +kernel
theorem dX8_init_21 : decode cX8_init 21 = .ok (.bipush 64, 2) := by decide +kernel
theorem dX8_init_23 : decode cX8_init 23 = .ok (.newarray .int, 2) := by decide +kernel
theorem dX8_init_25 : decode cX8_init 25 = .ok (.putfield 18, 3) := by decide +kernel
theorem dX8_init_28 : decode cX8_init 28 = .ok (.aload_n 0, 1) := by decide +kernel
theorem dX8_init_29 : decode cX8_init 29 = .ok (.bipush 64, 2) := by decide +kernel
theorem dX8_init_31 : decode cX8_init 31 = .ok (.newarray .int, 2) := by decide +kernel
theorem dX8_init_33 : decode cX8_init 33 = .ok (.putfield 21, 3) := by decide +kernel
theorem dX8_init_36 : decode cX8_init 36 = .ok (.aload_n 0, 1) := by decide +kernel
theorem dX8_init_37 : decode cX8_init 37 = .ok (.invokevirtual 24, 3) := by decide +kernel
theorem dX8_init_40 : decode cX8_init 40 = .ok (.return_, 1) := by decide +kernel
theorem dX8_clear_0 : decode cX8_clear 0 = .ok (.aload_n 0, 1) := by decide +kernel
theorem dX8_clear_1 : decode cX8_clear 1 = .ok (.iconst 0, 1) := by decide +kernel
theorem dX8_clear_2 : decode cX8_clear 2 = .ok (.putfield 27, 3) := by decide +kernel
theorem dX8_clear_5 : decode cX8_clear 5 = .ok (.aload_n 0, 1) := by decide +kernel
theorem dX8_clear_6 : decode cX8_clear 6 = .ok (.iconst 0, 1) := by decide +kernel
theorem dX8_clear_7 : decode cX8_clear 7 = .ok (.putfield 31, 3) := by decide +kernel
theorem dX8_clear_10 : decode cX8_clear 10 = .ok (.aload_n 0, 1) := by decide +kernel
theorem dX8_clear_11 : decode cX8_clear 11 = .ok (.getfield 9, 3) := by decide +kernel
theorem dX8_clear_14 : decode cX8_clear 14 = .ok (.iconst (-1), 1) := by decide +kernel
theorem dX8_clear_15 : decode cX8_clear 15 = .ok (.invokestatic 34, 3) := by decide +kernel
theorem dX8_clear_18 : decode cX8_clear 18 = .ok (.aload_n 0, 1) := by decide +kernel
theorem dX8_clear_19 : decode cX8_clear 19 = .ok (.getfield 15, 3) := by decide +kernel
theorem dX8_clear_22 : decode cX8_clear 22 = .ok (.iconst (-1), 1) := by decide +kernel
theorem dX8_clear_23 : decode cX8_clear 23 = .ok (.invokestatic 34, 3) := by decide +kernel
theorem dX8_clear_26 : decode cX8_clear 26 = .ok (.return_, 1) := by decide +kernel
theorem dX8_isTaken_0 : decode cX8_isTaken 0 = .ok (.aload_n 0, 1) := by decide +kernel
theorem dX8_isTaken_1 : decode cX8_isTaken 1 = .ok (.getfield 9, 3) := by decide +kernel
theorem dX8_isTaken_4 : decode cX8_isTaken 4 = .ok (.iload_n 1, 1) := by decide +kernel
theorem dX8_isTaken_5 : decode cX8_isTaken 5 = .ok (.iaload, 1) := by decide +kernel
theorem dX8_isTaken_6 : decode cX8_isTaken 6 = .ok (.iconst (-1), 1) := by decide +kernel
theorem dX8_isTaken_7 : decode cX8_isTaken 7 = .ok (.if_icmp .eq 7, 3) := by decide +kernel
theorem dX8_isTaken_10 : decode cX8_isTaken 10 = .ok (.iconst 1, 1) := by decide +kernel
theorem dX8_isTaken_11 : decode cX8_isTaken 11 = .ok (.goto 4, 3) := by decide +kernel
theorem dX8_isTaken_14 : decode cX8_isTaken 14 = .ok (.iconst 0, 1) := by decide +kernel
theorem dX8_isTaken_15 : decode cX8_isTaken 15 = .ok (.ireturn, 1) := by decide +kernel
theorem dX8_lay_0 : decode cX8_lay 0 = .ok (.aload_n 0, 1) := by decide +kernel
theorem dX8_lay_1 : decode cX8_lay 1 = .ok (.iload_n 1, 1) := by decide +kernel
theorem dX8_lay_2 : decode cX8_lay 2 = .ok (.aload_n 2, 1) := by decide +kernel
theorem dX8_lay_3 : decode cX8_lay 3 = .ok (.invokevirtual 40, 3) := by decide +kernel
theorem dX8_lay_6 : decode cX8_lay 6 = .ok (.istore 4, 2) := by decide +kernel
theorem dX8_lay_8 : decode cX8_lay 8 = .ok (.iload 4, 2) := by decide +kernel
theorem dX8_lay_10 : decode cX8_lay 10 = .ok (.aload_n 0, 1) := by decide +kernel
theorem dX8_lay_11 : decode cX8_lay 11 = .ok (.getfield 31, 3) := by decide +kernel
theorem dX8_lay_14 : decode cX8_lay 14 = .ok (.if_icmp .ne 23, 3) := by decide +kernel
theorem dX8_lay_17 : decode cX8_lay 17 = .ok (.aload_n 0, 1) := by decide +kernel
theorem dX8_lay_18 : decode cX8_lay 18 = .ok (.getfield 18, 3) := by decide +kernel
theorem dX8_lay_21 : decode cX8_lay 21 = .ok (.iload_n 1, 1) := by decide +kernel
theorem dX8_lay_22 : decode cX8_lay 22 = .ok (.iconst 0, 1) := by decide +kernel
theorem dX8_lay_23 : decode cX8_lay 23 = .ok (.iastore, 1) := by decide +kernel
theorem dX8_lay_24 : decode cX8_lay 24 = .ok (.aload_n 0, 1) := by decide +kernel
theorem dX8_lay_25 : decode cX8_lay 25 = .ok (.dup, 1) := by decide +kernel
theorem dX8_lay_26 : decode cX8_lay 26 = .ok (.getfield 31, 3) := by decide +kernel
theorem dX8_lay_29 : decode cX8_lay 29 = .ok (.iconst 1, 1) := by decide +kernel
theorem dX8_lay_30 : decode cX8_lay 30 = .ok (.iadd, 1) := by decide +kernel
theorem dX8_lay_31 : decode cX8_lay 31 = .ok (.putfield 31, 3) := by decide +kernel
theorem dX8_lay_34 : decode cX8_lay 34 = .ok (.goto 23, 3) := by decide +kernel
theorem dX8_lay_37 : decode cX8_lay 37 = .ok (.aload_n 0, 1) := by decide +kernel
theorem dX8_lay_38 : decode cX8_lay 38 = .ok (.getfield 18, 3) := by decide +kernel
theorem dX8_lay_41 : decode cX8_lay 41 = .ok (.iload_n 1, 1) := by decide +kernel
theorem dX8_lay_42 : decode cX8_lay 42 = .ok (.aload_n 0, 1) := by decide +kernel
theorem dX8_lay_43 : decode cX8_lay 43 = .ok (.getfield 18, 3) := by decide +kernel
theorem dX8_lay_46 : decode cX8_lay 46 = .ok (.aload_n 0, 1) := by decide +kernel
theorem dX8_lay_47 : decode cX8_lay 47 = .ok (.getfield 21, 3) := by decide +kernel
theorem dX8_lay_50 : decode cX8_lay 50 = .ok (.iload 4, 2) := by decide +kernel
theorem dX8_lay_52 : decode cX8_lay 52 = .ok (.iaload, 1) := by decide +kernel
theorem dX8_lay_53 : decode cX8_lay 53 = .ok (.iaload, 1) := by decide +kernel
theorem dX8_lay_54 : decode cX8_lay 54 = .ok (.iconst 1, 1) := by decide +kernel
theorem dX8_lay_55 : decode cX8_lay 55 = .ok (.iadd, 1) := by decide +kernel
theorem dX8_lay_56 : decode cX8_lay 56 = .ok (.iastore, 1) := by decide +kernel
theorem dX8_lay_57 : decode cX8_lay 57 = .ok (.aload_n 0, 1) := by decide +kernel
theorem dX8_lay_58 : decode cX8_lay 58 = .ok (.getfield 21, 3) := by decide +kernel
theorem dX8_lay_61 : decode cX8_lay 61 = .ok (.iload 4, 2) := by decide +kernel
theorem dX8_lay_63 : decode cX8_lay 63 = .ok (.iload_n 1, 1) := by decide +kernel
theorem dX8_lay_64 : decode cX8_lay 64 = .ok (.iastore, 1) := by decide +kernel
theorem dX8_lay_65 : decode cX8_lay 65 = .ok (.aload_n 0, 1) := by decide +kernel
theorem dX8_lay_66 : decode cX8_lay 66 = .ok (.getfield 15, 3) := by decide +kernel
theorem dX8_lay_69 : decode cX8_lay 69 = .ok (.iload_n 1, 1) := by decide +kernel
theorem dX8_lay_70 : decode cX8_lay 70 = .ok (.iload 4, 2) := by decide +kernel
theorem dX8_lay_72 : decode cX8_lay 72 = .ok (.iastore, 1) := by decide +kernel
theorem dX8_lay_73 : decode cX8_lay 73 = .ok (.aload_n 0, 1) := by decide +kernel
theorem dX8_lay_74 : decode cX8_lay 74 = .ok (.getfield 9, 3) := by decide +kernel
theorem dX8_lay_77 : decode cX8_lay 77 = .ok (.iload_n 1, 1) := by decide +kernel
theorem dX8_lay_78 : decode cX8_lay 78 = .ok (.iload_n 3, 1) := by decide +kernel
theorem dX8_lay_79 : decode cX8_lay 79 = .ok (.iastore, 1) := by decide +kernel
theorem dX8_lay_80 : decode cX8_lay 80 = .ok (.aload_n 0, 1) := by decide +kernel
theorem dX8_lay_81 : decode cX8_lay 81 = .ok (.dup, 1) := by decide +kernel
theorem dX8_lay_82 : decode cX8_lay 82 = .ok (.getfield 27, 3) := by decide +kernel
theorem dX8_lay_85 : decode cX8_lay 85 = .ok (.iconst 1, 1) := by decide +kernel
theorem dX8_lay_86 : decode cX8_lay 86 = .ok (.iadd, 1) := by decide +kernel
theorem dX8_lay_87 : decode cX8_lay 87 = .ok (.putfield 27, 3) := by decide +kernel
theorem dX8_lay_90 : decode cX8_lay 90 = .ok (.iload 4, 2) := by decide +kernel
theorem dX8_lay_92 : decode cX8_lay 92 = .ok (.ireturn, 1) := by decide +kernel
theorem dX8_pileFor_0 : decode cX8_pileFor 0 = .ok (.aload_n 0, 1) := by decide +kernel
theorem dX8_pileFor_1 : decode cX8_pileFor 1 = .ok (.getfield 31, 3) := by decide +kernel
theorem dX8_pileFor_4 : decode cX8_pileFor 4 = .ok (.istore_n 3, 1) := by decide +kernel
theorem dX8_pileFor_5 : decode cX8_pileFor 5 = .ok (.bipush 64, 2) := by decide +kernel
theorem dX8_pileFor_7 : decode cX8_pileFor 7 = .ok (.istore 4, 2) := by decide +kernel
theorem dX8_pileFor_9 : decode cX8_pileFor 9 = .ok (.iconst 0, 1) := by decide +kernel
theorem dX8_pileFor_10 : decode cX8_pileFor 10 = .ok (.istore 5, 2) := by decide +kernel
theorem dX8_pileFor_12 : decode cX8_pileFor 12 = .ok (.iload 5, 2) := by decide +kernel
theorem dX8_pileFor_14 : decode cX8_pileFor 14 = .ok (.aload_n 0, 1) := by decide +kernel
theorem dX8_pileFor_15 : decode cX8_pileFor 15 = .ok (.getfield 31, 3) := by decide +kernel
theorem dX8_pileFor_18 : decode cX8_pileFor 18 = .ok (.if_icmp .ge 42, 3) := by decide +kernel
theorem dX8_pileFor_21 : decode cX8_pileFor 21 = .ok (.aload_n 2, 1) := by decide +kernel
theorem dX8_pileFor_22 : decode cX8_pileFor 22 = .ok (.aload_n 0, 1) := by decide +kernel
theorem dX8_pileFor_23 : decode cX8_pileFor 23 = .ok (.getfield 21, 3) := by decide +kernel
theorem dX8_pileFor_26 : decode cX8_pileFor 26 = .ok (.iload 5, 2) := by decide +kernel
theorem dX8_pileFor_28 : decode cX8_pileFor 28 = .ok (.iaload, 1) := by decide +kernel
theorem dX8_pileFor_29 : decode cX8_pileFor 29 = .ok (.iaload, 1) := by decide +kernel
theorem dX8_pileFor_30 : decode cX8_pileFor 30 = .ok (.istore 6, 2) := by decide +kernel
theorem dX8_pileFor_32 : decode cX8_pileFor 32 = .ok (.iload 6, 2) := by decide +kernel
theorem dX8_pileFor_34 : decode cX8_pileFor 34 = .ok (.aload_n 2, 1) := by decide +kernel
theorem dX8_pileFor_35 : decode cX8_pileFor 35 = .ok (.iload_n 1, 1) := by decide +kernel
theorem dX8_pileFor_36 : decode cX8_pileFor 36 = .ok (.iaload, 1) := by decide +kernel
theorem dX8_pileFor_37 : decode cX8_pileFor 37 = .ok (.if_icmp .le 17, 3) := by decide +kernel
theorem dX8_pileFor_40 : decode cX8_pileFor 40 = .ok (.iload 6, 2) := by decide +kernel
theorem dX8_pileFor_42 : decode cX8_pileFor 42 = .ok (.iload 4, 2) := by decide +kernel
theorem dX8_pileFor_44 : decode cX8_pileFor 44 = .ok (.if_icmp .ge 10, 3) := by decide +kernel
theorem dX8_pileFor_47 : decode cX8_pileFor 47 = .ok (.iload 5, 2) := by decide +kernel
theorem dX8_pileFor_49 : decode cX8_pileFor 49 = .ok (.istore_n 3, 1) := by decide +kernel
theorem dX8_pileFor_50 : decode cX8_pileFor 50 = .ok (.iload 6, 2) := by decide +kernel
theorem dX8_pileFor_52 : decode cX8_pileFor 52 = .ok (.istore 4, 2) := by decide +kernel
theorem dX8_pileFor_54 : decode cX8_pileFor 54 = .ok (.iinc 5 1, 3) := by decide +kernel
theorem dX8_pileFor_57 : decode cX8_pileFor 57 = .ok (.goto (-45), 3) := by decide +kernel
end
section
theorem dX8_pileFor_60 : decode cX8_pileFor 60 = .ok (.iload_n 3, 1) := by decide +kernel
theorem dX8_pileFor_61 : decode cX8_pileFor 61 = .ok (.ireturn, 1) := by decide +kernel
theorem dX8_blockIn_0 : decode cX8_blockIn 0 = .ok (.iconst 0, 1) := by decide +kernel
theorem dX8_blockIn_1 : decode cX8_blockIn 1 = .ok (.istore 4, 2) := by decide +kernel
theorem dX8_blockIn_3 : decode cX8_blockIn 3 = .ok (.iload 4, 2) := by decide +kernel
theorem dX8_blockIn_5 : decode cX8_blockIn 5 = .ok (.iload_n 3, 1) := by decide +kernel
theorem dX8_blockIn_6 : decode cX8_blockIn 6 = .ok (.if_icmp .ge 34, 3) := by decide +kernel
theorem dX8_blockIn_9 : decode cX8_blockIn 9 = .ok (.aload_n 0, 1) := by decide +kernel
theorem dX8_blockIn_10 : decode cX8_blockIn 10 = .ok (.getfield 15, 3) := by decide +kernel
theorem dX8_blockIn_13 : decode cX8_blockIn 13 = .ok (.iload 4, 2) := by decide +kernel
theorem dX8_blockIn_15 : decode cX8_blockIn 15 = .ok (.iaload, 1) := by decide +kernel
theorem dX8_blockIn_16 : decode cX8_blockIn 16 = .ok (.iload_n 1, 1) := by decide +kernel
theorem dX8_blockIn_17 : decode cX8_blockIn 17 = .ok (.if_icmp .ne 17, 3) := by decide +kernel
theorem dX8_blockIn_20 : decode cX8_blockIn 20 = .ok (.aload_n 0, 1) := by decide +kernel
theorem dX8_blockIn_21 : decode cX8_blockIn 21 = .ok (.getfield 18, 3) := by decide +kernel
theorem dX8_blockIn_24 : decode cX8_blockIn 24 = .ok (.iload 4, 2) := by decide +kernel
theorem dX8_blockIn_26 : decode cX8_blockIn 26 = .ok (.iaload, 1) := by decide +kernel
theorem dX8_blockIn_27 : decode cX8_blockIn 27 = .ok (.iload_n 2, 1) := by decide +kernel
theorem dX8_blockIn_28 : decode cX8_blockIn 28 = .ok (.if_icmp .ne 6, 3) := by decide +kernel
theorem dX8_blockIn_31 : decode cX8_blockIn 31 = .ok (.iload 4, 2) := by decide +kernel
theorem dX8_blockIn_33 : decode cX8_blockIn 33 = .ok (.ireturn, 1) := by decide +kernel
theorem dX8_blockIn_34 : decode cX8_blockIn 34 = .ok (.iinc 4 1, 3) := by decide +kernel
theorem dX8_blockIn_37 : decode cX8_blockIn 37 = .ok (.goto (-34), 3) := by decide +kernel
theorem dX8_blockIn_40 : decode cX8_blockIn 40 = .ok (.iconst (-1), 1) := by decide +kernel
theorem dX8_blockIn_41 : decode cX8_blockIn 41 = .ok (.ireturn, 1) := by decide +kernel
theorem dX8_become_0 : decode cX8_become 0 = .ok (.aload_n 0, 1) := by decide +kernel
theorem dX8_become_1 : decode cX8_become 1 = .ok (.aload_n 1, 1) := by decide +kernel
theorem dX8_become_2 : decode cX8_become 2 = .ok (.getfield 27, 3) := by decide +kernel
theorem dX8_become_5 : decode cX8_become 5 = .ok (.putfield 27, 3) := by decide +kernel
theorem dX8_become_8 : decode cX8_become 8 = .ok (.aload_n 0, 1) := by decide +kernel
theorem dX8_become_9 : decode cX8_become 9 = .ok (.aload_n 1, 1) := by decide +kernel
theorem dX8_become_10 : decode cX8_become 10 = .ok (.getfield 31, 3) := by decide +kernel
theorem dX8_become_13 : decode cX8_become 13 = .ok (.putfield 31, 3) := by decide +kernel
theorem dX8_become_16 : decode cX8_become 16 = .ok (.aload_n 1, 1) := by decide +kernel
theorem dX8_become_17 : decode cX8_become 17 = .ok (.getfield 9, 3) := by decide +kernel
theorem dX8_become_20 : decode cX8_become 20 = .ok (.aload_n 0, 1) := by decide +kernel
theorem dX8_become_21 : decode cX8_become 21 = .ok (.getfield 9, 3) := by decide +kernel
theorem dX8_become_24 : decode cX8_become 24 = .ok (.invokestatic 44, 3) := by decide +kernel
theorem dX8_become_27 : decode cX8_become 27 = .ok (.aload_n 1, 1) := by decide +kernel
theorem dX8_become_28 : decode cX8_become 28 = .ok (.getfield 15, 3) := by decide +kernel
theorem dX8_become_31 : decode cX8_become 31 = .ok (.aload_n 0, 1) := by decide +kernel
theorem dX8_become_32 : decode cX8_become 32 = .ok (.getfield 15, 3) := by decide +kernel
theorem dX8_become_35 : decode cX8_become 35 = .ok (.invokestatic 44, 3) := by decide +kernel
theorem dX8_become_38 : decode cX8_become 38 = .ok (.aload_n 1, 1) := by decide +kernel
theorem dX8_become_39 : decode cX8_become 39 = .ok (.getfield 18, 3) := by decide +kernel
theorem dX8_become_42 : decode cX8_become 42 = .ok (.aload_n 0, 1) := by decide +kernel
theorem dX8_become_43 : decode cX8_become 43 = .ok (.getfield 18, 3) := by decide +kernel
theorem dX8_become_46 : decode cX8_become 46 = .ok (.invokestatic 44, 3) := by decide +kernel
theorem dX8_become_49 : decode cX8_become 49 = .ok (.aload_n 1, 1) := by decide +kernel
theorem dX8_become_50 : decode cX8_become 50 = .ok (.getfield 21, 3) := by decide +kernel
theorem dX8_become_53 : decode cX8_become 53 = .ok (.aload_n 0, 1) := by decide +kernel
theorem dX8_become_54 : decode cX8_become 54 = .ok (.getfield 21, 3) := by decide +kernel
theorem dX8_become_57 : decode cX8_become 57 = .ok (.invokestatic 44, 3) := by decide +kernel
theorem dX8_become_60 : decode cX8_become 60 = .ok (.return_, 1) := by decide +kernel
theorem dX9_init_0 : decode cX9_init 0 = .ok (.aload_n 0, 1) := by decide +kernel
theorem dX9_init_1 : decode cX9_init 1 = .ok (.invokespecial 3, 3) := by decide +kernel
theorem dX9_init_4 : decode cX9_init 4 = .ok (.aload_n 0, 1) := by decide +kernel
theorem dX9_init_5 : decode cX9_init 5 = .ok (.new 9, 3) := by decide +kernel
theorem dX9_init_8 : decode cX9_init 8 = .ok (.dup, 1) := by decide +kernel
theorem dX9_init_9 : decode cX9_init 9 = .ok (.invokespecial 11, 3) := by decide +kernel
theorem dX9_init_12 : decode cX9_init 12 = .ok (.putfield 12, 3) := by decide +kernel
theorem dX9_init_15 : decode cX9_init 15 = .ok (.aload_n 0, 1) := by decide +kernel
theorem dX9_init_16 : decode cX9_init 16 = .ok (.new 16, 3) := by decide +kernel
theorem dX9_init_19 : decode cX9_init 19 = .ok (.dup, 1) := by decide +kernel
theorem dX9_init_20 : decode cX9_init 20 = .ok (.invokespecial 18, 3) := by decide +kernel
theorem dX9_init_23 : decode cX9_init 23 = .ok (.putfield 19, 3) := by decide +kernel
theorem dX9_init_26 : decode cX9_init 26 = .ok (.aload_n 0, 1) := by decide +kernel
theorem dX9_init_27 : decode cX9_init 27 = .ok (.new 23, 3) := by decide +kernel
theorem dX9_init_30 : decode cX9_init 30 = .ok (.dup, 1) := by decide +kernel
theorem dX9_init_31 : decode cX9_init 31 = .ok (.invokespecial 25, 3) := by decide +kernel
theorem dX9_init_34 : decode cX9_init 34 = .ok (.putfield 26, 3) := by decide +kernel
theorem dX9_init_37 : decode cX9_init 37 = .ok (.aload_n 0, 1) := by decide +kernel
theorem dX9_init_38 : decode cX9_init 38 = .ok (.iconst 3, 1) := by decide +kernel
theorem dX9_init_39 : decode cX9_init 39 = .ok (.anewarray 9, 3) := by decide +kernel
theorem dX9_init_42 : decode cX9_init 42 = .ok (.putfield 30, 3) := by decide +kernel
theorem dX9_init_45 : decode cX9_init 45 = .ok (.return_, 1) := by decide +kernel
theorem dX9_wall_0 : decode cX9_wall 0 = .ok (.iload_n 1, 1) := by decide +kernel
theorem dX9_wall_1 : decode cX9_wall 1 = .ok (.iconst 1, 1) := by decide +kernel
theorem dX9_wall_2 : decode cX9_wall 2 = .ok (.bipush 8, 2) := by decide +kernel
theorem dX9_wall_4 : decode cX9_wall 4 = .ok (.invokestatic 34, 3) := by decide +kernel
theorem dX9_wall_7 : decode cX9_wall 7 = .ok (.ifCond .eq 13, 3) := by decide +kernel
theorem dX9_wall_10 : decode cX9_wall 10 = .ok (.iload_n 2, 1) := by decide +kernel
theorem dX9_wall_11 : decode cX9_wall 11 = .ok (.iconst 1, 1) := by decide +kernel
theorem dX9_wall_12 : decode cX9_wall 12 = .ok (.bipush 8, 2) := by decide +kernel
theorem dX9_wall_14 : decode cX9_wall 14 = .ok (.invokestatic 34, 3) := by decide +kernel
theorem dX9_wall_17 : decode cX9_wall 17 = .ok (.ifCond .ne 5, 3) := by decide +kernel
theorem dX9_wall_20 : decode cX9_wall 20 = .ok (.iconst 0, 1) := by decide +kernel
theorem dX9_wall_21 : decode cX9_wall 21 = .ok (.ireturn, 1) := by decide +kernel
theorem dX9_wall_22 : decode cX9_wall 22 = .ok (.aload_n 0, 1) := by decide +kernel
theorem dX9_wall_23 : decode cX9_wall 23 = .ok (.getfield 12, 3) := by decide +kernel
theorem dX9_wall_26 : decode cX9_wall 26 = .ok (.getfield 38, 3) := by decide +kernel
theorem dX9_wall_29 : decode cX9_wall 29 = .ok (.iload_n 1, 1) := by decide +kernel
theorem dX9_wall_30 : decode cX9_wall 30 = .ok (.iload_n 2, 1) := by decide +kernel
theorem dX9_wall_31 : decode cX9_wall 31 = .ok (.invokevirtual 42, 3) := by decide +kernel
theorem dX9_wall_34 : decode cX9_wall 34 = .ok (.aload_n 0, 1) := by decide +kernel
theorem dX9_wall_35 : decode cX9_wall 35 = .ok (.getfield 12, 3) := by decide +kernel
theorem dX9_wall_38 : decode cX9_wall 38 = .ok (.invokevirtual 48, 3) := by decide +kernel
theorem dX9_wall_41 : decode cX9_wall 41 = .ok (.iconst 1, 1) := by decide +kernel
theorem dX9_wall_42 : decode cX9_wall 42 = .ok (.ireturn, 1) := by decide +kernel
theorem dX9_cell_0 : decode cX9_cell 0 = .ok (.aload_n 0, 1) := by decide +kernel
theorem dX9_cell_1 : decode cX9_cell 1 = .ok (.getfield 12, 3) := by decide +kernel
theorem dX9_cell_4 : decode cX9_cell 4 = .ok (.getfield 38, 3) := by decide +kernel
theorem dX9_cell_7 : decode cX9_cell 7 = .ok (.iload_n 1, 1) := by decide +kernel
theorem dX9_cell_8 : decode cX9_cell 8 = .ok (.iload_n 2, 1) := by decide +kernel
theorem dX9_cell_9 : decode cX9_cell 9 = .ok (.invokevirtual 51, 3) := by decide +kernel
theorem dX9_cell_12 : decode cX9_cell 12 = .ok (.ifCond .ne 5, 3) := by decide +kernel
theorem dX9_cell_15 : decode cX9_cell 15 = .ok (.iconst 0, 1) := by decide +kernel
theorem dX9_cell_16 : decode cX9_cell 16 = .ok (.ireturn, 1) := by decide +kernel
theorem dX9_cell_17 : decode cX9_cell 17 = .ok (.iload_n 3, 1) := by decide +kernel
theorem dX9_cell_18 : decode cX9_cell 18 = .ok (.iconst 1, 1) := by decide +kernel
theorem dX9_cell_19 : decode cX9_cell 19 = .ok (.bipush 50, 2) := by decide +kernel
theorem dX9_cell_21 : decode cX9_cell 21 = .ok (.invokestatic 34, 3) := by decide +kernel
theorem dX9_cell_24 : decode cX9_cell 24 = .ok (.ifCond .eq 14, 3) := by decide +kernel
theorem dX9_cell_27 : decode cX9_cell 27 = .ok (.iload 4, 2) := by decide +kernel
theorem dX9_cell_29 : decode cX9_cell 29 = .ok (.iconst 0, 1) := by decide +kernel
theorem dX9_cell_30 : decode cX9_cell 30 = .ok (.bipush 9, 2) := by decide +kernel
theorem dX9_cell_32 : decode cX9_cell 32 = .ok (.invokestatic 34, 3) := by decide +kernel
theorem dX9_cell_35 : decode cX9_cell 35 = .ok (.ifCond .ne 5, 3) := by decide +kernel
theorem dX9_cell_38 : decode cX9_cell 38 = .ok (.iconst 0, 1) := by decide +kernel
theorem dX9_cell_39 : decode cX9_cell 39 = .ok (.ireturn, 1) := by decide +kernel
theorem dX9_cell_40 : decode cX9_cell 40 = .ok (.aload_n 0, 1) := by decide +kernel
theorem dX9_cell_41 : decode cX9_cell 41 = .ok (.getfield 12, 3) := by decide +kernel
theorem dX9_cell_44 : decode cX9_cell 44 = .ok (.getfield 38, 3) := by decide +kernel
theorem dX9_cell_47 : decode cX9_cell 47 = .ok (.getfield 55, 3) := by decide +kernel
theorem dX9_cell_50 : decode cX9_cell 50 = .ok (.iload_n 1, 1) := by decide +kernel
theorem dX9_cell_51 : decode cX9_cell 51 = .ok (.iload_n 2, 1) := by decide +kernel
theorem dX9_cell_52 : decode cX9_cell 52 = .ok (.invokestatic 59, 3) := by decide +kernel
theorem dX9_cell_55 : decode cX9_cell 55 = .ok (.iload_n 3, 1) := by decide +kernel
theorem dX9_cell_56 : decode cX9_cell 56 = .ok (.iastore, 1) := by decide +kernel
theorem dX9_cell_57 : decode cX9_cell 57 = .ok (.aload_n 0, 1) := by decide +kernel
theorem dX9_cell_58 : decode cX9_cell 58 = .ok (.getfield 12, 3) := by decide +kernel
theorem dX9_cell_61 : decode cX9_cell 61 = .ok (.getfield 38, 3) := by decide +kernel
theorem dX9_cell_64 : decode cX9_cell 64 = .ok (.getfield 63, 3) := by decide +kernel
theorem dX9_cell_67 : decode cX9_cell 67 = .ok (.iload_n 1, 1) := by decide +kernel
theorem dX9_cell_68 : decode cX9_cell 68 = .ok (.iload_n 2, 1) := by decide +kernel
theorem dX9_cell_69 : decode cX9_cell 69 = .ok (.invokestatic 59, 3) := by decide +kernel
theorem dX9_cell_72 : decode cX9_cell 72 = .ok (.iload 4, 2) := by decide +kernel
theorem dX9_cell_74 : decode cX9_cell 74 = .ok (.iastore, 1) := by decide +kernel
theorem dX9_cell_75 : decode cX9_cell 75 = .ok (.aload_n 0, 1) := by decide +kernel
theorem dX9_cell_76 : decode cX9_cell 76 = .ok (.getfield 12, 3) := by decide +kernel
theorem dX9_cell_79 : decode cX9_cell 79 = .ok (.invokevirtual 48, 3) := by decide +kernel
theorem dX9_cell_82 : decode cX9_cell 82 = .ok (.iconst 1, 1) := by decide +kernel
theorem dX9_cell_83 : decode cX9_cell 83 = .ok (.ireturn, 1) := by decide +kernel
theorem dX9_motifs_0 : decode cX9_motifs 0 = .ok (.aload_n 0, 1) := by decide +kernel
theorem dX9_motifs_1 : decode cX9_motifs 1 = .ok (.getfield 12, 3) := by decide +kernel
theorem dX9_motifs_4 : decode cX9_motifs 4 = .ok (.getfield 38, 3) := by decide +kernel
theorem dX9_motifs_7 : decode cX9_motifs 7 = .ok (.iconst 0, 1) := by decide +kernel
theorem dX9_motifs_8 : decode cX9_motifs 8 = .ok (.iload_n 1, 1) := by decide +kernel
theorem dX9_motifs_9 : decode cX9_motifs 9 = .ok (.invokevirtual 51, 3) := by decide +kernel
theorem dX9_motifs_12 : decode cX9_motifs 12 = .ok (.ifCond .eq 10, 3) := by decide +kernel
theorem dX9_motifs_15 : decode cX9_motifs 15 = .ok (.iload_n 2, 1) := by decide +kernel
theorem dX9_motifs_16 : decode cX9_motifs 16 = .ok (.invokestatic 66, 3) := by decide +kernel
theorem dX9_motifs_19 : decode cX9_motifs 19 = .ok (.ifCond .ne 5, 3) := by decide +kernel
theorem dX9_motifs_22 : decode cX9_motifs 22 = .ok (.iconst 0, 1) := by decide +kernel
theorem dX9_motifs_23 : decode cX9_motifs 23 = .ok (.ireturn, 1) := by decide +kernel
theorem dX9_motifs_24 : decode cX9_motifs 24 = .ok (.iconst 0, 1) := by decide +kernel
theorem dX9_motifs_25 : decode cX9_motifs 25 = .ok (.istore_n 3, 1) := by decide +kernel
theorem dX9_motifs_26 : decode cX9_motifs 26 = .ok (.iload_n 3, 1) := by decide +kernel
theorem dX9_motifs_27 : decode cX9_motifs 27 = .ok (.aload_n 0, 1) := by decide +kernel
theorem dX9_motifs_28 : decode cX9_motifs 28 = .ok (.getfield 12, 3) := by decide +kernel
theorem dX9_motifs_31 : decode cX9_motifs 31 = .ok (.getfield 38, 3) := by decide +kernel
theorem dX9_motifs_34 : decode cX9_motifs 34 = .ok (.getfield 70, 3) := by decide +kernel
theorem dX9_motifs_37 : decode cX9_motifs 37 = .ok (.if_icmp .ge 30, 3) := by decide +kernel
theorem dX9_motifs_40 : decode cX9_motifs 40 = .ok (.aload_n 0, 1) := by decide +kernel
theorem dX9_motifs_41 : decode cX9_motifs 41 = .ok (.getfield 12, 3) := by decide +kernel
theorem dX9_motifs_44 : decode cX9_motifs 44 = .ok (.getfield 38, 3) := by decide +kernel
theorem dX9_motifs_47 : decode cX9_motifs 47 = .ok (.getfield 63, 3) := by decide +kernel
theorem dX9_motifs_50 : decode cX9_motifs 50 = .ok (.iload_n 3, 1) := by decide +kernel
theorem dX9_motifs_51 : decode cX9_motifs 51 = .ok (.iload_n 1, 1) := by decide +kernel
theorem dX9_motifs_52 : decode cX9_motifs 52 = .ok (.invokestatic 59, 3) := by decide +kernel
theorem dX9_motifs_55 : decode cX9_motifs 55 = .ok (.iload_n 2, 1) := by decide +kernel
theorem dX9_motifs_56 : decode cX9_motifs 56 = .ok (.iload_n 3, 1) := by decide +kernel
theorem dX9_motifs_57 : decode cX9_motifs 57 = .ok (.invokestatic 74, 3) := by decide +kernel
theorem dX9_motifs_60 : decode cX9_motifs 60 = .ok (.iastore, 1) := by decide +kernel
theorem dX9_motifs_61 : decode cX9_motifs 61 = .ok (.iinc 3 1, 3) := by decide +kernel
theorem dX9_motifs_64 : decode cX9_motifs 64 = .ok (.goto (-38), 3) := by decide +kernel
theorem dX9_motifs_67 : decode cX9_motifs 67 = .ok (.aload_n 0, 1) := by decide +kernel
theorem dX9_motifs_68 : decode cX9_motifs 68 = .ok (.getfield 12, 3) := by decide +kernel
theorem dX9_motifs_71 : decode cX9_motifs 71 = .ok (.invokevirtual 48, 3) := by decide +kernel
theorem dX9_motifs_74 : decode cX9_motifs 74 = .ok (.iconst 1, 1) := by decide +kernel
theorem dX9_motifs_75 : decode cX9_motifs 75 = .ok (.ireturn, 1) := by decide +kernel
theorem dX9_limit_0 : decode cX9_limit 0 = .ok (.iload_n 1, 1) := by decide +kernel
theorem dX9_limit_1 : decode cX9_limit 1 = .ok (.iconst 1, 1) := by decide +kernel
theorem dX9_limit_2 : decode cX9_limit 2 = .ok (.sipush 3200, 3) := by decide +kernel
theorem dX9_limit_5 : decode cX9_limit 5 = .ok (.invokestatic 34, 3) := by decide +kernel
theorem dX9_limit_8 : decode cX9_limit 8 = .ok (.ifCond .ne 5, 3) := by decide +kernel
theorem dX9_limit_11 : decode cX9_limit 11 = .ok (.iconst 0, 1) := by decide +kernel
theorem dX9_limit_12 : decode cX9_limit 12 = .ok (.ireturn, 1) := by decide +kernel
theorem dX9_limit_13 : decode cX9_limit 13 = .ok (.aload_n 0, 1) := by decide +kernel
theorem dX9_limit_14 : decode cX9_limit 14 = .ok (.getfield 12, 3) := by decide +kernel
theorem dX9_limit_17 : decode cX9_limit 17 = .ok (.iload_n 1, 1) := by decide +kernel
theorem dX9_limit_18 : decode cX9_limit 18 = .ok (.putfield 77, 3) := by decide +kernel
theorem dX9_limit_21 : decode cX9_limit 21 = .ok (.iconst 1, 1) := by decide +kernel
theorem dX9_limit_22 : decode cX9_limit 22 = .ok (.ireturn, 1) := by decide +kernel
theorem dX9_saw_0 : decode cX9_saw 0 = .ok (.iload_n 1, 1) := by decide +kernel
theorem dX9_saw_1 : decode cX9_saw 1 = .ok (.iconst 1, 1) := by decide +kernel
theorem dX9_saw_2 : decode cX9_saw 2 = .ok (.bipush 9, 2) := by decide +kernel
theorem dX9_saw_4 : decode cX9_saw 4 = .ok (.invokestatic 34, 3) := by decide +kernel
theorem dX9_saw_7 : decode cX9_saw 7 = .ok (.ifCond .ne 5, 3) := by decide +kernel
theorem dX9_saw_10 : decode cX9_saw 10 = .ok (.iconst 0, 1) := by decide +kernel
theorem dX9_saw_11 : decode cX9_saw 11 = .ok (.ireturn, 1) := by decide +kernel
theorem dX9_saw_12 : decode cX9_saw 12 = .ok (.aload_n 0, 1) := by decide +kernel
theorem dX9_saw_13 : decode cX9_saw 13 = .ok (.getfield 12, 3) := by decide +kernel
theorem dX9_saw_16 : decode cX9_saw 16 = .ok (.iload_n 1, 1) := by decide +kernel
theorem dX9_saw_17 : decode cX9_saw 17 = .ok (.putfield 80, 3) := by decide +kernel
theorem dX9_saw_20 : decode cX9_saw 20 = .ok (.iconst 1, 1) := by decide +kernel
theorem dX9_saw_21 : decode cX9_saw 21 = .ok (.ireturn, 1) := by decide +kernel
theorem dX9_plan_0 : decode cX9_plan 0 = .ok (.aload_n 0, 1) := by decide +kernel
theorem dX9_plan_1 : decode cX9_plan 1 = .ok (.getfield 19, 3) := by decide +kernel
theorem dX9_plan_4 : decode cX9_plan 4 = .ok (.aload_n 0, 1) := by decide +kernel
theorem dX9_plan_5 : decode cX9_plan 5 = .ok (.getfield 12, 3) := by decide +kernel
theorem dX9_plan_8 : decode cX9_plan 8 = .ok (.getfield 38, 3) := by decide +kernel
theorem dX9_plan_11 : decode cX9_plan 11 = .ok (.aload_n 0, 1) := by decide +kernel
theorem dX9_plan_12 : decode cX9_plan 12 = .ok (.getfield 12, 3) := by decide +kernel
theorem dX9_plan_15 : decode cX9_plan 15 = .ok (.getfield 77, 3) := by decide +kernel
theorem dX9_plan_18 : decode cX9_plan 18 = .ok (.invokevirtual 83, 3) := by decide +kernel
theorem dX9_plan_21 : decode cX9_plan 21 = .ok (.ifCond .ne 5, 3) := by decide +kernel
theorem dX9_plan_24 : decode cX9_plan 24 = .ok (.iconst (-1), 1) := by decide +kernel
theorem dX9_plan_25 : decode cX9_plan 25 = .ok (.ireturn, 1) := by decide +kernel
theorem dX9_plan_26 : decode cX9_plan 26 = .ok (.aload_n 0, 1) := by decide +kernel
theorem dX9_plan_27 : decode cX9_plan 27 = .ok (.getfield 12, 3) := by decide +kernel
theorem dX9_plan_30 : decode cX9_plan 30 = .ok (.invokevirtual 48, 3) := by decide +kernel
theorem dX9_plan_33 : decode cX9_plan 33 = .ok (.aload_n 0, 1) := by decide +kernel
theorem dX9_plan_34 : decode cX9_plan 34 = .ok (.getfield 19, 3) := by decide +kernel
theorem dX9_plan_37 : decode cX9_plan 37 = .ok (.aload_n 0, 1) := by decide +kernel
theorem dX9_plan_38 : decode cX9_plan 38 = .ok (.getfield 12, 3) := by decide +kernel
theorem dX9_plan_41 : decode cX9_plan 41 = .ok (.getfield 38, 3) := by decide +kernel
theorem dX9_plan_44 : decode cX9_plan 44 = .ok (.aload_n 0, 1) := by decide +kernel
theorem dX9_plan_45 : decode cX9_plan 45 = .ok (.getfield 12, 3) := by decide +kernel
theorem dX9_plan_48 : decode cX9_plan 48 = .ok (.getfield 87, 3) := by decide +kernel
theorem dX9_plan_51 : decode cX9_plan 51 = .ok (.invokevirtual 91, 3) := by decide +kernel
theorem dX9_plan_54 : decode cX9_plan 54 = .ok (.aload_n 0, 1) := by decide +kernel
theorem dX9_plan_55 : decode cX9_plan 55 = .ok (.getfield 12, 3) := by decide +kernel
theorem dX9_plan_58 : decode cX9_plan 58 = .ok (.getfield 87, 3) := by decide +kernel
theorem dX9_plan_61 : decode cX9_plan 61 = .ok (.getfield 95, 3) := by decide +kernel
theorem dX9_plan_64 : decode cX9_plan 64 = .ok (.ireturn, 1) := by decide +kernel
theorem dX9_block_0 : decode cX9_block 0 = .ok (.aload_n 0, 1) := by decide +kernel
theorem dX9_block_1 : decode cX9_block 1 = .ok (.getfield 12, 3) := by decide +kernel
theorem dX9_block_4 : decode cX9_block 4 = .ok (.getfield 87, 3) := by decide +kernel
theorem dX9_block_7 : decode cX9_block 7 = .ok (.iload_n 1, 1) := by decide +kernel
theorem dX9_block_8 : decode cX9_block 8 = .ok (.invokevirtual 100, 3) := by decide +kernel
theorem dX9_block_11 : decode cX9_block 11 = .ok (.ifCond .ne 5, 3) := by decide +kernel
theorem dX9_block_14 : decode cX9_block 14 = .ok (.iconst (-1), 1) := by decide +kernel
theorem dX9_block_15 : decode cX9_block 15 = .ok (.ireturn, 1) := by decide +kernel
theorem dX9_block_16 : decode cX9_block 16 = .ok (.iload_n 2, 1) := by decide +kernel
theorem dX9_block_17 : decode cX9_block 17 = .ok (.tableswitch 218 0 11 #[63, 76, 89, 102, 115, 124, 133, 146, 166, 183, 196, 205], 63) := by decide +kernel
theorem dX9_block_80 : decode cX9_block 80 = .ok (.aload_n 0, 1) := by decide +kernel
theorem dX9_block_81 : decode cX9_block 81 = .ok (.getfield 12, 3) := by decide +kernel
theorem dX9_block_84 : decode cX9_block 84 = .ok (.getfield 87, 3) := by decide +kernel
theorem dX9_block_87 : decode cX9_block 87 = .ok (.getfield 102, 3) := by decide +kernel
theorem dX9_block_90 : decode cX9_block 90 = .ok (.iload_n 1, 1) := by decide +kernel
theorem dX9_block_91 : decode cX9_block 91 = .ok (.iaload, 1) := by decide +kernel
theorem dX9_block_92 : decode cX9_block 92 = .ok (.ireturn, 1) := by decide +kernel
theorem dX9_block_93 : decode cX9_block 93 = .ok (.aload_n 0, 1) := by decide +kernel
theorem dX9_block_94 : decode cX9_block 94 = .ok (.getfield 12, 3) := by decide +kernel
theorem dX9_block_97 : decode cX9_block 97 = .ok (.getfield 87, 3) := by decide +kernel
theorem dX9_block_100 : decode cX9_block 100 = .ok (.getfield 105, 3) := by decide +kernel
theorem dX9_block_103 : decode cX9_block 103 = .ok (.iload_n 1, 1) := by decide +kernel
theorem dX9_block_104 : decode cX9_block 104 = .ok (.iaload, 1) := by decide +kernel
theorem dX9_block_105 : decode cX9_block 105 = .ok (.ireturn, 1) := by decide +kernel
theorem dX9_block_106 : decode cX9_block 106 = .ok (.aload_n 0, 1) := by decide +kernel
theorem dX9_block_107 : decode cX9_block 107 = .ok (.getfield 12, 3) := by decide +kernel
theorem dX9_block_110 : decode cX9_block 110 = .ok (.getfield 87, 3) := by decide +kernel
theorem dX9_block_113 : decode cX9_block 113 = .ok (.getfield 108, 3) := by decide +kernel
theorem dX9_block_116 : decode cX9_block 116 = .ok (.iload_n 1, 1) := by decide +kernel
theorem dX9_block_117 : decode cX9_block 117 = .ok (.iaload, 1) := by decide +kernel
theorem dX9_block_118 : decode cX9_block 118 = .ok (.ireturn, 1) := by decide +kernel
theorem dX9_block_119 : decode cX9_block 119 = .ok (.aload_n 0, 1) := by decide +kernel
theorem dX9_block_120 : decode cX9_block 120 = .ok (.getfield 12, 3) := by decide +kernel
theorem dX9_block_123 : decode cX9_block 123 = .ok (.getfield 87, 3) := by decide +kernel
theorem dX9_block_126 : decode cX9_block 126 = .ok (.getfield 110, 3) := by decide +kernel
theorem dX9_block_129 : decode cX9_block 129 = .ok (.iload_n 1, 1) := by decide +kernel
theorem dX9_block_130 : decode cX9_block 130 = .ok (.iaload, 1) := by decide +kernel
theorem dX9_block_131 : decode cX9_block 131 = .ok (.ireturn, 1) := by decide +kernel
theorem dX9_block_132 : decode cX9_block 132 = .ok (.aload_n 0, 1) := by decide +kernel
theorem dX9_block_133 : decode cX9_block 133 = .ok (.getfield 12, 3) := by decide +kernel
theorem dX9_block_136 : decode cX9_block 136 = .ok (.iload_n 1, 1) := by decide +kernel
theorem dX9_block_137 : decode cX9_block 137 = .ok (.invokevirtual 113, 3) := by decide +kernel
theorem dX9_block_140 : decode cX9_block 140 = .ok (.ireturn, 1) := by decide +kernel
theorem dX9_block_141 : decode cX9_block 141 = .ok (.aload_n 0, 1) := by decide +kernel
theorem dX9_block_142 : decode cX9_block 142 = .ok (.getfield 12, 3) := by decide +kernel
theorem dX9_block_145 : decode cX9_block 145 = .ok (.iload_n 1, 1) := by decide +kernel
theorem dX9_block_146 : decode cX9_block 146 = .ok (.invokevirtual 117, 3) := by decide +kernel
theorem dX9_block_149 : decode cX9_block 149 = .ok (.ireturn, 1) := by decide +kernel
theorem dX9_block_150 : decode cX9_block 150 = .ok (.aload_n 0, 1) := by decide +kernel
theorem dX9_block_151 : decode cX9_block 151 = .ok (.getfield 12, 3) := by decide +kernel
theorem dX9_block_154 : decode cX9_block 154 = .ok (.getfield 87, 3) := by decide +kernel
theorem dX9_block_157 : decode cX9_block 157 = .ok (.getfield 120, 3) := by decide +kernel
theorem dX9_block_160 : decode cX9_block 160 = .ok (.iload_n 1, 1) := by decide +kernel
theorem dX9_block_161 : decode cX9_block 161 = .ok (.iaload, 1) := by decide +kernel
theorem dX9_block_162 : decode cX9_block 162 = .ok (.ireturn, 1) := by decide +kernel
theorem dX9_block_163 : decode cX9_block 163 = .ok (.aload_n 0, 1) := by decide +kernel
theorem dX9_block_164 : decode cX9_block 164 = .ok (.getfield 12, 3) := by decide +kernel
theorem dX9_block_167 : decode cX9_block 167 = .ok (.getfield 123, 3) := by decide +kernel
theorem dX9_block_170 : decode cX9_block 170 = .ok (.iload_n 1, 1) := by decide +kernel
theorem dX9_block_171 : decode cX9_block 171 = .ok (.invokevirtual 127, 3) := by decide +kernel
theorem dX9_block_174 : decode cX9_block 174 = .ok (.ifCond .eq 7, 3) := by decide +kernel
theorem dX9_block_177 : decode cX9_block 177 = .ok (.iconst 1, 1) := by decide +kernel
theorem dX9_block_178 : decode cX9_block 178 = .ok (.goto 4, 3) := by decide +kernel
theorem dX9_block_181 : decode cX9_block 181 = .ok (.iconst 0, 1) := by decide +kernel
theorem dX9_block_182 : decode cX9_block 182 = .ok (.ireturn, 1) := by decide +kernel
theorem dX9_block_183 : decode cX9_block 183 = .ok (.aload_n 0, 1) := by decide +kernel
theorem dX9_block_184 : decode cX9_block 184 = .ok (.getfield 12, 3) := by decide +kernel
theorem dX9_block_187 : decode cX9_block 187 = .ok (.iload_n 1, 1) := by decide +kernel
theorem dX9_block_188 : decode cX9_block 188 = .ok (.invokevirtual 132, 3) := by decide +kernel
theorem dX9_block_191 : decode cX9_block 191 = .ok (.ifCond .eq 7, 3) := by decide +kernel
theorem dX9_block_194 : decode cX9_block 194 = .ok (.iconst 1, 1) := by decide +kernel
theorem dX9_block_195 : decode cX9_block 195 = .ok (.goto 4, 3) := by decide +kernel
theorem dX9_block_198 : decode cX9_block 198 = .ok (.iconst 0, 1) := by decide +kernel
theorem dX9_block_199 : decode cX9_block 199 = .ok (.ireturn, 1) := by decide +kernel
theorem dX9_block_200 : decode cX9_block 200 = .ok (.aload_n 0, 1) := by decide +kernel
theorem dX9_block_201 : decode cX9_block 201 = .ok (.getfield 12, 3) := by decide +kernel
theorem dX9_block_204 : decode cX9_block 204 = .ok (.getfield 123, 3) := by decide +kernel
theorem dX9_block_207 : decode cX9_block 207 = .ok (.getfield 135, 3) := by decide +kernel
theorem dX9_block_210 : decode cX9_block 210 = .ok (.iload_n 1, 1) := by decide +kernel
theorem dX9_block_211 : decode cX9_block 211 = .ok (.iaload, 1) := by decide +kernel
theorem dX9_block_212 : decode cX9_block 212 = .ok (.ireturn, 1) := by decide +kernel
theorem dX9_block_213 : decode cX9_block 213 = .ok (.aload_n 0, 1) := by decide +kernel
theorem dX9_block_214 : decode cX9_block 214 = .ok (.getfield 12, 3) := by decide +kernel
theorem dX9_block_217 : decode cX9_block 217 = .ok (.iload_n 1, 1) := by decide +kernel
theorem dX9_block_218 : decode cX9_block 218 = .ok (.invokevirtual 138, 3) := by decide +kernel
theorem dX9_block_221 : decode cX9_block 221 = .ok (.ireturn, 1) := by decide +kernel
theorem dX9_block_222 : decode cX9_block 222 = .ok (.aload_n 0, 1) := by decide +kernel
theorem dX9_block_223 : decode cX9_block 223 = .ok (.getfield 12, 3) := by decide +kernel
theorem dX9_block_226 : decode cX9_block 226 = .ok (.getfield 123, 3) := by decide +kernel
theorem dX9_block_229 : decode cX9_block 229 = .ok (.getfield 141, 3) := by decide +kernel
theorem dX9_block_232 : decode cX9_block 232 = .ok (.iload_n 1, 1) := by decide +kernel
theorem dX9_block_233 : decode cX9_block 233 = .ok (.iaload, 1) := by decide +kernel
theorem dX9_block_234 : decode cX9_block 234 = .ok (.ireturn, 1) := by decide +kernel
theorem dX9_block_235 : decode cX9_block 235 = .ok (.iconst (-1), 1) := by decide +kernel
theorem dX9_block_236 : decode cX9_block 236 = .ok (.ireturn, 1) := by decide +kernel
theorem dX9_at_0 : decode cX9_at 0 = .ok (.aload_n 0, 1) := by decide +kernel
theorem dX9_at_1 : decode cX9_at 1 = .ok (.getfield 12, 3) := by decide +kernel
theorem dX9_at_4 : decode cX9_at 4 = .ok (.getfield 87, 3) := by decide +kernel
theorem dX9_at_7 : decode cX9_at 7 = .ok (.getfield 95, 3) := by decide +kernel
theorem dX9_at_10 : decode cX9_at 10 = .ok (.ifCond .eq 18, 3) := by decide +kernel
theorem dX9_at_13 : decode cX9_at 13 = .ok (.aload_n 0, 1) := by decide +kernel
theorem dX9_at_14 : decode cX9_at 14 = .ok (.getfield 12, 3) := by decide +kernel
theorem dX9_at_17 : decode cX9_at 17 = .ok (.getfield 38, 3) := by decide +kernel
theorem dX9_at_20 : decode cX9_at 20 = .ok (.iload_n 1, 1) := by decide +kernel
theorem dX9_at_21 : decode cX9_at 21 = .ok (.iload_n 2, 1) := by decide +kernel
theorem dX9_at_22 : decode cX9_at 22 = .ok (.invokevirtual 51, 3) := by decide +kernel
theorem dX9_at_25 : decode cX9_at 25 = .ok (.ifCond .ne 5, 3) := by decide +kernel
theorem dX9_at_28 : decode cX9_at 28 = .ok (.iconst (-1), 1) := by decide +kernel
theorem dX9_at_29 : decode cX9_at 29 = .ok (.ireturn, 1) := by decide +kernel
theorem dX9_at_30 : decode cX9_at 30 = .ok (.aload_n 0, 1) := by decide +kernel
theorem dX9_at_31 : decode cX9_at 31 = .ok (.getfield 12, 3) := by decide +kernel
theorem dX9_at_34 : decode cX9_at 34 = .ok (.getfield 87, 3) := by decide +kernel
theorem dX9_at_37 : decode cX9_at 37 = .ok (.getfield 144, 3) := by decide +kernel
theorem dX9_at_40 : decode cX9_at 40 = .ok (.iload_n 1, 1) := by decide +kernel
theorem dX9_at_41 : decode cX9_at 41 = .ok (.iload_n 2, 1) := by decide +kernel
theorem dX9_at_42 : decode cX9_at 42 = .ok (.invokestatic 59, 3) := by decide +kernel
theorem dX9_at_45 : decode cX9_at 45 = .ok (.iaload, 1) := by decide +kernel
theorem dX9_at_46 : decode cX9_at 46 = .ok (.ireturn, 1) := by decide +kernel
theorem dX9_above_0 : decode cX9_above 0 = .ok (.aload_n 0, 1) := by decide +kernel
theorem dX9_above_1 : decode cX9_above 1 = .ok (.getfield 12, 3) := by decide +kernel
theorem dX9_above_4 : decode cX9_above 4 = .ok (.getfield 87, 3) := by decide +kernel
theorem dX9_above_7 : decode cX9_above 7 = .ok (.iload_n 1, 1) := by decide +kernel
theorem dX9_above_8 : decode cX9_above 8 = .ok (.invokevirtual 100, 3) := by decide +kernel
theorem dX9_above_11 : decode cX9_above 11 = .ok (.ifCond .eq 36, 3) := by decide +kernel
theorem dX9_above_14 : decode cX9_above 14 = .ok (.aload_n 0, 1) := by decide +kernel
theorem dX9_above_15 : decode cX9_above 15 = .ok (.getfield 12, 3) := by decide +kernel
theorem dX9_above_18 : decode cX9_above 18 = .ok (.getfield 87, 3) := by decide +kernel
theorem dX9_above_21 : decode cX9_above 21 = .ok (.iload_n 2, 1) := by decide +kernel
theorem dX9_above_22 : decode cX9_above 22 = .ok (.invokevirtual 100, 3) := by decide +kernel
theorem dX9_above_25 : decode cX9_above 25 = .ok (.ifCond .eq 22, 3) := by decide +kernel
theorem dX9_above_28 : decode cX9_above 28 = .ok (.aload_n 0, 1) := by decide +kernel
theorem dX9_above_29 : decode cX9_above 29 = .ok (.getfield 12, 3) := by decide +kernel
theorem dX9_above_32 : decode cX9_above 32 = .ok (.getfield 87, 3) := by decide +kernel
theorem dX9_above_35 : decode cX9_above 35 = .ok (.iload_n 1, 1) := by decide +kernel
theorem dX9_above_36 : decode cX9_above 36 = .ok (.iload_n 2, 1) := by decide +kernel
theorem dX9_above_37 : decode cX9_above 37 = .ok (.invokevirtual 147, 3) := by decide +kernel
theorem dX9_above_40 : decode cX9_above 40 = .ok (.ifCond .eq 7, 3) := by decide +kernel
theorem dX9_above_43 : decode cX9_above 43 = .ok (.iconst 1, 1) := by decide +kernel
theorem dX9_above_44 : decode cX9_above 44 = .ok (.goto 4, 3) := by decide +kernel
theorem dX9_above_47 : decode cX9_above 47 = .ok (.iconst 0, 1) := by decide +kernel
theorem dX9_above_48 : decode cX9_above 48 = .ok (.ireturn, 1) := by decide +kernel
theorem dX9_river_0 : decode cX9_river 0 = .ok (.iload_n 1, 1) := by decide +kernel
theorem dX9_river_1 : decode cX9_river 1 = .ok (.iconst 0, 1) := by decide +kernel
theorem dX9_river_2 : decode cX9_river 2 = .ok (.bipush 11, 2) := by decide +kernel
theorem dX9_river_4 : decode cX9_river 4 = .ok (.invokestatic 34, 3) := by decide +kernel
theorem dX9_river_7 : decode cX9_river 7 = .ok (.ifCond .eq 13, 3) := by decide +kernel
theorem dX9_river_10 : decode cX9_river 10 = .ok (.iload_n 2, 1) := by decide +kernel
theorem dX9_river_11 : decode cX9_river 11 = .ok (.iconst 0, 1) := by decide +kernel
theorem dX9_river_12 : decode cX9_river 12 = .ok (.bipush 9, 2) := by decide +kernel
theorem dX9_river_14 : decode cX9_river 14 = .ok (.invokestatic 34, 3) := by decide +kernel
theorem dX9_river_17 : decode cX9_river 17 = .ok (.ifCond .ne 5, 3) := by decide +kernel
theorem dX9_river_20 : decode cX9_river 20 = .ok (.iconst 0, 1) := by decide +kernel
theorem dX9_river_21 : decode cX9_river 21 = .ok (.ireturn, 1) := by decide +kernel
theorem dX9_river_22 : decode cX9_river 22 = .ok (.aload_n 0, 1) := by decide +kernel
theorem dX9_river_23 : decode cX9_river 23 = .ok (.getfield 12, 3) := by decide +kernel
theorem dX9_river_26 : decode cX9_river 26 = .ok (.getfield 150, 3) := by decide +kernel
theorem dX9_river_29 : decode cX9_river 29 = .ok (.getfield 154, 3) := by decide +kernel
theorem dX9_river_32 : decode cX9_river 32 = .ok (.iload_n 1, 1) := by decide +kernel
theorem dX9_river_33 : decode cX9_river 33 = .ok (.iload_n 2, 1) := by decide +kernel
theorem dX9_river_34 : decode cX9_river 34 = .ok (.iastore, 1) := by decide +kernel
theorem dX9_river_35 : decode cX9_river 35 = .ok (.iconst 1, 1) := by decide +kernel
theorem dX9_river_36 : decode cX9_river 36 = .ok (.ireturn, 1) := by decide +kernel
theorem dX9_days_0 : decode cX9_days 0 = .ok (.iload_n 1, 1) := by decide +kernel
theorem dX9_days_1 : decode cX9_days 1 = .ok (.iconst 1, 1) := by decide +kernel
theorem dX9_days_2 : decode cX9_days 2 = .ok (.bipush 100, 2) := by decide +kernel
theorem dX9_days_4 : decode cX9_days 4 = .ok (.invokestatic 34, 3) := by decide +kernel
theorem dX9_days_7 : decode cX9_days 7 = .ok (.ifCond .eq 18, 3) := by decide +kernel
theorem dX9_days_10 : decode cX9_days 10 = .ok (.aload_n 0, 1) := by decide +kernel
theorem dX9_days_11 : decode cX9_days 11 = .ok (.getfield 12, 3) := by decide +kernel
theorem dX9_days_14 : decode cX9_days 14 = .ok (.getfield 159, 3) := by decide +kernel
theorem dX9_days_17 : decode cX9_days 17 = .ok (.iload_n 1, 1) := by decide +kernel
theorem dX9_days_18 : decode cX9_days 18 = .ok (.iadd, 1) := by decide +kernel
theorem dX9_days_19 : decode cX9_days 19 = .ok (.sipush 5000, 3) := by decide +kernel
theorem dX9_days_22 : decode cX9_days 22 = .ok (.if_icmp .le 5, 3) := by decide +kernel
theorem dX9_days_25 : decode cX9_days 25 = .ok (.iconst (-1), 1) := by decide +kernel
theorem dX9_days_26 : decode cX9_days 26 = .ok (.ireturn, 1) := by decide +kernel
theorem dX9_days_27 : decode cX9_days 27 = .ok (.aload_n 0, 1) := by decide +kernel
theorem dX9_days_28 : decode cX9_days 28 = .ok (.getfield 12, 3) := by decide +kernel
theorem dX9_days_31 : decode cX9_days 31 = .ok (.dup, 1) := by decide +kernel
theorem dX9_days_32 : decode cX9_days 32 = .ok (.getfield 159, 3) := by decide +kernel
theorem dX9_days_35 : decode cX9_days 35 = .ok (.iload_n 1, 1) := by decide +kernel
theorem dX9_days_36 : decode cX9_days 36 = .ok (.iadd, 1) := by decide +kernel
theorem dX9_days_37 : decode cX9_days 37 = .ok (.putfield 159, 3) := by decide +kernel
theorem dX9_days_40 : decode cX9_days 40 = .ok (.aload_n 0, 1) := by decide +kernel
theorem dX9_days_41 : decode cX9_days 41 = .ok (.getfield 12, 3) := by decide +kernel
theorem dX9_days_44 : decode cX9_days 44 = .ok (.getfield 159, 3) := by decide +kernel
theorem dX9_days_47 : decode cX9_days 47 = .ok (.ireturn, 1) := by decide +kernel
theorem dX9_take_0 : decode cX9_take 0 = .ok (.aload_n 0, 1) := by decide +kernel
theorem dX9_take_1 : decode cX9_take 1 = .ok (.getfield 12, 3) := by decide +kernel
theorem dX9_take_4 : decode cX9_take 4 = .ok (.getfield 87, 3) := by decide +kernel
theorem dX9_take_7 : decode cX9_take 7 = .ok (.iload_n 1, 1) := by decide +kernel
theorem dX9_take_8 : decode cX9_take 8 = .ok (.invokevirtual 100, 3) := by decide +kernel
theorem dX9_take_11 : decode cX9_take 11 = .ok (.ifCond .eq 14, 3) := by decide +kernel
theorem dX9_take_14 : decode cX9_take 14 = .ok (.aload_n 0, 1) := by decide +kernel
theorem dX9_take_15 : decode cX9_take 15 = .ok (.getfield 12, 3) := by decide +kernel
theorem dX9_take_18 : decode cX9_take 18 = .ok (.iload_n 1, 1) := by decide +kernel
theorem dX9_take_19 : decode cX9_take 19 = .ok (.invokevirtual 132, 3) := by decide +kernel
theorem dX9_take_22 : decode cX9_take 22 = .ok (.ifCond .ne 5, 3) := by decide +kernel
theorem dX9_take_25 : decode cX9_take 25 = .ok (.iconst (-1), 1) := by decide +kernel
theorem dX9_take_26 : decode cX9_take 26 = .ok (.ireturn, 1) := by decide +kernel
theorem dX9_take_27 : decode cX9_take 27 = .ok (.aload_n 0, 1) := by decide +kernel
theorem dX9_take_28 : decode cX9_take 28 = .ok (.getfield 12, 3) := by decide +kernel
theorem dX9_take_31 : decode cX9_take 31 = .ok (.getfield 150, 3) := by decide +kernel
theorem dX9_take_34 : decode cX9_take 34 = .ok (.aload_n 0, 1) := by decide +kernel
theorem dX9_take_35 : decode cX9_take 35 = .ok (.getfield 12, 3) := by decide +kernel
theorem dX9_take_38 : decode cX9_take 38 = .ok (.getfield 87, 3) := by decide +kernel
theorem dX9_take_41 : decode cX9_take 41 = .ok (.getfield 105, 3) := by decide +kernel
theorem dX9_take_44 : decode cX9_take 44 = .ok (.iload_n 1, 1) := by decide +kernel
theorem dX9_take_45 : decode cX9_take 45 = .ok (.iaload, 1) := by decide +kernel
theorem dX9_take_46 : decode cX9_take 46 = .ok (.aload_n 0, 1) := by decide +kernel
theorem dX9_take_47 : decode cX9_take 47 = .ok (.getfield 12, 3) := by decide +kernel
theorem dX9_take_50 : decode cX9_take 50 = .ok (.getfield 159, 3) := by decide +kernel
theorem dX9_take_53 : decode cX9_take 53 = .ok (.invokevirtual 162, 3) := by decide +kernel
theorem dX9_take_56 : decode cX9_take 56 = .ok (.ifCond .ne 16, 3) := by decide +kernel
theorem dX9_take_59 : decode cX9_take 59 = .ok (.aload_n 0, 1) := by decide +kernel
theorem dX9_take_60 : decode cX9_take 60 = .ok (.getfield 12, 3) := by decide +kernel
theorem dX9_take_63 : decode cX9_take 63 = .ok (.getfield 159, 3) := by decide +kernel
theorem dX9_take_66 : decode cX9_take 66 = .ok (.sipush 5000, 3) := by decide +kernel
theorem dX9_take_69 : decode cX9_take 69 = .ok (.if_icmp .lt 5, 3) := by decide +kernel
theorem dX9_take_72 : decode cX9_take 72 = .ok (.iconst (-1), 1) := by decide +kernel
theorem dX9_take_73 : decode cX9_take 73 = .ok (.ireturn, 1) := by decide +kernel
theorem dX9_take_74 : decode cX9_take 74 = .ok (.aload_n 0, 1) := by decide +kernel
theorem dX9_take_75 : decode cX9_take 75 = .ok (.getfield 12, 3) := by decide +kernel
theorem dX9_take_78 : decode cX9_take 78 = .ok (.getfield 123, 3) := by decide +kernel
theorem dX9_take_81 : decode cX9_take 81 = .ok (.iload_n 1, 1) := by decide +kernel
theorem dX9_take_82 : decode cX9_take 82 = .ok (.aload_n 0, 1) := by decide +kernel
theorem dX9_take_83 : decode cX9_take 83 = .ok (.getfield 12, 3) := by decide +kernel
theorem dX9_take_86 : decode cX9_take 86 = .ok (.getfield 87, 3) := by decide +kernel
theorem dX9_take_89 : decode cX9_take 89 = .ok (.getfield 120, 3) := by decide +kernel
theorem dX9_take_92 : decode cX9_take 92 = .ok (.aload_n 0, 1) := by decide +kernel
theorem dX9_take_93 : decode cX9_take 93 = .ok (.getfield 12, 3) := by decide +kernel
theorem dX9_take_96 : decode cX9_take 96 = .ok (.getfield 159, 3) := by decide +kernel
theorem dX9_take_99 : decode cX9_take 99 = .ok (.invokevirtual 165, 3) := by decide +kernel
theorem dX9_take_102 : decode cX9_take 102 = .ok (.istore_n 2, 1) := by decide +kernel
theorem dX9_take_103 : decode cX9_take 103 = .ok (.aload_n 0, 1) := by decide +kernel
theorem dX9_take_104 : decode cX9_take 104 = .ok (.getfield 12, 3) := by decide +kernel
theorem dX9_take_107 : decode cX9_take 107 = .ok (.dup, 1) := by decide +kernel
theorem dX9_take_108 : decode cX9_take 108 = .ok (.getfield 159, 3) := by decide +kernel
theorem dX9_take_111 : decode cX9_take 111 = .ok (.iconst 1, 1) := by decide +kernel
theorem dX9_take_112 : decode cX9_take 112 = .ok (.iadd, 1) := by decide +kernel
theorem dX9_take_113 : decode cX9_take 113 = .ok (.putfield 159, 3) := by decide +kernel
theorem dX9_take_116 : decode cX9_take 116 = .ok (.iload_n 2, 1) := by decide +kernel
theorem dX9_take_117 : decode cX9_take 117 = .ok (.ireturn, 1) := by decide +kernel
theorem dX9_order_0 : decode cX9_order 0 = .ok (.aload_n 0, 1) := by decide +kernel
theorem dX9_order_1 : decode cX9_order 1 = .ok (.getfield 12, 3) := by decide +kernel
theorem dX9_order_4 : decode cX9_order 4 = .ok (.getfield 87, 3) := by decide +kernel
theorem dX9_order_7 : decode cX9_order 7 = .ok (.getfield 95, 3) := by decide +kernel
theorem dX9_order_10 : decode cX9_order 10 = .ok (.ifCond .ne 5, 3) := by decide +kernel
theorem dX9_order_13 : decode cX9_order 13 = .ok (.iconst (-1), 1) := by decide +kernel
theorem dX9_order_14 : decode cX9_order 14 = .ok (.ireturn, 1) := by decide +kernel
theorem dX9_order_15 : decode cX9_order 15 = .ok (.aload_n 0, 1) := by decide +kernel
theorem dX9_order_16 : decode cX9_order 16 = .ok (.getfield 26, 3) := by decide +kernel
theorem dX9_order_19 : decode cX9_order 19 = .ok (.aload_n 0, 1) := by decide +kernel
theorem dX9_order_20 : decode cX9_order 20 = .ok (.getfield 12, 3) := by decide +kernel
theorem dX9_order_23 : decode cX9_order 23 = .ok (.invokevirtual 169, 3) := by decide +kernel
theorem dX9_order_26 : decode cX9_order 26 = .ok (.ireturn, 1) := by decide +kernel
theorem dX9_ordered_0 : decode cX9_ordered 0 = .ok (.iload_n 1, 1) := by decide +kernel
theorem dX9_ordered_1 : decode cX9_ordered 1 = .ok (.iconst 0, 1) := by decide +kernel
theorem dX9_ordered_2 : decode cX9_ordered 2 = .ok (.aload_n 0, 1) := by decide +kernel
theorem dX9_ordered_3 : decode cX9_ordered 3 = .ok (.getfield 12, 3) := by decide +kernel
theorem dX9_ordered_6 : decode cX9_ordered 6 = .ok (.getfield 173, 3) := by decide +kernel
theorem dX9_ordered_9 : decode cX9_ordered 9 = .ok (.getfield 177, 3) := by decide +kernel
theorem dX9_ordered_12 : decode cX9_ordered 12 = .ok (.iconst 1, 1) := by decide +kernel
theorem dX9_ordered_13 : decode cX9_ordered 13 = .ok (.isub, 1) := by decide +kernel
theorem dX9_ordered_14 : decode cX9_ordered 14 = .ok (.invokestatic 34, 3) := by decide +kernel
theorem dX9_ordered_17 : decode cX9_ordered 17 = .ok (.ifCond .ne 5, 3) := by decide +kernel
theorem dX9_ordered_20 : decode cX9_ordered 20 = .ok (.iconst (-1), 1) := by decide +kernel
theorem dX9_ordered_21 : decode cX9_ordered 21 = .ok (.ireturn, 1) := by decide +kernel
theorem dX9_ordered_22 : decode cX9_ordered 22 = .ok (.aload_n 0, 1) := by decide +kernel
theorem dX9_ordered_23 : decode cX9_ordered 23 = .ok (.getfield 12, 3) := by decide +kernel
theorem dX9_ordered_26 : decode cX9_ordered 26 = .ok (.getfield 173, 3) := by decide +kernel
theorem dX9_ordered_29 : decode cX9_ordered 29 = .ok (.getfield 182, 3) := by decide +kernel
theorem dX9_ordered_32 : decode cX9_ordered 32 = .ok (.iload_n 1, 1) := by decide +kernel
theorem dX9_ordered_33 : decode cX9_ordered 33 = .ok (.iaload, 1) := by decide +kernel
theorem dX9_ordered_34 : decode cX9_ordered 34 = .ok (.ireturn, 1) := by decide +kernel
theorem dX9_piled_0 : decode cX9_piled 0 = .ok (.iload_n 1, 1) := by decide +kernel
theorem dX9_piled_1 : decode cX9_piled 1 = .ok (.iconst 0, 1) := by decide +kernel
theorem dX9_piled_2 : decode cX9_piled 2 = .ok (.aload_n 0, 1) := by decide +kernel
theorem dX9_piled_3 : decode cX9_piled 3 = .ok (.getfield 12, 3) := by decide +kernel
theorem dX9_piled_6 : decode cX9_piled 6 = .ok (.getfield 123, 3) := by decide +kernel
theorem dX9_piled_9 : decode cX9_piled 9 = .ok (.getfield 185, 3) := by decide +kernel
theorem dX9_piled_12 : decode cX9_piled 12 = .ok (.iconst 1, 1) := by decide +kernel
theorem dX9_piled_13 : decode cX9_piled 13 = .ok (.isub, 1) := by decide +kernel
theorem dX9_piled_14 : decode cX9_piled 14 = .ok (.invokestatic 34, 3) := by decide +kernel
theorem dX9_piled_17 : decode cX9_piled 17 = .ok (.ifCond .ne 5, 3) := by decide +kernel
theorem dX9_piled_20 : decode cX9_piled 20 = .ok (.iconst (-1), 1) := by decide +kernel
theorem dX9_piled_21 : decode cX9_piled 21 = .ok (.ireturn, 1) := by decide +kernel
theorem dX9_piled_22 : decode cX9_piled 22 = .ok (.aload_n 0, 1) := by decide +kernel
theorem dX9_piled_23 : decode cX9_piled 23 = .ok (.getfield 12, 3) := by decide +kernel
theorem dX9_piled_26 : decode cX9_piled 26 = .ok (.getfield 123, 3) := by decide +kernel
theorem dX9_piled_29 : decode cX9_piled 29 = .ok (.iload_n 1, 1) := by decide +kernel
theorem dX9_piled_30 : decode cX9_piled 30 = .ok (.iload_n 2, 1) := by decide +kernel
theorem dX9_piled_31 : decode cX9_piled 31 = .ok (.aload_n 0, 1) := by decide +kernel
theorem dX9_piled_32 : decode cX9_piled 32 = .ok (.getfield 12, 3) := by decide +kernel
theorem dX9_piled_35 : decode cX9_piled 35 = .ok (.getfield 87, 3) := by decide +kernel
theorem dX9_piled_38 : decode cX9_piled 38 = .ok (.getfield 95, 3) := by decide +kernel
theorem dX9_piled_41 : decode cX9_piled 41 = .ok (.invokevirtual 188, 3) := by decide +kernel
theorem dX9_piled_44 : decode cX9_piled 44 = .ok (.ireturn, 1) := by decide +kernel
theorem dX9_sun_0 : decode cX9_sun 0 = .ok (.iload_n 1, 1) := by decide +kernel
theorem dX9_sun_1 : decode cX9_sun 1 = .ok (.iconst 0, 1) := by decide +kernel
theorem dX9_sun_2 : decode cX9_sun 2 = .ok (.sipush 364, 3) := by decide +kernel
theorem dX9_sun_5 : decode cX9_sun 5 = .ok (.invokestatic 34, 3) := by decide +kernel
theorem dX9_sun_8 : decode cX9_sun 8 = .ok (.ifCond .ne 7, 3) := by decide +kernel
theorem dX9_sun_11 : decode cX9_sun 11 = .ok (.sipush (-1000), 3) := by decide +kernel
theorem dX9_sun_14 : decode cX9_sun 14 = .ok (.ireturn, 1) := by decide +kernel
theorem dX9_sun_15 : decode cX9_sun 15 = .ok (.iload_n 1, 1) := by decide +kernel
theorem dX9_sun_16 : decode cX9_sun 16 = .ok (.invokestatic 192, 3) := by decide +kernel
theorem dX9_sun_19 : decode cX9_sun 19 = .ok (.ireturn, 1) := by decide +kernel
theorem dX9_strikes_0 : decode cX9_strikes 0 = .ok (.iload_n 1, 1) := by decide +kernel
theorem dX9_strikes_1 : decode cX9_strikes 1 = .ok (.iload_n 2, 1) := by decide +kernel
theorem dX9_strikes_2 : decode cX9_strikes 2 = .ok (.invokestatic 197, 3) := by decide +kernel
theorem dX9_strikes_5 : decode cX9_strikes 5 = .ok (.ifCond .ne 5, 3) := by decide +kernel
theorem dX9_strikes_8 : decode cX9_strikes 8 = .ok (.iconst (-1), 1) := by decide +kernel
theorem dX9_strikes_9 : decode cX9_strikes 9 = .ok (.ireturn, 1) := by decide +kernel
theorem dX9_strikes_10 : decode cX9_strikes 10 = .ok (.iload_n 1, 1) := by decide +kernel
theorem dX9_strikes_11 : decode cX9_strikes 11 = .ok (.iload_n 2, 1) := by decide +kernel
theorem dX9_strikes_12 : decode cX9_strikes 12 = .ok (.isub, 1) := by decide +kernel
theorem dX9_strikes_13 : decode cX9_strikes 13 = .ok (.iload_n 1, 1) := by decide +kernel
theorem dX9_strikes_14 : decode cX9_strikes 14 = .ok (.iload_n 2, 1) := by decide +kernel
theorem dX9_strikes_15 : decode cX9_strikes 15 = .ok (.iadd, 1) := by decide +kernel
theorem dX9_strikes_16 : decode cX9_strikes 16 = .ok (.invokestatic 200, 3) := by decide +kernel
theorem dX9_strikes_19 : decode cX9_strikes 19 = .ok (.ireturn, 1) := by decide +kernel
theorem dX9_like_0 : decode cX9_like 0 = .ok (.iload_n 1, 1) := by decide +kernel
theorem dX9_like_1 : decode cX9_like 1 = .ok (.iload_n 2, 1) := by decide +kernel
theorem dX9_like_2 : decode cX9_like 2 = .ok (.invokestatic 197, 3) := by decide +kernel
theorem dX9_like_5 : decode cX9_like 5 = .ok (.ifCond .eq 11, 3) := by decide +kernel
theorem dX9_like_8 : decode cX9_like 8 = .ok (.iload_n 1, 1) := by decide +kernel
theorem dX9_like_9 : decode cX9_like 9 = .ok (.iload_n 3, 1) := by decide +kernel
theorem dX9_like_10 : decode cX9_like 10 = .ok (.invokestatic 197, 3) := by decide +kernel
theorem dX9_like_13 : decode cX9_like 13 = .ok (.ifCond .ne 7, 3) := by decide +kernel
theorem dX9_like_16 : decode cX9_like 16 = .ok (.sipush (-1000), 3) := by decide +kernel
theorem dX9_like_19 : decode cX9_like 19 = .ok (.ireturn, 1) := by decide +kernel
theorem dX9_like_20 : decode cX9_like 20 = .ok (.iload_n 1, 1) := by decide +kernel
theorem dX9_like_21 : decode cX9_like 21 = .ok (.iload_n 2, 1) := by decide +kernel
theorem dX9_like_22 : decode cX9_like 22 = .ok (.iload_n 3, 1) := by decide +kernel
theorem dX9_like_23 : decode cX9_like 23 = .ok (.invokestatic 203, 3) := by decide +kernel
theorem dX9_like_26 : decode cX9_like 26 = .ok (.ireturn, 1) := by decide +kernel
theorem dX9_count_0 : decode cX9_count 0 = .ok (.iload_n 1, 1) := by decide +kernel
theorem dX9_count_1 : decode cX9_count 1 = .ok (.tableswitch 193 0 10 #[59, 70, 81, 92, 103, 114, 125, 133, 166, 174, 182], 59) := by decide +kernel
theorem dX9_count_60 : decode cX9_count 60 = .ok (.aload_n 0, 1) := by decide +kernel
theorem dX9_count_61 : decode cX9_count 61 = .ok (.getfield 12, 3) := by decide +kernel
theorem dX9_count_64 : decode cX9_count 64 = .ok (.getfield 38, 3) := by decide +kernel
theorem dX9_count_67 : decode cX9_count 67 = .ok (.getfield 70, 3) := by decide +kernel
theorem dX9_count_70 : decode cX9_count 70 = .ok (.ireturn, 1) := by decide +kernel
theorem dX9_count_71 : decode cX9_count 71 = .ok (.aload_n 0, 1) := by decide +kernel
theorem dX9_count_72 : decode cX9_count 72 = .ok (.getfield 12, 3) := by decide +kernel
theorem dX9_count_75 : decode cX9_count 75 = .ok (.getfield 38, 3) := by decide +kernel
theorem dX9_count_78 : decode cX9_count 78 = .ok (.getfield 206, 3) := by decide +kernel
theorem dX9_count_81 : decode cX9_count 81 = .ok (.ireturn, 1) := by decide +kernel
theorem dX9_count_82 : decode cX9_count 82 = .ok (.aload_n 0, 1) := by decide +kernel
theorem dX9_count_83 : decode cX9_count 83 = .ok (.getfield 12, 3) := by decide +kernel
theorem dX9_count_86 : decode cX9_count 86 = .ok (.getfield 87, 3) := by decide +kernel
theorem dX9_count_89 : decode cX9_count 89 = .ok (.getfield 95, 3) := by decide +kernel
theorem dX9_count_92 : decode cX9_count 92 = .ok (.ireturn, 1) := by decide +kernel
theorem dX9_count_93 : decode cX9_count 93 = .ok (.aload_n 0, 1) := by decide +kernel
theorem dX9_count_94 : decode cX9_count 94 = .ok (.getfield 12, 3) := by decide +kernel
theorem dX9_count_97 : decode cX9_count 97 = .ok (.getfield 123, 3) := by decide +kernel
theorem dX9_count_100 : decode cX9_count 100 = .ok (.getfield 208, 3) := by decide +kernel
theorem dX9_count_103 : decode cX9_count 103 = .ok (.ireturn, 1) := by decide +kernel
theorem dX9_count_104 : decode cX9_count 104 = .ok (.aload_n 0, 1) := by decide +kernel
theorem dX9_count_105 : decode cX9_count 105 = .ok (.getfield 12, 3) := by decide +kernel
theorem dX9_count_108 : decode cX9_count 108 = .ok (.getfield 87, 3) := by decide +kernel
theorem dX9_count_111 : decode cX9_count 111 = .ok (.getfield 211, 3) := by decide +kernel
theorem dX9_count_114 : decode cX9_count 114 = .ok (.ireturn, 1) := by decide +kernel
theorem dX9_count_115 : decode cX9_count 115 = .ok (.aload_n 0, 1) := by decide +kernel
theorem dX9_count_116 : decode cX9_count 116 = .ok (.getfield 12, 3) := by decide +kernel
theorem dX9_count_119 : decode cX9_count 119 = .ok (.getfield 123, 3) := by decide +kernel
theorem dX9_count_122 : decode cX9_count 122 = .ok (.getfield 185, 3) := by decide +kernel
theorem dX9_count_125 : decode cX9_count 125 = .ok (.ireturn, 1) := by decide +kernel
theorem dX9_count_126 : decode cX9_count 126 = .ok (.aload_n 0, 1) := by decide +kernel
theorem dX9_count_127 : decode cX9_count 127 = .ok (.getfield 12, 3) := by decide +kernel
theorem dX9_count_130 : decode cX9_count 130 = .ok (.getfield 159, 3) := by decide +kernel
theorem dX9_count_133 : decode cX9_count 133 = .ok (.ireturn, 1) := by decide +kernel
theorem dX9_count_134 : decode cX9_count 134 = .ok (.aload_n 0, 1) := by decide +kernel
theorem dX9_count_135 : decode cX9_count 135 = .ok (.getfield 12, 3) := by decide +kernel
theorem dX9_count_138 : decode cX9_count 138 = .ok (.getfield 38, 3) := by decide +kernel
theorem dX9_count_141 : decode cX9_count 141 = .ok (.iconst 0, 1) := by decide +kernel
theorem dX9_count_142 : decode cX9_count 142 = .ok (.aload_n 0, 1) := by decide +kernel
theorem dX9_count_143 : decode cX9_count 143 = .ok (.getfield 12, 3) := by decide +kernel
theorem dX9_count_146 : decode cX9_count 146 = .ok (.getfield 38, 3) := by decide +kernel
theorem dX9_count_149 : decode cX9_count 149 = .ok (.getfield 70, 3) := by decide +kernel
theorem dX9_count_152 : decode cX9_count 152 = .ok (.iconst 0, 1) := by decide +kernel
theorem dX9_count_153 : decode cX9_count 153 = .ok (.aload_n 0, 1) := by decide +kernel
theorem dX9_count_154 : decode cX9_count 154 = .ok (.getfield 12, 3) := by decide +kernel
theorem dX9_count_157 : decode cX9_count 157 = .ok (.getfield 38, 3) := by decide +kernel
theorem dX9_count_160 : decode cX9_count 160 = .ok (.getfield 206, 3) := by decide +kernel
theorem dX9_count_163 : decode cX9_count 163 = .ok (.invokevirtual 214, 3) := by decide +kernel
theorem dX9_count_166 : decode cX9_count 166 = .ok (.ireturn, 1) := by decide +kernel
theorem dX9_count_167 : decode cX9_count 167 = .ok (.aload_n 0, 1) := by decide +kernel
theorem dX9_count_168 : decode cX9_count 168 = .ok (.getfield 12, 3) := by decide +kernel
theorem dX9_count_171 : decode cX9_count 171 = .ok (.getfield 77, 3) := by decide +kernel
theorem dX9_count_174 : decode cX9_count 174 = .ok (.ireturn, 1) := by decide +kernel
theorem dX9_count_175 : decode cX9_count 175 = .ok (.aload_n 0, 1) := by decide +kernel
theorem dX9_count_176 : decode cX9_count 176 = .ok (.getfield 12, 3) := by decide +kernel
theorem dX9_count_179 : decode cX9_count 179 = .ok (.getfield 80, 3) := by decide +kernel
theorem dX9_count_182 : decode cX9_count 182 = .ok (.ireturn, 1) := by decide +kernel
theorem dX9_count_183 : decode cX9_count 183 = .ok (.aload_n 0, 1) := by decide +kernel
theorem dX9_count_184 : decode cX9_count 184 = .ok (.getfield 12, 3) := by decide +kernel
theorem dX9_count_187 : decode cX9_count 187 = .ok (.getfield 173, 3) := by decide +kernel
theorem dX9_count_190 : decode cX9_count 190 = .ok (.getfield 177, 3) := by decide +kernel
theorem dX9_count_193 : decode cX9_count 193 = .ok (.ireturn, 1) := by decide +kernel
theorem dX9_count_194 : decode cX9_count 194 = .ok (.iconst (-1), 1) := by decide +kernel
theorem dX9_count_195 : decode cX9_count 195 = .ok (.ireturn, 1) := by decide +kernel
theorem dX9_image_0 : decode cX9_image 0 = .ok (.iload_n 1, 1) := by decide +kernel
theorem dX9_image_1 : decode cX9_image 1 = .ok (.iconst 0, 1) := by decide +kernel
theorem dX9_image_2 : decode cX9_image 2 = .ok (.iconst 2, 1) := by decide +kernel
theorem dX9_image_3 : decode cX9_image 3 = .ok (.invokestatic 34, 3) := by decide +kernel
theorem dX9_image_6 : decode cX9_image 6 = .ok (.ifCond .ne 5, 3) := by decide +kernel
theorem dX9_image_9 : decode cX9_image 9 = .ok (.iconst 0, 1) := by decide +kernel
theorem dX9_image_10 : decode cX9_image 10 = .ok (.ireturn, 1) := by decide +kernel
theorem dX9_image_11 : decode cX9_image 11 = .ok (.aload_n 0, 1) := by decide +kernel
theorem dX9_image_12 : decode cX9_image 12 = .ok (.getfield 30, 3) := by decide +kernel
theorem dX9_image_15 : decode cX9_image 15 = .ok (.iload_n 1, 1) := by decide +kernel
theorem dX9_image_16 : decode cX9_image 16 = .ok (.aaload, 1) := by decide +kernel
theorem dX9_image_17 : decode cX9_image 17 = .ok (.ifnonnull 16, 3) := by decide +kernel
theorem dX9_image_20 : decode cX9_image 20 = .ok (.aload_n 0, 1) := by decide +kernel
theorem dX9_image_21 : decode cX9_image 21 = .ok (.getfield 30, 3) := by decide +kernel
theorem dX9_image_24 : decode cX9_image 24 = .ok (.iload_n 1, 1) := by decide +kernel
theorem dX9_image_25 : decode cX9_image 25 = .ok (.new 9, 3) := by decide +kernel
theorem dX9_image_28 : decode cX9_image 28 = .ok (.dup, 1) := by decide +kernel
theorem dX9_image_29 : decode cX9_image 29 = .ok (.invokespecial 11, 3) := by decide +kernel
theorem dX9_image_32 : decode cX9_image 32 = .ok (.aastore, 1) := by decide +kernel
theorem dX9_image_33 : decode cX9_image 33 = .ok (.aload_n 0, 1) := by decide +kernel
theorem dX9_image_34 : decode cX9_image 34 = .ok (.getfield 30, 3) := by decide +kernel
theorem dX9_image_37 : decode cX9_image 37 = .ok (.iload_n 1, 1) := by decide +kernel
theorem dX9_image_38 : decode cX9_image 38 = .ok (.aaload, 1) := by decide +kernel
theorem dX9_image_39 : decode cX9_image 39 = .ok (.aload_n 0, 1) := by decide +kernel
theorem dX9_image_40 : decode cX9_image 40 = .ok (.getfield 12, 3) := by decide +kernel
theorem dX9_image_43 : decode cX9_image 43 = .ok (.invokevirtual 217, 3) := by decide +kernel
theorem dX9_image_46 : decode cX9_image 46 = .ok (.iconst 1, 1) := by decide +kernel
theorem dX9_image_47 : decode cX9_image 47 = .ok (.ireturn, 1) := by decide +kernel
theorem dX9_again_0 : decode cX9_again 0 = .ok (.iload_n 1, 1) := by decide +kernel
theorem dX9_again_1 : decode cX9_again 1 = .ok (.iconst 0, 1) := by decide +kernel
theorem dX9_again_2 : decode cX9_again 2 = .ok (.iconst 2, 1) := by decide +kernel
theorem dX9_again_3 : decode cX9_again 3 = .ok (.invokestatic 34, 3) := by decide +kernel
theorem dX9_again_6 : decode cX9_again 6 = .ok (.ifCond .eq 12, 3) := by decide +kernel
theorem dX9_again_9 : decode cX9_again 9 = .ok (.aload_n 0, 1) := by decide +kernel
theorem dX9_again_10 : decode cX9_again 10 = .ok (.getfield 30, 3) := by decide +kernel
theorem dX9_again_13 : decode cX9_again 13 = .ok (.iload_n 1, 1) := by decide +kernel
theorem dX9_again_14 : decode cX9_again 14 = .ok (.aaload, 1) := by decide +kernel
theorem dX9_again_15 : decode cX9_again 15 = .ok (.ifnonnull 5, 3) := by decide +kernel
theorem dX9_again_18 : decode cX9_again 18 = .ok (.iconst 0, 1) := by decide +kernel
theorem dX9_again_19 : decode cX9_again 19 = .ok (.ireturn, 1) := by decide +kernel
theorem dX9_again_20 : decode cX9_again 20 = .ok (.aload_n 0, 1) := by decide +kernel
theorem dX9_again_21 : decode cX9_again 21 = .ok (.getfield 12, 3) := by decide +kernel
theorem dX9_again_24 : decode cX9_again 24 = .ok (.aload_n 0, 1) := by decide +kernel
theorem dX9_again_25 : decode cX9_again 25 = .ok (.getfield 30, 3) := by decide +kernel
theorem dX9_again_28 : decode cX9_again 28 = .ok (.iload_n 1, 1) := by decide +kernel
theorem dX9_again_29 : decode cX9_again 29 = .ok (.aaload, 1) := by decide +kernel
theorem dX9_again_30 : decode cX9_again 30 = .ok (.invokevirtual 217, 3) := by decide +kernel
theorem dX9_again_33 : decode cX9_again 33 = .ok (.iconst 1, 1) := by decide +kernel
theorem dX9_again_34 : decode cX9_again 34 = .ok (.ireturn, 1) := by decide +kernel
theorem dX9_within_0 : decode cX9_within 0 = .ok (.iload_n 0, 1) := by decide +kernel
theorem dX9_within_1 : decode cX9_within 1 = .ok (.iload_n 1, 1) := by decide +kernel
theorem dX9_within_2 : decode cX9_within 2 = .ok (.if_icmp .lt 12, 3) := by decide +kernel
theorem dX9_within_5 : decode cX9_within 5 = .ok (.iload_n 0, 1) := by decide +kernel
theorem dX9_within_6 : decode cX9_within 6 = .ok (.iload_n 2, 1) := by decide +kernel
theorem dX9_within_7 : decode cX9_within 7 = .ok (.if_icmp .gt 7, 3) := by decide +kernel
theorem dX9_within_10 : decode cX9_within 10 = .ok (.iconst 1, 1) := by decide +kernel
theorem dX9_within_11 : decode cX9_within 11 = .ok (.goto 4, 3) := by decide +kernel
theorem dX9_within_14 : decode cX9_within 14 = .ok (.iconst 0, 1) := by decide +kernel
theorem dX9_within_15 : decode cX9_within 15 = .ok (.ireturn, 1) := by decide +kernel
theorem dX9_place_0 : decode cX9_place 0 = .ok (.iload_n 1, 1) := by decide +kernel
theorem dX9_place_1 : decode cX9_place 1 = .ok (.bipush 8, 2) := by decide +kernel
theorem dX9_place_3 : decode cX9_place 3 = .ok (.imul, 1) := by decide +kernel
theorem dX9_place_4 : decode cX9_place 4 = .ok (.iload_n 0, 1) := by decide +kernel
theorem dX9_place_5 : decode cX9_place 5 = .ok (.iadd, 1) := by decide +kernel
theorem dX9_place_6 : decode cX9_place 6 = .ok (.ireturn, 1) := by decide +kernel
theorem dX9_halfByte_0 : decode cX9_halfByte 0 = .ok (.iload_n 0, 1) := by decide +kernel
theorem dX9_halfByte_1 : decode cX9_halfByte 1 = .ok (.iconst 4, 1) := by decide +kernel
theorem dX9_halfByte_2 : decode cX9_halfByte 2 = .ok (.bipush 7, 2) := by decide +kernel
theorem dX9_halfByte_4 : decode cX9_halfByte 4 = .ok (.iload_n 1, 1) := by decide +kernel
theorem dX9_halfByte_5 : decode cX9_halfByte 5 = .ok (.isub, 1) := by decide +kernel
theorem dX9_halfByte_6 : decode cX9_halfByte 6 = .ok (.imul, 1) := by decide +kernel
theorem dX9_halfByte_7 : decode cX9_halfByte 7 = .ok (.iushr, 1) := by decide +kernel
theorem dX9_halfByte_8 : decode cX9_halfByte 8 = .ok (.bipush 15, 2) := by decide +kernel
theorem dX9_halfByte_10 : decode cX9_halfByte 10 = .ok (.iand, 1) := by decide +kernel
theorem dX9_halfByte_11 : decode cX9_halfByte 11 = .ok (.ireturn, 1) := by decide +kernel
theorem dX9_areMotifs_0 : decode cX9_areMotifs 0 = .ok (.iconst 0, 1) := by decide +kernel
theorem dX9_areMotifs_1 : decode cX9_areMotifs 1 = .ok (.istore_n 1, 1) := by decide +kernel
theorem dX9_areMotifs_2 : decode cX9_areMotifs 2 = .ok (.iload_n 1, 1) := by decide +kernel
theorem dX9_areMotifs_3 : decode cX9_areMotifs 3 = .ok (.bipush 8, 2) := by decide +kernel
theorem dX9_areMotifs_5 : decode cX9_areMotifs 5 = .ok (.if_icmp .ge 21, 3) := by decide +kernel
theorem dX9_areMotifs_8 : decode cX9_areMotifs 8 = .ok (.iload_n 0, 1) := by decide +kernel
theorem dX9_areMotifs_9 : decode cX9_areMotifs 9 = .ok (.iload_n 1, 1) := by decide +kernel
theorem dX9_areMotifs_10 : decode cX9_areMotifs 10 = .ok (.invokestatic 74, 3) := by decide +kernel
theorem dX9_areMotifs_13 : decode cX9_areMotifs 13 = .ok (.bipush 9, 2) := by decide +kernel
theorem dX9_areMotifs_15 : decode cX9_areMotifs 15 = .ok (.if_icmp .le 5, 3) := by decide +kernel
theorem dX9_areMotifs_18 : decode cX9_areMotifs 18 = .ok (.iconst 0, 1) := by decide +kernel
theorem dX9_areMotifs_19 : decode cX9_areMotifs 19 = .ok (.ireturn, 1) := by decide +kernel
theorem dX9_areMotifs_20 : decode cX9_areMotifs 20 = .ok (.iinc 1 1, 3) := by decide +kernel
theorem dX9_areMotifs_23 : decode cX9_areMotifs 23 = .ok (.goto (-21), 3) := by decide +kernel
theorem dX9_areMotifs_26 : decode cX9_areMotifs 26 = .ok (.iconst 1, 1) := by decide +kernel
theorem dX9_areMotifs_27 : decode cX9_areMotifs 27 = .ok (.ireturn, 1) := by decide +kernel
theorem dX9_isPlace_0 : decode cX9_isPlace 0 = .ok (.iload_n 0, 1) := by decide +kernel
theorem dX9_isPlace_1 : decode cX9_isPlace 1 = .ok (.sipush (-400), 3) := by decide +kernel
theorem dX9_isPlace_4 : decode cX9_isPlace 4 = .ok (.sipush 400, 3) := by decide +kernel
theorem dX9_isPlace_7 : decode cX9_isPlace 7 = .ok (.invokestatic 34, 3) := by decide +kernel
theorem dX9_isPlace_10 : decode cX9_isPlace 10 = .ok (.ifCond .eq 18, 3) := by decide +kernel
theorem dX9_isPlace_13 : decode cX9_isPlace 13 = .ok (.iload_n 1, 1) := by decide +kernel
theorem dX9_isPlace_14 : decode cX9_isPlace 14 = .ok (.iconst 0, 1) := by decide +kernel
theorem dX9_isPlace_15 : decode cX9_isPlace 15 = .ok (.sipush 400, 3) := by decide +kernel
theorem dX9_isPlace_18 : decode cX9_isPlace 18 = .ok (.invokestatic 34, 3) := by decide +kernel
theorem dX9_isPlace_21 : decode cX9_isPlace 21 = .ok (.ifCond .eq 7, 3) := by decide +kernel
theorem dX9_isPlace_24 : decode cX9_isPlace 24 = .ok (.iconst 1, 1) := by decide +kernel
theorem dX9_isPlace_25 : decode cX9_isPlace 25 = .ok (.goto 4, 3) := by decide +kernel
theorem dX9_isPlace_28 : decode cX9_isPlace 28 = .ok (.iconst 0, 1) := by decide +kernel
theorem dX9_isPlace_29 : decode cX9_isPlace 29 = .ok (.ireturn, 1) := by decide +kernel
theorem dX9_copyRow_0 : decode cX9_copyRow 0 = .ok (.aload_n 0, 1) := by decide +kernel
theorem dX9_copyRow_1 : decode cX9_copyRow 1 = .ok (.iconst 0, 1) := by decide +kernel
theorem dX9_copyRow_2 : decode cX9_copyRow 2 = .ok (.aload_n 1, 1) := by decide +kernel
theorem dX9_copyRow_3 : decode cX9_copyRow 3 = .ok (.iconst 0, 1) := by decide +kernel
theorem dX9_copyRow_4 : decode cX9_copyRow 4 = .ok (.aload_n 0, 1) := by decide +kernel
theorem dX9_copyRow_5 : decode cX9_copyRow 5 = .ok (.arraylength, 1) := by decide +kernel
theorem dX9_copyRow_6 : decode cX9_copyRow 6 = .ok (.aload_n 1, 1) := by decide +kernel
theorem dX9_copyRow_7 : decode cX9_copyRow 7 = .ok (.arraylength, 1) := by decide +kernel
theorem dX9_copyRow_8 : decode cX9_copyRow 8 = .ok (.invokestatic 221, 3) := by decide +kernel
theorem dX9_copyRow_11 : decode cX9_copyRow 11 = .ok (.invokestatic 226, 3) := by decide +kernel
theorem dX9_copyRow_14 : decode cX9_copyRow 14 = .ok (.return_, 1) := by decide +kernel
theorem dX10_init_0 : decode cX10_init 0 = .ok (.aload_n 0, 1) := by decide +kernel
theorem dX10_init_1 : decode cX10_init 1 = .ok (.invokespecial 1, 3) := by decide +kernel
theorem dX10_init_4 : decode cX10_init 4 = .ok (.aload_n 0, 1) := by decide +kernel
theorem dX10_init_5 : decode cX10_init 5 = .ok (.sipush 3320, 3) := by decide +kernel
theorem dX10_init_8 : decode cX10_init 8 = .ok (.newarray .int, 2) := by decide +kernel
theorem dX10_init_10 : decode cX10_init 10 = .ok (.putfield 7, 3) := by decide +kernel
theorem dX10_init_13 : decode cX10_init 13 = .ok (.aload_n 0, 1) := by decide +kernel
theorem dX10_init_14 : decode cX10_init 14 = .ok (.iconst 3, 1) := by decide +kernel
theorem dX10_init_15 : decode cX10_init 15 = .ok (.newarray .boolean, 2) := by decide +kernel
theorem dX10_init_17 : decode cX10_init 17 = .ok (.putfield 13, 3) := by decide +kernel
theorem dX10_init_20 : decode cX10_init 20 = .ok (.aload_n 0, 1) := by decide +kernel
theorem dX10_init_21 : decode cX10_init 21 = .ok (.sipush 4096, 3) := by decide +kernel
theorem dX10_init_24 : decode cX10_init 24 = .ok (.newarray .int, 2) := by decide +kernel
theorem dX10_init_26 : decode cX10_init 26 = .ok (.putfield 17, 3) := by decide +kernel
theorem dX10_init_29 : decode cX10_init 29 = .ok (.aload_n 0, 1) := by decide +kernel
theorem dX10_init_30 : decode cX10_init 30 = .ok (.sipush 4096, 3) := by decide +kernel
theorem dX10_init_33 : decode cX10_init 33 = .ok (.newarray .int, 2) := by decide +kernel
theorem dX10_init_35 : decode cX10_init 35 = .ok (.putfield 20, 3) := by decide +kernel
theorem dX10_init_38 : decode cX10_init 38 = .ok (.aload_n 0, 1) := by decide +kernel
theorem dX10_init_39 : decode cX10_init 39 = .ok (.sipush 4096, 3) := by decide +kernel
theorem dX10_init_42 : decode cX10_init 42 = .ok (.newarray .int, 2) := by decide +kernel
theorem dX10_init_44 : decode cX10_init 44 = .ok (.putfield 23, 3) := by decide +kernel
theorem dX10_init_47 : decode cX10_init 47 = .ok (.aload_n 0, 1) := by decide +kernel
theorem dX10_init_48 : decode cX10_init 48 = .ok (.sipush 256, 3) := by decide +kernel
theorem dX10_init_51 : decode cX10_init 51 = .ok (.newarray .int, 2) := by decide +kernel
theorem dX10_init_53 : decode cX10_init 53 = .ok (.putfield 26, 3) := by decide +kernel
theorem dX10_init_56 : decode cX10_init 56 = .ok (.aload_n 0, 1) := by decide +kernel
theorem dX10_init_57 : decode cX10_init 57 = .ok (.bipush 64, 2) := by decide +kernel
theorem dX10_init_59 : decode cX10_init 59 = .ok (.newarray .int, 2) := by decide +kernel
theorem dX10_init_61 : decode cX10_init 61 = .ok (.putfield 29, 3) := by decide +kernel
theorem dX10_init_64 : decode cX10_init 64 = .ok (.aload_n 0, 1) := by decide +kernel
theorem dX10_init_65 : decode cX10_init 65 = .ok (.bipush 64, 2) := by decide +kernel
theorem dX10_init_67 : decode cX10_init 67 = .ok (.newarray .boolean, 2) := by decide +kernel
theorem dX10_init_69 : decode cX10_init 69 = .ok (.putfield 32, 3) := by decide +kernel
theorem dX10_init_72 : decode cX10_init 72 = .ok (.aload_n 0, 1) := by decide +kernel
theorem dX10_init_73 : decode cX10_init 73 = .ok (.getfield 7, 3) := by decide +kernel
theorem dX10_init_76 : decode cX10_init 76 = .ok (.iconst 2, 1) := by decide +kernel
theorem dX10_init_77 : decode cX10_init 77 = .ok (.bipush 40, 2) := by decide +kernel
theorem dX10_init_79 : decode cX10_init 79 = .ok (.iastore, 1) := by decide +kernel
theorem dX10_init_80 : decode cX10_init 80 = .ok (.aload_n 0, 1) := by decide +kernel
theorem dX10_init_81 : decode cX10_init 81 = .ok (.getfield 7, 3) := by decide +kernel
theorem dX10_init_84 : decode cX10_init 84 = .ok (.iconst 3, 1) := by decide +kernel
theorem dX10_init_85 : decode cX10_init 85 = .ok (.iconst 1, 1) := by decide +kernel
theorem dX10_init_86 : decode cX10_init 86 = .ok (.iastore, 1) := by decide +kernel
theorem dX10_init_87 : decode cX10_init 87 = .ok (.aload_n 0, 1) := by decide +kernel
theorem dX10_init_88 : decode cX10_init 88 = .ok (.iconst 4, 1) := by decide +kernel
theorem dX10_init_89 : decode cX10_init 89 = .ok (.iconst 4, 1) := by decide +kernel
theorem dX10_init_90 : decode cX10_init 90 = .ok (.invokevirtual 35, 3) := by decide +kernel
theorem dX10_init_93 : decode cX10_init 93 = .ok (.return_, 1) := by decide +kernel
theorem dX10_isIn_0 : decode cX10_isIn 0 = .ok (.iload_n 0, 1) := by decide +kernel
theorem dX10_isIn_1 : decode cX10_isIn 1 = .ok (.iload_n 1, 1) := by decide +kernel
theorem dX10_isIn_2 : decode cX10_isIn 2 = .ok (.if_icmp .lt 12, 3) := by decide +kernel
theorem dX10_isIn_5 : decode cX10_isIn 5 = .ok (.iload_n 0, 1) := by decide +kernel
theorem dX10_isIn_6 : decode cX10_isIn 6 = .ok (.iload_n 2, 1) := by decide +kernel
theorem dX10_isIn_7 : decode cX10_isIn 7 = .ok (.if_icmp .gt 7, 3) := by decide +kernel
theorem dX10_isIn_10 : decode cX10_isIn 10 = .ok (.iconst 1, 1) := by decide +kernel
theorem dX10_isIn_11 : decode cX10_isIn 11 = .ok (.goto 4, 3) := by decide +kernel
theorem dX10_isIn_14 : decode cX10_isIn 14 = .ok (.iconst 0, 1) := by decide +kernel
theorem dX10_isIn_15 : decode cX10_isIn 15 = .ok (.ireturn, 1) := by decide +kernel
theorem dX10_noPlan_0 : decode cX10_noPlan 0 = .ok (.aload_n 0, 1) := by decide +kernel
theorem dX10_noPlan_1 : decode cX10_noPlan 1 = .ok (.getfield 7, 3) := by decide +kernel
theorem dX10_noPlan_4 : decode cX10_noPlan 4 = .ok (.iconst 5, 1) := by decide +kernel
theorem dX10_noPlan_5 : decode cX10_noPlan 5 = .ok (.iconst 0, 1) := by decide +kernel
theorem dX10_noPlan_6 : decode cX10_noPlan 6 = .ok (.iastore, 1) := by decide +kernel
theorem dX10_noPlan_7 : decode cX10_noPlan 7 = .ok (.aload_n 0, 1) := by decide +kernel
theorem dX10_noPlan_8 : decode cX10_noPlan 8 = .ok (.getfield 7, 3) := by decide +kernel
theorem dX10_noPlan_11 : decode cX10_noPlan 11 = .ok (.bipush 6, 2) := by decide +kernel
theorem dX10_noPlan_13 : decode cX10_noPlan 13 = .ok (.iconst 0, 1) := by decide +kernel
theorem dX10_noPlan_14 : decode cX10_noPlan 14 = .ok (.iastore, 1) := by decide +kernel
theorem dX10_noPlan_15 : decode cX10_noPlan 15 = .ok (.aload_n 0, 1) := by decide +kernel
theorem dX10_noPlan_16 : decode cX10_noPlan 16 = .ok (.getfield 7, 3) := by decide +kernel
theorem dX10_noPlan_19 : decode cX10_noPlan 19 = .ok (.bipush 7, 2) := by decide +kernel
theorem dX10_noPlan_21 : decode cX10_noPlan 21 = .ok (.iconst 0, 1) := by decide +kernel
theorem dX10_noPlan_22 : decode cX10_noPlan 22 = .ok (.iastore, 1) := by decide +kernel
theorem dX10_noPlan_23 : decode cX10_noPlan 23 = .ok (.aload_n 0, 1) := by decide +kernel
theorem dX10_noPlan_24 : decode cX10_noPlan 24 = .ok (.getfield 7, 3) := by decide +kernel
theorem dX10_noPlan_27 : decode cX10_noPlan 27 = .ok (.bipush 8, 2) := by decide +kernel
theorem dX10_noPlan_29 : decode cX10_noPlan 29 = .ok (.iconst 0, 1) := by decide +kernel
theorem dX10_noPlan_30 : decode cX10_noPlan 30 = .ok (.iastore, 1) := by decide +kernel
theorem dX10_noPlan_31 : decode cX10_noPlan 31 = .ok (.return_, 1) := by decide +kernel
theorem dX10_begins_0 : decode cX10_begins 0 = .ok (.aload_n 0, 1) := by decide +kernel
theorem dX10_begins_1 : decode cX10_begins 1 = .ok (.getfield 7, 3) := by decide +kernel
theorem dX10_begins_4 : decode cX10_begins 4 = .ok (.iconst 0, 1) := by decide +kernel
theorem dX10_begins_5 : decode cX10_begins 5 = .ok (.iload_n 1, 1) := by decide +kernel
theorem dX10_begins_6 : decode cX10_begins 6 = .ok (.iastore, 1) := by decide +kernel
theorem dX10_begins_7 : decode cX10_begins 7 = .ok (.aload_n 0, 1) := by decide +kernel
theorem dX10_begins_8 : decode cX10_begins 8 = .ok (.getfield 7, 3) := by decide +kernel
theorem dX10_begins_11 : decode cX10_begins 11 = .ok (.iconst 1, 1) := by decide +kernel
theorem dX10_begins_12 : decode cX10_begins 12 = .ok (.iload_n 2, 1) := by decide +kernel
theorem dX10_begins_13 : decode cX10_begins 13 = .ok (.iastore, 1) := by decide +kernel
theorem dX10_begins_14 : decode cX10_begins 14 = .ok (.iconst 0, 1) := by decide +kernel
theorem dX10_begins_15 : decode cX10_begins 15 = .ok (.istore_n 3, 1) := by decide +kernel
theorem dX10_begins_16 : decode cX10_begins 16 = .ok (.iload_n 3, 1) := by decide +kernel
theorem dX10_begins_17 : decode cX10_begins 17 = .ok (.bipush 64, 2) := by decide +kernel
theorem dX10_begins_19 : decode cX10_begins 19 = .ok (.if_icmp .ge 30, 3) := by decide +kernel
theorem dX10_begins_22 : decode cX10_begins 22 = .ok (.aload_n 0, 1) := by decide +kernel
theorem dX10_begins_23 : decode cX10_begins 23 = .ok (.getfield 7, 3) := by decide +kernel
theorem dX10_begins_26 : decode cX10_begins 26 = .ok (.bipush 30, 2) := by decide +kernel
theorem dX10_begins_28 : decode cX10_begins 28 = .ok (.iload_n 3, 1) := by decide +kernel
theorem dX10_begins_29 : decode cX10_begins 29 = .ok (.iadd, 1) := by decide +kernel
theorem dX10_begins_30 : decode cX10_begins 30 = .ok (.bipush 10, 2) := by decide +kernel
theorem dX10_begins_32 : decode cX10_begins 32 = .ok (.iastore, 1) := by decide +kernel
theorem dX10_begins_33 : decode cX10_begins 33 = .ok (.aload_n 0, 1) := by decide +kernel
theorem dX10_begins_34 : decode cX10_begins 34 = .ok (.getfield 7, 3) := by decide +kernel
theorem dX10_begins_37 : decode cX10_begins 37 = .ok (.bipush 100, 2) := by decide +kernel
theorem dX10_begins_39 : decode cX10_begins 39 = .ok (.iload_n 3, 1) := by decide +kernel
theorem dX10_begins_40 : decode cX10_begins 40 = .ok (.iadd, 1) := by decide +kernel
theorem dX10_begins_41 : decode cX10_begins 41 = .ok (.iconst 0, 1) := by decide +kernel
theorem dX10_begins_42 : decode cX10_begins 42 = .ok (.iastore, 1) := by decide +kernel
theorem dX10_begins_43 : decode cX10_begins 43 = .ok (.iinc 3 1, 3) := by decide +kernel
theorem dX10_begins_46 : decode cX10_begins 46 = .ok (.goto (-30), 3) := by decide +kernel
theorem dX10_begins_49 : decode cX10_begins 49 = .ok (.aload_n 0, 1) := by decide +kernel
theorem dX10_begins_50 : decode cX10_begins 50 = .ok (.invokevirtual 39, 3) := by decide +kernel
theorem dX10_begins_53 : decode cX10_begins 53 = .ok (.return_, 1) := by decide +kernel
theorem dX10_wall_0 : decode cX10_wall 0 = .ok (.iload_n 1, 1) := by decide +kernel
theorem dX10_wall_1 : decode cX10_wall 1 = .ok (.iconst 1, 1) := by decide +kernel
theorem dX10_wall_2 : decode cX10_wall 2 = .ok (.bipush 8, 2) := by decide +kernel
theorem dX10_wall_4 : decode cX10_wall 4 = .ok (.invokestatic 42, 3) := by decide +kernel
theorem dX10_wall_7 : decode cX10_wall 7 = .ok (.ifCond .eq 13, 3) := by decide +kernel
theorem dX10_wall_10 : decode cX10_wall 10 = .ok (.iload_n 2, 1) := by decide +kernel
theorem dX10_wall_11 : decode cX10_wall 11 = .ok (.iconst 1, 1) := by decide +kernel
theorem dX10_wall_12 : decode cX10_wall 12 = .ok (.bipush 8, 2) := by decide +kernel
theorem dX10_wall_14 : decode cX10_wall 14 = .ok (.invokestatic 42, 3) := by decide +kernel
theorem dX10_wall_17 : decode cX10_wall 17 = .ok (.ifCond .ne 5, 3) := by decide +kernel
theorem dX10_wall_20 : decode cX10_wall 20 = .ok (.iconst 0, 1) := by decide +kernel
theorem dX10_wall_21 : decode cX10_wall 21 = .ok (.ireturn, 1) := by decide +kernel
theorem dX10_wall_22 : decode cX10_wall 22 = .ok (.aload_n 0, 1) := by decide +kernel
theorem dX10_wall_23 : decode cX10_wall 23 = .ok (.iload_n 1, 1) := by decide +kernel
theorem dX10_wall_24 : decode cX10_wall 24 = .ok (.iload_n 2, 1) := by decide +kernel
theorem dX10_wall_25 : decode cX10_wall 25 = .ok (.invokevirtual 35, 3) := by decide +kernel
theorem dX10_wall_28 : decode cX10_wall 28 = .ok (.iconst 1, 1) := by decide +kernel
theorem dX10_wall_29 : decode cX10_wall 29 = .ok (.ireturn, 1) := by decide +kernel
theorem dX10_isCell_0 : decode cX10_isCell 0 = .ok (.iload_n 1, 1) := by decide +kernel
theorem dX10_isCell_1 : decode cX10_isCell 1 = .ok (.iconst 0, 1) := by decide +kernel
theorem dX10_isCell_2 : decode cX10_isCell 2 = .ok (.aload_n 0, 1) := by decide +kernel
theorem dX10_isCell_3 : decode cX10_isCell 3 = .ok (.getfield 7, 3) := by decide +kernel
theorem dX10_isCell_6 : decode cX10_isCell 6 = .ok (.iconst 0, 1) := by decide +kernel
theorem dX10_isCell_7 : decode cX10_isCell 7 = .ok (.iaload, 1) := by decide +kernel
theorem dX10_isCell_8 : decode cX10_isCell 8 = .ok (.iconst 1, 1) := by decide +kernel
theorem dX10_isCell_9 : decode cX10_isCell 9 = .ok (.isub, 1) := by decide +kernel
theorem dX10_isCell_10 : decode cX10_isCell 10 = .ok (.invokestatic 42, 3) := by decide +kernel
theorem dX10_isCell_13 : decode cX10_isCell 13 = .ok (.ifCond .eq 23, 3) := by decide +kernel
theorem dX10_isCell_16 : decode cX10_isCell 16 = .ok (.iload_n 2, 1) := by decide +kernel
theorem dX10_isCell_17 : decode cX10_isCell 17 = .ok (.iconst 0, 1) := by decide +kernel
theorem dX10_isCell_18 : decode cX10_isCell 18 = .ok (.aload_n 0, 1) := by decide +kernel
end
section
theorem dX10_isCell_19 : decode cX10_isCell 19 = .ok (.getfield 7, 3) := by decide +kernel
theorem dX10_isCell_22 : decode cX10_isCell 22 = .ok (.iconst 1, 1) := by decide +kernel
theorem dX10_isCell_23 : decode cX10_isCell 23 = .ok (.iaload, 1) := by decide +kernel
theorem dX10_isCell_24 : decode cX10_isCell 24 = .ok (.iconst 1, 1) := by decide +kernel
theorem dX10_isCell_25 : decode cX10_isCell 25 = .ok (.isub, 1) := by decide +kernel
theorem dX10_isCell_26 : decode cX10_isCell 26 = .ok (.invokestatic 42, 3) := by decide +kernel
theorem dX10_isCell_29 : decode cX10_isCell 29 = .ok (.ifCond .eq 7, 3) := by decide +kernel
theorem dX10_isCell_32 : decode cX10_isCell 32 = .ok (.iconst 1, 1) := by decide +kernel
theorem dX10_isCell_33 : decode cX10_isCell 33 = .ok (.goto 4, 3) := by decide +kernel
theorem dX10_isCell_36 : decode cX10_isCell 36 = .ok (.iconst 0, 1) := by decide +kernel
theorem dX10_isCell_37 : decode cX10_isCell 37 = .ok (.ireturn, 1) := by decide +kernel
theorem dX10_cell_0 : decode cX10_cell 0 = .ok (.aload_n 0, 1) := by decide +kernel
theorem dX10_cell_1 : decode cX10_cell 1 = .ok (.iload_n 1, 1) := by decide +kernel
theorem dX10_cell_2 : decode cX10_cell 2 = .ok (.iload_n 2, 1) := by decide +kernel
theorem dX10_cell_3 : decode cX10_cell 3 = .ok (.invokevirtual 46, 3) := by decide +kernel
theorem dX10_cell_6 : decode cX10_cell 6 = .ok (.ifCond .eq 24, 3) := by decide +kernel
theorem dX10_cell_9 : decode cX10_cell 9 = .ok (.iload_n 3, 1) := by decide +kernel
theorem dX10_cell_10 : decode cX10_cell 10 = .ok (.iconst 1, 1) := by decide +kernel
theorem dX10_cell_11 : decode cX10_cell 11 = .ok (.bipush 50, 2) := by decide +kernel
theorem dX10_cell_13 : decode cX10_cell 13 = .ok (.invokestatic 42, 3) := by decide +kernel
theorem dX10_cell_16 : decode cX10_cell 16 = .ok (.ifCond .eq 14, 3) := by decide +kernel
theorem dX10_cell_19 : decode cX10_cell 19 = .ok (.iload 4, 2) := by decide +kernel
theorem dX10_cell_21 : decode cX10_cell 21 = .ok (.iconst 0, 1) := by decide +kernel
theorem dX10_cell_22 : decode cX10_cell 22 = .ok (.bipush 9, 2) := by decide +kernel
theorem dX10_cell_24 : decode cX10_cell 24 = .ok (.invokestatic 42, 3) := by decide +kernel
theorem dX10_cell_27 : decode cX10_cell 27 = .ok (.ifCond .ne 5, 3) := by decide +kernel
theorem dX10_cell_30 : decode cX10_cell 30 = .ok (.iconst 0, 1) := by decide +kernel
theorem dX10_cell_31 : decode cX10_cell 31 = .ok (.ireturn, 1) := by decide +kernel
theorem dX10_cell_32 : decode cX10_cell 32 = .ok (.aload_n 0, 1) := by decide +kernel
theorem dX10_cell_33 : decode cX10_cell 33 = .ok (.getfield 7, 3) := by decide +kernel
theorem dX10_cell_36 : decode cX10_cell 36 = .ok (.bipush 30, 2) := by decide +kernel
theorem dX10_cell_38 : decode cX10_cell 38 = .ok (.bipush 8, 2) := by decide +kernel
theorem dX10_cell_40 : decode cX10_cell 40 = .ok (.iload_n 2, 1) := by decide +kernel
theorem dX10_cell_41 : decode cX10_cell 41 = .ok (.imul, 1) := by decide +kernel
theorem dX10_cell_42 : decode cX10_cell 42 = .ok (.iadd, 1) := by decide +kernel
theorem dX10_cell_43 : decode cX10_cell 43 = .ok (.iload_n 1, 1) := by decide +kernel
theorem dX10_cell_44 : decode cX10_cell 44 = .ok (.iadd, 1) := by decide +kernel
theorem dX10_cell_45 : decode cX10_cell 45 = .ok (.iload_n 3, 1) := by decide +kernel
theorem dX10_cell_46 : decode cX10_cell 46 = .ok (.iastore, 1) := by decide +kernel
theorem dX10_cell_47 : decode cX10_cell 47 = .ok (.aload_n 0, 1) := by decide +kernel
theorem dX10_cell_48 : decode cX10_cell 48 = .ok (.getfield 7, 3) := by decide +kernel
theorem dX10_cell_51 : decode cX10_cell 51 = .ok (.bipush 100, 2) := by decide +kernel
theorem dX10_cell_53 : decode cX10_cell 53 = .ok (.bipush 8, 2) := by decide +kernel
theorem dX10_cell_55 : decode cX10_cell 55 = .ok (.iload_n 2, 1) := by decide +kernel
theorem dX10_cell_56 : decode cX10_cell 56 = .ok (.imul, 1) := by decide +kernel
theorem dX10_cell_57 : decode cX10_cell 57 = .ok (.iadd, 1) := by decide +kernel
theorem dX10_cell_58 : decode cX10_cell 58 = .ok (.iload_n 1, 1) := by decide +kernel
theorem dX10_cell_59 : decode cX10_cell 59 = .ok (.iadd, 1) := by decide +kernel
theorem dX10_cell_60 : decode cX10_cell 60 = .ok (.iload 4, 2) := by decide +kernel
theorem dX10_cell_62 : decode cX10_cell 62 = .ok (.iastore, 1) := by decide +kernel
theorem dX10_cell_63 : decode cX10_cell 63 = .ok (.aload_n 0, 1) := by decide +kernel
theorem dX10_cell_64 : decode cX10_cell 64 = .ok (.invokevirtual 39, 3) := by decide +kernel
theorem dX10_cell_67 : decode cX10_cell 67 = .ok (.iconst 1, 1) := by decide +kernel
theorem dX10_cell_68 : decode cX10_cell 68 = .ok (.ireturn, 1) := by decide +kernel
theorem dX10_motifs_0 : decode cX10_motifs 0 = .ok (.iload_n 1, 1) := by decide +kernel
theorem dX10_motifs_1 : decode cX10_motifs 1 = .ok (.iconst 0, 1) := by decide +kernel
theorem dX10_motifs_2 : decode cX10_motifs 2 = .ok (.aload_n 0, 1) := by decide +kernel
theorem dX10_motifs_3 : decode cX10_motifs 3 = .ok (.getfield 7, 3) := by decide +kernel
theorem dX10_motifs_6 : decode cX10_motifs 6 = .ok (.iconst 1, 1) := by decide +kernel
theorem dX10_motifs_7 : decode cX10_motifs 7 = .ok (.iaload, 1) := by decide +kernel
theorem dX10_motifs_8 : decode cX10_motifs 8 = .ok (.iconst 1, 1) := by decide +kernel
theorem dX10_motifs_9 : decode cX10_motifs 9 = .ok (.isub, 1) := by decide +kernel
theorem dX10_motifs_10 : decode cX10_motifs 10 = .ok (.invokestatic 42, 3) := by decide +kernel
theorem dX10_motifs_13 : decode cX10_motifs 13 = .ok (.ifCond .ne 5, 3) := by decide +kernel
theorem dX10_motifs_16 : decode cX10_motifs 16 = .ok (.iconst 0, 1) := by decide +kernel
theorem dX10_motifs_17 : decode cX10_motifs 17 = .ok (.ireturn, 1) := by decide +kernel
theorem dX10_motifs_18 : decode cX10_motifs 18 = .ok (.iconst 0, 1) := by decide +kernel
theorem dX10_motifs_19 : decode cX10_motifs 19 = .ok (.istore_n 3, 1) := by decide +kernel
theorem dX10_motifs_20 : decode cX10_motifs 20 = .ok (.iload_n 3, 1) := by decide +kernel
theorem dX10_motifs_21 : decode cX10_motifs 21 = .ok (.bipush 8, 2) := by decide +kernel
theorem dX10_motifs_23 : decode cX10_motifs 23 = .ok (.if_icmp .ge 27, 3) := by decide +kernel
theorem dX10_motifs_26 : decode cX10_motifs 26 = .ok (.iload_n 2, 1) := by decide +kernel
theorem dX10_motifs_27 : decode cX10_motifs 27 = .ok (.bipush 28, 2) := by decide +kernel
theorem dX10_motifs_29 : decode cX10_motifs 29 = .ok (.iconst 4, 1) := by decide +kernel
theorem dX10_motifs_30 : decode cX10_motifs 30 = .ok (.iload_n 3, 1) := by decide +kernel
theorem dX10_motifs_31 : decode cX10_motifs 31 = .ok (.imul, 1) := by decide +kernel
theorem dX10_motifs_32 : decode cX10_motifs 32 = .ok (.isub, 1) := by decide +kernel
theorem dX10_motifs_33 : decode cX10_motifs 33 = .ok (.ishr, 1) := by decide +kernel
theorem dX10_motifs_34 : decode cX10_motifs 34 = .ok (.bipush 15, 2) := by decide +kernel
theorem dX10_motifs_36 : decode cX10_motifs 36 = .ok (.iand, 1) := by decide +kernel
theorem dX10_motifs_37 : decode cX10_motifs 37 = .ok (.bipush 9, 2) := by decide +kernel
theorem dX10_motifs_39 : decode cX10_motifs 39 = .ok (.if_icmp .le 5, 3) := by decide +kernel
theorem dX10_motifs_42 : decode cX10_motifs 42 = .ok (.iconst 0, 1) := by decide +kernel
theorem dX10_motifs_43 : decode cX10_motifs 43 = .ok (.ireturn, 1) := by decide +kernel
theorem dX10_motifs_44 : decode cX10_motifs 44 = .ok (.iinc 3 1, 3) := by decide +kernel
theorem dX10_motifs_47 : decode cX10_motifs 47 = .ok (.goto (-27), 3) := by decide +kernel
theorem dX10_motifs_50 : decode cX10_motifs 50 = .ok (.iconst 0, 1) := by decide +kernel
theorem dX10_motifs_51 : decode cX10_motifs 51 = .ok (.istore_n 3, 1) := by decide +kernel
theorem dX10_motifs_52 : decode cX10_motifs 52 = .ok (.iload_n 3, 1) := by decide +kernel
theorem dX10_motifs_53 : decode cX10_motifs 53 = .ok (.aload_n 0, 1) := by decide +kernel
theorem dX10_motifs_54 : decode cX10_motifs 54 = .ok (.getfield 7, 3) := by decide +kernel
theorem dX10_motifs_57 : decode cX10_motifs 57 = .ok (.iconst 0, 1) := by decide +kernel
theorem dX10_motifs_58 : decode cX10_motifs 58 = .ok (.iaload, 1) := by decide +kernel
theorem dX10_motifs_59 : decode cX10_motifs 59 = .ok (.if_icmp .ge 34, 3) := by decide +kernel
theorem dX10_motifs_62 : decode cX10_motifs 62 = .ok (.aload_n 0, 1) := by decide +kernel
theorem dX10_motifs_63 : decode cX10_motifs 63 = .ok (.getfield 7, 3) := by decide +kernel
theorem dX10_motifs_66 : decode cX10_motifs 66 = .ok (.bipush 100, 2) := by decide +kernel
theorem dX10_motifs_68 : decode cX10_motifs 68 = .ok (.bipush 8, 2) := by decide +kernel
theorem dX10_motifs_70 : decode cX10_motifs 70 = .ok (.iload_n 1, 1) := by decide +kernel
theorem dX10_motifs_71 : decode cX10_motifs 71 = .ok (.imul, 1) := by decide +kernel
theorem dX10_motifs_72 : decode cX10_motifs 72 = .ok (.iadd, 1) := by decide +kernel
theorem dX10_motifs_73 : decode cX10_motifs 73 = .ok (.iload_n 3, 1) := by decide +kernel
theorem dX10_motifs_74 : decode cX10_motifs 74 = .ok (.iadd, 1) := by decide +kernel
theorem dX10_motifs_75 : decode cX10_motifs 75 = .ok (.iload_n 2, 1) := by decide +kernel
theorem dX10_motifs_76 : decode cX10_motifs 76 = .ok (.bipush 28, 2) := by decide +kernel
theorem dX10_motifs_78 : decode cX10_motifs 78 = .ok (.iconst 4, 1) := by decide +kernel
theorem dX10_motifs_79 : decode cX10_motifs 79 = .ok (.iload_n 3, 1) := by decide +kernel
theorem dX10_motifs_80 : decode cX10_motifs 80 = .ok (.imul, 1) := by decide +kernel
theorem dX10_motifs_81 : decode cX10_motifs 81 = .ok (.isub, 1) := by decide +kernel
theorem dX10_motifs_82 : decode cX10_motifs 82 = .ok (.ishr, 1) := by decide +kernel
theorem dX10_motifs_83 : decode cX10_motifs 83 = .ok (.bipush 15, 2) := by decide +kernel
theorem dX10_motifs_85 : decode cX10_motifs 85 = .ok (.iand, 1) := by decide +kernel
theorem dX10_motifs_86 : decode cX10_motifs 86 = .ok (.iastore, 1) := by decide +kernel
theorem dX10_motifs_87 : decode cX10_motifs 87 = .ok (.iinc 3 1, 3) := by decide +kernel
theorem dX10_motifs_90 : decode cX10_motifs 90 = .ok (.goto (-38), 3) := by decide +kernel
theorem dX10_motifs_93 : decode cX10_motifs 93 = .ok (.aload_n 0, 1) := by decide +kernel
theorem dX10_motifs_94 : decode cX10_motifs 94 = .ok (.invokevirtual 39, 3) := by decide +kernel
theorem dX10_motifs_97 : decode cX10_motifs 97 = .ok (.iconst 1, 1) := by decide +kernel
theorem dX10_motifs_98 : decode cX10_motifs 98 = .ok (.ireturn, 1) := by decide +kernel
theorem dX10_limit_0 : decode cX10_limit 0 = .ok (.iload_n 1, 1) := by decide +kernel
theorem dX10_limit_1 : decode cX10_limit 1 = .ok (.iconst 1, 1) := by decide +kernel
theorem dX10_limit_2 : decode cX10_limit 2 = .ok (.sipush 3200, 3) := by decide +kernel
theorem dX10_limit_5 : decode cX10_limit 5 = .ok (.invokestatic 42, 3) := by decide +kernel
theorem dX10_limit_8 : decode cX10_limit 8 = .ok (.ifCond .ne 5, 3) := by decide +kernel
theorem dX10_limit_11 : decode cX10_limit 11 = .ok (.iconst 0, 1) := by decide +kernel
theorem dX10_limit_12 : decode cX10_limit 12 = .ok (.ireturn, 1) := by decide +kernel
theorem dX10_limit_13 : decode cX10_limit 13 = .ok (.aload_n 0, 1) := by decide +kernel
theorem dX10_limit_14 : decode cX10_limit 14 = .ok (.getfield 7, 3) := by decide +kernel
theorem dX10_limit_17 : decode cX10_limit 17 = .ok (.iconst 2, 1) := by decide +kernel
theorem dX10_limit_18 : decode cX10_limit 18 = .ok (.iload_n 1, 1) := by decide +kernel
theorem dX10_limit_19 : decode cX10_limit 19 = .ok (.iastore, 1) := by decide +kernel
theorem dX10_limit_20 : decode cX10_limit 20 = .ok (.iconst 1, 1) := by decide +kernel
theorem dX10_limit_21 : decode cX10_limit 21 = .ok (.ireturn, 1) := by decide +kernel
theorem dX10_saw_0 : decode cX10_saw 0 = .ok (.iload_n 1, 1) := by decide +kernel
theorem dX10_saw_1 : decode cX10_saw 1 = .ok (.iconst 1, 1) := by decide +kernel
theorem dX10_saw_2 : decode cX10_saw 2 = .ok (.bipush 9, 2) := by decide +kernel
theorem dX10_saw_4 : decode cX10_saw 4 = .ok (.invokestatic 42, 3) := by decide +kernel
theorem dX10_saw_7 : decode cX10_saw 7 = .ok (.ifCond .ne 5, 3) := by decide +kernel
theorem dX10_saw_10 : decode cX10_saw 10 = .ok (.iconst 0, 1) := by decide +kernel
theorem dX10_saw_11 : decode cX10_saw 11 = .ok (.ireturn, 1) := by decide +kernel
theorem dX10_saw_12 : decode cX10_saw 12 = .ok (.aload_n 0, 1) := by decide +kernel
theorem dX10_saw_13 : decode cX10_saw 13 = .ok (.getfield 7, 3) := by decide +kernel
theorem dX10_saw_16 : decode cX10_saw 16 = .ok (.iconst 3, 1) := by decide +kernel
theorem dX10_saw_17 : decode cX10_saw 17 = .ok (.iload_n 1, 1) := by decide +kernel
theorem dX10_saw_18 : decode cX10_saw 18 = .ok (.iastore, 1) := by decide +kernel
theorem dX10_saw_19 : decode cX10_saw 19 = .ok (.iconst 1, 1) := by decide +kernel
theorem dX10_saw_20 : decode cX10_saw 20 = .ok (.ireturn, 1) := by decide +kernel
theorem dX10_part_0 : decode cX10_part 0 = .ok (.iload_n 0, 1) := by decide +kernel
theorem dX10_part_1 : decode cX10_part 1 = .ok (.bipush 8, 2) := by decide +kernel
theorem dX10_part_3 : decode cX10_part 3 = .ok (.imul, 1) := by decide +kernel
theorem dX10_part_4 : decode cX10_part 4 = .ok (.iload_n 1, 1) := by decide +kernel
theorem dX10_part_5 : decode cX10_part 5 = .ok (.iadd, 1) := by decide +kernel
theorem dX10_part_6 : decode cX10_part 6 = .ok (.bipush 8, 2) := by decide +kernel
theorem dX10_part_8 : decode cX10_part 8 = .ok (.imul, 1) := by decide +kernel
theorem dX10_part_9 : decode cX10_part 9 = .ok (.iload_n 2, 1) := by decide +kernel
theorem dX10_part_10 : decode cX10_part 10 = .ok (.iadd, 1) := by decide +kernel
theorem dX10_part_11 : decode cX10_part 11 = .ok (.iconst 1, 1) := by decide +kernel
theorem dX10_part_12 : decode cX10_part 12 = .ok (.isub, 1) := by decide +kernel
theorem dX10_part_13 : decode cX10_part 13 = .ok (.bipush 8, 2) := by decide +kernel
theorem dX10_part_15 : decode cX10_part 15 = .ok (.imul, 1) := by decide +kernel
theorem dX10_part_16 : decode cX10_part 16 = .ok (.iload_n 3, 1) := by decide +kernel
theorem dX10_part_17 : decode cX10_part 17 = .ok (.iadd, 1) := by decide +kernel
theorem dX10_part_18 : decode cX10_part 18 = .ok (.iconst 1, 1) := by decide +kernel
theorem dX10_part_19 : decode cX10_part 19 = .ok (.isub, 1) := by decide +kernel
theorem dX10_part_20 : decode cX10_part 20 = .ok (.ireturn, 1) := by decide +kernel
theorem dX10_weight_0 : decode cX10_weight 0 = .ok (.iconst 0, 1) := by decide +kernel
theorem dX10_weight_1 : decode cX10_weight 1 = .ok (.istore 5, 2) := by decide +kernel
theorem dX10_weight_3 : decode cX10_weight 3 = .ok (.iload_n 2, 1) := by decide +kernel
theorem dX10_weight_4 : decode cX10_weight 4 = .ok (.istore 6, 2) := by decide +kernel
theorem dX10_weight_6 : decode cX10_weight 6 = .ok (.iload 6, 2) := by decide +kernel
theorem dX10_weight_8 : decode cX10_weight 8 = .ok (.iload_n 2, 1) := by decide +kernel
theorem dX10_weight_9 : decode cX10_weight 9 = .ok (.iload 4, 2) := by decide +kernel
theorem dX10_weight_11 : decode cX10_weight 11 = .ok (.iadd, 1) := by decide +kernel
theorem dX10_weight_12 : decode cX10_weight 12 = .ok (.if_icmp .ge 47, 3) := by decide +kernel
theorem dX10_weight_15 : decode cX10_weight 15 = .ok (.iload_n 1, 1) := by decide +kernel
theorem dX10_weight_16 : decode cX10_weight 16 = .ok (.istore 7, 2) := by decide +kernel
theorem dX10_weight_18 : decode cX10_weight 18 = .ok (.iload 7, 2) := by decide +kernel
theorem dX10_weight_20 : decode cX10_weight 20 = .ok (.iload_n 1, 1) := by decide +kernel
theorem dX10_weight_21 : decode cX10_weight 21 = .ok (.iload_n 3, 1) := by decide +kernel
theorem dX10_weight_22 : decode cX10_weight 22 = .ok (.iadd, 1) := by decide +kernel
theorem dX10_weight_23 : decode cX10_weight 23 = .ok (.if_icmp .ge 30, 3) := by decide +kernel
theorem dX10_weight_26 : decode cX10_weight 26 = .ok (.iload 5, 2) := by decide +kernel
theorem dX10_weight_28 : decode cX10_weight 28 = .ok (.aload_n 0, 1) := by decide +kernel
theorem dX10_weight_29 : decode cX10_weight 29 = .ok (.getfield 7, 3) := by decide +kernel
theorem dX10_weight_32 : decode cX10_weight 32 = .ok (.bipush 30, 2) := by decide +kernel
theorem dX10_weight_34 : decode cX10_weight 34 = .ok (.bipush 8, 2) := by decide +kernel
theorem dX10_weight_36 : decode cX10_weight 36 = .ok (.iload 6, 2) := by decide +kernel
theorem dX10_weight_38 : decode cX10_weight 38 = .ok (.imul, 1) := by decide +kernel
theorem dX10_weight_39 : decode cX10_weight 39 = .ok (.iadd, 1) := by decide +kernel
theorem dX10_weight_40 : decode cX10_weight 40 = .ok (.iload 7, 2) := by decide +kernel
theorem dX10_weight_42 : decode cX10_weight 42 = .ok (.iadd, 1) := by decide +kernel
theorem dX10_weight_43 : decode cX10_weight 43 = .ok (.iaload, 1) := by decide +kernel
theorem dX10_weight_44 : decode cX10_weight 44 = .ok (.iadd, 1) := by decide +kernel
theorem dX10_weight_45 : decode cX10_weight 45 = .ok (.istore 5, 2) := by decide +kernel
theorem dX10_weight_47 : decode cX10_weight 47 = .ok (.iinc 7 1, 3) := by decide +kernel
theorem dX10_weight_50 : decode cX10_weight 50 = .ok (.goto (-32), 3) := by decide +kernel
theorem dX10_weight_53 : decode cX10_weight 53 = .ok (.iinc 6 1, 3) := by decide +kernel
theorem dX10_weight_56 : decode cX10_weight 56 = .ok (.goto (-50), 3) := by decide +kernel
theorem dX10_weight_59 : decode cX10_weight 59 = .ok (.iload 5, 2) := by decide +kernel
theorem dX10_weight_61 : decode cX10_weight 61 = .ok (.ireturn, 1) := by decide +kernel
theorem dX10_isOne_0 : decode cX10_isOne 0 = .ok (.aload_n 0, 1) := by decide +kernel
theorem dX10_isOne_1 : decode cX10_isOne 1 = .ok (.getfield 7, 3) := by decide +kernel
theorem dX10_isOne_4 : decode cX10_isOne 4 = .ok (.bipush 100, 2) := by decide +kernel
theorem dX10_isOne_6 : decode cX10_isOne 6 = .ok (.iload_n 1, 1) := by decide +kernel
theorem dX10_isOne_7 : decode cX10_isOne 7 = .ok (.iadd, 1) := by decide +kernel
theorem dX10_isOne_8 : decode cX10_isOne 8 = .ok (.iaload, 1) := by decide +kernel
theorem dX10_isOne_9 : decode cX10_isOne 9 = .ok (.ifCond .le 28, 3) := by decide +kernel
theorem dX10_isOne_12 : decode cX10_isOne 12 = .ok (.aload_n 0, 1) := by decide +kernel
theorem dX10_isOne_13 : decode cX10_isOne 13 = .ok (.getfield 7, 3) := by decide +kernel
theorem dX10_isOne_16 : decode cX10_isOne 16 = .ok (.bipush 100, 2) := by decide +kernel
theorem dX10_isOne_18 : decode cX10_isOne 18 = .ok (.iload_n 1, 1) := by decide +kernel
theorem dX10_isOne_19 : decode cX10_isOne 19 = .ok (.iadd, 1) := by decide +kernel
theorem dX10_isOne_20 : decode cX10_isOne 20 = .ok (.iaload, 1) := by decide +kernel
theorem dX10_isOne_21 : decode cX10_isOne 21 = .ok (.aload_n 0, 1) := by decide +kernel
theorem dX10_isOne_22 : decode cX10_isOne 22 = .ok (.getfield 7, 3) := by decide +kernel
theorem dX10_isOne_25 : decode cX10_isOne 25 = .ok (.bipush 100, 2) := by decide +kernel
theorem dX10_isOne_27 : decode cX10_isOne 27 = .ok (.iload_n 2, 1) := by decide +kernel
theorem dX10_isOne_28 : decode cX10_isOne 28 = .ok (.iadd, 1) := by decide +kernel
theorem dX10_isOne_29 : decode cX10_isOne 29 = .ok (.iaload, 1) := by decide +kernel
theorem dX10_isOne_30 : decode cX10_isOne 30 = .ok (.if_icmp .ne 7, 3) := by decide +kernel
theorem dX10_isOne_33 : decode cX10_isOne 33 = .ok (.iconst 1, 1) := by decide +kernel
theorem dX10_isOne_34 : decode cX10_isOne 34 = .ok (.goto 4, 3) := by decide +kernel
theorem dX10_isOne_37 : decode cX10_isOne 37 = .ok (.iconst 0, 1) := by decide +kernel
theorem dX10_isOne_38 : decode cX10_isOne 38 = .ok (.ireturn, 1) := by decide +kernel
theorem dX10_mayUpright_0 : decode cX10_mayUpright 0 = .ok (.iconst 1, 1) := by decide +kernel
theorem dX10_mayUpright_1 : decode cX10_mayUpright 1 = .ok (.istore 5, 2) := by decide +kernel
theorem dX10_mayUpright_3 : decode cX10_mayUpright 3 = .ok (.iload_n 2, 1) := by decide +kernel
theorem dX10_mayUpright_4 : decode cX10_mayUpright 4 = .ok (.istore 6, 2) := by decide +kernel
theorem dX10_mayUpright_6 : decode cX10_mayUpright 6 = .ok (.iload 6, 2) := by decide +kernel
theorem dX10_mayUpright_8 : decode cX10_mayUpright 8 = .ok (.iload_n 2, 1) := by decide +kernel
theorem dX10_mayUpright_9 : decode cX10_mayUpright 9 = .ok (.iload_n 3, 1) := by decide +kernel
theorem dX10_mayUpright_10 : decode cX10_mayUpright 10 = .ok (.iadd, 1) := by decide +kernel
theorem dX10_mayUpright_11 : decode cX10_mayUpright 11 = .ok (.if_icmp .ge 50, 3) := by decide +kernel
theorem dX10_mayUpright_14 : decode cX10_mayUpright 14 = .ok (.iload 5, 2) := by decide +kernel
theorem dX10_mayUpright_16 : decode cX10_mayUpright 16 = .ok (.ifCond .eq 36, 3) := by decide +kernel
theorem dX10_mayUpright_19 : decode cX10_mayUpright 19 = .ok (.aload_n 0, 1) := by decide +kernel
theorem dX10_mayUpright_20 : decode cX10_mayUpright 20 = .ok (.bipush 8, 2) := by decide +kernel
theorem dX10_mayUpright_22 : decode cX10_mayUpright 22 = .ok (.iload 6, 2) := by decide +kernel
theorem dX10_mayUpright_24 : decode cX10_mayUpright 24 = .ok (.imul, 1) := by decide +kernel
theorem dX10_mayUpright_25 : decode cX10_mayUpright 25 = .ok (.iload_n 1, 1) := by decide +kernel
theorem dX10_mayUpright_26 : decode cX10_mayUpright 26 = .ok (.iadd, 1) := by decide +kernel
theorem dX10_mayUpright_27 : decode cX10_mayUpright 27 = .ok (.iload 4, 2) := by decide +kernel
theorem dX10_mayUpright_29 : decode cX10_mayUpright 29 = .ok (.iadd, 1) := by decide +kernel
theorem dX10_mayUpright_30 : decode cX10_mayUpright 30 = .ok (.iconst 1, 1) := by decide +kernel
theorem dX10_mayUpright_31 : decode cX10_mayUpright 31 = .ok (.isub, 1) := by decide +kernel
theorem dX10_mayUpright_32 : decode cX10_mayUpright 32 = .ok (.bipush 8, 2) := by decide +kernel
theorem dX10_mayUpright_34 : decode cX10_mayUpright 34 = .ok (.iload 6, 2) := by decide +kernel
theorem dX10_mayUpright_36 : decode cX10_mayUpright 36 = .ok (.imul, 1) := by decide +kernel
theorem dX10_mayUpright_37 : decode cX10_mayUpright 37 = .ok (.iload_n 1, 1) := by decide +kernel
theorem dX10_mayUpright_38 : decode cX10_mayUpright 38 = .ok (.iadd, 1) := by decide +kernel
theorem dX10_mayUpright_39 : decode cX10_mayUpright 39 = .ok (.iload 4, 2) := by decide +kernel
theorem dX10_mayUpright_41 : decode cX10_mayUpright 41 = .ok (.iadd, 1) := by decide +kernel
theorem dX10_mayUpright_42 : decode cX10_mayUpright 42 = .ok (.invokevirtual 50, 3) := by decide +kernel
theorem dX10_mayUpright_45 : decode cX10_mayUpright 45 = .ok (.ifCond .ne 7, 3) := by decide +kernel
theorem dX10_mayUpright_48 : decode cX10_mayUpright 48 = .ok (.iconst 1, 1) := by decide +kernel
theorem dX10_mayUpright_49 : decode cX10_mayUpright 49 = .ok (.goto 4, 3) := by decide +kernel
theorem dX10_mayUpright_52 : decode cX10_mayUpright 52 = .ok (.iconst 0, 1) := by decide +kernel
theorem dX10_mayUpright_53 : decode cX10_mayUpright 53 = .ok (.istore 5, 2) := by decide +kernel
theorem dX10_mayUpright_55 : decode cX10_mayUpright 55 = .ok (.iinc 6 1, 3) := by decide +kernel
theorem dX10_mayUpright_58 : decode cX10_mayUpright 58 = .ok (.goto (-52), 3) := by decide +kernel
theorem dX10_mayUpright_61 : decode cX10_mayUpright 61 = .ok (.iload 5, 2) := by decide +kernel
theorem dX10_mayUpright_63 : decode cX10_mayUpright 63 = .ok (.ireturn, 1) := by decide +kernel
theorem dX10_mayLevel_0 : decode cX10_mayLevel 0 = .ok (.iconst 1, 1) := by decide +kernel
theorem dX10_mayLevel_1 : decode cX10_mayLevel 1 = .ok (.istore 5, 2) := by decide +kernel
theorem dX10_mayLevel_3 : decode cX10_mayLevel 3 = .ok (.iload_n 1, 1) := by decide +kernel
theorem dX10_mayLevel_4 : decode cX10_mayLevel 4 = .ok (.istore 6, 2) := by decide +kernel
theorem dX10_mayLevel_6 : decode cX10_mayLevel 6 = .ok (.iload 6, 2) := by decide +kernel
theorem dX10_mayLevel_8 : decode cX10_mayLevel 8 = .ok (.iload_n 1, 1) := by decide +kernel
theorem dX10_mayLevel_9 : decode cX10_mayLevel 9 = .ok (.iload_n 3, 1) := by decide +kernel
theorem dX10_mayLevel_10 : decode cX10_mayLevel 10 = .ok (.iadd, 1) := by decide +kernel
theorem dX10_mayLevel_11 : decode cX10_mayLevel 11 = .ok (.if_icmp .ge 50, 3) := by decide +kernel
theorem dX10_mayLevel_14 : decode cX10_mayLevel 14 = .ok (.iload 5, 2) := by decide +kernel
theorem dX10_mayLevel_16 : decode cX10_mayLevel 16 = .ok (.ifCond .eq 36, 3) := by decide +kernel
theorem dX10_mayLevel_19 : decode cX10_mayLevel 19 = .ok (.aload_n 0, 1) := by decide +kernel
theorem dX10_mayLevel_20 : decode cX10_mayLevel 20 = .ok (.bipush 8, 2) := by decide +kernel
theorem dX10_mayLevel_22 : decode cX10_mayLevel 22 = .ok (.iload_n 2, 1) := by decide +kernel
theorem dX10_mayLevel_23 : decode cX10_mayLevel 23 = .ok (.iload 4, 2) := by decide +kernel
theorem dX10_mayLevel_25 : decode cX10_mayLevel 25 = .ok (.iadd, 1) := by decide +kernel
theorem dX10_mayLevel_26 : decode cX10_mayLevel 26 = .ok (.iconst 1, 1) := by decide +kernel
theorem dX10_mayLevel_27 : decode cX10_mayLevel 27 = .ok (.isub, 1) := by decide +kernel
theorem dX10_mayLevel_28 : decode cX10_mayLevel 28 = .ok (.imul, 1) := by decide +kernel
theorem dX10_mayLevel_29 : decode cX10_mayLevel 29 = .ok (.iload 6, 2) := by decide +kernel
theorem dX10_mayLevel_31 : decode cX10_mayLevel 31 = .ok (.iadd, 1) := by decide +kernel
theorem dX10_mayLevel_32 : decode cX10_mayLevel 32 = .ok (.bipush 8, 2) := by decide +kernel
theorem dX10_mayLevel_34 : decode cX10_mayLevel 34 = .ok (.iload_n 2, 1) := by decide +kernel
theorem dX10_mayLevel_35 : decode cX10_mayLevel 35 = .ok (.iload 4, 2) := by decide +kernel
theorem dX10_mayLevel_37 : decode cX10_mayLevel 37 = .ok (.iadd, 1) := by decide +kernel
theorem dX10_mayLevel_38 : decode cX10_mayLevel 38 = .ok (.imul, 1) := by decide +kernel
theorem dX10_mayLevel_39 : decode cX10_mayLevel 39 = .ok (.iload 6, 2) := by decide +kernel
theorem dX10_mayLevel_41 : decode cX10_mayLevel 41 = .ok (.iadd, 1) := by decide +kernel
theorem dX10_mayLevel_42 : decode cX10_mayLevel 42 = .ok (.invokevirtual 50, 3) := by decide +kernel
theorem dX10_mayLevel_45 : decode cX10_mayLevel 45 = .ok (.ifCond .ne 7, 3) := by decide +kernel
theorem dX10_mayLevel_48 : decode cX10_mayLevel 48 = .ok (.iconst 1, 1) := by decide +kernel
theorem dX10_mayLevel_49 : decode cX10_mayLevel 49 = .ok (.goto 4, 3) := by decide +kernel
theorem dX10_mayLevel_52 : decode cX10_mayLevel 52 = .ok (.iconst 0, 1) := by decide +kernel
theorem dX10_mayLevel_53 : decode cX10_mayLevel 53 = .ok (.istore 5, 2) := by decide +kernel
theorem dX10_mayLevel_55 : decode cX10_mayLevel 55 = .ok (.iinc 6 1, 3) := by decide +kernel
theorem dX10_mayLevel_58 : decode cX10_mayLevel 58 = .ok (.goto (-52), 3) := by decide +kernel
theorem dX10_mayLevel_61 : decode cX10_mayLevel 61 = .ok (.iload 5, 2) := by decide +kernel
theorem dX10_mayLevel_63 : decode cX10_mayLevel 63 = .ok (.ireturn, 1) := by decide +kernel
theorem dX10_tries_0 : decode cX10_tries 0 = .ok (.aload_n 0, 1) := by decide +kernel
theorem dX10_tries_1 : decode cX10_tries 1 = .ok (.getfield 17, 3) := by decide +kernel
theorem dX10_tries_4 : decode cX10_tries 4 = .ok (.iload_n 2, 1) := by decide +kernel
theorem dX10_tries_5 : decode cX10_tries 5 = .ok (.iaload, 1) := by decide +kernel
theorem dX10_tries_6 : decode cX10_tries 6 = .ok (.ifCond .eq 12, 3) := by decide +kernel
theorem dX10_tries_9 : decode cX10_tries 9 = .ok (.aload_n 0, 1) := by decide +kernel
theorem dX10_tries_10 : decode cX10_tries 10 = .ok (.getfield 17, 3) := by decide +kernel
theorem dX10_tries_13 : decode cX10_tries 13 = .ok (.iload_n 3, 1) := by decide +kernel
theorem dX10_tries_14 : decode cX10_tries 14 = .ok (.iaload, 1) := by decide +kernel
theorem dX10_tries_15 : decode cX10_tries 15 = .ok (.ifCond .ne 4, 3) := by decide +kernel
theorem dX10_tries_18 : decode cX10_tries 18 = .ok (.return_, 1) := by decide +kernel
theorem dX10_tries_19 : decode cX10_tries 19 = .ok (.aload_n 0, 1) := by decide +kernel
theorem dX10_tries_20 : decode cX10_tries 20 = .ok (.getfield 17, 3) := by decide +kernel
theorem dX10_tries_23 : decode cX10_tries 23 = .ok (.iload_n 2, 1) := by decide +kernel
theorem dX10_tries_24 : decode cX10_tries 24 = .ok (.iaload, 1) := by decide +kernel
theorem dX10_tries_25 : decode cX10_tries 25 = .ok (.aload_n 0, 1) := by decide +kernel
theorem dX10_tries_26 : decode cX10_tries 26 = .ok (.getfield 17, 3) := by decide +kernel
theorem dX10_tries_29 : decode cX10_tries 29 = .ok (.iload_n 3, 1) := by decide +kernel
theorem dX10_tries_30 : decode cX10_tries 30 = .ok (.iaload, 1) := by decide +kernel
theorem dX10_tries_31 : decode cX10_tries 31 = .ok (.iadd, 1) := by decide +kernel
theorem dX10_tries_32 : decode cX10_tries 32 = .ok (.istore 6, 2) := by decide +kernel
theorem dX10_tries_34 : decode cX10_tries 34 = .ok (.aload_n 0, 1) := by decide +kernel
theorem dX10_tries_35 : decode cX10_tries 35 = .ok (.getfield 20, 3) := by decide +kernel
theorem dX10_tries_38 : decode cX10_tries 38 = .ok (.iload_n 2, 1) := by decide +kernel
theorem dX10_tries_39 : decode cX10_tries 39 = .ok (.iaload, 1) := by decide +kernel
theorem dX10_tries_40 : decode cX10_tries 40 = .ok (.aload_n 0, 1) := by decide +kernel
theorem dX10_tries_41 : decode cX10_tries 41 = .ok (.getfield 20, 3) := by decide +kernel
theorem dX10_tries_44 : decode cX10_tries 44 = .ok (.iload_n 3, 1) := by decide +kernel
theorem dX10_tries_45 : decode cX10_tries 45 = .ok (.iaload, 1) := by decide +kernel
theorem dX10_tries_46 : decode cX10_tries 46 = .ok (.iadd, 1) := by decide +kernel
theorem dX10_tries_47 : decode cX10_tries 47 = .ok (.iload 4, 2) := by decide +kernel
theorem dX10_tries_49 : decode cX10_tries 49 = .ok (.iadd, 1) := by decide +kernel
theorem dX10_tries_50 : decode cX10_tries 50 = .ok (.istore 7, 2) := by decide +kernel
theorem dX10_tries_52 : decode cX10_tries 52 = .ok (.aload_n 0, 1) := by decide +kernel
theorem dX10_tries_53 : decode cX10_tries 53 = .ok (.getfield 17, 3) := by decide +kernel
theorem dX10_tries_56 : decode cX10_tries 56 = .ok (.iload_n 1, 1) := by decide +kernel
theorem dX10_tries_57 : decode cX10_tries 57 = .ok (.iaload, 1) := by decide +kernel
theorem dX10_tries_58 : decode cX10_tries 58 = .ok (.ifCond .le 37, 3) := by decide +kernel
theorem dX10_tries_61 : decode cX10_tries 61 = .ok (.iload 6, 2) := by decide +kernel
theorem dX10_tries_63 : decode cX10_tries 63 = .ok (.aload_n 0, 1) := by decide +kernel
theorem dX10_tries_64 : decode cX10_tries 64 = .ok (.getfield 17, 3) := by decide +kernel
theorem dX10_tries_67 : decode cX10_tries 67 = .ok (.iload_n 1, 1) := by decide +kernel
theorem dX10_tries_68 : decode cX10_tries 68 = .ok (.iaload, 1) := by decide +kernel
theorem dX10_tries_69 : decode cX10_tries 69 = .ok (.if_icmp .gt 25, 3) := by decide +kernel
theorem dX10_tries_72 : decode cX10_tries 72 = .ok (.iload 6, 2) := by decide +kernel
theorem dX10_tries_74 : decode cX10_tries 74 = .ok (.aload_n 0, 1) := by decide +kernel
theorem dX10_tries_75 : decode cX10_tries 75 = .ok (.getfield 17, 3) := by decide +kernel
theorem dX10_tries_78 : decode cX10_tries 78 = .ok (.iload_n 1, 1) := by decide +kernel
theorem dX10_tries_79 : decode cX10_tries 79 = .ok (.iaload, 1) := by decide +kernel
theorem dX10_tries_80 : decode cX10_tries 80 = .ok (.if_icmp .ne 15, 3) := by decide +kernel
theorem dX10_tries_83 : decode cX10_tries 83 = .ok (.iload 7, 2) := by decide +kernel
theorem dX10_tries_85 : decode cX10_tries 85 = .ok (.aload_n 0, 1) := by decide +kernel
theorem dX10_tries_86 : decode cX10_tries 86 = .ok (.getfield 20, 3) := by decide +kernel
theorem dX10_tries_89 : decode cX10_tries 89 = .ok (.iload_n 1, 1) := by decide +kernel
theorem dX10_tries_90 : decode cX10_tries 90 = .ok (.iaload, 1) := by decide +kernel
theorem dX10_tries_91 : decode cX10_tries 91 = .ok (.if_icmp .lt 4, 3) := by decide +kernel
theorem dX10_tries_94 : decode cX10_tries 94 = .ok (.return_, 1) := by decide +kernel
theorem dX10_tries_95 : decode cX10_tries 95 = .ok (.aload_n 0, 1) := by decide +kernel
theorem dX10_tries_96 : decode cX10_tries 96 = .ok (.getfield 17, 3) := by decide +kernel
theorem dX10_tries_99 : decode cX10_tries 99 = .ok (.iload_n 1, 1) := by decide +kernel
theorem dX10_tries_100 : decode cX10_tries 100 = .ok (.iload 6, 2) := by decide +kernel
theorem dX10_tries_102 : decode cX10_tries 102 = .ok (.iastore, 1) := by decide +kernel
theorem dX10_tries_103 : decode cX10_tries 103 = .ok (.aload_n 0, 1) := by decide +kernel
theorem dX10_tries_104 : decode cX10_tries 104 = .ok (.getfield 20, 3) := by decide +kernel
theorem dX10_tries_107 : decode cX10_tries 107 = .ok (.iload_n 1, 1) := by decide +kernel
theorem dX10_tries_108 : decode cX10_tries 108 = .ok (.iload 7, 2) := by decide +kernel
theorem dX10_tries_110 : decode cX10_tries 110 = .ok (.iastore, 1) := by decide +kernel
theorem dX10_tries_111 : decode cX10_tries 111 = .ok (.aload_n 0, 1) := by decide +kernel
theorem dX10_tries_112 : decode cX10_tries 112 = .ok (.getfield 23, 3) := by decide +kernel
theorem dX10_tries_115 : decode cX10_tries 115 = .ok (.iload_n 1, 1) := by decide +kernel
theorem dX10_tries_116 : decode cX10_tries 116 = .ok (.iload 5, 2) := by decide +kernel
theorem dX10_tries_118 : decode cX10_tries 118 = .ok (.iastore, 1) := by decide +kernel
theorem dX10_tries_119 : decode cX10_tries 119 = .ok (.return_, 1) := by decide +kernel
theorem dX10_settles_0 : decode cX10_settles 0 = .ok (.iload_n 1, 1) := by decide +kernel
theorem dX10_settles_1 : decode cX10_settles 1 = .ok (.iload_n 2, 1) := by decide +kernel
theorem dX10_settles_2 : decode cX10_settles 2 = .ok (.iload_n 3, 1) := by decide +kernel
theorem dX10_settles_3 : decode cX10_settles 3 = .ok (.iload 4, 2) := by decide +kernel
theorem dX10_settles_5 : decode cX10_settles 5 = .ok (.invokestatic 53, 3) := by decide +kernel
theorem dX10_settles_8 : decode cX10_settles 8 = .ok (.istore 5, 2) := by decide +kernel
theorem dX10_settles_10 : decode cX10_settles 10 = .ok (.aload_n 0, 1) := by decide +kernel
theorem dX10_settles_11 : decode cX10_settles 11 = .ok (.getfield 17, 3) := by decide +kernel
theorem dX10_settles_14 : decode cX10_settles 14 = .ok (.iload 5, 2) := by decide +kernel
theorem dX10_settles_16 : decode cX10_settles 16 = .ok (.iconst 0, 1) := by decide +kernel
theorem dX10_settles_17 : decode cX10_settles 17 = .ok (.iastore, 1) := by decide +kernel
theorem dX10_settles_18 : decode cX10_settles 18 = .ok (.aload_n 0, 1) := by decide +kernel
theorem dX10_settles_19 : decode cX10_settles 19 = .ok (.getfield 20, 3) := by decide +kernel
theorem dX10_settles_22 : decode cX10_settles 22 = .ok (.iload 5, 2) := by decide +kernel
theorem dX10_settles_24 : decode cX10_settles 24 = .ok (.iconst 0, 1) := by decide +kernel
theorem dX10_settles_25 : decode cX10_settles 25 = .ok (.iastore, 1) := by decide +kernel
theorem dX10_settles_26 : decode cX10_settles 26 = .ok (.aload_n 0, 1) := by decide +kernel
theorem dX10_settles_27 : decode cX10_settles 27 = .ok (.getfield 23, 3) := by decide +kernel
theorem dX10_settles_30 : decode cX10_settles 30 = .ok (.iload 5, 2) := by decide +kernel
theorem dX10_settles_32 : decode cX10_settles 32 = .ok (.iconst 0, 1) := by decide +kernel
theorem dX10_settles_33 : decode cX10_settles 33 = .ok (.iastore, 1) := by decide +kernel
theorem dX10_settles_34 : decode cX10_settles 34 = .ok (.aload_n 0, 1) := by decide +kernel
theorem dX10_settles_35 : decode cX10_settles 35 = .ok (.iload_n 1, 1) := by decide +kernel
theorem dX10_settles_36 : decode cX10_settles 36 = .ok (.iload_n 2, 1) := by decide +kernel
theorem dX10_settles_37 : decode cX10_settles 37 = .ok (.iload_n 3, 1) := by decide +kernel
theorem dX10_settles_38 : decode cX10_settles 38 = .ok (.iload 4, 2) := by decide +kernel
theorem dX10_settles_40 : decode cX10_settles 40 = .ok (.invokevirtual 57, 3) := by decide +kernel
theorem dX10_settles_43 : decode cX10_settles 43 = .ok (.aload_n 0, 1) := by decide +kernel
theorem dX10_settles_44 : decode cX10_settles 44 = .ok (.getfield 7, 3) := by decide +kernel
theorem dX10_settles_47 : decode cX10_settles 47 = .ok (.iconst 2, 1) := by decide +kernel
theorem dX10_settles_48 : decode cX10_settles 48 = .ok (.iaload, 1) := by decide +kernel
theorem dX10_settles_49 : decode cX10_settles 49 = .ok (.if_icmp .gt 12, 3) := by decide +kernel
theorem dX10_settles_52 : decode cX10_settles 52 = .ok (.aload_n 0, 1) := by decide +kernel
theorem dX10_settles_53 : decode cX10_settles 53 = .ok (.getfield 17, 3) := by decide +kernel
theorem dX10_settles_56 : decode cX10_settles 56 = .ok (.iload 5, 2) := by decide +kernel
theorem dX10_settles_58 : decode cX10_settles 58 = .ok (.iconst 1, 1) := by decide +kernel
theorem dX10_settles_59 : decode cX10_settles 59 = .ok (.iastore, 1) := by decide +kernel
theorem dX10_settles_60 : decode cX10_settles 60 = .ok (.return_, 1) := by decide +kernel
theorem dX10_settles_61 : decode cX10_settles 61 = .ok (.iconst 1, 1) := by decide +kernel
theorem dX10_settles_62 : decode cX10_settles 62 = .ok (.istore 6, 2) := by decide +kernel
theorem dX10_settles_64 : decode cX10_settles 64 = .ok (.iload 6, 2) := by decide +kernel
theorem dX10_settles_66 : decode cX10_settles 66 = .ok (.iload_n 3, 1) := by decide +kernel
theorem dX10_settles_67 : decode cX10_settles 67 = .ok (.if_icmp .ge 55, 3) := by decide +kernel
theorem dX10_settles_70 : decode cX10_settles 70 = .ok (.aload_n 0, 1) := by decide +kernel
theorem dX10_settles_71 : decode cX10_settles 71 = .ok (.iload_n 1, 1) := by decide +kernel
theorem dX10_settles_72 : decode cX10_settles 72 = .ok (.iload_n 2, 1) := by decide +kernel
theorem dX10_settles_73 : decode cX10_settles 73 = .ok (.iload 4, 2) := by decide +kernel
theorem dX10_settles_75 : decode cX10_settles 75 = .ok (.iload 6, 2) := by decide +kernel
theorem dX10_settles_77 : decode cX10_settles 77 = .ok (.invokevirtual 60, 3) := by decide +kernel
theorem dX10_settles_80 : decode cX10_settles 80 = .ok (.ifCond .eq 36, 3) := by decide +kernel
theorem dX10_settles_83 : decode cX10_settles 83 = .ok (.aload_n 0, 1) := by decide +kernel
theorem dX10_settles_84 : decode cX10_settles 84 = .ok (.iload 5, 2) := by decide +kernel
theorem dX10_settles_86 : decode cX10_settles 86 = .ok (.iload_n 1, 1) := by decide +kernel
theorem dX10_settles_87 : decode cX10_settles 87 = .ok (.iload_n 2, 1) := by decide +kernel
theorem dX10_settles_88 : decode cX10_settles 88 = .ok (.iload 6, 2) := by decide +kernel
theorem dX10_settles_90 : decode cX10_settles 90 = .ok (.iload 4, 2) := by decide +kernel
theorem dX10_settles_92 : decode cX10_settles 92 = .ok (.invokestatic 53, 3) := by decide +kernel
theorem dX10_settles_95 : decode cX10_settles 95 = .ok (.iload_n 1, 1) := by decide +kernel
theorem dX10_settles_96 : decode cX10_settles 96 = .ok (.iload 6, 2) := by decide +kernel
theorem dX10_settles_98 : decode cX10_settles 98 = .ok (.iadd, 1) := by decide +kernel
theorem dX10_settles_99 : decode cX10_settles 99 = .ok (.iload_n 2, 1) := by decide +kernel
theorem dX10_settles_100 : decode cX10_settles 100 = .ok (.iload_n 3, 1) := by decide +kernel
theorem dX10_settles_101 : decode cX10_settles 101 = .ok (.iload 6, 2) := by decide +kernel
theorem dX10_settles_103 : decode cX10_settles 103 = .ok (.isub, 1) := by decide +kernel
theorem dX10_settles_104 : decode cX10_settles 104 = .ok (.iload 4, 2) := by decide +kernel
theorem dX10_settles_106 : decode cX10_settles 106 = .ok (.invokestatic 53, 3) := by decide +kernel
theorem dX10_settles_109 : decode cX10_settles 109 = .ok (.iload 4, 2) := by decide +kernel
theorem dX10_settles_111 : decode cX10_settles 111 = .ok (.iload 6, 2) := by decide +kernel
theorem dX10_settles_113 : decode cX10_settles 113 = .ok (.invokevirtual 64, 3) := by decide +kernel
theorem dX10_settles_116 : decode cX10_settles 116 = .ok (.iinc 6 1, 3) := by decide +kernel
theorem dX10_settles_119 : decode cX10_settles 119 = .ok (.goto (-55), 3) := by decide +kernel
theorem dX10_settles_122 : decode cX10_settles 122 = .ok (.iconst 1, 1) := by decide +kernel
theorem dX10_settles_123 : decode cX10_settles 123 = .ok (.istore 6, 2) := by decide +kernel
theorem dX10_settles_125 : decode cX10_settles 125 = .ok (.iload 6, 2) := by decide +kernel
theorem dX10_settles_127 : decode cX10_settles 127 = .ok (.iload 4, 2) := by decide +kernel
theorem dX10_settles_129 : decode cX10_settles 129 = .ok (.if_icmp .ge 55, 3) := by decide +kernel
theorem dX10_settles_132 : decode cX10_settles 132 = .ok (.aload_n 0, 1) := by decide +kernel
theorem dX10_settles_133 : decode cX10_settles 133 = .ok (.iload_n 1, 1) := by decide +kernel
theorem dX10_settles_134 : decode cX10_settles 134 = .ok (.iload_n 2, 1) := by decide +kernel
theorem dX10_settles_135 : decode cX10_settles 135 = .ok (.iload_n 3, 1) := by decide +kernel
theorem dX10_settles_136 : decode cX10_settles 136 = .ok (.iload 6, 2) := by decide +kernel
theorem dX10_settles_138 : decode cX10_settles 138 = .ok (.invokevirtual 68, 3) := by decide +kernel
theorem dX10_settles_141 : decode cX10_settles 141 = .ok (.ifCond .eq 37, 3) := by decide +kernel
theorem dX10_settles_144 : decode cX10_settles 144 = .ok (.aload_n 0, 1) := by decide +kernel
theorem dX10_settles_145 : decode cX10_settles 145 = .ok (.iload 5, 2) := by decide +kernel
theorem dX10_settles_147 : decode cX10_settles 147 = .ok (.iload_n 1, 1) := by decide +kernel
theorem dX10_settles_148 : decode cX10_settles 148 = .ok (.iload_n 2, 1) := by decide +kernel
theorem dX10_settles_149 : decode cX10_settles 149 = .ok (.iload_n 3, 1) := by decide +kernel
theorem dX10_settles_150 : decode cX10_settles 150 = .ok (.iload 6, 2) := by decide +kernel
theorem dX10_settles_152 : decode cX10_settles 152 = .ok (.invokestatic 53, 3) := by decide +kernel
theorem dX10_settles_155 : decode cX10_settles 155 = .ok (.iload_n 1, 1) := by decide +kernel
theorem dX10_settles_156 : decode cX10_settles 156 = .ok (.iload_n 2, 1) := by decide +kernel
theorem dX10_settles_157 : decode cX10_settles 157 = .ok (.iload 6, 2) := by decide +kernel
theorem dX10_settles_159 : decode cX10_settles 159 = .ok (.iadd, 1) := by decide +kernel
theorem dX10_settles_160 : decode cX10_settles 160 = .ok (.iload_n 3, 1) := by decide +kernel
theorem dX10_settles_161 : decode cX10_settles 161 = .ok (.iload 4, 2) := by decide +kernel
theorem dX10_settles_163 : decode cX10_settles 163 = .ok (.iload 6, 2) := by decide +kernel
theorem dX10_settles_165 : decode cX10_settles 165 = .ok (.isub, 1) := by decide +kernel
theorem dX10_settles_166 : decode cX10_settles 166 = .ok (.invokestatic 53, 3) := by decide +kernel
theorem dX10_settles_169 : decode cX10_settles 169 = .ok (.iload_n 3, 1) := by decide +kernel
theorem dX10_settles_170 : decode cX10_settles 170 = .ok (.bipush 8, 2) := by decide +kernel
theorem dX10_settles_172 : decode cX10_settles 172 = .ok (.iload 6, 2) := by decide +kernel
theorem dX10_settles_174 : decode cX10_settles 174 = .ok (.iadd, 1) := by decide +kernel
theorem dX10_settles_175 : decode cX10_settles 175 = .ok (.invokevirtual 64, 3) := by decide +kernel
theorem dX10_settles_178 : decode cX10_settles 178 = .ok (.iinc 6 1, 3) := by decide +kernel
theorem dX10_settles_181 : decode cX10_settles 181 = .ok (.goto (-56), 3) := by decide +kernel
theorem dX10_settles_184 : decode cX10_settles 184 = .ok (.return_, 1) := by decide +kernel
theorem dX10_puts_0 : decode cX10_puts 0 = .ok (.aload_n 0, 1) := by decide +kernel
theorem dX10_puts_1 : decode cX10_puts 1 = .ok (.getfield 26, 3) := by decide +kernel
theorem dX10_puts_4 : decode cX10_puts 4 = .ok (.iconst 4, 1) := by decide +kernel
theorem dX10_puts_5 : decode cX10_puts 5 = .ok (.iload_n 1, 1) := by decide +kernel
theorem dX10_puts_6 : decode cX10_puts 6 = .ok (.imul, 1) := by decide +kernel
theorem dX10_puts_7 : decode cX10_puts 7 = .ok (.iload_n 2, 1) := by decide +kernel
theorem dX10_puts_8 : decode cX10_puts 8 = .ok (.iastore, 1) := by decide +kernel
theorem dX10_puts_9 : decode cX10_puts 9 = .ok (.aload_n 0, 1) := by decide +kernel
theorem dX10_puts_10 : decode cX10_puts 10 = .ok (.getfield 26, 3) := by decide +kernel
theorem dX10_puts_13 : decode cX10_puts 13 = .ok (.iconst 4, 1) := by decide +kernel
theorem dX10_puts_14 : decode cX10_puts 14 = .ok (.iload_n 1, 1) := by decide +kernel
theorem dX10_puts_15 : decode cX10_puts 15 = .ok (.imul, 1) := by decide +kernel
theorem dX10_puts_16 : decode cX10_puts 16 = .ok (.iconst 1, 1) := by decide +kernel
theorem dX10_puts_17 : decode cX10_puts 17 = .ok (.iadd, 1) := by decide +kernel
theorem dX10_puts_18 : decode cX10_puts 18 = .ok (.iload_n 3, 1) := by decide +kernel
theorem dX10_puts_19 : decode cX10_puts 19 = .ok (.iastore, 1) := by decide +kernel
theorem dX10_puts_20 : decode cX10_puts 20 = .ok (.aload_n 0, 1) := by decide +kernel
theorem dX10_puts_21 : decode cX10_puts 21 = .ok (.getfield 26, 3) := by decide +kernel
theorem dX10_puts_24 : decode cX10_puts 24 = .ok (.iconst 4, 1) := by decide +kernel
theorem dX10_puts_25 : decode cX10_puts 25 = .ok (.iload_n 1, 1) := by decide +kernel
theorem dX10_puts_26 : decode cX10_puts 26 = .ok (.imul, 1) := by decide +kernel
theorem dX10_puts_27 : decode cX10_puts 27 = .ok (.iconst 2, 1) := by decide +kernel
theorem dX10_puts_28 : decode cX10_puts 28 = .ok (.iadd, 1) := by decide +kernel
theorem dX10_puts_29 : decode cX10_puts 29 = .ok (.iload 4, 2) := by decide +kernel
theorem dX10_puts_31 : decode cX10_puts 31 = .ok (.iastore, 1) := by decide +kernel
theorem dX10_puts_32 : decode cX10_puts 32 = .ok (.aload_n 0, 1) := by decide +kernel
theorem dX10_puts_33 : decode cX10_puts 33 = .ok (.getfield 26, 3) := by decide +kernel
theorem dX10_puts_36 : decode cX10_puts 36 = .ok (.iconst 4, 1) := by decide +kernel
theorem dX10_puts_37 : decode cX10_puts 37 = .ok (.iload_n 1, 1) := by decide +kernel
theorem dX10_puts_38 : decode cX10_puts 38 = .ok (.imul, 1) := by decide +kernel
theorem dX10_puts_39 : decode cX10_puts 39 = .ok (.iconst 3, 1) := by decide +kernel
theorem dX10_puts_40 : decode cX10_puts 40 = .ok (.iadd, 1) := by decide +kernel
theorem dX10_puts_41 : decode cX10_puts 41 = .ok (.iload 5, 2) := by decide +kernel
theorem dX10_puts_43 : decode cX10_puts 43 = .ok (.iastore, 1) := by decide +kernel
theorem dX10_puts_44 : decode cX10_puts 44 = .ok (.iload_n 1, 1) := by decide +kernel
theorem dX10_puts_45 : decode cX10_puts 45 = .ok (.iconst 1, 1) := by decide +kernel
theorem dX10_puts_46 : decode cX10_puts 46 = .ok (.iadd, 1) := by decide +kernel
theorem dX10_puts_47 : decode cX10_puts 47 = .ok (.ireturn, 1) := by decide +kernel
theorem dX10_isBlock_0 : decode cX10_isBlock 0 = .ok (.sipush 170, 3) := by decide +kernel
theorem dX10_isBlock_3 : decode cX10_isBlock 3 = .ok (.bipush 8, 2) := by decide +kernel
theorem dX10_isBlock_5 : decode cX10_isBlock 5 = .ok (.aload_n 0, 1) := by decide +kernel
theorem dX10_isBlock_6 : decode cX10_isBlock 6 = .ok (.getfield 7, 3) := by decide +kernel
theorem dX10_isBlock_9 : decode cX10_isBlock 9 = .ok (.iconst 5, 1) := by decide +kernel
theorem dX10_isBlock_10 : decode cX10_isBlock 10 = .ok (.iaload, 1) := by decide +kernel
theorem dX10_isBlock_11 : decode cX10_isBlock 11 = .ok (.imul, 1) := by decide +kernel
theorem dX10_isBlock_12 : decode cX10_isBlock 12 = .ok (.iadd, 1) := by decide +kernel
theorem dX10_isBlock_13 : decode cX10_isBlock 13 = .ok (.istore 5, 2) := by decide +kernel
theorem dX10_isBlock_15 : decode cX10_isBlock 15 = .ok (.aload_n 0, 1) := by decide +kernel
theorem dX10_isBlock_16 : decode cX10_isBlock 16 = .ok (.getfield 7, 3) := by decide +kernel
theorem dX10_isBlock_19 : decode cX10_isBlock 19 = .ok (.iload 5, 2) := by decide +kernel
theorem dX10_isBlock_21 : decode cX10_isBlock 21 = .ok (.iload_n 1, 1) := by decide +kernel
theorem dX10_isBlock_22 : decode cX10_isBlock 22 = .ok (.iastore, 1) := by decide +kernel
theorem dX10_isBlock_23 : decode cX10_isBlock 23 = .ok (.aload_n 0, 1) := by decide +kernel
theorem dX10_isBlock_24 : decode cX10_isBlock 24 = .ok (.getfield 7, 3) := by decide +kernel
theorem dX10_isBlock_27 : decode cX10_isBlock 27 = .ok (.iload 5, 2) := by decide +kernel
theorem dX10_isBlock_29 : decode cX10_isBlock 29 = .ok (.iconst 1, 1) := by decide +kernel
theorem dX10_isBlock_30 : decode cX10_isBlock 30 = .ok (.iadd, 1) := by decide +kernel
theorem dX10_isBlock_31 : decode cX10_isBlock 31 = .ok (.iload_n 2, 1) := by decide +kernel
theorem dX10_isBlock_32 : decode cX10_isBlock 32 = .ok (.iastore, 1) := by decide +kernel
theorem dX10_isBlock_33 : decode cX10_isBlock 33 = .ok (.aload_n 0, 1) := by decide +kernel
theorem dX10_isBlock_34 : decode cX10_isBlock 34 = .ok (.getfield 7, 3) := by decide +kernel
theorem dX10_isBlock_37 : decode cX10_isBlock 37 = .ok (.iload 5, 2) := by decide +kernel
theorem dX10_isBlock_39 : decode cX10_isBlock 39 = .ok (.iconst 2, 1) := by decide +kernel
theorem dX10_isBlock_40 : decode cX10_isBlock 40 = .ok (.iadd, 1) := by decide +kernel
theorem dX10_isBlock_41 : decode cX10_isBlock 41 = .ok (.iload_n 3, 1) := by decide +kernel
theorem dX10_isBlock_42 : decode cX10_isBlock 42 = .ok (.iastore, 1) := by decide +kernel
theorem dX10_isBlock_43 : decode cX10_isBlock 43 = .ok (.aload_n 0, 1) := by decide +kernel
theorem dX10_isBlock_44 : decode cX10_isBlock 44 = .ok (.getfield 7, 3) := by decide +kernel
theorem dX10_isBlock_47 : decode cX10_isBlock 47 = .ok (.iload 5, 2) := by decide +kernel
theorem dX10_isBlock_49 : decode cX10_isBlock 49 = .ok (.iconst 3, 1) := by decide +kernel
theorem dX10_isBlock_50 : decode cX10_isBlock 50 = .ok (.iadd, 1) := by decide +kernel
theorem dX10_isBlock_51 : decode cX10_isBlock 51 = .ok (.iload 4, 2) := by decide +kernel
theorem dX10_isBlock_53 : decode cX10_isBlock 53 = .ok (.iastore, 1) := by decide +kernel
theorem dX10_isBlock_54 : decode cX10_isBlock 54 = .ok (.aload_n 0, 1) := by decide +kernel
theorem dX10_isBlock_55 : decode cX10_isBlock 55 = .ok (.getfield 7, 3) := by decide +kernel
theorem dX10_isBlock_58 : decode cX10_isBlock 58 = .ok (.iload 5, 2) := by decide +kernel
theorem dX10_isBlock_60 : decode cX10_isBlock 60 = .ok (.iconst 4, 1) := by decide +kernel
theorem dX10_isBlock_61 : decode cX10_isBlock 61 = .ok (.iadd, 1) := by decide +kernel
theorem dX10_isBlock_62 : decode cX10_isBlock 62 = .ok (.iconst (-1), 1) := by decide +kernel
theorem dX10_isBlock_63 : decode cX10_isBlock 63 = .ok (.iastore, 1) := by decide +kernel
theorem dX10_isBlock_64 : decode cX10_isBlock 64 = .ok (.aload_n 0, 1) := by decide +kernel
theorem dX10_isBlock_65 : decode cX10_isBlock 65 = .ok (.getfield 7, 3) := by decide +kernel
theorem dX10_isBlock_68 : decode cX10_isBlock 68 = .ok (.iload 5, 2) := by decide +kernel
theorem dX10_isBlock_70 : decode cX10_isBlock 70 = .ok (.iconst 5, 1) := by decide +kernel
theorem dX10_isBlock_71 : decode cX10_isBlock 71 = .ok (.iadd, 1) := by decide +kernel
theorem dX10_isBlock_72 : decode cX10_isBlock 72 = .ok (.iconst (-1), 1) := by decide +kernel
theorem dX10_isBlock_73 : decode cX10_isBlock 73 = .ok (.iastore, 1) := by decide +kernel
theorem dX10_isBlock_74 : decode cX10_isBlock 74 = .ok (.aload_n 0, 1) := by decide +kernel
theorem dX10_isBlock_75 : decode cX10_isBlock 75 = .ok (.getfield 7, 3) := by decide +kernel
theorem dX10_isBlock_78 : decode cX10_isBlock 78 = .ok (.iconst 5, 1) := by decide +kernel
theorem dX10_isBlock_79 : decode cX10_isBlock 79 = .ok (.dup2, 1) := by decide +kernel
theorem dX10_isBlock_80 : decode cX10_isBlock 80 = .ok (.iaload, 1) := by decide +kernel
theorem dX10_isBlock_81 : decode cX10_isBlock 81 = .ok (.iconst 1, 1) := by decide +kernel
theorem dX10_isBlock_82 : decode cX10_isBlock 82 = .ok (.iadd, 1) := by decide +kernel
theorem dX10_isBlock_83 : decode cX10_isBlock 83 = .ok (.iastore, 1) := by decide +kernel
theorem dX10_isBlock_84 : decode cX10_isBlock 84 = .ok (.return_, 1) := by decide +kernel
theorem dX10_plan_0 : decode cX10_plan 0 = .ok (.iconst 1, 1) := by decide +kernel
theorem dX10_plan_1 : decode cX10_plan 1 = .ok (.istore_n 1, 1) := by decide +kernel
theorem dX10_plan_2 : decode cX10_plan 2 = .ok (.iload_n 1, 1) := by decide +kernel
theorem dX10_plan_3 : decode cX10_plan 3 = .ok (.aload_n 0, 1) := by decide +kernel
theorem dX10_plan_4 : decode cX10_plan 4 = .ok (.getfield 7, 3) := by decide +kernel
theorem dX10_plan_7 : decode cX10_plan 7 = .ok (.iconst 0, 1) := by decide +kernel
theorem dX10_plan_8 : decode cX10_plan 8 = .ok (.iaload, 1) := by decide +kernel
theorem dX10_plan_9 : decode cX10_plan 9 = .ok (.if_icmp .gt 78, 3) := by decide +kernel
theorem dX10_plan_12 : decode cX10_plan 12 = .ok (.iconst 1, 1) := by decide +kernel
theorem dX10_plan_13 : decode cX10_plan 13 = .ok (.istore_n 2, 1) := by decide +kernel
theorem dX10_plan_14 : decode cX10_plan 14 = .ok (.iload_n 2, 1) := by decide +kernel
theorem dX10_plan_15 : decode cX10_plan 15 = .ok (.aload_n 0, 1) := by decide +kernel
theorem dX10_plan_16 : decode cX10_plan 16 = .ok (.getfield 7, 3) := by decide +kernel
theorem dX10_plan_19 : decode cX10_plan 19 = .ok (.iconst 1, 1) := by decide +kernel
theorem dX10_plan_20 : decode cX10_plan 20 = .ok (.iaload, 1) := by decide +kernel
theorem dX10_plan_21 : decode cX10_plan 21 = .ok (.if_icmp .gt 60, 3) := by decide +kernel
theorem dX10_plan_24 : decode cX10_plan 24 = .ok (.iconst 0, 1) := by decide +kernel
theorem dX10_plan_25 : decode cX10_plan 25 = .ok (.istore_n 3, 1) := by decide +kernel
theorem dX10_plan_26 : decode cX10_plan 26 = .ok (.iload_n 3, 1) := by decide +kernel
theorem dX10_plan_27 : decode cX10_plan 27 = .ok (.iload_n 1, 1) := by decide +kernel
theorem dX10_plan_28 : decode cX10_plan 28 = .ok (.iadd, 1) := by decide +kernel
theorem dX10_plan_29 : decode cX10_plan 29 = .ok (.aload_n 0, 1) := by decide +kernel
theorem dX10_plan_30 : decode cX10_plan 30 = .ok (.getfield 7, 3) := by decide +kernel
theorem dX10_plan_33 : decode cX10_plan 33 = .ok (.iconst 0, 1) := by decide +kernel
theorem dX10_plan_34 : decode cX10_plan 34 = .ok (.iaload, 1) := by decide +kernel
theorem dX10_plan_35 : decode cX10_plan 35 = .ok (.if_icmp .gt 40, 3) := by decide +kernel
theorem dX10_plan_38 : decode cX10_plan 38 = .ok (.iconst 0, 1) := by decide +kernel
theorem dX10_plan_39 : decode cX10_plan 39 = .ok (.istore 4, 2) := by decide +kernel
theorem dX10_plan_41 : decode cX10_plan 41 = .ok (.iload 4, 2) := by decide +kernel
theorem dX10_plan_43 : decode cX10_plan 43 = .ok (.iload_n 2, 1) := by decide +kernel
theorem dX10_plan_44 : decode cX10_plan 44 = .ok (.iadd, 1) := by decide +kernel
theorem dX10_plan_45 : decode cX10_plan 45 = .ok (.aload_n 0, 1) := by decide +kernel
theorem dX10_plan_46 : decode cX10_plan 46 = .ok (.getfield 7, 3) := by decide +kernel
theorem dX10_plan_49 : decode cX10_plan 49 = .ok (.iconst 1, 1) := by decide +kernel
theorem dX10_plan_50 : decode cX10_plan 50 = .ok (.iaload, 1) := by decide +kernel
theorem dX10_plan_51 : decode cX10_plan 51 = .ok (.if_icmp .gt 18, 3) := by decide +kernel
theorem dX10_plan_54 : decode cX10_plan 54 = .ok (.aload_n 0, 1) := by decide +kernel
theorem dX10_plan_55 : decode cX10_plan 55 = .ok (.iload_n 3, 1) := by decide +kernel
theorem dX10_plan_56 : decode cX10_plan 56 = .ok (.iload 4, 2) := by decide +kernel
theorem dX10_plan_58 : decode cX10_plan 58 = .ok (.iload_n 1, 1) := by decide +kernel
theorem dX10_plan_59 : decode cX10_plan 59 = .ok (.iload_n 2, 1) := by decide +kernel
theorem dX10_plan_60 : decode cX10_plan 60 = .ok (.invokevirtual 71, 3) := by decide +kernel
theorem dX10_plan_63 : decode cX10_plan 63 = .ok (.iinc 4 1, 3) := by decide +kernel
theorem dX10_plan_66 : decode cX10_plan 66 = .ok (.goto (-25), 3) := by decide +kernel
theorem dX10_plan_69 : decode cX10_plan 69 = .ok (.iinc 3 1, 3) := by decide +kernel
theorem dX10_plan_72 : decode cX10_plan 72 = .ok (.goto (-46), 3) := by decide +kernel
theorem dX10_plan_75 : decode cX10_plan 75 = .ok (.iinc 2 1, 3) := by decide +kernel
theorem dX10_plan_78 : decode cX10_plan 78 = .ok (.goto (-64), 3) := by decide +kernel
theorem dX10_plan_81 : decode cX10_plan 81 = .ok (.iinc 1 1, 3) := by decide +kernel
theorem dX10_plan_84 : decode cX10_plan 84 = .ok (.goto (-82), 3) := by decide +kernel
theorem dX10_plan_87 : decode cX10_plan 87 = .ok (.iconst 0, 1) := by decide +kernel
theorem dX10_plan_88 : decode cX10_plan 88 = .ok (.iconst 0, 1) := by decide +kernel
theorem dX10_plan_89 : decode cX10_plan 89 = .ok (.aload_n 0, 1) := by decide +kernel
theorem dX10_plan_90 : decode cX10_plan 90 = .ok (.getfield 7, 3) := by decide +kernel
theorem dX10_plan_93 : decode cX10_plan 93 = .ok (.iconst 0, 1) := by decide +kernel
theorem dX10_plan_94 : decode cX10_plan 94 = .ok (.iaload, 1) := by decide +kernel
theorem dX10_plan_95 : decode cX10_plan 95 = .ok (.aload_n 0, 1) := by decide +kernel
theorem dX10_plan_96 : decode cX10_plan 96 = .ok (.getfield 7, 3) := by decide +kernel
theorem dX10_plan_99 : decode cX10_plan 99 = .ok (.iconst 1, 1) := by decide +kernel
theorem dX10_plan_100 : decode cX10_plan 100 = .ok (.iaload, 1) := by decide +kernel
theorem dX10_plan_101 : decode cX10_plan 101 = .ok (.invokestatic 53, 3) := by decide +kernel
theorem dX10_plan_104 : decode cX10_plan 104 = .ok (.istore_n 1, 1) := by decide +kernel
theorem dX10_plan_105 : decode cX10_plan 105 = .ok (.aload_n 0, 1) := by decide +kernel
theorem dX10_plan_106 : decode cX10_plan 106 = .ok (.getfield 17, 3) := by decide +kernel
theorem dX10_plan_109 : decode cX10_plan 109 = .ok (.iload_n 1, 1) := by decide +kernel
theorem dX10_plan_110 : decode cX10_plan 110 = .ok (.iaload, 1) := by decide +kernel
theorem dX10_plan_111 : decode cX10_plan 111 = .ok (.ifCond .ne 5, 3) := by decide +kernel
theorem dX10_plan_114 : decode cX10_plan 114 = .ok (.iconst (-1), 1) := by decide +kernel
theorem dX10_plan_115 : decode cX10_plan 115 = .ok (.ireturn, 1) := by decide +kernel
theorem dX10_plan_116 : decode cX10_plan 116 = .ok (.aload_n 0, 1) := by decide +kernel
theorem dX10_plan_117 : decode cX10_plan 117 = .ok (.invokevirtual 39, 3) := by decide +kernel
theorem dX10_plan_120 : decode cX10_plan 120 = .ok (.aload_n 0, 1) := by decide +kernel
theorem dX10_plan_121 : decode cX10_plan 121 = .ok (.getfield 7, 3) := by decide +kernel
theorem dX10_plan_124 : decode cX10_plan 124 = .ok (.bipush 6, 2) := by decide +kernel
theorem dX10_plan_126 : decode cX10_plan 126 = .ok (.aload_n 0, 1) := by decide +kernel
theorem dX10_plan_127 : decode cX10_plan 127 = .ok (.getfield 20, 3) := by decide +kernel
theorem dX10_plan_130 : decode cX10_plan 130 = .ok (.iload_n 1, 1) := by decide +kernel
theorem dX10_plan_131 : decode cX10_plan 131 = .ok (.iaload, 1) := by decide +kernel
theorem dX10_plan_132 : decode cX10_plan 132 = .ok (.iastore, 1) := by decide +kernel
theorem dX10_plan_133 : decode cX10_plan 133 = .ok (.aload_n 0, 1) := by decide +kernel
theorem dX10_plan_134 : decode cX10_plan 134 = .ok (.iconst 0, 1) := by decide +kernel
theorem dX10_plan_135 : decode cX10_plan 135 = .ok (.iconst 0, 1) := by decide +kernel
theorem dX10_plan_136 : decode cX10_plan 136 = .ok (.iconst 0, 1) := by decide +kernel
theorem dX10_plan_137 : decode cX10_plan 137 = .ok (.aload_n 0, 1) := by decide +kernel
theorem dX10_plan_138 : decode cX10_plan 138 = .ok (.getfield 7, 3) := by decide +kernel
theorem dX10_plan_141 : decode cX10_plan 141 = .ok (.iconst 0, 1) := by decide +kernel
theorem dX10_plan_142 : decode cX10_plan 142 = .ok (.iaload, 1) := by decide +kernel
theorem dX10_plan_143 : decode cX10_plan 143 = .ok (.aload_n 0, 1) := by decide +kernel
theorem dX10_plan_144 : decode cX10_plan 144 = .ok (.getfield 7, 3) := by decide +kernel
theorem dX10_plan_147 : decode cX10_plan 147 = .ok (.iconst 1, 1) := by decide +kernel
theorem dX10_plan_148 : decode cX10_plan 148 = .ok (.iaload, 1) := by decide +kernel
theorem dX10_plan_149 : decode cX10_plan 149 = .ok (.invokevirtual 75, 3) := by decide +kernel
theorem dX10_plan_152 : decode cX10_plan 152 = .ok (.istore_n 2, 1) := by decide +kernel
theorem dX10_plan_153 : decode cX10_plan 153 = .ok (.iload_n 2, 1) := by decide +kernel
theorem dX10_plan_154 : decode cX10_plan 154 = .ok (.ifCond .le 173, 3) := by decide +kernel
theorem dX10_plan_157 : decode cX10_plan 157 = .ok (.iinc 2 (-1), 3) := by decide +kernel
theorem dX10_plan_160 : decode cX10_plan 160 = .ok (.aload_n 0, 1) := by decide +kernel
theorem dX10_plan_161 : decode cX10_plan 161 = .ok (.getfield 26, 3) := by decide +kernel
theorem dX10_plan_164 : decode cX10_plan 164 = .ok (.iconst 4, 1) := by decide +kernel
theorem dX10_plan_165 : decode cX10_plan 165 = .ok (.iload_n 2, 1) := by decide +kernel
theorem dX10_plan_166 : decode cX10_plan 166 = .ok (.imul, 1) := by decide +kernel
theorem dX10_plan_167 : decode cX10_plan 167 = .ok (.iaload, 1) := by decide +kernel
theorem dX10_plan_168 : decode cX10_plan 168 = .ok (.istore_n 3, 1) := by decide +kernel
theorem dX10_plan_169 : decode cX10_plan 169 = .ok (.aload_n 0, 1) := by decide +kernel
theorem dX10_plan_170 : decode cX10_plan 170 = .ok (.getfield 26, 3) := by decide +kernel
theorem dX10_plan_173 : decode cX10_plan 173 = .ok (.iconst 4, 1) := by decide +kernel
theorem dX10_plan_174 : decode cX10_plan 174 = .ok (.iload_n 2, 1) := by decide +kernel
theorem dX10_plan_175 : decode cX10_plan 175 = .ok (.imul, 1) := by decide +kernel
theorem dX10_plan_176 : decode cX10_plan 176 = .ok (.iconst 1, 1) := by decide +kernel
theorem dX10_plan_177 : decode cX10_plan 177 = .ok (.iadd, 1) := by decide +kernel
theorem dX10_plan_178 : decode cX10_plan 178 = .ok (.iaload, 1) := by decide +kernel
theorem dX10_plan_179 : decode cX10_plan 179 = .ok (.istore 4, 2) := by decide +kernel
theorem dX10_plan_181 : decode cX10_plan 181 = .ok (.aload_n 0, 1) := by decide +kernel
theorem dX10_plan_182 : decode cX10_plan 182 = .ok (.getfield 26, 3) := by decide +kernel
theorem dX10_plan_185 : decode cX10_plan 185 = .ok (.iconst 4, 1) := by decide +kernel
theorem dX10_plan_186 : decode cX10_plan 186 = .ok (.iload_n 2, 1) := by decide +kernel
theorem dX10_plan_187 : decode cX10_plan 187 = .ok (.imul, 1) := by decide +kernel
theorem dX10_plan_188 : decode cX10_plan 188 = .ok (.iconst 2, 1) := by decide +kernel
theorem dX10_plan_189 : decode cX10_plan 189 = .ok (.iadd, 1) := by decide +kernel
theorem dX10_plan_190 : decode cX10_plan 190 = .ok (.iaload, 1) := by decide +kernel
theorem dX10_plan_191 : decode cX10_plan 191 = .ok (.istore 5, 2) := by decide +kernel
theorem dX10_plan_193 : decode cX10_plan 193 = .ok (.aload_n 0, 1) := by decide +kernel
theorem dX10_plan_194 : decode cX10_plan 194 = .ok (.getfield 26, 3) := by decide +kernel
theorem dX10_plan_197 : decode cX10_plan 197 = .ok (.iconst 4, 1) := by decide +kernel
theorem dX10_plan_198 : decode cX10_plan 198 = .ok (.iload_n 2, 1) := by decide +kernel
theorem dX10_plan_199 : decode cX10_plan 199 = .ok (.imul, 1) := by decide +kernel
theorem dX10_plan_200 : decode cX10_plan 200 = .ok (.iconst 3, 1) := by decide +kernel
theorem dX10_plan_201 : decode cX10_plan 201 = .ok (.iadd, 1) := by decide +kernel
theorem dX10_plan_202 : decode cX10_plan 202 = .ok (.iaload, 1) := by decide +kernel
theorem dX10_plan_203 : decode cX10_plan 203 = .ok (.istore 6, 2) := by decide +kernel
theorem dX10_plan_205 : decode cX10_plan 205 = .ok (.aload_n 0, 1) := by decide +kernel
theorem dX10_plan_206 : decode cX10_plan 206 = .ok (.getfield 23, 3) := by decide +kernel
theorem dX10_plan_209 : decode cX10_plan 209 = .ok (.iload_n 3, 1) := by decide +kernel
theorem dX10_plan_210 : decode cX10_plan 210 = .ok (.iload 4, 2) := by decide +kernel
theorem dX10_plan_212 : decode cX10_plan 212 = .ok (.iload 5, 2) := by decide +kernel
theorem dX10_plan_214 : decode cX10_plan 214 = .ok (.iload 6, 2) := by decide +kernel
theorem dX10_plan_216 : decode cX10_plan 216 = .ok (.invokestatic 53, 3) := by decide +kernel
theorem dX10_plan_219 : decode cX10_plan 219 = .ok (.iaload, 1) := by decide +kernel
theorem dX10_plan_220 : decode cX10_plan 220 = .ok (.istore 7, 2) := by decide +kernel
theorem dX10_plan_222 : decode cX10_plan 222 = .ok (.iload 7, 2) := by decide +kernel
theorem dX10_plan_224 : decode cX10_plan 224 = .ok (.ifCond .ne 17, 3) := by decide +kernel
theorem dX10_plan_227 : decode cX10_plan 227 = .ok (.aload_n 0, 1) := by decide +kernel
theorem dX10_plan_228 : decode cX10_plan 228 = .ok (.iload_n 3, 1) := by decide +kernel
theorem dX10_plan_229 : decode cX10_plan 229 = .ok (.iload 4, 2) := by decide +kernel
theorem dX10_plan_231 : decode cX10_plan 231 = .ok (.iload 5, 2) := by decide +kernel
theorem dX10_plan_233 : decode cX10_plan 233 = .ok (.iload 6, 2) := by decide +kernel
theorem dX10_plan_235 : decode cX10_plan 235 = .ok (.invokevirtual 79, 3) := by decide +kernel
theorem dX10_plan_238 : decode cX10_plan 238 = .ok (.goto 86, 3) := by decide +kernel
theorem dX10_plan_241 : decode cX10_plan 241 = .ok (.iload 7, 2) := by decide +kernel
theorem dX10_plan_243 : decode cX10_plan 243 = .ok (.bipush 8, 2) := by decide +kernel
theorem dX10_plan_245 : decode cX10_plan 245 = .ok (.if_icmp .ge 38, 3) := by decide +kernel
theorem dX10_plan_248 : decode cX10_plan 248 = .ok (.aload_n 0, 1) := by decide +kernel
theorem dX10_plan_249 : decode cX10_plan 249 = .ok (.iload_n 2, 1) := by decide +kernel
theorem dX10_plan_250 : decode cX10_plan 250 = .ok (.iload_n 3, 1) := by decide +kernel
theorem dX10_plan_251 : decode cX10_plan 251 = .ok (.iload 7, 2) := by decide +kernel
theorem dX10_plan_253 : decode cX10_plan 253 = .ok (.iadd, 1) := by decide +kernel
theorem dX10_plan_254 : decode cX10_plan 254 = .ok (.iload 4, 2) := by decide +kernel
theorem dX10_plan_256 : decode cX10_plan 256 = .ok (.iload 5, 2) := by decide +kernel
theorem dX10_plan_258 : decode cX10_plan 258 = .ok (.iload 7, 2) := by decide +kernel
theorem dX10_plan_260 : decode cX10_plan 260 = .ok (.isub, 1) := by decide +kernel
theorem dX10_plan_261 : decode cX10_plan 261 = .ok (.iload 6, 2) := by decide +kernel
theorem dX10_plan_263 : decode cX10_plan 263 = .ok (.invokevirtual 75, 3) := by decide +kernel
theorem dX10_plan_266 : decode cX10_plan 266 = .ok (.istore_n 2, 1) := by decide +kernel
theorem dX10_plan_267 : decode cX10_plan 267 = .ok (.aload_n 0, 1) := by decide +kernel
theorem dX10_plan_268 : decode cX10_plan 268 = .ok (.iload_n 2, 1) := by decide +kernel
theorem dX10_plan_269 : decode cX10_plan 269 = .ok (.iload_n 3, 1) := by decide +kernel
theorem dX10_plan_270 : decode cX10_plan 270 = .ok (.iload 4, 2) := by decide +kernel
theorem dX10_plan_272 : decode cX10_plan 272 = .ok (.iload 7, 2) := by decide +kernel
theorem dX10_plan_274 : decode cX10_plan 274 = .ok (.iload 6, 2) := by decide +kernel
theorem dX10_plan_276 : decode cX10_plan 276 = .ok (.invokevirtual 75, 3) := by decide +kernel
theorem dX10_plan_279 : decode cX10_plan 279 = .ok (.istore_n 2, 1) := by decide +kernel
theorem dX10_plan_280 : decode cX10_plan 280 = .ok (.goto 44, 3) := by decide +kernel
theorem dX10_plan_283 : decode cX10_plan 283 = .ok (.aload_n 0, 1) := by decide +kernel
theorem dX10_plan_284 : decode cX10_plan 284 = .ok (.iload_n 2, 1) := by decide +kernel
theorem dX10_plan_285 : decode cX10_plan 285 = .ok (.iload_n 3, 1) := by decide +kernel
theorem dX10_plan_286 : decode cX10_plan 286 = .ok (.iload 4, 2) := by decide +kernel
theorem dX10_plan_288 : decode cX10_plan 288 = .ok (.iload 7, 2) := by decide +kernel
theorem dX10_plan_290 : decode cX10_plan 290 = .ok (.iadd, 1) := by decide +kernel
theorem dX10_plan_291 : decode cX10_plan 291 = .ok (.bipush 8, 2) := by decide +kernel
theorem dX10_plan_293 : decode cX10_plan 293 = .ok (.isub, 1) := by decide +kernel
theorem dX10_plan_294 : decode cX10_plan 294 = .ok (.iload 5, 2) := by decide +kernel
theorem dX10_plan_296 : decode cX10_plan 296 = .ok (.iload 6, 2) := by decide +kernel
theorem dX10_plan_298 : decode cX10_plan 298 = .ok (.iload 7, 2) := by decide +kernel
theorem dX10_plan_300 : decode cX10_plan 300 = .ok (.isub, 1) := by decide +kernel
theorem dX10_plan_301 : decode cX10_plan 301 = .ok (.bipush 8, 2) := by decide +kernel
theorem dX10_plan_303 : decode cX10_plan 303 = .ok (.iadd, 1) := by decide +kernel
theorem dX10_plan_304 : decode cX10_plan 304 = .ok (.invokevirtual 75, 3) := by decide +kernel
theorem dX10_plan_307 : decode cX10_plan 307 = .ok (.istore_n 2, 1) := by decide +kernel
theorem dX10_plan_308 : decode cX10_plan 308 = .ok (.aload_n 0, 1) := by decide +kernel
theorem dX10_plan_309 : decode cX10_plan 309 = .ok (.iload_n 2, 1) := by decide +kernel
theorem dX10_plan_310 : decode cX10_plan 310 = .ok (.iload_n 3, 1) := by decide +kernel
theorem dX10_plan_311 : decode cX10_plan 311 = .ok (.iload 4, 2) := by decide +kernel
theorem dX10_plan_313 : decode cX10_plan 313 = .ok (.iload 5, 2) := by decide +kernel
theorem dX10_plan_315 : decode cX10_plan 315 = .ok (.iload 7, 2) := by decide +kernel
theorem dX10_plan_317 : decode cX10_plan 317 = .ok (.bipush 8, 2) := by decide +kernel
theorem dX10_plan_319 : decode cX10_plan 319 = .ok (.isub, 1) := by decide +kernel
theorem dX10_plan_320 : decode cX10_plan 320 = .ok (.invokevirtual 75, 3) := by decide +kernel
theorem dX10_plan_323 : decode cX10_plan 323 = .ok (.istore_n 2, 1) := by decide +kernel
theorem dX10_plan_324 : decode cX10_plan 324 = .ok (.goto (-171), 3) := by decide +kernel
theorem dX10_plan_327 : decode cX10_plan 327 = .ok (.iconst 0, 1) := by decide +kernel
theorem dX10_plan_328 : decode cX10_plan 328 = .ok (.istore_n 3, 1) := by decide +kernel
theorem dX10_plan_329 : decode cX10_plan 329 = .ok (.iload_n 3, 1) := by decide +kernel
theorem dX10_plan_330 : decode cX10_plan 330 = .ok (.aload_n 0, 1) := by decide +kernel
theorem dX10_plan_331 : decode cX10_plan 331 = .ok (.getfield 7, 3) := by decide +kernel
theorem dX10_plan_334 : decode cX10_plan 334 = .ok (.iconst 5, 1) := by decide +kernel
theorem dX10_plan_335 : decode cX10_plan 335 = .ok (.iaload, 1) := by decide +kernel
theorem dX10_plan_336 : decode cX10_plan 336 = .ok (.if_icmp .ge 30, 3) := by decide +kernel
theorem dX10_plan_339 : decode cX10_plan 339 = .ok (.aload_n 0, 1) := by decide +kernel
theorem dX10_plan_340 : decode cX10_plan 340 = .ok (.getfield 7, 3) := by decide +kernel
theorem dX10_plan_343 : decode cX10_plan 343 = .ok (.sipush 170, 3) := by decide +kernel
theorem dX10_plan_346 : decode cX10_plan 346 = .ok (.bipush 8, 2) := by decide +kernel
theorem dX10_plan_348 : decode cX10_plan 348 = .ok (.iload_n 3, 1) := by decide +kernel
theorem dX10_plan_349 : decode cX10_plan 349 = .ok (.imul, 1) := by decide +kernel
theorem dX10_plan_350 : decode cX10_plan 350 = .ok (.iadd, 1) := by decide +kernel
theorem dX10_plan_351 : decode cX10_plan 351 = .ok (.bipush 6, 2) := by decide +kernel
theorem dX10_plan_353 : decode cX10_plan 353 = .ok (.iadd, 1) := by decide +kernel
theorem dX10_plan_354 : decode cX10_plan 354 = .ok (.aload_n 0, 1) := by decide +kernel
theorem dX10_plan_355 : decode cX10_plan 355 = .ok (.iload_n 3, 1) := by decide +kernel
theorem dX10_plan_356 : decode cX10_plan 356 = .ok (.invokevirtual 82, 3) := by decide +kernel
theorem dX10_plan_359 : decode cX10_plan 359 = .ok (.iastore, 1) := by decide +kernel
theorem dX10_plan_360 : decode cX10_plan 360 = .ok (.iinc 3 1, 3) := by decide +kernel
theorem dX10_plan_363 : decode cX10_plan 363 = .ok (.goto (-34), 3) := by decide +kernel
theorem dX10_plan_366 : decode cX10_plan 366 = .ok (.aload_n 0, 1) := by decide +kernel
theorem dX10_plan_367 : decode cX10_plan 367 = .ok (.getfield 7, 3) := by decide +kernel
theorem dX10_plan_370 : decode cX10_plan 370 = .ok (.iconst 5, 1) := by decide +kernel
theorem dX10_plan_371 : decode cX10_plan 371 = .ok (.iaload, 1) := by decide +kernel
theorem dX10_plan_372 : decode cX10_plan 372 = .ok (.ireturn, 1) := by decide +kernel
theorem dX10_of_0 : decode cX10_of 0 = .ok (.aload_n 0, 1) := by decide +kernel
theorem dX10_of_1 : decode cX10_of 1 = .ok (.getfield 7, 3) := by decide +kernel
theorem dX10_of_4 : decode cX10_of 4 = .ok (.sipush 170, 3) := by decide +kernel
theorem dX10_of_7 : decode cX10_of 7 = .ok (.bipush 8, 2) := by decide +kernel
theorem dX10_of_9 : decode cX10_of 9 = .ok (.iload_n 1, 1) := by decide +kernel
theorem dX10_of_10 : decode cX10_of 10 = .ok (.imul, 1) := by decide +kernel
theorem dX10_of_11 : decode cX10_of 11 = .ok (.iadd, 1) := by decide +kernel
theorem dX10_of_12 : decode cX10_of 12 = .ok (.iload_n 2, 1) := by decide +kernel
theorem dX10_of_13 : decode cX10_of 13 = .ok (.iadd, 1) := by decide +kernel
theorem dX10_of_14 : decode cX10_of 14 = .ok (.iaload, 1) := by decide +kernel
theorem dX10_of_15 : decode cX10_of 15 = .ok (.ireturn, 1) := by decide +kernel
theorem dX10_isThere_0 : decode cX10_isThere 0 = .ok (.iload_n 1, 1) := by decide +kernel
theorem dX10_isThere_1 : decode cX10_isThere 1 = .ok (.iconst 0, 1) := by decide +kernel
theorem dX10_isThere_2 : decode cX10_isThere 2 = .ok (.aload_n 0, 1) := by decide +kernel
theorem dX10_isThere_3 : decode cX10_isThere 3 = .ok (.getfield 7, 3) := by decide +kernel
theorem dX10_isThere_6 : decode cX10_isThere 6 = .ok (.iconst 5, 1) := by decide +kernel
theorem dX10_isThere_7 : decode cX10_isThere 7 = .ok (.iaload, 1) := by decide +kernel
theorem dX10_isThere_8 : decode cX10_isThere 8 = .ok (.iconst 1, 1) := by decide +kernel
theorem dX10_isThere_9 : decode cX10_isThere 9 = .ok (.isub, 1) := by decide +kernel
theorem dX10_isThere_10 : decode cX10_isThere 10 = .ok (.invokestatic 42, 3) := by decide +kernel
theorem dX10_isThere_13 : decode cX10_isThere 13 = .ok (.ireturn, 1) := by decide +kernel
theorem dX10_turnOf_0 : decode cX10_turnOf 0 = .ok (.iconst 0, 1) := by decide +kernel
theorem dX10_turnOf_1 : decode cX10_turnOf 1 = .ok (.istore_n 2, 1) := by decide +kernel
theorem dX10_turnOf_2 : decode cX10_turnOf 2 = .ok (.iconst 0, 1) := by decide +kernel
theorem dX10_turnOf_3 : decode cX10_turnOf 3 = .ok (.istore_n 3, 1) := by decide +kernel
theorem dX10_turnOf_4 : decode cX10_turnOf 4 = .ok (.iload_n 3, 1) := by decide +kernel
theorem dX10_turnOf_5 : decode cX10_turnOf 5 = .ok (.aload_n 0, 1) := by decide +kernel
theorem dX10_turnOf_6 : decode cX10_turnOf 6 = .ok (.getfield 7, 3) := by decide +kernel
theorem dX10_turnOf_9 : decode cX10_turnOf 9 = .ok (.iconst 5, 1) := by decide +kernel
theorem dX10_turnOf_10 : decode cX10_turnOf 10 = .ok (.iaload, 1) := by decide +kernel
theorem dX10_turnOf_11 : decode cX10_turnOf 11 = .ok (.if_icmp .ge 62, 3) := by decide +kernel
theorem dX10_turnOf_14 : decode cX10_turnOf 14 = .ok (.iload_n 2, 1) := by decide +kernel
theorem dX10_turnOf_15 : decode cX10_turnOf 15 = .ok (.aload_n 0, 1) := by decide +kernel
theorem dX10_turnOf_16 : decode cX10_turnOf 16 = .ok (.iload_n 3, 1) := by decide +kernel
theorem dX10_turnOf_17 : decode cX10_turnOf 17 = .ok (.iconst 1, 1) := by decide +kernel
theorem dX10_turnOf_18 : decode cX10_turnOf 18 = .ok (.invokevirtual 86, 3) := by decide +kernel
theorem dX10_turnOf_21 : decode cX10_turnOf 21 = .ok (.aload_n 0, 1) := by decide +kernel
theorem dX10_turnOf_22 : decode cX10_turnOf 22 = .ok (.iload_n 1, 1) := by decide +kernel
theorem dX10_turnOf_23 : decode cX10_turnOf 23 = .ok (.iconst 1, 1) := by decide +kernel
theorem dX10_turnOf_24 : decode cX10_turnOf 24 = .ok (.invokevirtual 86, 3) := by decide +kernel
theorem dX10_turnOf_27 : decode cX10_turnOf 27 = .ok (.if_icmp .lt 33, 3) := by decide +kernel
theorem dX10_turnOf_30 : decode cX10_turnOf 30 = .ok (.aload_n 0, 1) := by decide +kernel
theorem dX10_turnOf_31 : decode cX10_turnOf 31 = .ok (.iload_n 3, 1) := by decide +kernel
theorem dX10_turnOf_32 : decode cX10_turnOf 32 = .ok (.iconst 1, 1) := by decide +kernel
theorem dX10_turnOf_33 : decode cX10_turnOf 33 = .ok (.invokevirtual 86, 3) := by decide +kernel
theorem dX10_turnOf_36 : decode cX10_turnOf 36 = .ok (.aload_n 0, 1) := by decide +kernel
theorem dX10_turnOf_37 : decode cX10_turnOf 37 = .ok (.iload_n 1, 1) := by decide +kernel
theorem dX10_turnOf_38 : decode cX10_turnOf 38 = .ok (.iconst 1, 1) := by decide +kernel
theorem dX10_turnOf_39 : decode cX10_turnOf 39 = .ok (.invokevirtual 86, 3) := by decide +kernel
theorem dX10_turnOf_42 : decode cX10_turnOf 42 = .ok (.if_icmp .ne 22, 3) := by decide +kernel
theorem dX10_turnOf_45 : decode cX10_turnOf 45 = .ok (.aload_n 0, 1) := by decide +kernel
theorem dX10_turnOf_46 : decode cX10_turnOf 46 = .ok (.iload_n 3, 1) := by decide +kernel
theorem dX10_turnOf_47 : decode cX10_turnOf 47 = .ok (.iconst 0, 1) := by decide +kernel
theorem dX10_turnOf_48 : decode cX10_turnOf 48 = .ok (.invokevirtual 86, 3) := by decide +kernel
theorem dX10_turnOf_51 : decode cX10_turnOf 51 = .ok (.aload_n 0, 1) := by decide +kernel
theorem dX10_turnOf_52 : decode cX10_turnOf 52 = .ok (.iload_n 1, 1) := by decide +kernel
theorem dX10_turnOf_53 : decode cX10_turnOf 53 = .ok (.iconst 0, 1) := by decide +kernel
theorem dX10_turnOf_54 : decode cX10_turnOf 54 = .ok (.invokevirtual 86, 3) := by decide +kernel
theorem dX10_turnOf_57 : decode cX10_turnOf 57 = .ok (.if_icmp .ge 7, 3) := by decide +kernel
theorem dX10_turnOf_60 : decode cX10_turnOf 60 = .ok (.iconst 1, 1) := by decide +kernel
theorem dX10_turnOf_61 : decode cX10_turnOf 61 = .ok (.goto 4, 3) := by decide +kernel
theorem dX10_turnOf_64 : decode cX10_turnOf 64 = .ok (.iconst 0, 1) := by decide +kernel
theorem dX10_turnOf_65 : decode cX10_turnOf 65 = .ok (.iadd, 1) := by decide +kernel
theorem dX10_turnOf_66 : decode cX10_turnOf 66 = .ok (.istore_n 2, 1) := by decide +kernel
theorem dX10_turnOf_67 : decode cX10_turnOf 67 = .ok (.iinc 3 1, 3) := by decide +kernel
theorem dX10_turnOf_70 : decode cX10_turnOf 70 = .ok (.goto (-66), 3) := by decide +kernel
theorem dX10_turnOf_73 : decode cX10_turnOf 73 = .ok (.iload_n 2, 1) := by decide +kernel
theorem dX10_turnOf_74 : decode cX10_turnOf 74 = .ok (.ireturn, 1) := by decide +kernel
theorem dX10_stands_0 : decode cX10_stands 0 = .ok (.aload_n 0, 1) := by decide +kernel
theorem dX10_stands_1 : decode cX10_stands 1 = .ok (.iload_n 1, 1) := by decide +kernel
theorem dX10_stands_2 : decode cX10_stands 2 = .ok (.iconst 4, 1) := by decide +kernel
theorem dX10_stands_3 : decode cX10_stands 3 = .ok (.invokevirtual 86, 3) := by decide +kernel
theorem dX10_stands_6 : decode cX10_stands 6 = .ok (.ifCond .ge 7, 3) := by decide +kernel
theorem dX10_stands_9 : decode cX10_stands 9 = .ok (.iconst 1, 1) := by decide +kernel
theorem dX10_stands_10 : decode cX10_stands 10 = .ok (.goto 4, 3) := by decide +kernel
theorem dX10_stands_13 : decode cX10_stands 13 = .ok (.iconst 0, 1) := by decide +kernel
theorem dX10_stands_14 : decode cX10_stands 14 = .ok (.ireturn, 1) := by decide +kernel
theorem dX10_isAbove_0 : decode cX10_isAbove 0 = .ok (.aload_n 0, 1) := by decide +kernel
theorem dX10_isAbove_1 : decode cX10_isAbove 1 = .ok (.iload_n 1, 1) := by decide +kernel
theorem dX10_isAbove_2 : decode cX10_isAbove 2 = .ok (.iconst 1, 1) := by decide +kernel
theorem dX10_isAbove_3 : decode cX10_isAbove 3 = .ok (.invokevirtual 86, 3) := by decide +kernel
theorem dX10_isAbove_6 : decode cX10_isAbove 6 = .ok (.aload_n 0, 1) := by decide +kernel
theorem dX10_isAbove_7 : decode cX10_isAbove 7 = .ok (.iload_n 2, 1) := by decide +kernel
theorem dX10_isAbove_8 : decode cX10_isAbove 8 = .ok (.iconst 1, 1) := by decide +kernel
theorem dX10_isAbove_9 : decode cX10_isAbove 9 = .ok (.invokevirtual 86, 3) := by decide +kernel
theorem dX10_isAbove_12 : decode cX10_isAbove 12 = .ok (.aload_n 0, 1) := by decide +kernel
theorem dX10_isAbove_13 : decode cX10_isAbove 13 = .ok (.iload_n 2, 1) := by decide +kernel
theorem dX10_isAbove_14 : decode cX10_isAbove 14 = .ok (.iconst 3, 1) := by decide +kernel
theorem dX10_isAbove_15 : decode cX10_isAbove 15 = .ok (.invokevirtual 86, 3) := by decide +kernel
theorem dX10_isAbove_18 : decode cX10_isAbove 18 = .ok (.iadd, 1) := by decide +kernel
theorem dX10_isAbove_19 : decode cX10_isAbove 19 = .ok (.if_icmp .ne 51, 3) := by decide +kernel
theorem dX10_isAbove_22 : decode cX10_isAbove 22 = .ok (.aload_n 0, 1) := by decide +kernel
theorem dX10_isAbove_23 : decode cX10_isAbove 23 = .ok (.iload_n 1, 1) := by decide +kernel
theorem dX10_isAbove_24 : decode cX10_isAbove 24 = .ok (.iconst 0, 1) := by decide +kernel
theorem dX10_isAbove_25 : decode cX10_isAbove 25 = .ok (.invokevirtual 86, 3) := by decide +kernel
theorem dX10_isAbove_28 : decode cX10_isAbove 28 = .ok (.aload_n 0, 1) := by decide +kernel
theorem dX10_isAbove_29 : decode cX10_isAbove 29 = .ok (.iload_n 2, 1) := by decide +kernel
end
section
theorem dX10_isAbove_30 : decode cX10_isAbove 30 = .ok (.iconst 0, 1) := by decide +kernel
theorem dX10_isAbove_31 : decode cX10_isAbove 31 = .ok (.invokevirtual 86, 3) := by decide +kernel
theorem dX10_isAbove_34 : decode cX10_isAbove 34 = .ok (.aload_n 0, 1) := by decide +kernel
theorem dX10_isAbove_35 : decode cX10_isAbove 35 = .ok (.iload_n 2, 1) := by decide +kernel
theorem dX10_isAbove_36 : decode cX10_isAbove 36 = .ok (.iconst 2, 1) := by decide +kernel
theorem dX10_isAbove_37 : decode cX10_isAbove 37 = .ok (.invokevirtual 86, 3) := by decide +kernel
theorem dX10_isAbove_40 : decode cX10_isAbove 40 = .ok (.iadd, 1) := by decide +kernel
theorem dX10_isAbove_41 : decode cX10_isAbove 41 = .ok (.if_icmp .ge 29, 3) := by decide +kernel
theorem dX10_isAbove_44 : decode cX10_isAbove 44 = .ok (.aload_n 0, 1) := by decide +kernel
theorem dX10_isAbove_45 : decode cX10_isAbove 45 = .ok (.iload_n 2, 1) := by decide +kernel
theorem dX10_isAbove_46 : decode cX10_isAbove 46 = .ok (.iconst 0, 1) := by decide +kernel
theorem dX10_isAbove_47 : decode cX10_isAbove 47 = .ok (.invokevirtual 86, 3) := by decide +kernel
theorem dX10_isAbove_50 : decode cX10_isAbove 50 = .ok (.aload_n 0, 1) := by decide +kernel
theorem dX10_isAbove_51 : decode cX10_isAbove 51 = .ok (.iload_n 1, 1) := by decide +kernel
theorem dX10_isAbove_52 : decode cX10_isAbove 52 = .ok (.iconst 0, 1) := by decide +kernel
theorem dX10_isAbove_53 : decode cX10_isAbove 53 = .ok (.invokevirtual 86, 3) := by decide +kernel
theorem dX10_isAbove_56 : decode cX10_isAbove 56 = .ok (.aload_n 0, 1) := by decide +kernel
theorem dX10_isAbove_57 : decode cX10_isAbove 57 = .ok (.iload_n 1, 1) := by decide +kernel
theorem dX10_isAbove_58 : decode cX10_isAbove 58 = .ok (.iconst 2, 1) := by decide +kernel
theorem dX10_isAbove_59 : decode cX10_isAbove 59 = .ok (.invokevirtual 86, 3) := by decide +kernel
theorem dX10_isAbove_62 : decode cX10_isAbove 62 = .ok (.iadd, 1) := by decide +kernel
theorem dX10_isAbove_63 : decode cX10_isAbove 63 = .ok (.if_icmp .ge 7, 3) := by decide +kernel
theorem dX10_isAbove_66 : decode cX10_isAbove 66 = .ok (.iconst 1, 1) := by decide +kernel
theorem dX10_isAbove_67 : decode cX10_isAbove 67 = .ok (.goto 4, 3) := by decide +kernel
theorem dX10_isAbove_70 : decode cX10_isAbove 70 = .ok (.iconst 0, 1) := by decide +kernel
theorem dX10_isAbove_71 : decode cX10_isAbove 71 = .ok (.ireturn, 1) := by decide +kernel
theorem dX10_isFree_0 : decode cX10_isFree 0 = .ok (.aload_n 0, 1) := by decide +kernel
theorem dX10_isFree_1 : decode cX10_isFree 1 = .ok (.iload_n 1, 1) := by decide +kernel
theorem dX10_isFree_2 : decode cX10_isFree 2 = .ok (.invokevirtual 90, 3) := by decide +kernel
theorem dX10_isFree_5 : decode cX10_isFree 5 = .ok (.istore_n 2, 1) := by decide +kernel
theorem dX10_isFree_6 : decode cX10_isFree 6 = .ok (.iconst 0, 1) := by decide +kernel
theorem dX10_isFree_7 : decode cX10_isFree 7 = .ok (.istore_n 3, 1) := by decide +kernel
theorem dX10_isFree_8 : decode cX10_isFree 8 = .ok (.iload_n 3, 1) := by decide +kernel
theorem dX10_isFree_9 : decode cX10_isFree 9 = .ok (.aload_n 0, 1) := by decide +kernel
theorem dX10_isFree_10 : decode cX10_isFree 10 = .ok (.getfield 7, 3) := by decide +kernel
theorem dX10_isFree_13 : decode cX10_isFree 13 = .ok (.iconst 5, 1) := by decide +kernel
theorem dX10_isFree_14 : decode cX10_isFree 14 = .ok (.iaload, 1) := by decide +kernel
theorem dX10_isFree_15 : decode cX10_isFree 15 = .ok (.if_icmp .ge 36, 3) := by decide +kernel
theorem dX10_isFree_18 : decode cX10_isFree 18 = .ok (.iload_n 2, 1) := by decide +kernel
theorem dX10_isFree_19 : decode cX10_isFree 19 = .ok (.ifCond .eq 24, 3) := by decide +kernel
theorem dX10_isFree_22 : decode cX10_isFree 22 = .ok (.aload_n 0, 1) := by decide +kernel
theorem dX10_isFree_23 : decode cX10_isFree 23 = .ok (.iload_n 3, 1) := by decide +kernel
theorem dX10_isFree_24 : decode cX10_isFree 24 = .ok (.iload_n 1, 1) := by decide +kernel
theorem dX10_isFree_25 : decode cX10_isFree 25 = .ok (.invokevirtual 94, 3) := by decide +kernel
theorem dX10_isFree_28 : decode cX10_isFree 28 = .ok (.ifCond .eq 11, 3) := by decide +kernel
theorem dX10_isFree_31 : decode cX10_isFree 31 = .ok (.aload_n 0, 1) := by decide +kernel
theorem dX10_isFree_32 : decode cX10_isFree 32 = .ok (.iload_n 3, 1) := by decide +kernel
theorem dX10_isFree_33 : decode cX10_isFree 33 = .ok (.invokevirtual 90, 3) := by decide +kernel
theorem dX10_isFree_36 : decode cX10_isFree 36 = .ok (.ifCond .ne 7, 3) := by decide +kernel
theorem dX10_isFree_39 : decode cX10_isFree 39 = .ok (.iconst 1, 1) := by decide +kernel
theorem dX10_isFree_40 : decode cX10_isFree 40 = .ok (.goto 4, 3) := by decide +kernel
theorem dX10_isFree_43 : decode cX10_isFree 43 = .ok (.iconst 0, 1) := by decide +kernel
theorem dX10_isFree_44 : decode cX10_isFree 44 = .ok (.istore_n 2, 1) := by decide +kernel
theorem dX10_isFree_45 : decode cX10_isFree 45 = .ok (.iinc 3 1, 3) := by decide +kernel
theorem dX10_isFree_48 : decode cX10_isFree 48 = .ok (.goto (-40), 3) := by decide +kernel
theorem dX10_isFree_51 : decode cX10_isFree 51 = .ok (.iload_n 2, 1) := by decide +kernel
theorem dX10_isFree_52 : decode cX10_isFree 52 = .ok (.ireturn, 1) := by decide +kernel
theorem dX10_due_0 : decode cX10_due 0 = .ok (.iconst 0, 1) := by decide +kernel
theorem dX10_due_1 : decode cX10_due 1 = .ok (.istore_n 2, 1) := by decide +kernel
theorem dX10_due_2 : decode cX10_due 2 = .ok (.iload_n 2, 1) := by decide +kernel
theorem dX10_due_3 : decode cX10_due 3 = .ok (.bipush 12, 2) := by decide +kernel
theorem dX10_due_5 : decode cX10_due 5 = .ok (.if_icmp .ge 32, 3) := by decide +kernel
theorem dX10_due_8 : decode cX10_due 8 = .ok (.aload_n 0, 1) := by decide +kernel
theorem dX10_due_9 : decode cX10_due 9 = .ok (.getfield 7, 3) := by decide +kernel
theorem dX10_due_12 : decode cX10_due 12 = .ok (.bipush 10, 2) := by decide +kernel
theorem dX10_due_14 : decode cX10_due 14 = .ok (.iload_n 2, 1) := by decide +kernel
theorem dX10_due_15 : decode cX10_due 15 = .ok (.iadd, 1) := by decide +kernel
theorem dX10_due_16 : decode cX10_due 16 = .ok (.iaload, 1) := by decide +kernel
theorem dX10_due_17 : decode cX10_due 17 = .ok (.aload_n 0, 1) := by decide +kernel
theorem dX10_due_18 : decode cX10_due 18 = .ok (.iload_n 1, 1) := by decide +kernel
theorem dX10_due_19 : decode cX10_due 19 = .ok (.iconst 1, 1) := by decide +kernel
theorem dX10_due_20 : decode cX10_due 20 = .ok (.invokevirtual 86, 3) := by decide +kernel
theorem dX10_due_23 : decode cX10_due 23 = .ok (.if_icmp .le 8, 3) := by decide +kernel
theorem dX10_due_26 : decode cX10_due 26 = .ok (.bipush 30, 2) := by decide +kernel
theorem dX10_due_28 : decode cX10_due 28 = .ok (.iload_n 2, 1) := by decide +kernel
theorem dX10_due_29 : decode cX10_due 29 = .ok (.imul, 1) := by decide +kernel
theorem dX10_due_30 : decode cX10_due 30 = .ok (.ireturn, 1) := by decide +kernel
theorem dX10_due_31 : decode cX10_due 31 = .ok (.iinc 2 1, 3) := by decide +kernel
theorem dX10_due_34 : decode cX10_due 34 = .ok (.goto (-32), 3) := by decide +kernel
theorem dX10_due_37 : decode cX10_due 37 = .ok (.iconst (-1), 1) := by decide +kernel
theorem dX10_due_38 : decode cX10_due 38 = .ok (.ireturn, 1) := by decide +kernel
theorem dX10_wideOf_0 : decode cX10_wideOf 0 = .ok (.aload_n 0, 1) := by decide +kernel
theorem dX10_wideOf_1 : decode cX10_wideOf 1 = .ok (.iload_n 1, 1) := by decide +kernel
theorem dX10_wideOf_2 : decode cX10_wideOf 2 = .ok (.iconst 0, 1) := by decide +kernel
theorem dX10_wideOf_3 : decode cX10_wideOf 3 = .ok (.invokevirtual 86, 3) := by decide +kernel
theorem dX10_wideOf_6 : decode cX10_wideOf 6 = .ok (.ifCond .le 7, 3) := by decide +kernel
theorem dX10_wideOf_9 : decode cX10_wideOf 9 = .ok (.iconst 1, 1) := by decide +kernel
theorem dX10_wideOf_10 : decode cX10_wideOf 10 = .ok (.goto 4, 3) := by decide +kernel
theorem dX10_wideOf_13 : decode cX10_wideOf 13 = .ok (.iconst 0, 1) := by decide +kernel
theorem dX10_wideOf_14 : decode cX10_wideOf 14 = .ok (.aload_n 0, 1) := by decide +kernel
theorem dX10_wideOf_15 : decode cX10_wideOf 15 = .ok (.iload_n 1, 1) := by decide +kernel
theorem dX10_wideOf_16 : decode cX10_wideOf 16 = .ok (.iconst 0, 1) := by decide +kernel
theorem dX10_wideOf_17 : decode cX10_wideOf 17 = .ok (.invokevirtual 86, 3) := by decide +kernel
theorem dX10_wideOf_20 : decode cX10_wideOf 20 = .ok (.aload_n 0, 1) := by decide +kernel
theorem dX10_wideOf_21 : decode cX10_wideOf 21 = .ok (.iload_n 1, 1) := by decide +kernel
theorem dX10_wideOf_22 : decode cX10_wideOf 22 = .ok (.iconst 2, 1) := by decide +kernel
theorem dX10_wideOf_23 : decode cX10_wideOf 23 = .ok (.invokevirtual 86, 3) := by decide +kernel
theorem dX10_wideOf_26 : decode cX10_wideOf 26 = .ok (.iadd, 1) := by decide +kernel
theorem dX10_wideOf_27 : decode cX10_wideOf 27 = .ok (.aload_n 0, 1) := by decide +kernel
theorem dX10_wideOf_28 : decode cX10_wideOf 28 = .ok (.getfield 7, 3) := by decide +kernel
theorem dX10_wideOf_31 : decode cX10_wideOf 31 = .ok (.iconst 0, 1) := by decide +kernel
theorem dX10_wideOf_32 : decode cX10_wideOf 32 = .ok (.iaload, 1) := by decide +kernel
theorem dX10_wideOf_33 : decode cX10_wideOf 33 = .ok (.if_icmp .ge 7, 3) := by decide +kernel
theorem dX10_wideOf_36 : decode cX10_wideOf 36 = .ok (.iconst 1, 1) := by decide +kernel
theorem dX10_wideOf_37 : decode cX10_wideOf 37 = .ok (.goto 4, 3) := by decide +kernel
theorem dX10_wideOf_40 : decode cX10_wideOf 40 = .ok (.iconst 0, 1) := by decide +kernel
theorem dX10_wideOf_41 : decode cX10_wideOf 41 = .ok (.iadd, 1) := by decide +kernel
theorem dX10_wideOf_42 : decode cX10_wideOf 42 = .ok (.istore_n 2, 1) := by decide +kernel
theorem dX10_wideOf_43 : decode cX10_wideOf 43 = .ok (.sipush 200, 3) := by decide +kernel
theorem dX10_wideOf_46 : decode cX10_wideOf 46 = .ok (.aload_n 0, 1) := by decide +kernel
theorem dX10_wideOf_47 : decode cX10_wideOf 47 = .ok (.iload_n 1, 1) := by decide +kernel
theorem dX10_wideOf_48 : decode cX10_wideOf 48 = .ok (.iconst 2, 1) := by decide +kernel
theorem dX10_wideOf_49 : decode cX10_wideOf 49 = .ok (.invokevirtual 86, 3) := by decide +kernel
theorem dX10_wideOf_52 : decode cX10_wideOf 52 = .ok (.imul, 1) := by decide +kernel
theorem dX10_wideOf_53 : decode cX10_wideOf 53 = .ok (.iload_n 2, 1) := by decide +kernel
theorem dX10_wideOf_54 : decode cX10_wideOf 54 = .ok (.aload_n 0, 1) := by decide +kernel
theorem dX10_wideOf_55 : decode cX10_wideOf 55 = .ok (.getfield 7, 3) := by decide +kernel
theorem dX10_wideOf_58 : decode cX10_wideOf 58 = .ok (.iconst 3, 1) := by decide +kernel
theorem dX10_wideOf_59 : decode cX10_wideOf 59 = .ok (.iaload, 1) := by decide +kernel
theorem dX10_wideOf_60 : decode cX10_wideOf 60 = .ok (.imul, 1) := by decide +kernel
theorem dX10_wideOf_61 : decode cX10_wideOf 61 = .ok (.isub, 1) := by decide +kernel
theorem dX10_wideOf_62 : decode cX10_wideOf 62 = .ok (.ireturn, 1) := by decide +kernel
theorem dX10_block_0 : decode cX10_block 0 = .ok (.aload_n 0, 1) := by decide +kernel
theorem dX10_block_1 : decode cX10_block 1 = .ok (.iload_n 1, 1) := by decide +kernel
theorem dX10_block_2 : decode cX10_block 2 = .ok (.invokevirtual 97, 3) := by decide +kernel
theorem dX10_block_5 : decode cX10_block 5 = .ok (.ifCond .ne 5, 3) := by decide +kernel
theorem dX10_block_8 : decode cX10_block 8 = .ok (.iconst (-1), 1) := by decide +kernel
theorem dX10_block_9 : decode cX10_block 9 = .ok (.ireturn, 1) := by decide +kernel
theorem dX10_block_10 : decode cX10_block 10 = .ok (.iload_n 2, 1) := by decide +kernel
theorem dX10_block_11 : decode cX10_block 11 = .ok (.tableswitch 159 0 11 #[61, 61, 61, 61, 68, 97, 103, 111, 125, 139, 146, 152], 61) := by decide +kernel
theorem dX10_block_72 : decode cX10_block 72 = .ok (.aload_n 0, 1) := by decide +kernel
theorem dX10_block_73 : decode cX10_block 73 = .ok (.iload_n 1, 1) := by decide +kernel
theorem dX10_block_74 : decode cX10_block 74 = .ok (.iload_n 2, 1) := by decide +kernel
theorem dX10_block_75 : decode cX10_block 75 = .ok (.invokevirtual 86, 3) := by decide +kernel
theorem dX10_block_78 : decode cX10_block 78 = .ok (.ireturn, 1) := by decide +kernel
theorem dX10_block_79 : decode cX10_block 79 = .ok (.aload_n 0, 1) := by decide +kernel
theorem dX10_block_80 : decode cX10_block 80 = .ok (.aload_n 0, 1) := by decide +kernel
theorem dX10_block_81 : decode cX10_block 81 = .ok (.iload_n 1, 1) := by decide +kernel
theorem dX10_block_82 : decode cX10_block 82 = .ok (.iconst 0, 1) := by decide +kernel
theorem dX10_block_83 : decode cX10_block 83 = .ok (.invokevirtual 86, 3) := by decide +kernel
theorem dX10_block_86 : decode cX10_block 86 = .ok (.aload_n 0, 1) := by decide +kernel
theorem dX10_block_87 : decode cX10_block 87 = .ok (.iload_n 1, 1) := by decide +kernel
theorem dX10_block_88 : decode cX10_block 88 = .ok (.iconst 1, 1) := by decide +kernel
theorem dX10_block_89 : decode cX10_block 89 = .ok (.invokevirtual 86, 3) := by decide +kernel
theorem dX10_block_92 : decode cX10_block 92 = .ok (.aload_n 0, 1) := by decide +kernel
theorem dX10_block_93 : decode cX10_block 93 = .ok (.iload_n 1, 1) := by decide +kernel
theorem dX10_block_94 : decode cX10_block 94 = .ok (.iconst 2, 1) := by decide +kernel
theorem dX10_block_95 : decode cX10_block 95 = .ok (.invokevirtual 86, 3) := by decide +kernel
theorem dX10_block_98 : decode cX10_block 98 = .ok (.aload_n 0, 1) := by decide +kernel
theorem dX10_block_99 : decode cX10_block 99 = .ok (.iload_n 1, 1) := by decide +kernel
theorem dX10_block_100 : decode cX10_block 100 = .ok (.iconst 3, 1) := by decide +kernel
theorem dX10_block_101 : decode cX10_block 101 = .ok (.invokevirtual 86, 3) := by decide +kernel
theorem dX10_block_104 : decode cX10_block 104 = .ok (.invokevirtual 57, 3) := by decide +kernel
theorem dX10_block_107 : decode cX10_block 107 = .ok (.ireturn, 1) := by decide +kernel
theorem dX10_block_108 : decode cX10_block 108 = .ok (.aload_n 0, 1) := by decide +kernel
theorem dX10_block_109 : decode cX10_block 109 = .ok (.iload_n 1, 1) := by decide +kernel
theorem dX10_block_110 : decode cX10_block 110 = .ok (.invokevirtual 100, 3) := by decide +kernel
theorem dX10_block_113 : decode cX10_block 113 = .ok (.ireturn, 1) := by decide +kernel
theorem dX10_block_114 : decode cX10_block 114 = .ok (.aload_n 0, 1) := by decide +kernel
theorem dX10_block_115 : decode cX10_block 115 = .ok (.iload_n 1, 1) := by decide +kernel
theorem dX10_block_116 : decode cX10_block 116 = .ok (.bipush 6, 2) := by decide +kernel
theorem dX10_block_118 : decode cX10_block 118 = .ok (.invokevirtual 86, 3) := by decide +kernel
theorem dX10_block_121 : decode cX10_block 121 = .ok (.ireturn, 1) := by decide +kernel
theorem dX10_block_122 : decode cX10_block 122 = .ok (.aload_n 0, 1) := by decide +kernel
theorem dX10_block_123 : decode cX10_block 123 = .ok (.iload_n 1, 1) := by decide +kernel
theorem dX10_block_124 : decode cX10_block 124 = .ok (.invokevirtual 90, 3) := by decide +kernel
theorem dX10_block_127 : decode cX10_block 127 = .ok (.ifCond .eq 7, 3) := by decide +kernel
theorem dX10_block_130 : decode cX10_block 130 = .ok (.iconst 0, 1) := by decide +kernel
theorem dX10_block_131 : decode cX10_block 131 = .ok (.goto 4, 3) := by decide +kernel
theorem dX10_block_134 : decode cX10_block 134 = .ok (.iconst 1, 1) := by decide +kernel
theorem dX10_block_135 : decode cX10_block 135 = .ok (.ireturn, 1) := by decide +kernel
theorem dX10_block_136 : decode cX10_block 136 = .ok (.aload_n 0, 1) := by decide +kernel
theorem dX10_block_137 : decode cX10_block 137 = .ok (.iload_n 1, 1) := by decide +kernel
theorem dX10_block_138 : decode cX10_block 138 = .ok (.invokevirtual 103, 3) := by decide +kernel
theorem dX10_block_141 : decode cX10_block 141 = .ok (.ifCond .eq 7, 3) := by decide +kernel
theorem dX10_block_144 : decode cX10_block 144 = .ok (.iconst 1, 1) := by decide +kernel
theorem dX10_block_145 : decode cX10_block 145 = .ok (.goto 4, 3) := by decide +kernel
theorem dX10_block_148 : decode cX10_block 148 = .ok (.iconst 0, 1) := by decide +kernel
theorem dX10_block_149 : decode cX10_block 149 = .ok (.ireturn, 1) := by decide +kernel
theorem dX10_block_150 : decode cX10_block 150 = .ok (.aload_n 0, 1) := by decide +kernel
theorem dX10_block_151 : decode cX10_block 151 = .ok (.iload_n 1, 1) := by decide +kernel
theorem dX10_block_152 : decode cX10_block 152 = .ok (.iconst 5, 1) := by decide +kernel
theorem dX10_block_153 : decode cX10_block 153 = .ok (.invokevirtual 86, 3) := by decide +kernel
theorem dX10_block_156 : decode cX10_block 156 = .ok (.ireturn, 1) := by decide +kernel
theorem dX10_block_157 : decode cX10_block 157 = .ok (.aload_n 0, 1) := by decide +kernel
theorem dX10_block_158 : decode cX10_block 158 = .ok (.iload_n 1, 1) := by decide +kernel
theorem dX10_block_159 : decode cX10_block 159 = .ok (.invokevirtual 106, 3) := by decide +kernel
theorem dX10_block_162 : decode cX10_block 162 = .ok (.ireturn, 1) := by decide +kernel
theorem dX10_block_163 : decode cX10_block 163 = .ok (.aload_n 0, 1) := by decide +kernel
theorem dX10_block_164 : decode cX10_block 164 = .ok (.iload_n 1, 1) := by decide +kernel
theorem dX10_block_165 : decode cX10_block 165 = .ok (.iconst 4, 1) := by decide +kernel
theorem dX10_block_166 : decode cX10_block 166 = .ok (.invokevirtual 86, 3) := by decide +kernel
theorem dX10_block_169 : decode cX10_block 169 = .ok (.ireturn, 1) := by decide +kernel
theorem dX10_block_170 : decode cX10_block 170 = .ok (.iconst (-1), 1) := by decide +kernel
theorem dX10_block_171 : decode cX10_block 171 = .ok (.ireturn, 1) := by decide +kernel
theorem dX10_at_0 : decode cX10_at 0 = .ok (.iconst 0, 1) := by decide +kernel
theorem dX10_at_1 : decode cX10_at 1 = .ok (.istore_n 3, 1) := by decide +kernel
theorem dX10_at_2 : decode cX10_at 2 = .ok (.iload_n 3, 1) := by decide +kernel
theorem dX10_at_3 : decode cX10_at 3 = .ok (.aload_n 0, 1) := by decide +kernel
theorem dX10_at_4 : decode cX10_at 4 = .ok (.getfield 7, 3) := by decide +kernel
theorem dX10_at_7 : decode cX10_at 7 = .ok (.iconst 5, 1) := by decide +kernel
theorem dX10_at_8 : decode cX10_at 8 = .ok (.iaload, 1) := by decide +kernel
theorem dX10_at_9 : decode cX10_at 9 = .ok (.if_icmp .ge 67, 3) := by decide +kernel
theorem dX10_at_12 : decode cX10_at 12 = .ok (.iload_n 1, 1) := by decide +kernel
theorem dX10_at_13 : decode cX10_at 13 = .ok (.aload_n 0, 1) := by decide +kernel
theorem dX10_at_14 : decode cX10_at 14 = .ok (.iload_n 3, 1) := by decide +kernel
theorem dX10_at_15 : decode cX10_at 15 = .ok (.iconst 0, 1) := by decide +kernel
theorem dX10_at_16 : decode cX10_at 16 = .ok (.invokevirtual 86, 3) := by decide +kernel
theorem dX10_at_19 : decode cX10_at 19 = .ok (.aload_n 0, 1) := by decide +kernel
theorem dX10_at_20 : decode cX10_at 20 = .ok (.iload_n 3, 1) := by decide +kernel
theorem dX10_at_21 : decode cX10_at 21 = .ok (.iconst 0, 1) := by decide +kernel
theorem dX10_at_22 : decode cX10_at 22 = .ok (.invokevirtual 86, 3) := by decide +kernel
theorem dX10_at_25 : decode cX10_at 25 = .ok (.aload_n 0, 1) := by decide +kernel
theorem dX10_at_26 : decode cX10_at 26 = .ok (.iload_n 3, 1) := by decide +kernel
theorem dX10_at_27 : decode cX10_at 27 = .ok (.iconst 2, 1) := by decide +kernel
theorem dX10_at_28 : decode cX10_at 28 = .ok (.invokevirtual 86, 3) := by decide +kernel
theorem dX10_at_31 : decode cX10_at 31 = .ok (.iadd, 1) := by decide +kernel
theorem dX10_at_32 : decode cX10_at 32 = .ok (.iconst 1, 1) := by decide +kernel
theorem dX10_at_33 : decode cX10_at 33 = .ok (.isub, 1) := by decide +kernel
theorem dX10_at_34 : decode cX10_at 34 = .ok (.invokestatic 42, 3) := by decide +kernel
theorem dX10_at_37 : decode cX10_at 37 = .ok (.ifCond .eq 33, 3) := by decide +kernel
theorem dX10_at_40 : decode cX10_at 40 = .ok (.iload_n 2, 1) := by decide +kernel
theorem dX10_at_41 : decode cX10_at 41 = .ok (.aload_n 0, 1) := by decide +kernel
theorem dX10_at_42 : decode cX10_at 42 = .ok (.iload_n 3, 1) := by decide +kernel
theorem dX10_at_43 : decode cX10_at 43 = .ok (.iconst 1, 1) := by decide +kernel
theorem dX10_at_44 : decode cX10_at 44 = .ok (.invokevirtual 86, 3) := by decide +kernel
theorem dX10_at_47 : decode cX10_at 47 = .ok (.aload_n 0, 1) := by decide +kernel
theorem dX10_at_48 : decode cX10_at 48 = .ok (.iload_n 3, 1) := by decide +kernel
theorem dX10_at_49 : decode cX10_at 49 = .ok (.iconst 1, 1) := by decide +kernel
theorem dX10_at_50 : decode cX10_at 50 = .ok (.invokevirtual 86, 3) := by decide +kernel
theorem dX10_at_53 : decode cX10_at 53 = .ok (.aload_n 0, 1) := by decide +kernel
theorem dX10_at_54 : decode cX10_at 54 = .ok (.iload_n 3, 1) := by decide +kernel
theorem dX10_at_55 : decode cX10_at 55 = .ok (.iconst 3, 1) := by decide +kernel
theorem dX10_at_56 : decode cX10_at 56 = .ok (.invokevirtual 86, 3) := by decide +kernel
theorem dX10_at_59 : decode cX10_at 59 = .ok (.iadd, 1) := by decide +kernel
theorem dX10_at_60 : decode cX10_at 60 = .ok (.iconst 1, 1) := by decide +kernel
theorem dX10_at_61 : decode cX10_at 61 = .ok (.isub, 1) := by decide +kernel
theorem dX10_at_62 : decode cX10_at 62 = .ok (.invokestatic 42, 3) := by decide +kernel
theorem dX10_at_65 : decode cX10_at 65 = .ok (.ifCond .eq 5, 3) := by decide +kernel
theorem dX10_at_68 : decode cX10_at 68 = .ok (.iload_n 3, 1) := by decide +kernel
theorem dX10_at_69 : decode cX10_at 69 = .ok (.ireturn, 1) := by decide +kernel
theorem dX10_at_70 : decode cX10_at 70 = .ok (.iinc 3 1, 3) := by decide +kernel
theorem dX10_at_73 : decode cX10_at 73 = .ok (.goto (-71), 3) := by decide +kernel
theorem dX10_at_76 : decode cX10_at 76 = .ok (.iconst (-1), 1) := by decide +kernel
theorem dX10_at_77 : decode cX10_at 77 = .ok (.ireturn, 1) := by decide +kernel
theorem dX10_above_0 : decode cX10_above 0 = .ok (.aload_n 0, 1) := by decide +kernel
theorem dX10_above_1 : decode cX10_above 1 = .ok (.iload_n 1, 1) := by decide +kernel
theorem dX10_above_2 : decode cX10_above 2 = .ok (.invokevirtual 97, 3) := by decide +kernel
theorem dX10_above_5 : decode cX10_above 5 = .ok (.ifCond .eq 24, 3) := by decide +kernel
theorem dX10_above_8 : decode cX10_above 8 = .ok (.aload_n 0, 1) := by decide +kernel
theorem dX10_above_9 : decode cX10_above 9 = .ok (.iload_n 2, 1) := by decide +kernel
theorem dX10_above_10 : decode cX10_above 10 = .ok (.invokevirtual 97, 3) := by decide +kernel
theorem dX10_above_13 : decode cX10_above 13 = .ok (.ifCond .eq 16, 3) := by decide +kernel
theorem dX10_above_16 : decode cX10_above 16 = .ok (.aload_n 0, 1) := by decide +kernel
theorem dX10_above_17 : decode cX10_above 17 = .ok (.iload_n 1, 1) := by decide +kernel
theorem dX10_above_18 : decode cX10_above 18 = .ok (.iload_n 2, 1) := by decide +kernel
theorem dX10_above_19 : decode cX10_above 19 = .ok (.invokevirtual 94, 3) := by decide +kernel
theorem dX10_above_22 : decode cX10_above 22 = .ok (.ifCond .eq 7, 3) := by decide +kernel
theorem dX10_above_25 : decode cX10_above 25 = .ok (.iconst 1, 1) := by decide +kernel
theorem dX10_above_26 : decode cX10_above 26 = .ok (.goto 4, 3) := by decide +kernel
theorem dX10_above_29 : decode cX10_above 29 = .ok (.iconst 0, 1) := by decide +kernel
theorem dX10_above_30 : decode cX10_above 30 = .ok (.ireturn, 1) := by decide +kernel
theorem dX10_river_0 : decode cX10_river 0 = .ok (.iload_n 1, 1) := by decide +kernel
theorem dX10_river_1 : decode cX10_river 1 = .ok (.iconst 0, 1) := by decide +kernel
theorem dX10_river_2 : decode cX10_river 2 = .ok (.bipush 11, 2) := by decide +kernel
theorem dX10_river_4 : decode cX10_river 4 = .ok (.invokestatic 42, 3) := by decide +kernel
theorem dX10_river_7 : decode cX10_river 7 = .ok (.ifCond .eq 13, 3) := by decide +kernel
theorem dX10_river_10 : decode cX10_river 10 = .ok (.iload_n 2, 1) := by decide +kernel
theorem dX10_river_11 : decode cX10_river 11 = .ok (.iconst 0, 1) := by decide +kernel
theorem dX10_river_12 : decode cX10_river 12 = .ok (.bipush 9, 2) := by decide +kernel
theorem dX10_river_14 : decode cX10_river 14 = .ok (.invokestatic 42, 3) := by decide +kernel
theorem dX10_river_17 : decode cX10_river 17 = .ok (.ifCond .ne 5, 3) := by decide +kernel
theorem dX10_river_20 : decode cX10_river 20 = .ok (.iconst 0, 1) := by decide +kernel
theorem dX10_river_21 : decode cX10_river 21 = .ok (.ireturn, 1) := by decide +kernel
theorem dX10_river_22 : decode cX10_river 22 = .ok (.aload_n 0, 1) := by decide +kernel
theorem dX10_river_23 : decode cX10_river 23 = .ok (.getfield 7, 3) := by decide +kernel
theorem dX10_river_26 : decode cX10_river 26 = .ok (.bipush 10, 2) := by decide +kernel
theorem dX10_river_28 : decode cX10_river 28 = .ok (.iload_n 1, 1) := by decide +kernel
theorem dX10_river_29 : decode cX10_river 29 = .ok (.iadd, 1) := by decide +kernel
theorem dX10_river_30 : decode cX10_river 30 = .ok (.iload_n 2, 1) := by decide +kernel
theorem dX10_river_31 : decode cX10_river 31 = .ok (.iastore, 1) := by decide +kernel
theorem dX10_river_32 : decode cX10_river 32 = .ok (.iconst 1, 1) := by decide +kernel
theorem dX10_river_33 : decode cX10_river 33 = .ok (.ireturn, 1) := by decide +kernel
theorem dX10_days_0 : decode cX10_days 0 = .ok (.iload_n 1, 1) := by decide +kernel
theorem dX10_days_1 : decode cX10_days 1 = .ok (.iconst 1, 1) := by decide +kernel
theorem dX10_days_2 : decode cX10_days 2 = .ok (.bipush 100, 2) := by decide +kernel
theorem dX10_days_4 : decode cX10_days 4 = .ok (.invokestatic 42, 3) := by decide +kernel
theorem dX10_days_7 : decode cX10_days 7 = .ok (.ifCond .eq 17, 3) := by decide +kernel
theorem dX10_days_10 : decode cX10_days 10 = .ok (.aload_n 0, 1) := by decide +kernel
theorem dX10_days_11 : decode cX10_days 11 = .ok (.getfield 7, 3) := by decide +kernel
theorem dX10_days_14 : decode cX10_days 14 = .ok (.iconst 4, 1) := by decide +kernel
theorem dX10_days_15 : decode cX10_days 15 = .ok (.iaload, 1) := by decide +kernel
theorem dX10_days_16 : decode cX10_days 16 = .ok (.iload_n 1, 1) := by decide +kernel
theorem dX10_days_17 : decode cX10_days 17 = .ok (.iadd, 1) := by decide +kernel
theorem dX10_days_18 : decode cX10_days 18 = .ok (.sipush 5000, 3) := by decide +kernel
theorem dX10_days_21 : decode cX10_days 21 = .ok (.if_icmp .le 5, 3) := by decide +kernel
theorem dX10_days_24 : decode cX10_days 24 = .ok (.iconst (-1), 1) := by decide +kernel
theorem dX10_days_25 : decode cX10_days 25 = .ok (.ireturn, 1) := by decide +kernel
theorem dX10_days_26 : decode cX10_days 26 = .ok (.aload_n 0, 1) := by decide +kernel
theorem dX10_days_27 : decode cX10_days 27 = .ok (.getfield 7, 3) := by decide +kernel
theorem dX10_days_30 : decode cX10_days 30 = .ok (.iconst 4, 1) := by decide +kernel
theorem dX10_days_31 : decode cX10_days 31 = .ok (.dup2, 1) := by decide +kernel
theorem dX10_days_32 : decode cX10_days 32 = .ok (.iaload, 1) := by decide +kernel
theorem dX10_days_33 : decode cX10_days 33 = .ok (.iload_n 1, 1) := by decide +kernel
theorem dX10_days_34 : decode cX10_days 34 = .ok (.iadd, 1) := by decide +kernel
theorem dX10_days_35 : decode cX10_days 35 = .ok (.iastore, 1) := by decide +kernel
theorem dX10_days_36 : decode cX10_days 36 = .ok (.aload_n 0, 1) := by decide +kernel
theorem dX10_days_37 : decode cX10_days 37 = .ok (.getfield 7, 3) := by decide +kernel
theorem dX10_days_40 : decode cX10_days 40 = .ok (.iconst 4, 1) := by decide +kernel
theorem dX10_days_41 : decode cX10_days 41 = .ok (.iaload, 1) := by decide +kernel
theorem dX10_days_42 : decode cX10_days 42 = .ok (.ireturn, 1) := by decide +kernel
theorem dX10_uppermost_0 : decode cX10_uppermost 0 = .ok (.iconst (-1), 1) := by decide +kernel
theorem dX10_uppermost_1 : decode cX10_uppermost 1 = .ok (.istore_n 2, 1) := by decide +kernel
theorem dX10_uppermost_2 : decode cX10_uppermost 2 = .ok (.iconst 0, 1) := by decide +kernel
theorem dX10_uppermost_3 : decode cX10_uppermost 3 = .ok (.istore_n 3, 1) := by decide +kernel
theorem dX10_uppermost_4 : decode cX10_uppermost 4 = .ok (.iload_n 3, 1) := by decide +kernel
theorem dX10_uppermost_5 : decode cX10_uppermost 5 = .ok (.aload_n 0, 1) := by decide +kernel
theorem dX10_uppermost_6 : decode cX10_uppermost 6 = .ok (.invokevirtual 109, 3) := by decide +kernel
theorem dX10_uppermost_9 : decode cX10_uppermost 9 = .ok (.if_icmp .ge 39, 3) := by decide +kernel
theorem dX10_uppermost_12 : decode cX10_uppermost 12 = .ok (.aload_n 0, 1) := by decide +kernel
theorem dX10_uppermost_13 : decode cX10_uppermost 13 = .ok (.aload_n 0, 1) := by decide +kernel
theorem dX10_uppermost_14 : decode cX10_uppermost 14 = .ok (.getfield 7, 3) := by decide +kernel
theorem dX10_uppermost_17 : decode cX10_uppermost 17 = .ok (.sipush 760, 3) := by decide +kernel
theorem dX10_uppermost_20 : decode cX10_uppermost 20 = .ok (.iload_n 3, 1) := by decide +kernel
theorem dX10_uppermost_21 : decode cX10_uppermost 21 = .ok (.iadd, 1) := by decide +kernel
theorem dX10_uppermost_22 : decode cX10_uppermost 22 = .ok (.iaload, 1) := by decide +kernel
theorem dX10_uppermost_23 : decode cX10_uppermost 23 = .ok (.iconst 5, 1) := by decide +kernel
theorem dX10_uppermost_24 : decode cX10_uppermost 24 = .ok (.invokevirtual 86, 3) := by decide +kernel
theorem dX10_uppermost_27 : decode cX10_uppermost 27 = .ok (.iload_n 1, 1) := by decide +kernel
theorem dX10_uppermost_28 : decode cX10_uppermost 28 = .ok (.if_icmp .ne 14, 3) := by decide +kernel
theorem dX10_uppermost_31 : decode cX10_uppermost 31 = .ok (.aload_n 0, 1) := by decide +kernel
theorem dX10_uppermost_32 : decode cX10_uppermost 32 = .ok (.getfield 7, 3) := by decide +kernel
theorem dX10_uppermost_35 : decode cX10_uppermost 35 = .ok (.sipush 760, 3) := by decide +kernel
theorem dX10_uppermost_38 : decode cX10_uppermost 38 = .ok (.iload_n 3, 1) := by decide +kernel
theorem dX10_uppermost_39 : decode cX10_uppermost 39 = .ok (.iadd, 1) := by decide +kernel
theorem dX10_uppermost_40 : decode cX10_uppermost 40 = .ok (.iaload, 1) := by decide +kernel
theorem dX10_uppermost_41 : decode cX10_uppermost 41 = .ok (.istore_n 2, 1) := by decide +kernel
theorem dX10_uppermost_42 : decode cX10_uppermost 42 = .ok (.iinc 3 1, 3) := by decide +kernel
theorem dX10_uppermost_45 : decode cX10_uppermost 45 = .ok (.goto (-41), 3) := by decide +kernel
theorem dX10_uppermost_48 : decode cX10_uppermost 48 = .ok (.iload_n 2, 1) := by decide +kernel
theorem dX10_uppermost_49 : decode cX10_uppermost 49 = .ok (.ireturn, 1) := by decide +kernel
theorem dX10_taken_0 : decode cX10_taken 0 = .ok (.iconst 0, 1) := by decide +kernel
theorem dX10_taken_1 : decode cX10_taken 1 = .ok (.istore_n 1, 1) := by decide +kernel
theorem dX10_taken_2 : decode cX10_taken 2 = .ok (.iconst 0, 1) := by decide +kernel
theorem dX10_taken_3 : decode cX10_taken 3 = .ok (.istore_n 2, 1) := by decide +kernel
theorem dX10_taken_4 : decode cX10_taken 4 = .ok (.iload_n 2, 1) := by decide +kernel
theorem dX10_taken_5 : decode cX10_taken 5 = .ok (.aload_n 0, 1) := by decide +kernel
theorem dX10_taken_6 : decode cX10_taken 6 = .ok (.getfield 7, 3) := by decide +kernel
theorem dX10_taken_9 : decode cX10_taken 9 = .ok (.iconst 5, 1) := by decide +kernel
theorem dX10_taken_10 : decode cX10_taken 10 = .ok (.iaload, 1) := by decide +kernel
theorem dX10_taken_11 : decode cX10_taken 11 = .ok (.if_icmp .ge 25, 3) := by decide +kernel
theorem dX10_taken_14 : decode cX10_taken 14 = .ok (.iload_n 1, 1) := by decide +kernel
theorem dX10_taken_15 : decode cX10_taken 15 = .ok (.aload_n 0, 1) := by decide +kernel
theorem dX10_taken_16 : decode cX10_taken 16 = .ok (.iload_n 2, 1) := by decide +kernel
theorem dX10_taken_17 : decode cX10_taken 17 = .ok (.invokevirtual 90, 3) := by decide +kernel
theorem dX10_taken_20 : decode cX10_taken 20 = .ok (.ifCond .eq 7, 3) := by decide +kernel
theorem dX10_taken_23 : decode cX10_taken 23 = .ok (.iconst 0, 1) := by decide +kernel
theorem dX10_taken_24 : decode cX10_taken 24 = .ok (.goto 4, 3) := by decide +kernel
theorem dX10_taken_27 : decode cX10_taken 27 = .ok (.iconst 1, 1) := by decide +kernel
theorem dX10_taken_28 : decode cX10_taken 28 = .ok (.iadd, 1) := by decide +kernel
theorem dX10_taken_29 : decode cX10_taken 29 = .ok (.istore_n 1, 1) := by decide +kernel
theorem dX10_taken_30 : decode cX10_taken 30 = .ok (.iinc 2 1, 3) := by decide +kernel
theorem dX10_taken_33 : decode cX10_taken 33 = .ok (.goto (-29), 3) := by decide +kernel
theorem dX10_taken_36 : decode cX10_taken 36 = .ok (.iload_n 1, 1) := by decide +kernel
theorem dX10_taken_37 : decode cX10_taken 37 = .ok (.ireturn, 1) := by decide +kernel
theorem dX10_take_0 : decode cX10_take 0 = .ok (.aload_n 0, 1) := by decide +kernel
theorem dX10_take_1 : decode cX10_take 1 = .ok (.iload_n 1, 1) := by decide +kernel
theorem dX10_take_2 : decode cX10_take 2 = .ok (.invokevirtual 97, 3) := by decide +kernel
theorem dX10_take_5 : decode cX10_take 5 = .ok (.ifCond .eq 23, 3) := by decide +kernel
theorem dX10_take_8 : decode cX10_take 8 = .ok (.aload_n 0, 1) := by decide +kernel
theorem dX10_take_9 : decode cX10_take 9 = .ok (.iload_n 1, 1) := by decide +kernel
theorem dX10_take_10 : decode cX10_take 10 = .ok (.invokevirtual 103, 3) := by decide +kernel
theorem dX10_take_13 : decode cX10_take 13 = .ok (.ifCond .eq 15, 3) := by decide +kernel
theorem dX10_take_16 : decode cX10_take 16 = .ok (.aload_n 0, 1) := by decide +kernel
theorem dX10_take_17 : decode cX10_take 17 = .ok (.getfield 7, 3) := by decide +kernel
theorem dX10_take_20 : decode cX10_take 20 = .ok (.iconst 4, 1) := by decide +kernel
theorem dX10_take_21 : decode cX10_take 21 = .ok (.iaload, 1) := by decide +kernel
theorem dX10_take_22 : decode cX10_take 22 = .ok (.sipush 5000, 3) := by decide +kernel
theorem dX10_take_25 : decode cX10_take 25 = .ok (.if_icmp .ne 5, 3) := by decide +kernel
theorem dX10_take_28 : decode cX10_take 28 = .ok (.iconst (-1), 1) := by decide +kernel
theorem dX10_take_29 : decode cX10_take 29 = .ok (.ireturn, 1) := by decide +kernel
theorem dX10_take_30 : decode cX10_take 30 = .ok (.aload_n 0, 1) := by decide +kernel
theorem dX10_take_31 : decode cX10_take 31 = .ok (.getfield 7, 3) := by decide +kernel
theorem dX10_take_34 : decode cX10_take 34 = .ok (.iconst 4, 1) := by decide +kernel
theorem dX10_take_35 : decode cX10_take 35 = .ok (.iaload, 1) := by decide +kernel
theorem dX10_take_36 : decode cX10_take 36 = .ok (.bipush 30, 2) := by decide +kernel
theorem dX10_take_38 : decode cX10_take 38 = .ok (.idiv, 1) := by decide +kernel
theorem dX10_take_39 : decode cX10_take 39 = .ok (.bipush 11, 2) := by decide +kernel
theorem dX10_take_41 : decode cX10_take 41 = .ok (.if_icmp .le 8, 3) := by decide +kernel
theorem dX10_take_44 : decode cX10_take 44 = .ok (.bipush 11, 2) := by decide +kernel
theorem dX10_take_46 : decode cX10_take 46 = .ok (.goto 12, 3) := by decide +kernel
theorem dX10_take_49 : decode cX10_take 49 = .ok (.aload_n 0, 1) := by decide +kernel
theorem dX10_take_50 : decode cX10_take 50 = .ok (.getfield 7, 3) := by decide +kernel
theorem dX10_take_53 : decode cX10_take 53 = .ok (.iconst 4, 1) := by decide +kernel
theorem dX10_take_54 : decode cX10_take 54 = .ok (.iaload, 1) := by decide +kernel
theorem dX10_take_55 : decode cX10_take 55 = .ok (.bipush 30, 2) := by decide +kernel
theorem dX10_take_57 : decode cX10_take 57 = .ok (.idiv, 1) := by decide +kernel
theorem dX10_take_58 : decode cX10_take 58 = .ok (.istore_n 2, 1) := by decide +kernel
theorem dX10_take_59 : decode cX10_take 59 = .ok (.aload_n 0, 1) := by decide +kernel
theorem dX10_take_60 : decode cX10_take 60 = .ok (.getfield 7, 3) := by decide +kernel
theorem dX10_take_63 : decode cX10_take 63 = .ok (.bipush 10, 2) := by decide +kernel
theorem dX10_take_65 : decode cX10_take 65 = .ok (.iload_n 2, 1) := by decide +kernel
theorem dX10_take_66 : decode cX10_take 66 = .ok (.iadd, 1) := by decide +kernel
theorem dX10_take_67 : decode cX10_take 67 = .ok (.iaload, 1) := by decide +kernel
theorem dX10_take_68 : decode cX10_take 68 = .ok (.aload_n 0, 1) := by decide +kernel
theorem dX10_take_69 : decode cX10_take 69 = .ok (.iload_n 1, 1) := by decide +kernel
theorem dX10_take_70 : decode cX10_take 70 = .ok (.iconst 1, 1) := by decide +kernel
theorem dX10_take_71 : decode cX10_take 71 = .ok (.invokevirtual 86, 3) := by decide +kernel
theorem dX10_take_74 : decode cX10_take 74 = .ok (.if_icmp .le 5, 3) := by decide +kernel
theorem dX10_take_77 : decode cX10_take 77 = .ok (.iconst (-1), 1) := by decide +kernel
theorem dX10_take_78 : decode cX10_take 78 = .ok (.ireturn, 1) := by decide +kernel
theorem dX10_take_79 : decode cX10_take 79 = .ok (.iconst (-1), 1) := by decide +kernel
theorem dX10_take_80 : decode cX10_take 80 = .ok (.istore_n 3, 1) := by decide +kernel
theorem dX10_take_81 : decode cX10_take 81 = .ok (.iconst 0, 1) := by decide +kernel
theorem dX10_take_82 : decode cX10_take 82 = .ok (.istore 4, 2) := by decide +kernel
theorem dX10_take_84 : decode cX10_take 84 = .ok (.iload 4, 2) := by decide +kernel
theorem dX10_take_86 : decode cX10_take 86 = .ok (.aload_n 0, 1) := by decide +kernel
theorem dX10_take_87 : decode cX10_take 87 = .ok (.getfield 7, 3) := by decide +kernel
theorem dX10_take_90 : decode cX10_take 90 = .ok (.bipush 7, 2) := by decide +kernel
theorem dX10_take_92 : decode cX10_take 92 = .ok (.iaload, 1) := by decide +kernel
theorem dX10_take_93 : decode cX10_take 93 = .ok (.if_icmp .ge 58, 3) := by decide +kernel
theorem dX10_take_96 : decode cX10_take 96 = .ok (.aload_n 0, 1) := by decide +kernel
theorem dX10_take_97 : decode cX10_take 97 = .ok (.aload_n 0, 1) := by decide +kernel
theorem dX10_take_98 : decode cX10_take 98 = .ok (.iload 4, 2) := by decide +kernel
theorem dX10_take_100 : decode cX10_take 100 = .ok (.invokevirtual 113, 3) := by decide +kernel
theorem dX10_take_103 : decode cX10_take 103 = .ok (.bipush 6, 2) := by decide +kernel
theorem dX10_take_105 : decode cX10_take 105 = .ok (.invokevirtual 86, 3) := by decide +kernel
theorem dX10_take_108 : decode cX10_take 108 = .ok (.istore 5, 2) := by decide +kernel
theorem dX10_take_110 : decode cX10_take 110 = .ok (.iload 5, 2) := by decide +kernel
theorem dX10_take_112 : decode cX10_take 112 = .ok (.aload_n 0, 1) := by decide +kernel
theorem dX10_take_113 : decode cX10_take 113 = .ok (.iload_n 1, 1) := by decide +kernel
theorem dX10_take_114 : decode cX10_take 114 = .ok (.bipush 6, 2) := by decide +kernel
theorem dX10_take_116 : decode cX10_take 116 = .ok (.invokevirtual 86, 3) := by decide +kernel
theorem dX10_take_119 : decode cX10_take 119 = .ok (.if_icmp .le 26, 3) := by decide +kernel
theorem dX10_take_122 : decode cX10_take 122 = .ok (.iload_n 3, 1) := by decide +kernel
theorem dX10_take_123 : decode cX10_take 123 = .ok (.ifCond .lt 19, 3) := by decide +kernel
theorem dX10_take_126 : decode cX10_take 126 = .ok (.iload 5, 2) := by decide +kernel
theorem dX10_take_128 : decode cX10_take 128 = .ok (.aload_n 0, 1) := by decide +kernel
theorem dX10_take_129 : decode cX10_take 129 = .ok (.aload_n 0, 1) := by decide +kernel
theorem dX10_take_130 : decode cX10_take 130 = .ok (.iload_n 3, 1) := by decide +kernel
theorem dX10_take_131 : decode cX10_take 131 = .ok (.invokevirtual 113, 3) := by decide +kernel
theorem dX10_take_134 : decode cX10_take 134 = .ok (.bipush 6, 2) := by decide +kernel
theorem dX10_take_136 : decode cX10_take 136 = .ok (.invokevirtual 86, 3) := by decide +kernel
theorem dX10_take_139 : decode cX10_take 139 = .ok (.if_icmp .ge 6, 3) := by decide +kernel
theorem dX10_take_142 : decode cX10_take 142 = .ok (.iload 4, 2) := by decide +kernel
theorem dX10_take_144 : decode cX10_take 144 = .ok (.istore_n 3, 1) := by decide +kernel
theorem dX10_take_145 : decode cX10_take 145 = .ok (.iinc 4 1, 3) := by decide +kernel
theorem dX10_take_148 : decode cX10_take 148 = .ok (.goto (-64), 3) := by decide +kernel
theorem dX10_take_151 : decode cX10_take 151 = .ok (.iload_n 3, 1) := by decide +kernel
theorem dX10_take_152 : decode cX10_take 152 = .ok (.ifCond .ge 22, 3) := by decide +kernel
theorem dX10_take_155 : decode cX10_take 155 = .ok (.aload_n 0, 1) := by decide +kernel
theorem dX10_take_156 : decode cX10_take 156 = .ok (.getfield 7, 3) := by decide +kernel
theorem dX10_take_159 : decode cX10_take 159 = .ok (.bipush 7, 2) := by decide +kernel
theorem dX10_take_161 : decode cX10_take 161 = .ok (.iaload, 1) := by decide +kernel
theorem dX10_take_162 : decode cX10_take 162 = .ok (.istore_n 3, 1) := by decide +kernel
theorem dX10_take_163 : decode cX10_take 163 = .ok (.aload_n 0, 1) := by decide +kernel
theorem dX10_take_164 : decode cX10_take 164 = .ok (.getfield 7, 3) := by decide +kernel
theorem dX10_take_167 : decode cX10_take 167 = .ok (.bipush 7, 2) := by decide +kernel
theorem dX10_take_169 : decode cX10_take 169 = .ok (.dup2, 1) := by decide +kernel
theorem dX10_take_170 : decode cX10_take 170 = .ok (.iaload, 1) := by decide +kernel
theorem dX10_take_171 : decode cX10_take 171 = .ok (.iconst 1, 1) := by decide +kernel
theorem dX10_take_172 : decode cX10_take 172 = .ok (.iadd, 1) := by decide +kernel
theorem dX10_take_173 : decode cX10_take 173 = .ok (.iastore, 1) := by decide +kernel
theorem dX10_take_174 : decode cX10_take 174 = .ok (.aload_n 0, 1) := by decide +kernel
theorem dX10_take_175 : decode cX10_take 175 = .ok (.getfield 7, 3) := by decide +kernel
theorem dX10_take_178 : decode cX10_take 178 = .ok (.sipush 760, 3) := by decide +kernel
theorem dX10_take_181 : decode cX10_take 181 = .ok (.aload_n 0, 1) := by decide +kernel
theorem dX10_take_182 : decode cX10_take 182 = .ok (.invokevirtual 109, 3) := by decide +kernel
theorem dX10_take_185 : decode cX10_take 185 = .ok (.iadd, 1) := by decide +kernel
theorem dX10_take_186 : decode cX10_take 186 = .ok (.iload_n 1, 1) := by decide +kernel
theorem dX10_take_187 : decode cX10_take 187 = .ok (.iastore, 1) := by decide +kernel
theorem dX10_take_188 : decode cX10_take 188 = .ok (.aload_n 0, 1) := by decide +kernel
theorem dX10_take_189 : decode cX10_take 189 = .ok (.getfield 7, 3) := by decide +kernel
theorem dX10_take_192 : decode cX10_take 192 = .ok (.sipush 170, 3) := by decide +kernel
theorem dX10_take_195 : decode cX10_take 195 = .ok (.bipush 8, 2) := by decide +kernel
theorem dX10_take_197 : decode cX10_take 197 = .ok (.iload_n 1, 1) := by decide +kernel
theorem dX10_take_198 : decode cX10_take 198 = .ok (.imul, 1) := by decide +kernel
theorem dX10_take_199 : decode cX10_take 199 = .ok (.iadd, 1) := by decide +kernel
theorem dX10_take_200 : decode cX10_take 200 = .ok (.iconst 4, 1) := by decide +kernel
theorem dX10_take_201 : decode cX10_take 201 = .ok (.iadd, 1) := by decide +kernel
theorem dX10_take_202 : decode cX10_take 202 = .ok (.aload_n 0, 1) := by decide +kernel
theorem dX10_take_203 : decode cX10_take 203 = .ok (.getfield 7, 3) := by decide +kernel
theorem dX10_take_206 : decode cX10_take 206 = .ok (.iconst 4, 1) := by decide +kernel
theorem dX10_take_207 : decode cX10_take 207 = .ok (.iaload, 1) := by decide +kernel
theorem dX10_take_208 : decode cX10_take 208 = .ok (.iastore, 1) := by decide +kernel
theorem dX10_take_209 : decode cX10_take 209 = .ok (.aload_n 0, 1) := by decide +kernel
theorem dX10_take_210 : decode cX10_take 210 = .ok (.getfield 7, 3) := by decide +kernel
theorem dX10_take_213 : decode cX10_take 213 = .ok (.sipush 170, 3) := by decide +kernel
theorem dX10_take_216 : decode cX10_take 216 = .ok (.bipush 8, 2) := by decide +kernel
theorem dX10_take_218 : decode cX10_take 218 = .ok (.iload_n 1, 1) := by decide +kernel
theorem dX10_take_219 : decode cX10_take 219 = .ok (.imul, 1) := by decide +kernel
theorem dX10_take_220 : decode cX10_take 220 = .ok (.iadd, 1) := by decide +kernel
theorem dX10_take_221 : decode cX10_take 221 = .ok (.iconst 5, 1) := by decide +kernel
theorem dX10_take_222 : decode cX10_take 222 = .ok (.iadd, 1) := by decide +kernel
theorem dX10_take_223 : decode cX10_take 223 = .ok (.iload_n 3, 1) := by decide +kernel
theorem dX10_take_224 : decode cX10_take 224 = .ok (.iastore, 1) := by decide +kernel
theorem dX10_take_225 : decode cX10_take 225 = .ok (.aload_n 0, 1) := by decide +kernel
theorem dX10_take_226 : decode cX10_take 226 = .ok (.getfield 7, 3) := by decide +kernel
theorem dX10_take_229 : decode cX10_take 229 = .ok (.iconst 4, 1) := by decide +kernel
theorem dX10_take_230 : decode cX10_take 230 = .ok (.dup2, 1) := by decide +kernel
theorem dX10_take_231 : decode cX10_take 231 = .ok (.iaload, 1) := by decide +kernel
theorem dX10_take_232 : decode cX10_take 232 = .ok (.iconst 1, 1) := by decide +kernel
theorem dX10_take_233 : decode cX10_take 233 = .ok (.iadd, 1) := by decide +kernel
theorem dX10_take_234 : decode cX10_take 234 = .ok (.iastore, 1) := by decide +kernel
theorem dX10_take_235 : decode cX10_take 235 = .ok (.iload_n 3, 1) := by decide +kernel
theorem dX10_take_236 : decode cX10_take 236 = .ok (.ireturn, 1) := by decide +kernel
theorem dX10_piled_0 : decode cX10_piled 0 = .ok (.iconst 0, 1) := by decide +kernel
theorem dX10_piled_1 : decode cX10_piled 1 = .ok (.istore_n 3, 1) := by decide +kernel
theorem dX10_piled_2 : decode cX10_piled 2 = .ok (.iconst 0, 1) := by decide +kernel
theorem dX10_piled_3 : decode cX10_piled 3 = .ok (.istore 4, 2) := by decide +kernel
theorem dX10_piled_5 : decode cX10_piled 5 = .ok (.iload 4, 2) := by decide +kernel
theorem dX10_piled_7 : decode cX10_piled 7 = .ok (.aload_n 0, 1) := by decide +kernel
theorem dX10_piled_8 : decode cX10_piled 8 = .ok (.invokevirtual 109, 3) := by decide +kernel
theorem dX10_piled_11 : decode cX10_piled 11 = .ok (.if_icmp .ge 51, 3) := by decide +kernel
theorem dX10_piled_14 : decode cX10_piled 14 = .ok (.iload_n 2, 1) := by decide +kernel
theorem dX10_piled_15 : decode cX10_piled 15 = .ok (.ifCond .lt 47, 3) := by decide +kernel
theorem dX10_piled_18 : decode cX10_piled 18 = .ok (.aload_n 0, 1) := by decide +kernel
theorem dX10_piled_19 : decode cX10_piled 19 = .ok (.getfield 7, 3) := by decide +kernel
theorem dX10_piled_22 : decode cX10_piled 22 = .ok (.sipush 760, 3) := by decide +kernel
theorem dX10_piled_25 : decode cX10_piled 25 = .ok (.iload 4, 2) := by decide +kernel
theorem dX10_piled_27 : decode cX10_piled 27 = .ok (.iadd, 1) := by decide +kernel
theorem dX10_piled_28 : decode cX10_piled 28 = .ok (.iaload, 1) := by decide +kernel
theorem dX10_piled_29 : decode cX10_piled 29 = .ok (.istore 5, 2) := by decide +kernel
theorem dX10_piled_31 : decode cX10_piled 31 = .ok (.aload_n 0, 1) := by decide +kernel
theorem dX10_piled_32 : decode cX10_piled 32 = .ok (.iload 5, 2) := by decide +kernel
theorem dX10_piled_34 : decode cX10_piled 34 = .ok (.iconst 5, 1) := by decide +kernel
theorem dX10_piled_35 : decode cX10_piled 35 = .ok (.invokevirtual 86, 3) := by decide +kernel
theorem dX10_piled_38 : decode cX10_piled 38 = .ok (.iload_n 1, 1) := by decide +kernel
theorem dX10_piled_39 : decode cX10_piled 39 = .ok (.if_icmp .eq 6, 3) := by decide +kernel
theorem dX10_piled_42 : decode cX10_piled 42 = .ok (.goto 14, 3) := by decide +kernel
theorem dX10_piled_45 : decode cX10_piled 45 = .ok (.iload_n 3, 1) := by decide +kernel
theorem dX10_piled_46 : decode cX10_piled 46 = .ok (.iload_n 2, 1) := by decide +kernel
theorem dX10_piled_47 : decode cX10_piled 47 = .ok (.if_icmp .ne 6, 3) := by decide +kernel
theorem dX10_piled_50 : decode cX10_piled 50 = .ok (.iload 5, 2) := by decide +kernel
theorem dX10_piled_52 : decode cX10_piled 52 = .ok (.ireturn, 1) := by decide +kernel
theorem dX10_piled_53 : decode cX10_piled 53 = .ok (.iinc 3 1, 3) := by decide +kernel
theorem dX10_piled_56 : decode cX10_piled 56 = .ok (.iinc 4 1, 3) := by decide +kernel
theorem dX10_piled_59 : decode cX10_piled 59 = .ok (.goto (-54), 3) := by decide +kernel
theorem dX10_piled_62 : decode cX10_piled 62 = .ok (.iconst (-1), 1) := by decide +kernel
theorem dX10_piled_63 : decode cX10_piled 63 = .ok (.ireturn, 1) := by decide +kernel
theorem dX10_presses_0 : decode cX10_presses 0 = .ok (.iconst 0, 1) := by decide +kernel
theorem dX10_presses_1 : decode cX10_presses 1 = .ok (.istore_n 1, 1) := by decide +kernel
theorem dX10_presses_2 : decode cX10_presses 2 = .ok (.iload_n 1, 1) := by decide +kernel
theorem dX10_presses_3 : decode cX10_presses 3 = .ok (.aload_n 0, 1) := by decide +kernel
theorem dX10_presses_4 : decode cX10_presses 4 = .ok (.getfield 7, 3) := by decide +kernel
theorem dX10_presses_7 : decode cX10_presses 7 = .ok (.iconst 5, 1) := by decide +kernel
theorem dX10_presses_8 : decode cX10_presses 8 = .ok (.iaload, 1) := by decide +kernel
theorem dX10_presses_9 : decode cX10_presses 9 = .ok (.if_icmp .ge 33, 3) := by decide +kernel
theorem dX10_presses_12 : decode cX10_presses 12 = .ok (.aload_n 0, 1) := by decide +kernel
theorem dX10_presses_13 : decode cX10_presses 13 = .ok (.getfield 29, 3) := by decide +kernel
theorem dX10_presses_16 : decode cX10_presses 16 = .ok (.iload_n 1, 1) := by decide +kernel
theorem dX10_presses_17 : decode cX10_presses 17 = .ok (.aload_n 0, 1) := by decide +kernel
theorem dX10_presses_18 : decode cX10_presses 18 = .ok (.iload_n 1, 1) := by decide +kernel
theorem dX10_presses_19 : decode cX10_presses 19 = .ok (.invokevirtual 100, 3) := by decide +kernel
theorem dX10_presses_22 : decode cX10_presses 22 = .ok (.ifCond .ge 8, 3) := by decide +kernel
theorem dX10_presses_25 : decode cX10_presses 25 = .ok (.ldc 116, 2) := by decide +kernel
theorem dX10_presses_27 : decode cX10_presses 27 = .ok (.goto 8, 3) := by decide +kernel
theorem dX10_presses_30 : decode cX10_presses 30 = .ok (.aload_n 0, 1) := by decide +kernel
theorem dX10_presses_31 : decode cX10_presses 31 = .ok (.iload_n 1, 1) := by decide +kernel
theorem dX10_presses_32 : decode cX10_presses 32 = .ok (.invokevirtual 100, 3) := by decide +kernel
theorem dX10_presses_35 : decode cX10_presses 35 = .ok (.iastore, 1) := by decide +kernel
theorem dX10_presses_36 : decode cX10_presses 36 = .ok (.iinc 1 1, 3) := by decide +kernel
theorem dX10_presses_39 : decode cX10_presses 39 = .ok (.goto (-37), 3) := by decide +kernel
theorem dX10_presses_42 : decode cX10_presses 42 = .ok (.iconst 1, 1) := by decide +kernel
theorem dX10_presses_43 : decode cX10_presses 43 = .ok (.istore_n 1, 1) := by decide +kernel
theorem dX10_presses_44 : decode cX10_presses 44 = .ok (.iload_n 1, 1) := by decide +kernel
theorem dX10_presses_45 : decode cX10_presses 45 = .ok (.ifCond .eq 105, 3) := by decide +kernel
theorem dX10_presses_48 : decode cX10_presses 48 = .ok (.iconst 0, 1) := by decide +kernel
theorem dX10_presses_49 : decode cX10_presses 49 = .ok (.istore_n 1, 1) := by decide +kernel
theorem dX10_presses_50 : decode cX10_presses 50 = .ok (.iconst 0, 1) := by decide +kernel
theorem dX10_presses_51 : decode cX10_presses 51 = .ok (.istore_n 2, 1) := by decide +kernel
theorem dX10_presses_52 : decode cX10_presses 52 = .ok (.iload_n 2, 1) := by decide +kernel
theorem dX10_presses_53 : decode cX10_presses 53 = .ok (.aload_n 0, 1) := by decide +kernel
theorem dX10_presses_54 : decode cX10_presses 54 = .ok (.getfield 7, 3) := by decide +kernel
theorem dX10_presses_57 : decode cX10_presses 57 = .ok (.iconst 5, 1) := by decide +kernel
theorem dX10_presses_58 : decode cX10_presses 58 = .ok (.iaload, 1) := by decide +kernel
theorem dX10_presses_59 : decode cX10_presses 59 = .ok (.if_icmp .ge 88, 3) := by decide +kernel
theorem dX10_presses_62 : decode cX10_presses 62 = .ok (.iconst 0, 1) := by decide +kernel
theorem dX10_presses_63 : decode cX10_presses 63 = .ok (.istore_n 3, 1) := by decide +kernel
theorem dX10_presses_64 : decode cX10_presses 64 = .ok (.iload_n 3, 1) := by decide +kernel
theorem dX10_presses_65 : decode cX10_presses 65 = .ok (.aload_n 0, 1) := by decide +kernel
theorem dX10_presses_66 : decode cX10_presses 66 = .ok (.getfield 7, 3) := by decide +kernel
theorem dX10_presses_69 : decode cX10_presses 69 = .ok (.iconst 5, 1) := by decide +kernel
theorem dX10_presses_70 : decode cX10_presses 70 = .ok (.iaload, 1) := by decide +kernel
theorem dX10_presses_71 : decode cX10_presses 71 = .ok (.if_icmp .ge 70, 3) := by decide +kernel
theorem dX10_presses_74 : decode cX10_presses 74 = .ok (.aload_n 0, 1) := by decide +kernel
theorem dX10_presses_75 : decode cX10_presses 75 = .ok (.iload_n 2, 1) := by decide +kernel
theorem dX10_presses_76 : decode cX10_presses 76 = .ok (.invokevirtual 90, 3) := by decide +kernel
theorem dX10_presses_79 : decode cX10_presses 79 = .ok (.ifCond .eq 56, 3) := by decide +kernel
theorem dX10_presses_82 : decode cX10_presses 82 = .ok (.aload_n 0, 1) := by decide +kernel
theorem dX10_presses_83 : decode cX10_presses 83 = .ok (.iload_n 3, 1) := by decide +kernel
theorem dX10_presses_84 : decode cX10_presses 84 = .ok (.invokevirtual 90, 3) := by decide +kernel
theorem dX10_presses_87 : decode cX10_presses 87 = .ok (.ifCond .eq 48, 3) := by decide +kernel
theorem dX10_presses_90 : decode cX10_presses 90 = .ok (.aload_n 0, 1) := by decide +kernel
theorem dX10_presses_91 : decode cX10_presses 91 = .ok (.iload_n 2, 1) := by decide +kernel
theorem dX10_presses_92 : decode cX10_presses 92 = .ok (.iload_n 3, 1) := by decide +kernel
theorem dX10_presses_93 : decode cX10_presses 93 = .ok (.invokevirtual 94, 3) := by decide +kernel
theorem dX10_presses_96 : decode cX10_presses 96 = .ok (.ifCond .eq 39, 3) := by decide +kernel
theorem dX10_presses_99 : decode cX10_presses 99 = .ok (.aload_n 0, 1) := by decide +kernel
theorem dX10_presses_100 : decode cX10_presses 100 = .ok (.getfield 29, 3) := by decide +kernel
theorem dX10_presses_103 : decode cX10_presses 103 = .ok (.iload_n 3, 1) := by decide +kernel
theorem dX10_presses_104 : decode cX10_presses 104 = .ok (.iaload, 1) := by decide +kernel
theorem dX10_presses_105 : decode cX10_presses 105 = .ok (.iconst 1, 1) := by decide +kernel
theorem dX10_presses_106 : decode cX10_presses 106 = .ok (.isub, 1) := by decide +kernel
theorem dX10_presses_107 : decode cX10_presses 107 = .ok (.aload_n 0, 1) := by decide +kernel
theorem dX10_presses_108 : decode cX10_presses 108 = .ok (.getfield 29, 3) := by decide +kernel
theorem dX10_presses_111 : decode cX10_presses 111 = .ok (.iload_n 2, 1) := by decide +kernel
theorem dX10_presses_112 : decode cX10_presses 112 = .ok (.iaload, 1) := by decide +kernel
theorem dX10_presses_113 : decode cX10_presses 113 = .ok (.if_icmp .lt 6, 3) := by decide +kernel
theorem dX10_presses_116 : decode cX10_presses 116 = .ok (.goto 19, 3) := by decide +kernel
theorem dX10_presses_119 : decode cX10_presses 119 = .ok (.aload_n 0, 1) := by decide +kernel
theorem dX10_presses_120 : decode cX10_presses 120 = .ok (.getfield 29, 3) := by decide +kernel
theorem dX10_presses_123 : decode cX10_presses 123 = .ok (.iload_n 2, 1) := by decide +kernel
theorem dX10_presses_124 : decode cX10_presses 124 = .ok (.aload_n 0, 1) := by decide +kernel
theorem dX10_presses_125 : decode cX10_presses 125 = .ok (.getfield 29, 3) := by decide +kernel
theorem dX10_presses_128 : decode cX10_presses 128 = .ok (.iload_n 3, 1) := by decide +kernel
theorem dX10_presses_129 : decode cX10_presses 129 = .ok (.iaload, 1) := by decide +kernel
theorem dX10_presses_130 : decode cX10_presses 130 = .ok (.iconst 1, 1) := by decide +kernel
theorem dX10_presses_131 : decode cX10_presses 131 = .ok (.isub, 1) := by decide +kernel
theorem dX10_presses_132 : decode cX10_presses 132 = .ok (.iastore, 1) := by decide +kernel
theorem dX10_presses_133 : decode cX10_presses 133 = .ok (.iconst 1, 1) := by decide +kernel
theorem dX10_presses_134 : decode cX10_presses 134 = .ok (.istore_n 1, 1) := by decide +kernel
theorem dX10_presses_135 : decode cX10_presses 135 = .ok (.iinc 3 1, 3) := by decide +kernel
theorem dX10_presses_138 : decode cX10_presses 138 = .ok (.goto (-74), 3) := by decide +kernel
theorem dX10_presses_141 : decode cX10_presses 141 = .ok (.iinc 2 1, 3) := by decide +kernel
theorem dX10_presses_144 : decode cX10_presses 144 = .ok (.goto (-92), 3) := by decide +kernel
theorem dX10_presses_147 : decode cX10_presses 147 = .ok (.goto (-103), 3) := by decide +kernel
theorem dX10_presses_150 : decode cX10_presses 150 = .ok (.return_, 1) := by decide +kernel
theorem dX10_isFreeThen_0 : decode cX10_isFreeThen 0 = .ok (.aload_n 0, 1) := by decide +kernel
theorem dX10_isFreeThen_1 : decode cX10_isFreeThen 1 = .ok (.getfield 32, 3) := by decide +kernel
theorem dX10_isFreeThen_4 : decode cX10_isFreeThen 4 = .ok (.iload_n 1, 1) := by decide +kernel
theorem dX10_isFreeThen_5 : decode cX10_isFreeThen 5 = .ok (.baload, 1) := by decide +kernel
theorem dX10_isFreeThen_6 : decode cX10_isFreeThen 6 = .ok (.ifCond .ne 7, 3) := by decide +kernel
theorem dX10_isFreeThen_9 : decode cX10_isFreeThen 9 = .ok (.iconst 1, 1) := by decide +kernel
theorem dX10_isFreeThen_10 : decode cX10_isFreeThen 10 = .ok (.goto 4, 3) := by decide +kernel
theorem dX10_isFreeThen_13 : decode cX10_isFreeThen 13 = .ok (.iconst 0, 1) := by decide +kernel
theorem dX10_isFreeThen_14 : decode cX10_isFreeThen 14 = .ok (.istore_n 2, 1) := by decide +kernel
theorem dX10_isFreeThen_15 : decode cX10_isFreeThen 15 = .ok (.iconst 0, 1) := by decide +kernel
theorem dX10_isFreeThen_16 : decode cX10_isFreeThen 16 = .ok (.istore_n 3, 1) := by decide +kernel
theorem dX10_isFreeThen_17 : decode cX10_isFreeThen 17 = .ok (.iload_n 3, 1) := by decide +kernel
theorem dX10_isFreeThen_18 : decode cX10_isFreeThen 18 = .ok (.aload_n 0, 1) := by decide +kernel
theorem dX10_isFreeThen_19 : decode cX10_isFreeThen 19 = .ok (.getfield 7, 3) := by decide +kernel
theorem dX10_isFreeThen_22 : decode cX10_isFreeThen 22 = .ok (.iconst 5, 1) := by decide +kernel
theorem dX10_isFreeThen_23 : decode cX10_isFreeThen 23 = .ok (.iaload, 1) := by decide +kernel
theorem dX10_isFreeThen_24 : decode cX10_isFreeThen 24 = .ok (.if_icmp .ge 37, 3) := by decide +kernel
theorem dX10_isFreeThen_27 : decode cX10_isFreeThen 27 = .ok (.iload_n 2, 1) := by decide +kernel
theorem dX10_isFreeThen_28 : decode cX10_isFreeThen 28 = .ok (.ifCond .eq 25, 3) := by decide +kernel
theorem dX10_isFreeThen_31 : decode cX10_isFreeThen 31 = .ok (.aload_n 0, 1) := by decide +kernel
theorem dX10_isFreeThen_32 : decode cX10_isFreeThen 32 = .ok (.iload_n 3, 1) := by decide +kernel
theorem dX10_isFreeThen_33 : decode cX10_isFreeThen 33 = .ok (.iload_n 1, 1) := by decide +kernel
theorem dX10_isFreeThen_34 : decode cX10_isFreeThen 34 = .ok (.invokevirtual 94, 3) := by decide +kernel
theorem dX10_isFreeThen_37 : decode cX10_isFreeThen 37 = .ok (.ifCond .eq 12, 3) := by decide +kernel
theorem dX10_isFreeThen_40 : decode cX10_isFreeThen 40 = .ok (.aload_n 0, 1) := by decide +kernel
theorem dX10_isFreeThen_41 : decode cX10_isFreeThen 41 = .ok (.getfield 32, 3) := by decide +kernel
theorem dX10_isFreeThen_44 : decode cX10_isFreeThen 44 = .ok (.iload_n 3, 1) := by decide +kernel
theorem dX10_isFreeThen_45 : decode cX10_isFreeThen 45 = .ok (.baload, 1) := by decide +kernel
theorem dX10_isFreeThen_46 : decode cX10_isFreeThen 46 = .ok (.ifCond .eq 7, 3) := by decide +kernel
theorem dX10_isFreeThen_49 : decode cX10_isFreeThen 49 = .ok (.iconst 1, 1) := by decide +kernel
theorem dX10_isFreeThen_50 : decode cX10_isFreeThen 50 = .ok (.goto 4, 3) := by decide +kernel
theorem dX10_isFreeThen_53 : decode cX10_isFreeThen 53 = .ok (.iconst 0, 1) := by decide +kernel
theorem dX10_isFreeThen_54 : decode cX10_isFreeThen 54 = .ok (.istore_n 2, 1) := by decide +kernel
theorem dX10_isFreeThen_55 : decode cX10_isFreeThen 55 = .ok (.iinc 3 1, 3) := by decide +kernel
theorem dX10_isFreeThen_58 : decode cX10_isFreeThen 58 = .ok (.goto (-41), 3) := by decide +kernel
theorem dX10_isFreeThen_61 : decode cX10_isFreeThen 61 = .ok (.iload_n 2, 1) := by decide +kernel
theorem dX10_isFreeThen_62 : decode cX10_isFreeThen 62 = .ok (.ireturn, 1) := by decide +kernel
theorem dX10_nextBlock_0 : decode cX10_nextBlock 0 = .ok (.iconst (-1), 1) := by decide +kernel
theorem dX10_nextBlock_1 : decode cX10_nextBlock 1 = .ok (.istore_n 1, 1) := by decide +kernel
theorem dX10_nextBlock_2 : decode cX10_nextBlock 2 = .ok (.iconst 0, 1) := by decide +kernel
theorem dX10_nextBlock_3 : decode cX10_nextBlock 3 = .ok (.istore_n 2, 1) := by decide +kernel
theorem dX10_nextBlock_4 : decode cX10_nextBlock 4 = .ok (.iload_n 2, 1) := by decide +kernel
theorem dX10_nextBlock_5 : decode cX10_nextBlock 5 = .ok (.aload_n 0, 1) := by decide +kernel
theorem dX10_nextBlock_6 : decode cX10_nextBlock 6 = .ok (.getfield 7, 3) := by decide +kernel
theorem dX10_nextBlock_9 : decode cX10_nextBlock 9 = .ok (.iconst 5, 1) := by decide +kernel
theorem dX10_nextBlock_10 : decode cX10_nextBlock 10 = .ok (.iaload, 1) := by decide +kernel
theorem dX10_nextBlock_11 : decode cX10_nextBlock 11 = .ok (.if_icmp .ge 38, 3) := by decide +kernel
theorem dX10_nextBlock_14 : decode cX10_nextBlock 14 = .ok (.aload_n 0, 1) := by decide +kernel
theorem dX10_nextBlock_15 : decode cX10_nextBlock 15 = .ok (.iload_n 2, 1) := by decide +kernel
theorem dX10_nextBlock_16 : decode cX10_nextBlock 16 = .ok (.invokevirtual 117, 3) := by decide +kernel
theorem dX10_nextBlock_19 : decode cX10_nextBlock 19 = .ok (.ifCond .eq 24, 3) := by decide +kernel
theorem dX10_nextBlock_22 : decode cX10_nextBlock 22 = .ok (.iload_n 1, 1) := by decide +kernel
theorem dX10_nextBlock_23 : decode cX10_nextBlock 23 = .ok (.ifCond .lt 18, 3) := by decide +kernel
theorem dX10_nextBlock_26 : decode cX10_nextBlock 26 = .ok (.aload_n 0, 1) := by decide +kernel
theorem dX10_nextBlock_27 : decode cX10_nextBlock 27 = .ok (.getfield 29, 3) := by decide +kernel
theorem dX10_nextBlock_30 : decode cX10_nextBlock 30 = .ok (.iload_n 2, 1) := by decide +kernel
theorem dX10_nextBlock_31 : decode cX10_nextBlock 31 = .ok (.iaload, 1) := by decide +kernel
theorem dX10_nextBlock_32 : decode cX10_nextBlock 32 = .ok (.aload_n 0, 1) := by decide +kernel
theorem dX10_nextBlock_33 : decode cX10_nextBlock 33 = .ok (.getfield 29, 3) := by decide +kernel
theorem dX10_nextBlock_36 : decode cX10_nextBlock 36 = .ok (.iload_n 1, 1) := by decide +kernel
theorem dX10_nextBlock_37 : decode cX10_nextBlock 37 = .ok (.iaload, 1) := by decide +kernel
theorem dX10_nextBlock_38 : decode cX10_nextBlock 38 = .ok (.if_icmp .ge 5, 3) := by decide +kernel
theorem dX10_nextBlock_41 : decode cX10_nextBlock 41 = .ok (.iload_n 2, 1) := by decide +kernel
theorem dX10_nextBlock_42 : decode cX10_nextBlock 42 = .ok (.istore_n 1, 1) := by decide +kernel
theorem dX10_nextBlock_43 : decode cX10_nextBlock 43 = .ok (.iinc 2 1, 3) := by decide +kernel
theorem dX10_nextBlock_46 : decode cX10_nextBlock 46 = .ok (.goto (-42), 3) := by decide +kernel
theorem dX10_nextBlock_49 : decode cX10_nextBlock 49 = .ok (.iload_n 1, 1) := by decide +kernel
theorem dX10_nextBlock_50 : decode cX10_nextBlock 50 = .ok (.ireturn, 1) := by decide +kernel
theorem dX10_order_0 : decode cX10_order 0 = .ok (.aload_n 0, 1) := by decide +kernel
theorem dX10_order_1 : decode cX10_order 1 = .ok (.getfield 7, 3) := by decide +kernel
theorem dX10_order_4 : decode cX10_order 4 = .ok (.iconst 5, 1) := by decide +kernel
theorem dX10_order_5 : decode cX10_order 5 = .ok (.iaload, 1) := by decide +kernel
theorem dX10_order_6 : decode cX10_order 6 = .ok (.ifCond .ne 5, 3) := by decide +kernel
theorem dX10_order_9 : decode cX10_order 9 = .ok (.iconst (-1), 1) := by decide +kernel
theorem dX10_order_10 : decode cX10_order 10 = .ok (.ireturn, 1) := by decide +kernel
theorem dX10_order_11 : decode cX10_order 11 = .ok (.aload_n 0, 1) := by decide +kernel
theorem dX10_order_12 : decode cX10_order 12 = .ok (.invokevirtual 120, 3) := by decide +kernel
theorem dX10_order_15 : decode cX10_order 15 = .ok (.iconst 0, 1) := by decide +kernel
theorem dX10_order_16 : decode cX10_order 16 = .ok (.istore_n 1, 1) := by decide +kernel
theorem dX10_order_17 : decode cX10_order 17 = .ok (.iload_n 1, 1) := by decide +kernel
theorem dX10_order_18 : decode cX10_order 18 = .ok (.aload_n 0, 1) := by decide +kernel
theorem dX10_order_19 : decode cX10_order 19 = .ok (.getfield 7, 3) := by decide +kernel
theorem dX10_order_22 : decode cX10_order 22 = .ok (.iconst 5, 1) := by decide +kernel
theorem dX10_order_23 : decode cX10_order 23 = .ok (.iaload, 1) := by decide +kernel
theorem dX10_order_24 : decode cX10_order 24 = .ok (.if_icmp .ge 28, 3) := by decide +kernel
theorem dX10_order_27 : decode cX10_order 27 = .ok (.aload_n 0, 1) := by decide +kernel
theorem dX10_order_28 : decode cX10_order 28 = .ok (.getfield 32, 3) := by decide +kernel
theorem dX10_order_31 : decode cX10_order 31 = .ok (.iload_n 1, 1) := by decide +kernel
theorem dX10_order_32 : decode cX10_order 32 = .ok (.aload_n 0, 1) := by decide +kernel
theorem dX10_order_33 : decode cX10_order 33 = .ok (.iload_n 1, 1) := by decide +kernel
theorem dX10_order_34 : decode cX10_order 34 = .ok (.invokevirtual 90, 3) := by decide +kernel
theorem dX10_order_37 : decode cX10_order 37 = .ok (.ifCond .ne 7, 3) := by decide +kernel
theorem dX10_order_40 : decode cX10_order 40 = .ok (.iconst 1, 1) := by decide +kernel
theorem dX10_order_41 : decode cX10_order 41 = .ok (.goto 4, 3) := by decide +kernel
theorem dX10_order_44 : decode cX10_order 44 = .ok (.iconst 0, 1) := by decide +kernel
theorem dX10_order_45 : decode cX10_order 45 = .ok (.bastore, 1) := by decide +kernel
theorem dX10_order_46 : decode cX10_order 46 = .ok (.iinc 1 1, 3) := by decide +kernel
theorem dX10_order_49 : decode cX10_order 49 = .ok (.goto (-32), 3) := by decide +kernel
theorem dX10_order_52 : decode cX10_order 52 = .ok (.iconst 0, 1) := by decide +kernel
theorem dX10_order_53 : decode cX10_order 53 = .ok (.istore_n 1, 1) := by decide +kernel
theorem dX10_order_54 : decode cX10_order 54 = .ok (.aload_n 0, 1) := by decide +kernel
theorem dX10_order_55 : decode cX10_order 55 = .ok (.getfield 7, 3) := by decide +kernel
theorem dX10_order_58 : decode cX10_order 58 = .ok (.bipush 8, 2) := by decide +kernel
theorem dX10_order_60 : decode cX10_order 60 = .ok (.iconst 0, 1) := by decide +kernel
theorem dX10_order_61 : decode cX10_order 61 = .ok (.iastore, 1) := by decide +kernel
theorem dX10_order_62 : decode cX10_order 62 = .ok (.aload_n 0, 1) := by decide +kernel
theorem dX10_order_63 : decode cX10_order 63 = .ok (.invokevirtual 123, 3) := by decide +kernel
theorem dX10_order_66 : decode cX10_order 66 = .ok (.istore_n 2, 1) := by decide +kernel
theorem dX10_order_67 : decode cX10_order 67 = .ok (.iload_n 2, 1) := by decide +kernel
theorem dX10_order_68 : decode cX10_order 68 = .ok (.ifCond .lt 84, 3) := by decide +kernel
theorem dX10_order_71 : decode cX10_order 71 = .ok (.aload_n 0, 1) := by decide +kernel
theorem dX10_order_72 : decode cX10_order 72 = .ok (.getfield 32, 3) := by decide +kernel
theorem dX10_order_75 : decode cX10_order 75 = .ok (.iload_n 2, 1) := by decide +kernel
theorem dX10_order_76 : decode cX10_order 76 = .ok (.iconst 1, 1) := by decide +kernel
theorem dX10_order_77 : decode cX10_order 77 = .ok (.bastore, 1) := by decide +kernel
theorem dX10_order_78 : decode cX10_order 78 = .ok (.iload_n 1, 1) := by decide +kernel
theorem dX10_order_79 : decode cX10_order 79 = .ok (.aload_n 0, 1) := by decide +kernel
theorem dX10_order_80 : decode cX10_order 80 = .ok (.iload_n 2, 1) := by decide +kernel
theorem dX10_order_81 : decode cX10_order 81 = .ok (.invokevirtual 100, 3) := by decide +kernel
theorem dX10_order_84 : decode cX10_order 84 = .ok (.ifCond .lt 29, 3) := by decide +kernel
theorem dX10_order_87 : decode cX10_order 87 = .ok (.aload_n 0, 1) := by decide +kernel
theorem dX10_order_88 : decode cX10_order 88 = .ok (.getfield 7, 3) := by decide +kernel
theorem dX10_order_91 : decode cX10_order 91 = .ok (.iconst 4, 1) := by decide +kernel
theorem dX10_order_92 : decode cX10_order 92 = .ok (.iaload, 1) := by decide +kernel
theorem dX10_order_93 : decode cX10_order 93 = .ok (.aload_n 0, 1) := by decide +kernel
theorem dX10_order_94 : decode cX10_order 94 = .ok (.getfield 7, 3) := by decide +kernel
theorem dX10_order_97 : decode cX10_order 97 = .ok (.bipush 8, 2) := by decide +kernel
theorem dX10_order_99 : decode cX10_order 99 = .ok (.iaload, 1) := by decide +kernel
theorem dX10_order_100 : decode cX10_order 100 = .ok (.iadd, 1) := by decide +kernel
theorem dX10_order_101 : decode cX10_order 101 = .ok (.aload_n 0, 1) := by decide +kernel
theorem dX10_order_102 : decode cX10_order 102 = .ok (.iload_n 2, 1) := by decide +kernel
theorem dX10_order_103 : decode cX10_order 103 = .ok (.invokevirtual 100, 3) := by decide +kernel
theorem dX10_order_106 : decode cX10_order 106 = .ok (.if_icmp .lt 7, 3) := by decide +kernel
theorem dX10_order_109 : decode cX10_order 109 = .ok (.iconst 1, 1) := by decide +kernel
theorem dX10_order_110 : decode cX10_order 110 = .ok (.goto 4, 3) := by decide +kernel
theorem dX10_order_113 : decode cX10_order 113 = .ok (.iconst 0, 1) := by decide +kernel
theorem dX10_order_114 : decode cX10_order 114 = .ok (.iadd, 1) := by decide +kernel
theorem dX10_order_115 : decode cX10_order 115 = .ok (.istore_n 1, 1) := by decide +kernel
theorem dX10_order_116 : decode cX10_order 116 = .ok (.aload_n 0, 1) := by decide +kernel
theorem dX10_order_117 : decode cX10_order 117 = .ok (.getfield 7, 3) := by decide +kernel
theorem dX10_order_120 : decode cX10_order 120 = .ok (.sipush 690, 3) := by decide +kernel
theorem dX10_order_123 : decode cX10_order 123 = .ok (.aload_n 0, 1) := by decide +kernel
theorem dX10_order_124 : decode cX10_order 124 = .ok (.getfield 7, 3) := by decide +kernel
theorem dX10_order_127 : decode cX10_order 127 = .ok (.bipush 8, 2) := by decide +kernel
theorem dX10_order_129 : decode cX10_order 129 = .ok (.iaload, 1) := by decide +kernel
theorem dX10_order_130 : decode cX10_order 130 = .ok (.iadd, 1) := by decide +kernel
theorem dX10_order_131 : decode cX10_order 131 = .ok (.iload_n 2, 1) := by decide +kernel
theorem dX10_order_132 : decode cX10_order 132 = .ok (.iastore, 1) := by decide +kernel
theorem dX10_order_133 : decode cX10_order 133 = .ok (.aload_n 0, 1) := by decide +kernel
theorem dX10_order_134 : decode cX10_order 134 = .ok (.getfield 7, 3) := by decide +kernel
theorem dX10_order_137 : decode cX10_order 137 = .ok (.bipush 8, 2) := by decide +kernel
theorem dX10_order_139 : decode cX10_order 139 = .ok (.dup2, 1) := by decide +kernel
theorem dX10_order_140 : decode cX10_order 140 = .ok (.iaload, 1) := by decide +kernel
theorem dX10_order_141 : decode cX10_order 141 = .ok (.iconst 1, 1) := by decide +kernel
theorem dX10_order_142 : decode cX10_order 142 = .ok (.iadd, 1) := by decide +kernel
theorem dX10_order_143 : decode cX10_order 143 = .ok (.iastore, 1) := by decide +kernel
theorem dX10_order_144 : decode cX10_order 144 = .ok (.aload_n 0, 1) := by decide +kernel
theorem dX10_order_145 : decode cX10_order 145 = .ok (.invokevirtual 123, 3) := by decide +kernel
theorem dX10_order_148 : decode cX10_order 148 = .ok (.istore_n 2, 1) := by decide +kernel
theorem dX10_order_149 : decode cX10_order 149 = .ok (.goto (-82), 3) := by decide +kernel
theorem dX10_order_152 : decode cX10_order 152 = .ok (.iload_n 1, 1) := by decide +kernel
theorem dX10_order_153 : decode cX10_order 153 = .ok (.ireturn, 1) := by decide +kernel
theorem dX10_ordered_0 : decode cX10_ordered 0 = .ok (.iload_n 1, 1) := by decide +kernel
theorem dX10_ordered_1 : decode cX10_ordered 1 = .ok (.iconst 0, 1) := by decide +kernel
theorem dX10_ordered_2 : decode cX10_ordered 2 = .ok (.aload_n 0, 1) := by decide +kernel
theorem dX10_ordered_3 : decode cX10_ordered 3 = .ok (.getfield 7, 3) := by decide +kernel
theorem dX10_ordered_6 : decode cX10_ordered 6 = .ok (.bipush 8, 2) := by decide +kernel
theorem dX10_ordered_8 : decode cX10_ordered 8 = .ok (.iaload, 1) := by decide +kernel
theorem dX10_ordered_9 : decode cX10_ordered 9 = .ok (.iconst 1, 1) := by decide +kernel
theorem dX10_ordered_10 : decode cX10_ordered 10 = .ok (.isub, 1) := by decide +kernel
theorem dX10_ordered_11 : decode cX10_ordered 11 = .ok (.invokestatic 42, 3) := by decide +kernel
theorem dX10_ordered_14 : decode cX10_ordered 14 = .ok (.ifCond .eq 16, 3) := by decide +kernel
theorem dX10_ordered_17 : decode cX10_ordered 17 = .ok (.aload_n 0, 1) := by decide +kernel
theorem dX10_ordered_18 : decode cX10_ordered 18 = .ok (.getfield 7, 3) := by decide +kernel
theorem dX10_ordered_21 : decode cX10_ordered 21 = .ok (.sipush 690, 3) := by decide +kernel
theorem dX10_ordered_24 : decode cX10_ordered 24 = .ok (.iload_n 1, 1) := by decide +kernel
theorem dX10_ordered_25 : decode cX10_ordered 25 = .ok (.iadd, 1) := by decide +kernel
theorem dX10_ordered_26 : decode cX10_ordered 26 = .ok (.iaload, 1) := by decide +kernel
theorem dX10_ordered_27 : decode cX10_ordered 27 = .ok (.goto 4, 3) := by decide +kernel
theorem dX10_ordered_30 : decode cX10_ordered 30 = .ok (.iconst (-1), 1) := by decide +kernel
theorem dX10_ordered_31 : decode cX10_ordered 31 = .ok (.ireturn, 1) := by decide +kernel
theorem dX10_direction_0 : decode cX10_direction 0 = .ok (.iconst 4, 1) := by decide +kernel
theorem dX10_direction_1 : decode cX10_direction 1 = .ok (.iload_n 0, 1) := by decide +kernel
theorem dX10_direction_2 : decode cX10_direction 2 = .ok (.imul, 1) := by decide +kernel
theorem dX10_direction_3 : decode cX10_direction 3 = .ok (.sipush 1460, 3) := by decide +kernel
theorem dX10_direction_6 : decode cX10_direction 6 = .ok (.irem, 1) := by decide +kernel
theorem dX10_direction_7 : decode cX10_direction 7 = .ok (.sipush 730, 3) := by decide +kernel
theorem dX10_direction_10 : decode cX10_direction 10 = .ok (.isub, 1) := by decide +kernel
theorem dX10_direction_11 : decode cX10_direction 11 = .ok (.istore_n 1, 1) := by decide +kernel
theorem dX10_direction_12 : decode cX10_direction 12 = .ok (.iload_n 1, 1) := by decide +kernel
theorem dX10_direction_13 : decode cX10_direction 13 = .ok (.ifCond .ge 8, 3) := by decide +kernel
theorem dX10_direction_16 : decode cX10_direction 16 = .ok (.iload_n 1, 1) := by decide +kernel
theorem dX10_direction_17 : decode cX10_direction 17 = .ok (.ineg, 1) := by decide +kernel
theorem dX10_direction_18 : decode cX10_direction 18 = .ok (.goto 4, 3) := by decide +kernel
theorem dX10_direction_21 : decode cX10_direction 21 = .ok (.iload_n 1, 1) := by decide +kernel
theorem dX10_direction_22 : decode cX10_direction 22 = .ok (.sipush 365, 3) := by decide +kernel
theorem dX10_direction_25 : decode cX10_direction 25 = .ok (.isub, 1) := by decide +kernel
theorem dX10_direction_26 : decode cX10_direction 26 = .ok (.ireturn, 1) := by decide +kernel
theorem dX10_sun_0 : decode cX10_sun 0 = .ok (.iload_n 1, 1) := by decide +kernel
theorem dX10_sun_1 : decode cX10_sun 1 = .ok (.iconst 0, 1) := by decide +kernel
theorem dX10_sun_2 : decode cX10_sun 2 = .ok (.sipush 364, 3) := by decide +kernel
theorem dX10_sun_5 : decode cX10_sun 5 = .ok (.invokestatic 42, 3) := by decide +kernel
theorem dX10_sun_8 : decode cX10_sun 8 = .ok (.ifCond .eq 10, 3) := by decide +kernel
theorem dX10_sun_11 : decode cX10_sun 11 = .ok (.iload_n 1, 1) := by decide +kernel
theorem dX10_sun_12 : decode cX10_sun 12 = .ok (.invokestatic 126, 3) := by decide +kernel
theorem dX10_sun_15 : decode cX10_sun 15 = .ok (.goto 6, 3) := by decide +kernel
theorem dX10_sun_18 : decode cX10_sun 18 = .ok (.sipush (-1000), 3) := by decide +kernel
theorem dX10_sun_21 : decode cX10_sun 21 = .ok (.ireturn, 1) := by decide +kernel
theorem dX10_strikesOn_0 : decode cX10_strikesOn 0 = .ok (.iload_n 0, 1) := by decide +kernel
theorem dX10_strikesOn_1 : decode cX10_strikesOn 1 = .ok (.invokestatic 126, 3) := by decide +kernel
theorem dX10_strikesOn_4 : decode cX10_strikesOn 4 = .ok (.iload_n 1, 1) := by decide +kernel
theorem dX10_strikesOn_5 : decode cX10_strikesOn 5 = .ok (.iload_n 2, 1) := by decide +kernel
theorem dX10_strikesOn_6 : decode cX10_strikesOn 6 = .ok (.isub, 1) := by decide +kernel
theorem dX10_strikesOn_7 : decode cX10_strikesOn 7 = .ok (.iload_n 1, 1) := by decide +kernel
theorem dX10_strikesOn_8 : decode cX10_strikesOn 8 = .ok (.iload_n 2, 1) := by decide +kernel
theorem dX10_strikesOn_9 : decode cX10_strikesOn 9 = .ok (.iadd, 1) := by decide +kernel
theorem dX10_strikesOn_10 : decode cX10_strikesOn 10 = .ok (.invokestatic 42, 3) := by decide +kernel
theorem dX10_strikesOn_13 : decode cX10_strikesOn 13 = .ok (.ireturn, 1) := by decide +kernel
theorem dX10_isPlace_0 : decode cX10_isPlace 0 = .ok (.iload_n 0, 1) := by decide +kernel
theorem dX10_isPlace_1 : decode cX10_isPlace 1 = .ok (.sipush (-400), 3) := by decide +kernel
theorem dX10_isPlace_4 : decode cX10_isPlace 4 = .ok (.sipush 400, 3) := by decide +kernel
theorem dX10_isPlace_7 : decode cX10_isPlace 7 = .ok (.invokestatic 42, 3) := by decide +kernel
theorem dX10_isPlace_10 : decode cX10_isPlace 10 = .ok (.ifCond .eq 18, 3) := by decide +kernel
theorem dX10_isPlace_13 : decode cX10_isPlace 13 = .ok (.iload_n 1, 1) := by decide +kernel
theorem dX10_isPlace_14 : decode cX10_isPlace 14 = .ok (.iconst 0, 1) := by decide +kernel
theorem dX10_isPlace_15 : decode cX10_isPlace 15 = .ok (.sipush 400, 3) := by decide +kernel
theorem dX10_isPlace_18 : decode cX10_isPlace 18 = .ok (.invokestatic 42, 3) := by decide +kernel
theorem dX10_isPlace_21 : decode cX10_isPlace 21 = .ok (.ifCond .eq 7, 3) := by decide +kernel
theorem dX10_isPlace_24 : decode cX10_isPlace 24 = .ok (.iconst 1, 1) := by decide +kernel
theorem dX10_isPlace_25 : decode cX10_isPlace 25 = .ok (.goto 4, 3) := by decide +kernel
theorem dX10_isPlace_28 : decode cX10_isPlace 28 = .ok (.iconst 0, 1) := by decide +kernel
theorem dX10_isPlace_29 : decode cX10_isPlace 29 = .ok (.ireturn, 1) := by decide +kernel
theorem dX10_strikes_0 : decode cX10_strikes 0 = .ok (.iload_n 1, 1) := by decide +kernel
theorem dX10_strikes_1 : decode cX10_strikes 1 = .ok (.iload_n 2, 1) := by decide +kernel
theorem dX10_strikes_2 : decode cX10_strikes 2 = .ok (.invokestatic 129, 3) := by decide +kernel
theorem dX10_strikes_5 : decode cX10_strikes 5 = .ok (.ifCond .ne 5, 3) := by decide +kernel
theorem dX10_strikes_8 : decode cX10_strikes 8 = .ok (.iconst (-1), 1) := by decide +kernel
theorem dX10_strikes_9 : decode cX10_strikes 9 = .ok (.ireturn, 1) := by decide +kernel
theorem dX10_strikes_10 : decode cX10_strikes 10 = .ok (.iconst 0, 1) := by decide +kernel
theorem dX10_strikes_11 : decode cX10_strikes 11 = .ok (.istore_n 3, 1) := by decide +kernel
theorem dX10_strikes_12 : decode cX10_strikes 12 = .ok (.iconst 0, 1) := by decide +kernel
theorem dX10_strikes_13 : decode cX10_strikes 13 = .ok (.istore 4, 2) := by decide +kernel
theorem dX10_strikes_15 : decode cX10_strikes 15 = .ok (.iload 4, 2) := by decide +kernel
theorem dX10_strikes_17 : decode cX10_strikes 17 = .ok (.sipush 365, 3) := by decide +kernel
theorem dX10_strikes_20 : decode cX10_strikes 20 = .ok (.if_icmp .ge 27, 3) := by decide +kernel
theorem dX10_strikes_23 : decode cX10_strikes 23 = .ok (.iload_n 3, 1) := by decide +kernel
theorem dX10_strikes_24 : decode cX10_strikes 24 = .ok (.iload 4, 2) := by decide +kernel
theorem dX10_strikes_26 : decode cX10_strikes 26 = .ok (.iload_n 1, 1) := by decide +kernel
theorem dX10_strikes_27 : decode cX10_strikes 27 = .ok (.iload_n 2, 1) := by decide +kernel
theorem dX10_strikes_28 : decode cX10_strikes 28 = .ok (.invokestatic 132, 3) := by decide +kernel
theorem dX10_strikes_31 : decode cX10_strikes 31 = .ok (.ifCond .eq 7, 3) := by decide +kernel
theorem dX10_strikes_34 : decode cX10_strikes 34 = .ok (.iconst 1, 1) := by decide +kernel
theorem dX10_strikes_35 : decode cX10_strikes 35 = .ok (.goto 4, 3) := by decide +kernel
theorem dX10_strikes_38 : decode cX10_strikes 38 = .ok (.iconst 0, 1) := by decide +kernel
theorem dX10_strikes_39 : decode cX10_strikes 39 = .ok (.iadd, 1) := by decide +kernel
theorem dX10_strikes_40 : decode cX10_strikes 40 = .ok (.istore_n 3, 1) := by decide +kernel
theorem dX10_strikes_41 : decode cX10_strikes 41 = .ok (.iinc 4 1, 3) := by decide +kernel
theorem dX10_strikes_44 : decode cX10_strikes 44 = .ok (.goto (-29), 3) := by decide +kernel
theorem dX10_strikes_47 : decode cX10_strikes 47 = .ok (.iload_n 3, 1) := by decide +kernel
theorem dX10_strikes_48 : decode cX10_strikes 48 = .ok (.ireturn, 1) := by decide +kernel
theorem dX10_like_0 : decode cX10_like 0 = .ok (.iload_n 1, 1) := by decide +kernel
theorem dX10_like_1 : decode cX10_like 1 = .ok (.iload_n 2, 1) := by decide +kernel
theorem dX10_like_2 : decode cX10_like 2 = .ok (.invokestatic 129, 3) := by decide +kernel
theorem dX10_like_5 : decode cX10_like 5 = .ok (.ifCond .eq 11, 3) := by decide +kernel
theorem dX10_like_8 : decode cX10_like 8 = .ok (.iconst 0, 1) := by decide +kernel
theorem dX10_like_9 : decode cX10_like 9 = .ok (.iload_n 3, 1) := by decide +kernel
theorem dX10_like_10 : decode cX10_like 10 = .ok (.invokestatic 129, 3) := by decide +kernel
theorem dX10_like_13 : decode cX10_like 13 = .ok (.ifCond .ne 7, 3) := by decide +kernel
theorem dX10_like_16 : decode cX10_like 16 = .ok (.sipush (-1000), 3) := by decide +kernel
theorem dX10_like_19 : decode cX10_like 19 = .ok (.ireturn, 1) := by decide +kernel
theorem dX10_like_20 : decode cX10_like 20 = .ok (.iconst 0, 1) := by decide +kernel
theorem dX10_like_21 : decode cX10_like 21 = .ok (.istore 4, 2) := by decide +kernel
end
section
theorem dX10_like_23 : decode cX10_like 23 = .ok (.sipush 366, 3) := by decide +kernel
theorem dX10_like_26 : decode cX10_like 26 = .ok (.istore 5, 2) := by decide +kernel
theorem dX10_like_28 : decode cX10_like 28 = .ok (.sipush (-400), 3) := by decide +kernel
theorem dX10_like_31 : decode cX10_like 31 = .ok (.istore 6, 2) := by decide +kernel
theorem dX10_like_33 : decode cX10_like 33 = .ok (.iload 6, 2) := by decide +kernel
theorem dX10_like_35 : decode cX10_like 35 = .ok (.sipush 400, 3) := by decide +kernel
theorem dX10_like_38 : decode cX10_like 38 = .ok (.if_icmp .gt 75, 3) := by decide +kernel
theorem dX10_like_41 : decode cX10_like 41 = .ok (.iconst 0, 1) := by decide +kernel
theorem dX10_like_42 : decode cX10_like 42 = .ok (.istore 7, 2) := by decide +kernel
theorem dX10_like_44 : decode cX10_like 44 = .ok (.iconst 0, 1) := by decide +kernel
theorem dX10_like_45 : decode cX10_like 45 = .ok (.istore 8, 2) := by decide +kernel
theorem dX10_like_47 : decode cX10_like 47 = .ok (.iload 8, 2) := by decide +kernel
theorem dX10_like_49 : decode cX10_like 49 = .ok (.sipush 365, 3) := by decide +kernel
theorem dX10_like_52 : decode cX10_like 52 = .ok (.if_icmp .ge 37, 3) := by decide +kernel
theorem dX10_like_55 : decode cX10_like 55 = .ok (.iload 7, 2) := by decide +kernel
theorem dX10_like_57 : decode cX10_like 57 = .ok (.iload 8, 2) := by decide +kernel
theorem dX10_like_59 : decode cX10_like 59 = .ok (.iload_n 1, 1) := by decide +kernel
theorem dX10_like_60 : decode cX10_like 60 = .ok (.iload_n 2, 1) := by decide +kernel
theorem dX10_like_61 : decode cX10_like 61 = .ok (.invokestatic 132, 3) := by decide +kernel
theorem dX10_like_64 : decode cX10_like 64 = .ok (.iload 8, 2) := by decide +kernel
theorem dX10_like_66 : decode cX10_like 66 = .ok (.iload 6, 2) := by decide +kernel
theorem dX10_like_68 : decode cX10_like 68 = .ok (.iload_n 3, 1) := by decide +kernel
theorem dX10_like_69 : decode cX10_like 69 = .ok (.invokestatic 132, 3) := by decide +kernel
theorem dX10_like_72 : decode cX10_like 72 = .ok (.if_icmp .eq 7, 3) := by decide +kernel
theorem dX10_like_75 : decode cX10_like 75 = .ok (.iconst 1, 1) := by decide +kernel
theorem dX10_like_76 : decode cX10_like 76 = .ok (.goto 4, 3) := by decide +kernel
theorem dX10_like_79 : decode cX10_like 79 = .ok (.iconst 0, 1) := by decide +kernel
theorem dX10_like_80 : decode cX10_like 80 = .ok (.iadd, 1) := by decide +kernel
theorem dX10_like_81 : decode cX10_like 81 = .ok (.istore 7, 2) := by decide +kernel
theorem dX10_like_83 : decode cX10_like 83 = .ok (.iinc 8 1, 3) := by decide +kernel
theorem dX10_like_86 : decode cX10_like 86 = .ok (.goto (-39), 3) := by decide +kernel
theorem dX10_like_89 : decode cX10_like 89 = .ok (.iload 7, 2) := by decide +kernel
theorem dX10_like_91 : decode cX10_like 91 = .ok (.iload 5, 2) := by decide +kernel
theorem dX10_like_93 : decode cX10_like 93 = .ok (.if_icmp .lt 6, 3) := by decide +kernel
theorem dX10_like_96 : decode cX10_like 96 = .ok (.goto 11, 3) := by decide +kernel
theorem dX10_like_99 : decode cX10_like 99 = .ok (.iload 7, 2) := by decide +kernel
theorem dX10_like_101 : decode cX10_like 101 = .ok (.istore 5, 2) := by decide +kernel
theorem dX10_like_103 : decode cX10_like 103 = .ok (.iload 6, 2) := by decide +kernel
theorem dX10_like_105 : decode cX10_like 105 = .ok (.istore 4, 2) := by decide +kernel
theorem dX10_like_107 : decode cX10_like 107 = .ok (.iinc 6 1, 3) := by decide +kernel
theorem dX10_like_110 : decode cX10_like 110 = .ok (.goto (-77), 3) := by decide +kernel
theorem dX10_like_113 : decode cX10_like 113 = .ok (.iload 4, 2) := by decide +kernel
theorem dX10_like_115 : decode cX10_like 115 = .ok (.ireturn, 1) := by decide +kernel
theorem dX10_count_0 : decode cX10_count 0 = .ok (.iload_n 1, 1) := by decide +kernel
theorem dX10_count_1 : decode cX10_count 1 = .ok (.tableswitch 149 0 10 #[59, 66, 73, 80, 85, 93, 101, 108, 127, 134, 141], 59) := by decide +kernel
theorem dX10_count_60 : decode cX10_count 60 = .ok (.aload_n 0, 1) := by decide +kernel
theorem dX10_count_61 : decode cX10_count 61 = .ok (.getfield 7, 3) := by decide +kernel
theorem dX10_count_64 : decode cX10_count 64 = .ok (.iconst 0, 1) := by decide +kernel
theorem dX10_count_65 : decode cX10_count 65 = .ok (.iaload, 1) := by decide +kernel
theorem dX10_count_66 : decode cX10_count 66 = .ok (.ireturn, 1) := by decide +kernel
theorem dX10_count_67 : decode cX10_count 67 = .ok (.aload_n 0, 1) := by decide +kernel
theorem dX10_count_68 : decode cX10_count 68 = .ok (.getfield 7, 3) := by decide +kernel
theorem dX10_count_71 : decode cX10_count 71 = .ok (.iconst 1, 1) := by decide +kernel
theorem dX10_count_72 : decode cX10_count 72 = .ok (.iaload, 1) := by decide +kernel
theorem dX10_count_73 : decode cX10_count 73 = .ok (.ireturn, 1) := by decide +kernel
theorem dX10_count_74 : decode cX10_count 74 = .ok (.aload_n 0, 1) := by decide +kernel
theorem dX10_count_75 : decode cX10_count 75 = .ok (.getfield 7, 3) := by decide +kernel
theorem dX10_count_78 : decode cX10_count 78 = .ok (.iconst 5, 1) := by decide +kernel
theorem dX10_count_79 : decode cX10_count 79 = .ok (.iaload, 1) := by decide +kernel
theorem dX10_count_80 : decode cX10_count 80 = .ok (.ireturn, 1) := by decide +kernel
theorem dX10_count_81 : decode cX10_count 81 = .ok (.aload_n 0, 1) := by decide +kernel
theorem dX10_count_82 : decode cX10_count 82 = .ok (.invokevirtual 109, 3) := by decide +kernel
theorem dX10_count_85 : decode cX10_count 85 = .ok (.ireturn, 1) := by decide +kernel
theorem dX10_count_86 : decode cX10_count 86 = .ok (.aload_n 0, 1) := by decide +kernel
theorem dX10_count_87 : decode cX10_count 87 = .ok (.getfield 7, 3) := by decide +kernel
theorem dX10_count_90 : decode cX10_count 90 = .ok (.bipush 6, 2) := by decide +kernel
theorem dX10_count_92 : decode cX10_count 92 = .ok (.iaload, 1) := by decide +kernel
theorem dX10_count_93 : decode cX10_count 93 = .ok (.ireturn, 1) := by decide +kernel
theorem dX10_count_94 : decode cX10_count 94 = .ok (.aload_n 0, 1) := by decide +kernel
theorem dX10_count_95 : decode cX10_count 95 = .ok (.getfield 7, 3) := by decide +kernel
theorem dX10_count_98 : decode cX10_count 98 = .ok (.bipush 7, 2) := by decide +kernel
theorem dX10_count_100 : decode cX10_count 100 = .ok (.iaload, 1) := by decide +kernel
theorem dX10_count_101 : decode cX10_count 101 = .ok (.ireturn, 1) := by decide +kernel
theorem dX10_count_102 : decode cX10_count 102 = .ok (.aload_n 0, 1) := by decide +kernel
theorem dX10_count_103 : decode cX10_count 103 = .ok (.getfield 7, 3) := by decide +kernel
theorem dX10_count_106 : decode cX10_count 106 = .ok (.iconst 4, 1) := by decide +kernel
theorem dX10_count_107 : decode cX10_count 107 = .ok (.iaload, 1) := by decide +kernel
theorem dX10_count_108 : decode cX10_count 108 = .ok (.ireturn, 1) := by decide +kernel
theorem dX10_count_109 : decode cX10_count 109 = .ok (.aload_n 0, 1) := by decide +kernel
theorem dX10_count_110 : decode cX10_count 110 = .ok (.iconst 0, 1) := by decide +kernel
theorem dX10_count_111 : decode cX10_count 111 = .ok (.iconst 0, 1) := by decide +kernel
theorem dX10_count_112 : decode cX10_count 112 = .ok (.aload_n 0, 1) := by decide +kernel
theorem dX10_count_113 : decode cX10_count 113 = .ok (.getfield 7, 3) := by decide +kernel
theorem dX10_count_116 : decode cX10_count 116 = .ok (.iconst 0, 1) := by decide +kernel
theorem dX10_count_117 : decode cX10_count 117 = .ok (.iaload, 1) := by decide +kernel
theorem dX10_count_118 : decode cX10_count 118 = .ok (.aload_n 0, 1) := by decide +kernel
theorem dX10_count_119 : decode cX10_count 119 = .ok (.getfield 7, 3) := by decide +kernel
theorem dX10_count_122 : decode cX10_count 122 = .ok (.iconst 1, 1) := by decide +kernel
theorem dX10_count_123 : decode cX10_count 123 = .ok (.iaload, 1) := by decide +kernel
theorem dX10_count_124 : decode cX10_count 124 = .ok (.invokevirtual 57, 3) := by decide +kernel
theorem dX10_count_127 : decode cX10_count 127 = .ok (.ireturn, 1) := by decide +kernel
theorem dX10_count_128 : decode cX10_count 128 = .ok (.aload_n 0, 1) := by decide +kernel
theorem dX10_count_129 : decode cX10_count 129 = .ok (.getfield 7, 3) := by decide +kernel
theorem dX10_count_132 : decode cX10_count 132 = .ok (.iconst 2, 1) := by decide +kernel
theorem dX10_count_133 : decode cX10_count 133 = .ok (.iaload, 1) := by decide +kernel
theorem dX10_count_134 : decode cX10_count 134 = .ok (.ireturn, 1) := by decide +kernel
theorem dX10_count_135 : decode cX10_count 135 = .ok (.aload_n 0, 1) := by decide +kernel
theorem dX10_count_136 : decode cX10_count 136 = .ok (.getfield 7, 3) := by decide +kernel
theorem dX10_count_139 : decode cX10_count 139 = .ok (.iconst 3, 1) := by decide +kernel
theorem dX10_count_140 : decode cX10_count 140 = .ok (.iaload, 1) := by decide +kernel
theorem dX10_count_141 : decode cX10_count 141 = .ok (.ireturn, 1) := by decide +kernel
theorem dX10_count_142 : decode cX10_count 142 = .ok (.aload_n 0, 1) := by decide +kernel
theorem dX10_count_143 : decode cX10_count 143 = .ok (.getfield 7, 3) := by decide +kernel
theorem dX10_count_146 : decode cX10_count 146 = .ok (.bipush 8, 2) := by decide +kernel
theorem dX10_count_148 : decode cX10_count 148 = .ok (.iaload, 1) := by decide +kernel
theorem dX10_count_149 : decode cX10_count 149 = .ok (.ireturn, 1) := by decide +kernel
theorem dX10_count_150 : decode cX10_count 150 = .ok (.iconst (-1), 1) := by decide +kernel
theorem dX10_count_151 : decode cX10_count 151 = .ok (.ireturn, 1) := by decide +kernel
theorem dX10_image_0 : decode cX10_image 0 = .ok (.iload_n 1, 1) := by decide +kernel
theorem dX10_image_1 : decode cX10_image 1 = .ok (.iconst 0, 1) := by decide +kernel
theorem dX10_image_2 : decode cX10_image 2 = .ok (.iconst 2, 1) := by decide +kernel
theorem dX10_image_3 : decode cX10_image 3 = .ok (.invokestatic 42, 3) := by decide +kernel
theorem dX10_image_6 : decode cX10_image 6 = .ok (.ifCond .ne 5, 3) := by decide +kernel
theorem dX10_image_9 : decode cX10_image 9 = .ok (.iconst 0, 1) := by decide +kernel
theorem dX10_image_10 : decode cX10_image 10 = .ok (.ireturn, 1) := by decide +kernel
theorem dX10_image_11 : decode cX10_image 11 = .ok (.aload_n 0, 1) := by decide +kernel
theorem dX10_image_12 : decode cX10_image 12 = .ok (.getfield 13, 3) := by decide +kernel
theorem dX10_image_15 : decode cX10_image 15 = .ok (.iload_n 1, 1) := by decide +kernel
theorem dX10_image_16 : decode cX10_image 16 = .ok (.iconst 1, 1) := by decide +kernel
theorem dX10_image_17 : decode cX10_image 17 = .ok (.bastore, 1) := by decide +kernel
theorem dX10_image_18 : decode cX10_image 18 = .ok (.iconst 0, 1) := by decide +kernel
theorem dX10_image_19 : decode cX10_image 19 = .ok (.istore_n 2, 1) := by decide +kernel
theorem dX10_image_20 : decode cX10_image 20 = .ok (.iload_n 2, 1) := by decide +kernel
theorem dX10_image_21 : decode cX10_image 21 = .ok (.sipush 830, 3) := by decide +kernel
theorem dX10_image_24 : decode cX10_image 24 = .ok (.if_icmp .ge 29, 3) := by decide +kernel
theorem dX10_image_27 : decode cX10_image 27 = .ok (.aload_n 0, 1) := by decide +kernel
theorem dX10_image_28 : decode cX10_image 28 = .ok (.getfield 7, 3) := by decide +kernel
theorem dX10_image_31 : decode cX10_image 31 = .ok (.sipush 830, 3) := by decide +kernel
theorem dX10_image_34 : decode cX10_image 34 = .ok (.iload_n 1, 1) := by decide +kernel
theorem dX10_image_35 : decode cX10_image 35 = .ok (.iconst 1, 1) := by decide +kernel
theorem dX10_image_36 : decode cX10_image 36 = .ok (.iadd, 1) := by decide +kernel
theorem dX10_image_37 : decode cX10_image 37 = .ok (.imul, 1) := by decide +kernel
theorem dX10_image_38 : decode cX10_image 38 = .ok (.iload_n 2, 1) := by decide +kernel
theorem dX10_image_39 : decode cX10_image 39 = .ok (.iadd, 1) := by decide +kernel
theorem dX10_image_40 : decode cX10_image 40 = .ok (.aload_n 0, 1) := by decide +kernel
theorem dX10_image_41 : decode cX10_image 41 = .ok (.getfield 7, 3) := by decide +kernel
theorem dX10_image_44 : decode cX10_image 44 = .ok (.iload_n 2, 1) := by decide +kernel
theorem dX10_image_45 : decode cX10_image 45 = .ok (.iaload, 1) := by decide +kernel
theorem dX10_image_46 : decode cX10_image 46 = .ok (.iastore, 1) := by decide +kernel
theorem dX10_image_47 : decode cX10_image 47 = .ok (.iinc 2 1, 3) := by decide +kernel
theorem dX10_image_50 : decode cX10_image 50 = .ok (.goto (-30), 3) := by decide +kernel
theorem dX10_image_53 : decode cX10_image 53 = .ok (.iconst 1, 1) := by decide +kernel
theorem dX10_image_54 : decode cX10_image 54 = .ok (.ireturn, 1) := by decide +kernel
theorem dX10_again_0 : decode cX10_again 0 = .ok (.iload_n 1, 1) := by decide +kernel
theorem dX10_again_1 : decode cX10_again 1 = .ok (.iconst 0, 1) := by decide +kernel
theorem dX10_again_2 : decode cX10_again 2 = .ok (.iconst 2, 1) := by decide +kernel
theorem dX10_again_3 : decode cX10_again 3 = .ok (.invokestatic 42, 3) := by decide +kernel
theorem dX10_again_6 : decode cX10_again 6 = .ok (.ifCond .eq 12, 3) := by decide +kernel
theorem dX10_again_9 : decode cX10_again 9 = .ok (.aload_n 0, 1) := by decide +kernel
theorem dX10_again_10 : decode cX10_again 10 = .ok (.getfield 13, 3) := by decide +kernel
theorem dX10_again_13 : decode cX10_again 13 = .ok (.iload_n 1, 1) := by decide +kernel
theorem dX10_again_14 : decode cX10_again 14 = .ok (.baload, 1) := by decide +kernel
theorem dX10_again_15 : decode cX10_again 15 = .ok (.ifCond .ne 5, 3) := by decide +kernel
theorem dX10_again_18 : decode cX10_again 18 = .ok (.iconst 0, 1) := by decide +kernel
theorem dX10_again_19 : decode cX10_again 19 = .ok (.ireturn, 1) := by decide +kernel
theorem dX10_again_20 : decode cX10_again 20 = .ok (.iconst 0, 1) := by decide +kernel
theorem dX10_again_21 : decode cX10_again 21 = .ok (.istore_n 2, 1) := by decide +kernel
theorem dX10_again_22 : decode cX10_again 22 = .ok (.iload_n 2, 1) := by decide +kernel
theorem dX10_again_23 : decode cX10_again 23 = .ok (.sipush 830, 3) := by decide +kernel
theorem dX10_again_26 : decode cX10_again 26 = .ok (.if_icmp .ge 29, 3) := by decide +kernel
theorem dX10_again_29 : decode cX10_again 29 = .ok (.aload_n 0, 1) := by decide +kernel
theorem dX10_again_30 : decode cX10_again 30 = .ok (.getfield 7, 3) := by decide +kernel
theorem dX10_again_33 : decode cX10_again 33 = .ok (.iload_n 2, 1) := by decide +kernel
theorem dX10_again_34 : decode cX10_again 34 = .ok (.aload_n 0, 1) := by decide +kernel
theorem dX10_again_35 : decode cX10_again 35 = .ok (.getfield 7, 3) := by decide +kernel
theorem dX10_again_38 : decode cX10_again 38 = .ok (.sipush 830, 3) := by decide +kernel
theorem dX10_again_41 : decode cX10_again 41 = .ok (.iload_n 1, 1) := by decide +kernel
theorem dX10_again_42 : decode cX10_again 42 = .ok (.iconst 1, 1) := by decide +kernel
theorem dX10_again_43 : decode cX10_again 43 = .ok (.iadd, 1) := by decide +kernel
theorem dX10_again_44 : decode cX10_again 44 = .ok (.imul, 1) := by decide +kernel
theorem dX10_again_45 : decode cX10_again 45 = .ok (.iload_n 2, 1) := by decide +kernel
theorem dX10_again_46 : decode cX10_again 46 = .ok (.iadd, 1) := by decide +kernel
theorem dX10_again_47 : decode cX10_again 47 = .ok (.iaload, 1) := by decide +kernel
theorem dX10_again_48 : decode cX10_again 48 = .ok (.iastore, 1) := by decide +kernel
theorem dX10_again_49 : decode cX10_again 49 = .ok (.iinc 2 1, 3) := by decide +kernel
theorem dX10_again_52 : decode cX10_again 52 = .ok (.goto (-30), 3) := by decide +kernel
theorem dX10_again_55 : decode cX10_again 55 = .ok (.iconst 1, 1) := by decide +kernel
theorem dX10_again_56 : decode cX10_again 56 = .ok (.ireturn, 1) := by decide +kernel
theorem dJ9_abs_0f7a4_0 : decode cJ9_abs_0f7a4 0 = .ok (.iload_n 0, 1) := by decide +kernel
theorem dJ9_abs_0f7a4_1 : decode cJ9_abs_0f7a4 1 = .ok (.ifCond .ge 8, 3) := by decide +kernel
theorem dJ9_abs_0f7a4_4 : decode cJ9_abs_0f7a4 4 = .ok (.iload_n 0, 1) := by decide +kernel
theorem dJ9_abs_0f7a4_5 : decode cJ9_abs_0f7a4 5 = .ok (.ineg, 1) := by decide +kernel
theorem dJ9_abs_0f7a4_6 : decode cJ9_abs_0f7a4 6 = .ok (.goto 4, 3) := by decide +kernel
theorem dJ9_abs_0f7a4_9 : decode cJ9_abs_0f7a4 9 = .ok (.iload_n 0, 1) := by decide +kernel
theorem dJ9_abs_0f7a4_10 : decode cJ9_abs_0f7a4 10 = .ok (.ireturn, 1) := by decide +kernel
theorem dJ9_max_7cf53_0 : decode cJ9_max_7cf53 0 = .ok (.iload_n 0, 1) := by decide +kernel
theorem dJ9_max_7cf53_1 : decode cJ9_max_7cf53 1 = .ok (.iload_n 1, 1) := by decide +kernel
theorem dJ9_max_7cf53_2 : decode cJ9_max_7cf53 2 = .ok (.if_icmp .lt 7, 3) := by decide +kernel
theorem dJ9_max_7cf53_5 : decode cJ9_max_7cf53 5 = .ok (.iload_n 0, 1) := by decide +kernel
theorem dJ9_max_7cf53_6 : decode cJ9_max_7cf53 6 = .ok (.goto 4, 3) := by decide +kernel
theorem dJ9_max_7cf53_9 : decode cJ9_max_7cf53 9 = .ok (.iload_n 1, 1) := by decide +kernel
theorem dJ9_max_7cf53_10 : decode cJ9_max_7cf53 10 = .ok (.ireturn, 1) := by decide +kernel
theorem dJ9_min_7cf53_0 : decode cJ9_min_7cf53 0 = .ok (.iload_n 0, 1) := by decide +kernel
theorem dJ9_min_7cf53_1 : decode cJ9_min_7cf53 1 = .ok (.iload_n 1, 1) := by decide +kernel
theorem dJ9_min_7cf53_2 : decode cJ9_min_7cf53 2 = .ok (.if_icmp .gt 7, 3) := by decide +kernel
theorem dJ9_min_7cf53_5 : decode cJ9_min_7cf53 5 = .ok (.iload_n 0, 1) := by decide +kernel
theorem dJ9_min_7cf53_6 : decode cJ9_min_7cf53 6 = .ok (.goto 4, 3) := by decide +kernel
theorem dJ9_min_7cf53_9 : decode cJ9_min_7cf53 9 = .ok (.iload_n 1, 1) := by decide +kernel
theorem dJ9_min_7cf53_10 : decode cJ9_min_7cf53 10 = .ok (.ireturn, 1) := by decide +kernel
theorem dJ7_fill_53178_0 : decode cJ7_fill_53178 0 = .ok (.iconst 0, 1) := by decide +kernel
theorem dJ7_fill_53178_1 : decode cJ7_fill_53178 1 = .ok (.istore_n 2, 1) := by decide +kernel
theorem dJ7_fill_53178_2 : decode cJ7_fill_53178 2 = .ok (.aload_n 0, 1) := by decide +kernel
theorem dJ7_fill_53178_3 : decode cJ7_fill_53178 3 = .ok (.arraylength, 1) := by decide +kernel
theorem dJ7_fill_53178_4 : decode cJ7_fill_53178 4 = .ok (.istore_n 3, 1) := by decide +kernel
theorem dJ7_fill_53178_5 : decode cJ7_fill_53178 5 = .ok (.iload_n 2, 1) := by decide +kernel
theorem dJ7_fill_53178_6 : decode cJ7_fill_53178 6 = .ok (.iload_n 3, 1) := by decide +kernel
theorem dJ7_fill_53178_7 : decode cJ7_fill_53178 7 = .ok (.if_icmp .ge 13, 3) := by decide +kernel
theorem dJ7_fill_53178_10 : decode cJ7_fill_53178 10 = .ok (.aload_n 0, 1) := by decide +kernel
theorem dJ7_fill_53178_11 : decode cJ7_fill_53178 11 = .ok (.iload_n 2, 1) := by decide +kernel
theorem dJ7_fill_53178_12 : decode cJ7_fill_53178 12 = .ok (.iload_n 1, 1) := by decide +kernel
theorem dJ7_fill_53178_13 : decode cJ7_fill_53178 13 = .ok (.iastore, 1) := by decide +kernel
theorem dJ7_fill_53178_14 : decode cJ7_fill_53178 14 = .ok (.iinc 2 1, 3) := by decide +kernel
theorem dJ7_fill_53178_17 : decode cJ7_fill_53178 17 = .ok (.goto (-12), 3) := by decide +kernel
theorem dJ7_fill_53178_20 : decode cJ7_fill_53178 20 = .ok (.return_, 1) := by decide +kernel
theorem dL_law_0 : decode cL_law 0 = .ok (.new 7, 3) := by decide +kernel
theorem dL_law_3 : decode cL_law 3 = .ok (.dup, 1) := by decide +kernel
theorem dL_law_4 : decode cL_law 4 = .ok (.invokespecial 9, 3) := by decide +kernel
theorem dL_law_7 : decode cL_law 7 = .ok (.astore_n 1, 1) := by decide +kernel
theorem dL_law_8 : decode cL_law 8 = .ok (.new 10, 3) := by decide +kernel
theorem dL_law_11 : decode cL_law 11 = .ok (.dup, 1) := by decide +kernel
theorem dL_law_12 : decode cL_law 12 = .ok (.invokespecial 12, 3) := by decide +kernel
theorem dL_law_15 : decode cL_law 15 = .ok (.astore_n 2, 1) := by decide +kernel
theorem dL_law_16 : decode cL_law 16 = .ok (.iconst 0, 1) := by decide +kernel
theorem dL_law_17 : decode cL_law 17 = .ok (.istore_n 3, 1) := by decide +kernel
theorem dL_law_18 : decode cL_law 18 = .ok (.iload_n 3, 1) := by decide +kernel
theorem dL_law_19 : decode cL_law 19 = .ok (.aload_n 0, 1) := by decide +kernel
theorem dL_law_20 : decode cL_law 20 = .ok (.arraylength, 1) := by decide +kernel
theorem dL_law_21 : decode cL_law 21 = .ok (.iconst 5, 1) := by decide +kernel
theorem dL_law_22 : decode cL_law 22 = .ok (.isub, 1) := by decide +kernel
theorem dL_law_23 : decode cL_law 23 = .ok (.if_icmp .gt 708, 3) := by decide +kernel
theorem dL_law_26 : decode cL_law 26 = .ok (.aload_n 0, 1) := by decide +kernel
theorem dL_law_27 : decode cL_law 27 = .ok (.iload_n 3, 1) := by decide +kernel
theorem dL_law_28 : decode cL_law 28 = .ok (.iaload, 1) := by decide +kernel
theorem dL_law_29 : decode cL_law 29 = .ok (.bipush 31, 2) := by decide +kernel
theorem dL_law_31 : decode cL_law 31 = .ok (.iand, 1) := by decide +kernel
theorem dL_law_32 : decode cL_law 32 = .ok (.tableswitch 693 0 20 #[100, 133, 186, 219, 242, 265, 278, 311, 344, 377, 410, 433, 456, 469, 492, 525, 548, 581, 624, 647, 670], 100) := by decide +kernel
theorem dL_law_132 : decode cL_law 132 = .ok (.aload_n 1, 1) := by decide +kernel
theorem dL_law_133 : decode cL_law 133 = .ok (.aload_n 0, 1) := by decide +kernel
theorem dL_law_134 : decode cL_law 134 = .ok (.iload_n 3, 1) := by decide +kernel
theorem dL_law_135 : decode cL_law 135 = .ok (.iconst 1, 1) := by decide +kernel
theorem dL_law_136 : decode cL_law 136 = .ok (.iadd, 1) := by decide +kernel
theorem dL_law_137 : decode cL_law 137 = .ok (.iaload, 1) := by decide +kernel
theorem dL_law_138 : decode cL_law 138 = .ok (.aload_n 0, 1) := by decide +kernel
theorem dL_law_139 : decode cL_law 139 = .ok (.iload_n 3, 1) := by decide +kernel
theorem dL_law_140 : decode cL_law 140 = .ok (.iconst 2, 1) := by decide +kernel
theorem dL_law_141 : decode cL_law 141 = .ok (.iadd, 1) := by decide +kernel
theorem dL_law_142 : decode cL_law 142 = .ok (.iaload, 1) := by decide +kernel
theorem dL_law_143 : decode cL_law 143 = .ok (.invokevirtual 13, 3) := by decide +kernel
theorem dL_law_146 : decode cL_law 146 = .ok (.aload_n 2, 1) := by decide +kernel
theorem dL_law_147 : decode cL_law 147 = .ok (.aload_n 0, 1) := by decide +kernel
theorem dL_law_148 : decode cL_law 148 = .ok (.iload_n 3, 1) := by decide +kernel
theorem dL_law_149 : decode cL_law 149 = .ok (.iconst 1, 1) := by decide +kernel
theorem dL_law_150 : decode cL_law 150 = .ok (.iadd, 1) := by decide +kernel
theorem dL_law_151 : decode cL_law 151 = .ok (.iaload, 1) := by decide +kernel
theorem dL_law_152 : decode cL_law 152 = .ok (.aload_n 0, 1) := by decide +kernel
theorem dL_law_153 : decode cL_law 153 = .ok (.iload_n 3, 1) := by decide +kernel
theorem dL_law_154 : decode cL_law 154 = .ok (.iconst 2, 1) := by decide +kernel
theorem dL_law_155 : decode cL_law 155 = .ok (.iadd, 1) := by decide +kernel
theorem dL_law_156 : decode cL_law 156 = .ok (.iaload, 1) := by decide +kernel
theorem dL_law_157 : decode cL_law 157 = .ok (.invokevirtual 17, 3) := by decide +kernel
theorem dL_law_160 : decode cL_law 160 = .ok (.if_icmp .eq 565, 3) := by decide +kernel
theorem dL_law_163 : decode cL_law 163 = .ok (.iconst 0, 1) := by decide +kernel
theorem dL_law_164 : decode cL_law 164 = .ok (.ireturn, 1) := by decide +kernel
theorem dL_law_165 : decode cL_law 165 = .ok (.aload_n 1, 1) := by decide +kernel
theorem dL_law_166 : decode cL_law 166 = .ok (.aload_n 0, 1) := by decide +kernel
theorem dL_law_167 : decode cL_law 167 = .ok (.iload_n 3, 1) := by decide +kernel
theorem dL_law_168 : decode cL_law 168 = .ok (.iconst 1, 1) := by decide +kernel
theorem dL_law_169 : decode cL_law 169 = .ok (.iadd, 1) := by decide +kernel
theorem dL_law_170 : decode cL_law 170 = .ok (.iaload, 1) := by decide +kernel
theorem dL_law_171 : decode cL_law 171 = .ok (.aload_n 0, 1) := by decide +kernel
theorem dL_law_172 : decode cL_law 172 = .ok (.iload_n 3, 1) := by decide +kernel
theorem dL_law_173 : decode cL_law 173 = .ok (.iconst 2, 1) := by decide +kernel
theorem dL_law_174 : decode cL_law 174 = .ok (.iadd, 1) := by decide +kernel
theorem dL_law_175 : decode cL_law 175 = .ok (.iaload, 1) := by decide +kernel
theorem dL_law_176 : decode cL_law 176 = .ok (.aload_n 0, 1) := by decide +kernel
theorem dL_law_177 : decode cL_law 177 = .ok (.iload_n 3, 1) := by decide +kernel
theorem dL_law_178 : decode cL_law 178 = .ok (.iconst 3, 1) := by decide +kernel
theorem dL_law_179 : decode cL_law 179 = .ok (.iadd, 1) := by decide +kernel
theorem dL_law_180 : decode cL_law 180 = .ok (.iaload, 1) := by decide +kernel
theorem dL_law_181 : decode cL_law 181 = .ok (.aload_n 0, 1) := by decide +kernel
theorem dL_law_182 : decode cL_law 182 = .ok (.iload_n 3, 1) := by decide +kernel
theorem dL_law_183 : decode cL_law 183 = .ok (.iconst 4, 1) := by decide +kernel
theorem dL_law_184 : decode cL_law 184 = .ok (.iadd, 1) := by decide +kernel
theorem dL_law_185 : decode cL_law 185 = .ok (.iaload, 1) := by decide +kernel
theorem dL_law_186 : decode cL_law 186 = .ok (.invokevirtual 18, 3) := by decide +kernel
theorem dL_law_189 : decode cL_law 189 = .ok (.aload_n 2, 1) := by decide +kernel
theorem dL_law_190 : decode cL_law 190 = .ok (.aload_n 0, 1) := by decide +kernel
theorem dL_law_191 : decode cL_law 191 = .ok (.iload_n 3, 1) := by decide +kernel
theorem dL_law_192 : decode cL_law 192 = .ok (.iconst 1, 1) := by decide +kernel
theorem dL_law_193 : decode cL_law 193 = .ok (.iadd, 1) := by decide +kernel
theorem dL_law_194 : decode cL_law 194 = .ok (.iaload, 1) := by decide +kernel
theorem dL_law_195 : decode cL_law 195 = .ok (.aload_n 0, 1) := by decide +kernel
theorem dL_law_196 : decode cL_law 196 = .ok (.iload_n 3, 1) := by decide +kernel
theorem dL_law_197 : decode cL_law 197 = .ok (.iconst 2, 1) := by decide +kernel
theorem dL_law_198 : decode cL_law 198 = .ok (.iadd, 1) := by decide +kernel
theorem dL_law_199 : decode cL_law 199 = .ok (.iaload, 1) := by decide +kernel
theorem dL_law_200 : decode cL_law 200 = .ok (.aload_n 0, 1) := by decide +kernel
theorem dL_law_201 : decode cL_law 201 = .ok (.iload_n 3, 1) := by decide +kernel
theorem dL_law_202 : decode cL_law 202 = .ok (.iconst 3, 1) := by decide +kernel
theorem dL_law_203 : decode cL_law 203 = .ok (.iadd, 1) := by decide +kernel
theorem dL_law_204 : decode cL_law 204 = .ok (.iaload, 1) := by decide +kernel
theorem dL_law_205 : decode cL_law 205 = .ok (.aload_n 0, 1) := by decide +kernel
theorem dL_law_206 : decode cL_law 206 = .ok (.iload_n 3, 1) := by decide +kernel
theorem dL_law_207 : decode cL_law 207 = .ok (.iconst 4, 1) := by decide +kernel
theorem dL_law_208 : decode cL_law 208 = .ok (.iadd, 1) := by decide +kernel
theorem dL_law_209 : decode cL_law 209 = .ok (.iaload, 1) := by decide +kernel
theorem dL_law_210 : decode cL_law 210 = .ok (.invokevirtual 22, 3) := by decide +kernel
theorem dL_law_213 : decode cL_law 213 = .ok (.if_icmp .eq 512, 3) := by decide +kernel
theorem dL_law_216 : decode cL_law 216 = .ok (.iconst 0, 1) := by decide +kernel
theorem dL_law_217 : decode cL_law 217 = .ok (.ireturn, 1) := by decide +kernel
theorem dL_law_218 : decode cL_law 218 = .ok (.aload_n 1, 1) := by decide +kernel
theorem dL_law_219 : decode cL_law 219 = .ok (.aload_n 0, 1) := by decide +kernel
theorem dL_law_220 : decode cL_law 220 = .ok (.iload_n 3, 1) := by decide +kernel
theorem dL_law_221 : decode cL_law 221 = .ok (.iconst 1, 1) := by decide +kernel
theorem dL_law_222 : decode cL_law 222 = .ok (.iadd, 1) := by decide +kernel
theorem dL_law_223 : decode cL_law 223 = .ok (.iaload, 1) := by decide +kernel
theorem dL_law_224 : decode cL_law 224 = .ok (.aload_n 0, 1) := by decide +kernel
theorem dL_law_225 : decode cL_law 225 = .ok (.iload_n 3, 1) := by decide +kernel
theorem dL_law_226 : decode cL_law 226 = .ok (.iconst 2, 1) := by decide +kernel
theorem dL_law_227 : decode cL_law 227 = .ok (.iadd, 1) := by decide +kernel
theorem dL_law_228 : decode cL_law 228 = .ok (.iaload, 1) := by decide +kernel
theorem dL_law_229 : decode cL_law 229 = .ok (.invokevirtual 23, 3) := by decide +kernel
theorem dL_law_232 : decode cL_law 232 = .ok (.aload_n 2, 1) := by decide +kernel
theorem dL_law_233 : decode cL_law 233 = .ok (.aload_n 0, 1) := by decide +kernel
theorem dL_law_234 : decode cL_law 234 = .ok (.iload_n 3, 1) := by decide +kernel
theorem dL_law_235 : decode cL_law 235 = .ok (.iconst 1, 1) := by decide +kernel
theorem dL_law_236 : decode cL_law 236 = .ok (.iadd, 1) := by decide +kernel
theorem dL_law_237 : decode cL_law 237 = .ok (.iaload, 1) := by decide +kernel
theorem dL_law_238 : decode cL_law 238 = .ok (.aload_n 0, 1) := by decide +kernel
theorem dL_law_239 : decode cL_law 239 = .ok (.iload_n 3, 1) := by decide +kernel
theorem dL_law_240 : decode cL_law 240 = .ok (.iconst 2, 1) := by decide +kernel
theorem dL_law_241 : decode cL_law 241 = .ok (.iadd, 1) := by decide +kernel
theorem dL_law_242 : decode cL_law 242 = .ok (.iaload, 1) := by decide +kernel
theorem dL_law_243 : decode cL_law 243 = .ok (.invokevirtual 26, 3) := by decide +kernel
theorem dL_law_246 : decode cL_law 246 = .ok (.if_icmp .eq 479, 3) := by decide +kernel
theorem dL_law_249 : decode cL_law 249 = .ok (.iconst 0, 1) := by decide +kernel
theorem dL_law_250 : decode cL_law 250 = .ok (.ireturn, 1) := by decide +kernel
theorem dL_law_251 : decode cL_law 251 = .ok (.aload_n 1, 1) := by decide +kernel
theorem dL_law_252 : decode cL_law 252 = .ok (.aload_n 0, 1) := by decide +kernel
theorem dL_law_253 : decode cL_law 253 = .ok (.iload_n 3, 1) := by decide +kernel
theorem dL_law_254 : decode cL_law 254 = .ok (.iconst 1, 1) := by decide +kernel
theorem dL_law_255 : decode cL_law 255 = .ok (.iadd, 1) := by decide +kernel
theorem dL_law_256 : decode cL_law 256 = .ok (.iaload, 1) := by decide +kernel
theorem dL_law_257 : decode cL_law 257 = .ok (.invokevirtual 27, 3) := by decide +kernel
theorem dL_law_260 : decode cL_law 260 = .ok (.aload_n 2, 1) := by decide +kernel
theorem dL_law_261 : decode cL_law 261 = .ok (.aload_n 0, 1) := by decide +kernel
theorem dL_law_262 : decode cL_law 262 = .ok (.iload_n 3, 1) := by decide +kernel
theorem dL_law_263 : decode cL_law 263 = .ok (.iconst 1, 1) := by decide +kernel
theorem dL_law_264 : decode cL_law 264 = .ok (.iadd, 1) := by decide +kernel
theorem dL_law_265 : decode cL_law 265 = .ok (.iaload, 1) := by decide +kernel
theorem dL_law_266 : decode cL_law 266 = .ok (.invokevirtual 31, 3) := by decide +kernel
theorem dL_law_269 : decode cL_law 269 = .ok (.if_icmp .eq 456, 3) := by decide +kernel
theorem dL_law_272 : decode cL_law 272 = .ok (.iconst 0, 1) := by decide +kernel
theorem dL_law_273 : decode cL_law 273 = .ok (.ireturn, 1) := by decide +kernel
theorem dL_law_274 : decode cL_law 274 = .ok (.aload_n 1, 1) := by decide +kernel
theorem dL_law_275 : decode cL_law 275 = .ok (.aload_n 0, 1) := by decide +kernel
theorem dL_law_276 : decode cL_law 276 = .ok (.iload_n 3, 1) := by decide +kernel
theorem dL_law_277 : decode cL_law 277 = .ok (.iconst 1, 1) := by decide +kernel
theorem dL_law_278 : decode cL_law 278 = .ok (.iadd, 1) := by decide +kernel
theorem dL_law_279 : decode cL_law 279 = .ok (.iaload, 1) := by decide +kernel
theorem dL_law_280 : decode cL_law 280 = .ok (.invokevirtual 32, 3) := by decide +kernel
theorem dL_law_283 : decode cL_law 283 = .ok (.aload_n 2, 1) := by decide +kernel
theorem dL_law_284 : decode cL_law 284 = .ok (.aload_n 0, 1) := by decide +kernel
theorem dL_law_285 : decode cL_law 285 = .ok (.iload_n 3, 1) := by decide +kernel
theorem dL_law_286 : decode cL_law 286 = .ok (.iconst 1, 1) := by decide +kernel
theorem dL_law_287 : decode cL_law 287 = .ok (.iadd, 1) := by decide +kernel
theorem dL_law_288 : decode cL_law 288 = .ok (.iaload, 1) := by decide +kernel
theorem dL_law_289 : decode cL_law 289 = .ok (.invokevirtual 35, 3) := by decide +kernel
theorem dL_law_292 : decode cL_law 292 = .ok (.if_icmp .eq 433, 3) := by decide +kernel
theorem dL_law_295 : decode cL_law 295 = .ok (.iconst 0, 1) := by decide +kernel
theorem dL_law_296 : decode cL_law 296 = .ok (.ireturn, 1) := by decide +kernel
theorem dL_law_297 : decode cL_law 297 = .ok (.aload_n 1, 1) := by decide +kernel
theorem dL_law_298 : decode cL_law 298 = .ok (.invokevirtual 36, 3) := by decide +kernel
theorem dL_law_301 : decode cL_law 301 = .ok (.aload_n 2, 1) := by decide +kernel
theorem dL_law_302 : decode cL_law 302 = .ok (.invokevirtual 40, 3) := by decide +kernel
theorem dL_law_305 : decode cL_law 305 = .ok (.if_icmp .eq 420, 3) := by decide +kernel
theorem dL_law_308 : decode cL_law 308 = .ok (.iconst 0, 1) := by decide +kernel
theorem dL_law_309 : decode cL_law 309 = .ok (.ireturn, 1) := by decide +kernel
theorem dL_law_310 : decode cL_law 310 = .ok (.aload_n 1, 1) := by decide +kernel
theorem dL_law_311 : decode cL_law 311 = .ok (.aload_n 0, 1) := by decide +kernel
theorem dL_law_312 : decode cL_law 312 = .ok (.iload_n 3, 1) := by decide +kernel
theorem dL_law_313 : decode cL_law 313 = .ok (.iconst 1, 1) := by decide +kernel
theorem dL_law_314 : decode cL_law 314 = .ok (.iadd, 1) := by decide +kernel
theorem dL_law_315 : decode cL_law 315 = .ok (.iaload, 1) := by decide +kernel
theorem dL_law_316 : decode cL_law 316 = .ok (.aload_n 0, 1) := by decide +kernel
theorem dL_law_317 : decode cL_law 317 = .ok (.iload_n 3, 1) := by decide +kernel
theorem dL_law_318 : decode cL_law 318 = .ok (.iconst 2, 1) := by decide +kernel
theorem dL_law_319 : decode cL_law 319 = .ok (.iadd, 1) := by decide +kernel
theorem dL_law_320 : decode cL_law 320 = .ok (.iaload, 1) := by decide +kernel
theorem dL_law_321 : decode cL_law 321 = .ok (.invokevirtual 41, 3) := by decide +kernel
theorem dL_law_324 : decode cL_law 324 = .ok (.aload_n 2, 1) := by decide +kernel
theorem dL_law_325 : decode cL_law 325 = .ok (.aload_n 0, 1) := by decide +kernel
theorem dL_law_326 : decode cL_law 326 = .ok (.iload_n 3, 1) := by decide +kernel
theorem dL_law_327 : decode cL_law 327 = .ok (.iconst 1, 1) := by decide +kernel
theorem dL_law_328 : decode cL_law 328 = .ok (.iadd, 1) := by decide +kernel
theorem dL_law_329 : decode cL_law 329 = .ok (.iaload, 1) := by decide +kernel
theorem dL_law_330 : decode cL_law 330 = .ok (.aload_n 0, 1) := by decide +kernel
theorem dL_law_331 : decode cL_law 331 = .ok (.iload_n 3, 1) := by decide +kernel
theorem dL_law_332 : decode cL_law 332 = .ok (.iconst 2, 1) := by decide +kernel
theorem dL_law_333 : decode cL_law 333 = .ok (.iadd, 1) := by decide +kernel
theorem dL_law_334 : decode cL_law 334 = .ok (.iaload, 1) := by decide +kernel
theorem dL_law_335 : decode cL_law 335 = .ok (.invokevirtual 45, 3) := by decide +kernel
theorem dL_law_338 : decode cL_law 338 = .ok (.if_icmp .eq 387, 3) := by decide +kernel
theorem dL_law_341 : decode cL_law 341 = .ok (.iconst 0, 1) := by decide +kernel
theorem dL_law_342 : decode cL_law 342 = .ok (.ireturn, 1) := by decide +kernel
theorem dL_law_343 : decode cL_law 343 = .ok (.aload_n 1, 1) := by decide +kernel
theorem dL_law_344 : decode cL_law 344 = .ok (.aload_n 0, 1) := by decide +kernel
theorem dL_law_345 : decode cL_law 345 = .ok (.iload_n 3, 1) := by decide +kernel
theorem dL_law_346 : decode cL_law 346 = .ok (.iconst 1, 1) := by decide +kernel
theorem dL_law_347 : decode cL_law 347 = .ok (.iadd, 1) := by decide +kernel
theorem dL_law_348 : decode cL_law 348 = .ok (.iaload, 1) := by decide +kernel
theorem dL_law_349 : decode cL_law 349 = .ok (.aload_n 0, 1) := by decide +kernel
theorem dL_law_350 : decode cL_law 350 = .ok (.iload_n 3, 1) := by decide +kernel
theorem dL_law_351 : decode cL_law 351 = .ok (.iconst 2, 1) := by decide +kernel
theorem dL_law_352 : decode cL_law 352 = .ok (.iadd, 1) := by decide +kernel
theorem dL_law_353 : decode cL_law 353 = .ok (.iaload, 1) := by decide +kernel
theorem dL_law_354 : decode cL_law 354 = .ok (.invokevirtual 46, 3) := by decide +kernel
theorem dL_law_357 : decode cL_law 357 = .ok (.aload_n 2, 1) := by decide +kernel
theorem dL_law_358 : decode cL_law 358 = .ok (.aload_n 0, 1) := by decide +kernel
theorem dL_law_359 : decode cL_law 359 = .ok (.iload_n 3, 1) := by decide +kernel
theorem dL_law_360 : decode cL_law 360 = .ok (.iconst 1, 1) := by decide +kernel
theorem dL_law_361 : decode cL_law 361 = .ok (.iadd, 1) := by decide +kernel
theorem dL_law_362 : decode cL_law 362 = .ok (.iaload, 1) := by decide +kernel
theorem dL_law_363 : decode cL_law 363 = .ok (.aload_n 0, 1) := by decide +kernel
theorem dL_law_364 : decode cL_law 364 = .ok (.iload_n 3, 1) := by decide +kernel
theorem dL_law_365 : decode cL_law 365 = .ok (.iconst 2, 1) := by decide +kernel
theorem dL_law_366 : decode cL_law 366 = .ok (.iadd, 1) := by decide +kernel
theorem dL_law_367 : decode cL_law 367 = .ok (.iaload, 1) := by decide +kernel
theorem dL_law_368 : decode cL_law 368 = .ok (.invokevirtual 49, 3) := by decide +kernel
theorem dL_law_371 : decode cL_law 371 = .ok (.if_icmp .eq 354, 3) := by decide +kernel
theorem dL_law_374 : decode cL_law 374 = .ok (.iconst 0, 1) := by decide +kernel
theorem dL_law_375 : decode cL_law 375 = .ok (.ireturn, 1) := by decide +kernel
theorem dL_law_376 : decode cL_law 376 = .ok (.aload_n 1, 1) := by decide +kernel
theorem dL_law_377 : decode cL_law 377 = .ok (.aload_n 0, 1) := by decide +kernel
theorem dL_law_378 : decode cL_law 378 = .ok (.iload_n 3, 1) := by decide +kernel
theorem dL_law_379 : decode cL_law 379 = .ok (.iconst 1, 1) := by decide +kernel
theorem dL_law_380 : decode cL_law 380 = .ok (.iadd, 1) := by decide +kernel
theorem dL_law_381 : decode cL_law 381 = .ok (.iaload, 1) := by decide +kernel
theorem dL_law_382 : decode cL_law 382 = .ok (.aload_n 0, 1) := by decide +kernel
theorem dL_law_383 : decode cL_law 383 = .ok (.iload_n 3, 1) := by decide +kernel
theorem dL_law_384 : decode cL_law 384 = .ok (.iconst 2, 1) := by decide +kernel
theorem dL_law_385 : decode cL_law 385 = .ok (.iadd, 1) := by decide +kernel
theorem dL_law_386 : decode cL_law 386 = .ok (.iaload, 1) := by decide +kernel
theorem dL_law_387 : decode cL_law 387 = .ok (.invokevirtual 50, 3) := by decide +kernel
theorem dL_law_390 : decode cL_law 390 = .ok (.aload_n 2, 1) := by decide +kernel
theorem dL_law_391 : decode cL_law 391 = .ok (.aload_n 0, 1) := by decide +kernel
theorem dL_law_392 : decode cL_law 392 = .ok (.iload_n 3, 1) := by decide +kernel
theorem dL_law_393 : decode cL_law 393 = .ok (.iconst 1, 1) := by decide +kernel
theorem dL_law_394 : decode cL_law 394 = .ok (.iadd, 1) := by decide +kernel
theorem dL_law_395 : decode cL_law 395 = .ok (.iaload, 1) := by decide +kernel
theorem dL_law_396 : decode cL_law 396 = .ok (.aload_n 0, 1) := by decide +kernel
theorem dL_law_397 : decode cL_law 397 = .ok (.iload_n 3, 1) := by decide +kernel
theorem dL_law_398 : decode cL_law 398 = .ok (.iconst 2, 1) := by decide +kernel
theorem dL_law_399 : decode cL_law 399 = .ok (.iadd, 1) := by decide +kernel
theorem dL_law_400 : decode cL_law 400 = .ok (.iaload, 1) := by decide +kernel
theorem dL_law_401 : decode cL_law 401 = .ok (.invokevirtual 53, 3) := by decide +kernel
theorem dL_law_404 : decode cL_law 404 = .ok (.if_icmp .eq 321, 3) := by decide +kernel
theorem dL_law_407 : decode cL_law 407 = .ok (.iconst 0, 1) := by decide +kernel
theorem dL_law_408 : decode cL_law 408 = .ok (.ireturn, 1) := by decide +kernel
theorem dL_law_409 : decode cL_law 409 = .ok (.aload_n 1, 1) := by decide +kernel
theorem dL_law_410 : decode cL_law 410 = .ok (.aload_n 0, 1) := by decide +kernel
theorem dL_law_411 : decode cL_law 411 = .ok (.iload_n 3, 1) := by decide +kernel
theorem dL_law_412 : decode cL_law 412 = .ok (.iconst 1, 1) := by decide +kernel
theorem dL_law_413 : decode cL_law 413 = .ok (.iadd, 1) := by decide +kernel
theorem dL_law_414 : decode cL_law 414 = .ok (.iaload, 1) := by decide +kernel
theorem dL_law_415 : decode cL_law 415 = .ok (.aload_n 0, 1) := by decide +kernel
theorem dL_law_416 : decode cL_law 416 = .ok (.iload_n 3, 1) := by decide +kernel
theorem dL_law_417 : decode cL_law 417 = .ok (.iconst 2, 1) := by decide +kernel
theorem dL_law_418 : decode cL_law 418 = .ok (.iadd, 1) := by decide +kernel
theorem dL_law_419 : decode cL_law 419 = .ok (.iaload, 1) := by decide +kernel
theorem dL_law_420 : decode cL_law 420 = .ok (.invokevirtual 54, 3) := by decide +kernel
theorem dL_law_423 : decode cL_law 423 = .ok (.aload_n 2, 1) := by decide +kernel
theorem dL_law_424 : decode cL_law 424 = .ok (.aload_n 0, 1) := by decide +kernel
theorem dL_law_425 : decode cL_law 425 = .ok (.iload_n 3, 1) := by decide +kernel
theorem dL_law_426 : decode cL_law 426 = .ok (.iconst 1, 1) := by decide +kernel
theorem dL_law_427 : decode cL_law 427 = .ok (.iadd, 1) := by decide +kernel
theorem dL_law_428 : decode cL_law 428 = .ok (.iaload, 1) := by decide +kernel
theorem dL_law_429 : decode cL_law 429 = .ok (.aload_n 0, 1) := by decide +kernel
theorem dL_law_430 : decode cL_law 430 = .ok (.iload_n 3, 1) := by decide +kernel
theorem dL_law_431 : decode cL_law 431 = .ok (.iconst 2, 1) := by decide +kernel
theorem dL_law_432 : decode cL_law 432 = .ok (.iadd, 1) := by decide +kernel
theorem dL_law_433 : decode cL_law 433 = .ok (.iaload, 1) := by decide +kernel
theorem dL_law_434 : decode cL_law 434 = .ok (.invokevirtual 57, 3) := by decide +kernel
theorem dL_law_437 : decode cL_law 437 = .ok (.if_icmp .eq 288, 3) := by decide +kernel
theorem dL_law_440 : decode cL_law 440 = .ok (.iconst 0, 1) := by decide +kernel
theorem dL_law_441 : decode cL_law 441 = .ok (.ireturn, 1) := by decide +kernel
theorem dL_law_442 : decode cL_law 442 = .ok (.aload_n 1, 1) := by decide +kernel
theorem dL_law_443 : decode cL_law 443 = .ok (.aload_n 0, 1) := by decide +kernel
theorem dL_law_444 : decode cL_law 444 = .ok (.iload_n 3, 1) := by decide +kernel
theorem dL_law_445 : decode cL_law 445 = .ok (.iconst 1, 1) := by decide +kernel
theorem dL_law_446 : decode cL_law 446 = .ok (.iadd, 1) := by decide +kernel
theorem dL_law_447 : decode cL_law 447 = .ok (.iaload, 1) := by decide +kernel
theorem dL_law_448 : decode cL_law 448 = .ok (.invokevirtual 58, 3) := by decide +kernel
theorem dL_law_451 : decode cL_law 451 = .ok (.aload_n 2, 1) := by decide +kernel
theorem dL_law_452 : decode cL_law 452 = .ok (.aload_n 0, 1) := by decide +kernel
theorem dL_law_453 : decode cL_law 453 = .ok (.iload_n 3, 1) := by decide +kernel
theorem dL_law_454 : decode cL_law 454 = .ok (.iconst 1, 1) := by decide +kernel
theorem dL_law_455 : decode cL_law 455 = .ok (.iadd, 1) := by decide +kernel
theorem dL_law_456 : decode cL_law 456 = .ok (.iaload, 1) := by decide +kernel
theorem dL_law_457 : decode cL_law 457 = .ok (.invokevirtual 62, 3) := by decide +kernel
theorem dL_law_460 : decode cL_law 460 = .ok (.if_icmp .eq 265, 3) := by decide +kernel
theorem dL_law_463 : decode cL_law 463 = .ok (.iconst 0, 1) := by decide +kernel
theorem dL_law_464 : decode cL_law 464 = .ok (.ireturn, 1) := by decide +kernel
theorem dL_law_465 : decode cL_law 465 = .ok (.aload_n 1, 1) := by decide +kernel
theorem dL_law_466 : decode cL_law 466 = .ok (.aload_n 0, 1) := by decide +kernel
theorem dL_law_467 : decode cL_law 467 = .ok (.iload_n 3, 1) := by decide +kernel
theorem dL_law_468 : decode cL_law 468 = .ok (.iconst 1, 1) := by decide +kernel
theorem dL_law_469 : decode cL_law 469 = .ok (.iadd, 1) := by decide +kernel
theorem dL_law_470 : decode cL_law 470 = .ok (.iaload, 1) := by decide +kernel
theorem dL_law_471 : decode cL_law 471 = .ok (.invokevirtual 63, 3) := by decide +kernel
theorem dL_law_474 : decode cL_law 474 = .ok (.aload_n 2, 1) := by decide +kernel
theorem dL_law_475 : decode cL_law 475 = .ok (.aload_n 0, 1) := by decide +kernel
theorem dL_law_476 : decode cL_law 476 = .ok (.iload_n 3, 1) := by decide +kernel
theorem dL_law_477 : decode cL_law 477 = .ok (.iconst 1, 1) := by decide +kernel
theorem dL_law_478 : decode cL_law 478 = .ok (.iadd, 1) := by decide +kernel
theorem dL_law_479 : decode cL_law 479 = .ok (.iaload, 1) := by decide +kernel
theorem dL_law_480 : decode cL_law 480 = .ok (.invokevirtual 66, 3) := by decide +kernel
theorem dL_law_483 : decode cL_law 483 = .ok (.if_icmp .eq 242, 3) := by decide +kernel
theorem dL_law_486 : decode cL_law 486 = .ok (.iconst 0, 1) := by decide +kernel
theorem dL_law_487 : decode cL_law 487 = .ok (.ireturn, 1) := by decide +kernel
theorem dL_law_488 : decode cL_law 488 = .ok (.aload_n 1, 1) := by decide +kernel
theorem dL_law_489 : decode cL_law 489 = .ok (.invokevirtual 67, 3) := by decide +kernel
theorem dL_law_492 : decode cL_law 492 = .ok (.aload_n 2, 1) := by decide +kernel
theorem dL_law_493 : decode cL_law 493 = .ok (.invokevirtual 70, 3) := by decide +kernel
theorem dL_law_496 : decode cL_law 496 = .ok (.if_icmp .eq 229, 3) := by decide +kernel
theorem dL_law_499 : decode cL_law 499 = .ok (.iconst 0, 1) := by decide +kernel
theorem dL_law_500 : decode cL_law 500 = .ok (.ireturn, 1) := by decide +kernel
theorem dL_law_501 : decode cL_law 501 = .ok (.aload_n 1, 1) := by decide +kernel
theorem dL_law_502 : decode cL_law 502 = .ok (.aload_n 0, 1) := by decide +kernel
theorem dL_law_503 : decode cL_law 503 = .ok (.iload_n 3, 1) := by decide +kernel
theorem dL_law_504 : decode cL_law 504 = .ok (.iconst 1, 1) := by decide +kernel
theorem dL_law_505 : decode cL_law 505 = .ok (.iadd, 1) := by decide +kernel
theorem dL_law_506 : decode cL_law 506 = .ok (.iaload, 1) := by decide +kernel
theorem dL_law_507 : decode cL_law 507 = .ok (.invokevirtual 71, 3) := by decide +kernel
theorem dL_law_510 : decode cL_law 510 = .ok (.aload_n 2, 1) := by decide +kernel
theorem dL_law_511 : decode cL_law 511 = .ok (.aload_n 0, 1) := by decide +kernel
theorem dL_law_512 : decode cL_law 512 = .ok (.iload_n 3, 1) := by decide +kernel
theorem dL_law_513 : decode cL_law 513 = .ok (.iconst 1, 1) := by decide +kernel
theorem dL_law_514 : decode cL_law 514 = .ok (.iadd, 1) := by decide +kernel
theorem dL_law_515 : decode cL_law 515 = .ok (.iaload, 1) := by decide +kernel
theorem dL_law_516 : decode cL_law 516 = .ok (.invokevirtual 74, 3) := by decide +kernel
theorem dL_law_519 : decode cL_law 519 = .ok (.if_icmp .eq 206, 3) := by decide +kernel
theorem dL_law_522 : decode cL_law 522 = .ok (.iconst 0, 1) := by decide +kernel
theorem dL_law_523 : decode cL_law 523 = .ok (.ireturn, 1) := by decide +kernel
theorem dL_law_524 : decode cL_law 524 = .ok (.aload_n 1, 1) := by decide +kernel
theorem dL_law_525 : decode cL_law 525 = .ok (.aload_n 0, 1) := by decide +kernel
theorem dL_law_526 : decode cL_law 526 = .ok (.iload_n 3, 1) := by decide +kernel
theorem dL_law_527 : decode cL_law 527 = .ok (.iconst 1, 1) := by decide +kernel
theorem dL_law_528 : decode cL_law 528 = .ok (.iadd, 1) := by decide +kernel
theorem dL_law_529 : decode cL_law 529 = .ok (.iaload, 1) := by decide +kernel
theorem dL_law_530 : decode cL_law 530 = .ok (.aload_n 0, 1) := by decide +kernel
theorem dL_law_531 : decode cL_law 531 = .ok (.iload_n 3, 1) := by decide +kernel
theorem dL_law_532 : decode cL_law 532 = .ok (.iconst 2, 1) := by decide +kernel
theorem dL_law_533 : decode cL_law 533 = .ok (.iadd, 1) := by decide +kernel
theorem dL_law_534 : decode cL_law 534 = .ok (.iaload, 1) := by decide +kernel
theorem dL_law_535 : decode cL_law 535 = .ok (.invokevirtual 75, 3) := by decide +kernel
theorem dL_law_538 : decode cL_law 538 = .ok (.aload_n 2, 1) := by decide +kernel
theorem dL_law_539 : decode cL_law 539 = .ok (.aload_n 0, 1) := by decide +kernel
theorem dL_law_540 : decode cL_law 540 = .ok (.iload_n 3, 1) := by decide +kernel
theorem dL_law_541 : decode cL_law 541 = .ok (.iconst 1, 1) := by decide +kernel
theorem dL_law_542 : decode cL_law 542 = .ok (.iadd, 1) := by decide +kernel
theorem dL_law_543 : decode cL_law 543 = .ok (.iaload, 1) := by decide +kernel
theorem dL_law_544 : decode cL_law 544 = .ok (.aload_n 0, 1) := by decide +kernel
theorem dL_law_545 : decode cL_law 545 = .ok (.iload_n 3, 1) := by decide +kernel
theorem dL_law_546 : decode cL_law 546 = .ok (.iconst 2, 1) := by decide +kernel
theorem dL_law_547 : decode cL_law 547 = .ok (.iadd, 1) := by decide +kernel
theorem dL_law_548 : decode cL_law 548 = .ok (.iaload, 1) := by decide +kernel
theorem dL_law_549 : decode cL_law 549 = .ok (.invokevirtual 78, 3) := by decide +kernel
theorem dL_law_552 : decode cL_law 552 = .ok (.if_icmp .eq 173, 3) := by decide +kernel
theorem dL_law_555 : decode cL_law 555 = .ok (.iconst 0, 1) := by decide +kernel
theorem dL_law_556 : decode cL_law 556 = .ok (.ireturn, 1) := by decide +kernel
theorem dL_law_557 : decode cL_law 557 = .ok (.aload_n 1, 1) := by decide +kernel
theorem dL_law_558 : decode cL_law 558 = .ok (.aload_n 0, 1) := by decide +kernel
theorem dL_law_559 : decode cL_law 559 = .ok (.iload_n 3, 1) := by decide +kernel
theorem dL_law_560 : decode cL_law 560 = .ok (.iconst 1, 1) := by decide +kernel
theorem dL_law_561 : decode cL_law 561 = .ok (.iadd, 1) := by decide +kernel
theorem dL_law_562 : decode cL_law 562 = .ok (.iaload, 1) := by decide +kernel
theorem dL_law_563 : decode cL_law 563 = .ok (.invokevirtual 79, 3) := by decide +kernel
theorem dL_law_566 : decode cL_law 566 = .ok (.aload_n 2, 1) := by decide +kernel
theorem dL_law_567 : decode cL_law 567 = .ok (.aload_n 0, 1) := by decide +kernel
theorem dL_law_568 : decode cL_law 568 = .ok (.iload_n 3, 1) := by decide +kernel
theorem dL_law_569 : decode cL_law 569 = .ok (.iconst 1, 1) := by decide +kernel
theorem dL_law_570 : decode cL_law 570 = .ok (.iadd, 1) := by decide +kernel
theorem dL_law_571 : decode cL_law 571 = .ok (.iaload, 1) := by decide +kernel
theorem dL_law_572 : decode cL_law 572 = .ok (.invokevirtual 82, 3) := by decide +kernel
theorem dL_law_575 : decode cL_law 575 = .ok (.if_icmp .eq 150, 3) := by decide +kernel
theorem dL_law_578 : decode cL_law 578 = .ok (.iconst 0, 1) := by decide +kernel
theorem dL_law_579 : decode cL_law 579 = .ok (.ireturn, 1) := by decide +kernel
theorem dL_law_580 : decode cL_law 580 = .ok (.aload_n 1, 1) := by decide +kernel
theorem dL_law_581 : decode cL_law 581 = .ok (.aload_n 0, 1) := by decide +kernel
theorem dL_law_582 : decode cL_law 582 = .ok (.iload_n 3, 1) := by decide +kernel
theorem dL_law_583 : decode cL_law 583 = .ok (.iconst 1, 1) := by decide +kernel
theorem dL_law_584 : decode cL_law 584 = .ok (.iadd, 1) := by decide +kernel
theorem dL_law_585 : decode cL_law 585 = .ok (.iaload, 1) := by decide +kernel
theorem dL_law_586 : decode cL_law 586 = .ok (.aload_n 0, 1) := by decide +kernel
theorem dL_law_587 : decode cL_law 587 = .ok (.iload_n 3, 1) := by decide +kernel
theorem dL_law_588 : decode cL_law 588 = .ok (.iconst 2, 1) := by decide +kernel
theorem dL_law_589 : decode cL_law 589 = .ok (.iadd, 1) := by decide +kernel
theorem dL_law_590 : decode cL_law 590 = .ok (.iaload, 1) := by decide +kernel
theorem dL_law_591 : decode cL_law 591 = .ok (.invokevirtual 83, 3) := by decide +kernel
theorem dL_law_594 : decode cL_law 594 = .ok (.aload_n 2, 1) := by decide +kernel
theorem dL_law_595 : decode cL_law 595 = .ok (.aload_n 0, 1) := by decide +kernel
theorem dL_law_596 : decode cL_law 596 = .ok (.iload_n 3, 1) := by decide +kernel
theorem dL_law_597 : decode cL_law 597 = .ok (.iconst 1, 1) := by decide +kernel
theorem dL_law_598 : decode cL_law 598 = .ok (.iadd, 1) := by decide +kernel
theorem dL_law_599 : decode cL_law 599 = .ok (.iaload, 1) := by decide +kernel
theorem dL_law_600 : decode cL_law 600 = .ok (.aload_n 0, 1) := by decide +kernel
theorem dL_law_601 : decode cL_law 601 = .ok (.iload_n 3, 1) := by decide +kernel
theorem dL_law_602 : decode cL_law 602 = .ok (.iconst 2, 1) := by decide +kernel
theorem dL_law_603 : decode cL_law 603 = .ok (.iadd, 1) := by decide +kernel
theorem dL_law_604 : decode cL_law 604 = .ok (.iaload, 1) := by decide +kernel
theorem dL_law_605 : decode cL_law 605 = .ok (.invokevirtual 86, 3) := by decide +kernel
theorem dL_law_608 : decode cL_law 608 = .ok (.if_icmp .eq 117, 3) := by decide +kernel
theorem dL_law_611 : decode cL_law 611 = .ok (.iconst 0, 1) := by decide +kernel
theorem dL_law_612 : decode cL_law 612 = .ok (.ireturn, 1) := by decide +kernel
theorem dL_law_613 : decode cL_law 613 = .ok (.aload_n 1, 1) := by decide +kernel
theorem dL_law_614 : decode cL_law 614 = .ok (.aload_n 0, 1) := by decide +kernel
theorem dL_law_615 : decode cL_law 615 = .ok (.iload_n 3, 1) := by decide +kernel
theorem dL_law_616 : decode cL_law 616 = .ok (.iconst 1, 1) := by decide +kernel
theorem dL_law_617 : decode cL_law 617 = .ok (.iadd, 1) := by decide +kernel
theorem dL_law_618 : decode cL_law 618 = .ok (.iaload, 1) := by decide +kernel
theorem dL_law_619 : decode cL_law 619 = .ok (.aload_n 0, 1) := by decide +kernel
theorem dL_law_620 : decode cL_law 620 = .ok (.iload_n 3, 1) := by decide +kernel
theorem dL_law_621 : decode cL_law 621 = .ok (.iconst 2, 1) := by decide +kernel
theorem dL_law_622 : decode cL_law 622 = .ok (.iadd, 1) := by decide +kernel
theorem dL_law_623 : decode cL_law 623 = .ok (.iaload, 1) := by decide +kernel
theorem dL_law_624 : decode cL_law 624 = .ok (.aload_n 0, 1) := by decide +kernel
theorem dL_law_625 : decode cL_law 625 = .ok (.iload_n 3, 1) := by decide +kernel
theorem dL_law_626 : decode cL_law 626 = .ok (.iconst 3, 1) := by decide +kernel
theorem dL_law_627 : decode cL_law 627 = .ok (.iadd, 1) := by decide +kernel
theorem dL_law_628 : decode cL_law 628 = .ok (.iaload, 1) := by decide +kernel
theorem dL_law_629 : decode cL_law 629 = .ok (.invokevirtual 87, 3) := by decide +kernel
theorem dL_law_632 : decode cL_law 632 = .ok (.aload_n 2, 1) := by decide +kernel
theorem dL_law_633 : decode cL_law 633 = .ok (.aload_n 0, 1) := by decide +kernel
theorem dL_law_634 : decode cL_law 634 = .ok (.iload_n 3, 1) := by decide +kernel
theorem dL_law_635 : decode cL_law 635 = .ok (.iconst 1, 1) := by decide +kernel
theorem dL_law_636 : decode cL_law 636 = .ok (.iadd, 1) := by decide +kernel
theorem dL_law_637 : decode cL_law 637 = .ok (.iaload, 1) := by decide +kernel
theorem dL_law_638 : decode cL_law 638 = .ok (.aload_n 0, 1) := by decide +kernel
theorem dL_law_639 : decode cL_law 639 = .ok (.iload_n 3, 1) := by decide +kernel
theorem dL_law_640 : decode cL_law 640 = .ok (.iconst 2, 1) := by decide +kernel
theorem dL_law_641 : decode cL_law 641 = .ok (.iadd, 1) := by decide +kernel
theorem dL_law_642 : decode cL_law 642 = .ok (.iaload, 1) := by decide +kernel
theorem dL_law_643 : decode cL_law 643 = .ok (.aload_n 0, 1) := by decide +kernel
theorem dL_law_644 : decode cL_law 644 = .ok (.iload_n 3, 1) := by decide +kernel
theorem dL_law_645 : decode cL_law 645 = .ok (.iconst 3, 1) := by decide +kernel
theorem dL_law_646 : decode cL_law 646 = .ok (.iadd, 1) := by decide +kernel
theorem dL_law_647 : decode cL_law 647 = .ok (.iaload, 1) := by decide +kernel
theorem dL_law_648 : decode cL_law 648 = .ok (.invokevirtual 91, 3) := by decide +kernel
theorem dL_law_651 : decode cL_law 651 = .ok (.if_icmp .eq 74, 3) := by decide +kernel
theorem dL_law_654 : decode cL_law 654 = .ok (.iconst 0, 1) := by decide +kernel
theorem dL_law_655 : decode cL_law 655 = .ok (.ireturn, 1) := by decide +kernel
theorem dL_law_656 : decode cL_law 656 = .ok (.aload_n 1, 1) := by decide +kernel
theorem dL_law_657 : decode cL_law 657 = .ok (.aload_n 0, 1) := by decide +kernel
theorem dL_law_658 : decode cL_law 658 = .ok (.iload_n 3, 1) := by decide +kernel
theorem dL_law_659 : decode cL_law 659 = .ok (.iconst 1, 1) := by decide +kernel
theorem dL_law_660 : decode cL_law 660 = .ok (.iadd, 1) := by decide +kernel
theorem dL_law_661 : decode cL_law 661 = .ok (.iaload, 1) := by decide +kernel
theorem dL_law_662 : decode cL_law 662 = .ok (.invokevirtual 92, 3) := by decide +kernel
theorem dL_law_665 : decode cL_law 665 = .ok (.aload_n 2, 1) := by decide +kernel
theorem dL_law_666 : decode cL_law 666 = .ok (.aload_n 0, 1) := by decide +kernel
theorem dL_law_667 : decode cL_law 667 = .ok (.iload_n 3, 1) := by decide +kernel
theorem dL_law_668 : decode cL_law 668 = .ok (.iconst 1, 1) := by decide +kernel
theorem dL_law_669 : decode cL_law 669 = .ok (.iadd, 1) := by decide +kernel
theorem dL_law_670 : decode cL_law 670 = .ok (.iaload, 1) := by decide +kernel
theorem dL_law_671 : decode cL_law 671 = .ok (.invokevirtual 95, 3) := by decide +kernel
theorem dL_law_674 : decode cL_law 674 = .ok (.if_icmp .eq 51, 3) := by decide +kernel
theorem dL_law_677 : decode cL_law 677 = .ok (.iconst 0, 1) := by decide +kernel
theorem dL_law_678 : decode cL_law 678 = .ok (.ireturn, 1) := by decide +kernel
theorem dL_law_679 : decode cL_law 679 = .ok (.aload_n 1, 1) := by decide +kernel
theorem dL_law_680 : decode cL_law 680 = .ok (.aload_n 0, 1) := by decide +kernel
theorem dL_law_681 : decode cL_law 681 = .ok (.iload_n 3, 1) := by decide +kernel
theorem dL_law_682 : decode cL_law 682 = .ok (.iconst 1, 1) := by decide +kernel
theorem dL_law_683 : decode cL_law 683 = .ok (.iadd, 1) := by decide +kernel
theorem dL_law_684 : decode cL_law 684 = .ok (.iaload, 1) := by decide +kernel
theorem dL_law_685 : decode cL_law 685 = .ok (.invokevirtual 96, 3) := by decide +kernel
theorem dL_law_688 : decode cL_law 688 = .ok (.aload_n 2, 1) := by decide +kernel
theorem dL_law_689 : decode cL_law 689 = .ok (.aload_n 0, 1) := by decide +kernel
theorem dL_law_690 : decode cL_law 690 = .ok (.iload_n 3, 1) := by decide +kernel
theorem dL_law_691 : decode cL_law 691 = .ok (.iconst 1, 1) := by decide +kernel
theorem dL_law_692 : decode cL_law 692 = .ok (.iadd, 1) := by decide +kernel
theorem dL_law_693 : decode cL_law 693 = .ok (.iaload, 1) := by decide +kernel
theorem dL_law_694 : decode cL_law 694 = .ok (.invokevirtual 99, 3) := by decide +kernel
theorem dL_law_697 : decode cL_law 697 = .ok (.if_icmp .eq 28, 3) := by decide +kernel
theorem dL_law_700 : decode cL_law 700 = .ok (.iconst 0, 1) := by decide +kernel
theorem dL_law_701 : decode cL_law 701 = .ok (.ireturn, 1) := by decide +kernel
theorem dL_law_702 : decode cL_law 702 = .ok (.aload_n 1, 1) := by decide +kernel
theorem dL_law_703 : decode cL_law 703 = .ok (.aload_n 0, 1) := by decide +kernel
theorem dL_law_704 : decode cL_law 704 = .ok (.iload_n 3, 1) := by decide +kernel
theorem dL_law_705 : decode cL_law 705 = .ok (.iconst 1, 1) := by decide +kernel
theorem dL_law_706 : decode cL_law 706 = .ok (.iadd, 1) := by decide +kernel
theorem dL_law_707 : decode cL_law 707 = .ok (.iaload, 1) := by decide +kernel
theorem dL_law_708 : decode cL_law 708 = .ok (.invokevirtual 100, 3) := by decide +kernel
theorem dL_law_711 : decode cL_law 711 = .ok (.aload_n 2, 1) := by decide +kernel
theorem dL_law_712 : decode cL_law 712 = .ok (.aload_n 0, 1) := by decide +kernel
theorem dL_law_713 : decode cL_law 713 = .ok (.iload_n 3, 1) := by decide +kernel
theorem dL_law_714 : decode cL_law 714 = .ok (.iconst 1, 1) := by decide +kernel
theorem dL_law_715 : decode cL_law 715 = .ok (.iadd, 1) := by decide +kernel
theorem dL_law_716 : decode cL_law 716 = .ok (.iaload, 1) := by decide +kernel
theorem dL_law_717 : decode cL_law 717 = .ok (.invokevirtual 103, 3) := by decide +kernel
theorem dL_law_720 : decode cL_law 720 = .ok (.if_icmp .eq 5, 3) := by decide +kernel
theorem dL_law_723 : decode cL_law 723 = .ok (.iconst 0, 1) := by decide +kernel
theorem dL_law_724 : decode cL_law 724 = .ok (.ireturn, 1) := by decide +kernel
theorem dL_law_725 : decode cL_law 725 = .ok (.iinc 3 5, 3) := by decide +kernel
theorem dL_law_728 : decode cL_law 728 = .ok (.goto (-710), 3) := by decide +kernel
theorem dL_law_731 : decode cL_law 731 = .ok (.iconst 1, 1) := by decide +kernel
theorem dL_law_732 : decode cL_law 732 = .ok (.ireturn, 1) := by decide +kernel
end
section
theorem mm (i : Nat) {w : Cond} (h : lw_tbl[i]? = some w) (g : goodWord w = true) : w ∈ tblG := List.mem_filter.mpr ⟨List.mem_of_getElem? h, g⟩
def okM (y : MethodName) (cc : ByteArray) (maxL : Nat) (ret : Option FieldType) (n : Nat) : Prop := Cond.code y cc maxL ret ∈ tblG ∧ Cond.initialized y.cls ∈ tblG ∧ (y.cls ≠ "java/lang/invoke/MethodHandle" ∧ y.cls ≠ "java/lang/invoke/VarHandle" ∧ (parseMethodDescriptor y.desc).map (fun d => d.parameters.length) = some n) ∧ plainName y.cls = true
theorem ok_X9_init : okM yX9_init cX9_init 1 none 0 := ⟨mm 59 (by decide +kernel) (by decide +kernel), mm 41 (by decide +kernel) (by decide +kernel), by decide +kernel, by decide +kernel⟩
theorem ok_X5_init : okM yX5_init cX5_init 1 none 0 := ⟨mm 67 (by decide +kernel) (by decide +kernel), mm 42 (by decide +kernel) (by decide +kernel), by decide +kernel, by decide +kernel⟩
theorem ok_X7_init : okM yX7_init cX7_init 1 none 0 := ⟨mm 73 (by decide +kernel) (by decide +kernel), mm 43 (by decide +kernel) (by decide +kernel), by decide +kernel, by decide +kernel⟩
theorem ok_X7_build : okM yX7_build cX7_build 3 none 2 := ⟨mm 78 (by decide +kernel) (by decide +kernel), mm 43 (by decide +kernel) (by decide +kernel), by decide +kernel, by decide +kernel⟩
theorem ok_J7_fill_53178 : okM yJ7_fill_53178 cJ7_fill_53178 4 none 2 := ⟨mm 81 (by decide +kernel) (by decide +kernel), mm 44 (by decide +kernel) (by decide +kernel), by decide +kernel, by decide +kernel⟩
theorem ok_X2_init : okM yX2_init cX2_init 1 none 0 := ⟨mm 111 (by decide +kernel) (by decide +kernel), mm 45 (by decide +kernel) (by decide +kernel), by decide +kernel, by decide +kernel⟩
theorem ok_X3_init : okM yX3_init cX3_init 1 none 0 := ⟨mm 162 (by decide +kernel) (by decide +kernel), mm 46 (by decide +kernel) (by decide +kernel), by decide +kernel, by decide +kernel⟩
theorem ok_X8_init : okM yX8_init cX8_init 1 none 0 := ⟨mm 173 (by decide +kernel) (by decide +kernel), mm 47 (by decide +kernel) (by decide +kernel), by decide +kernel, by decide +kernel⟩
theorem ok_X8_clear : okM yX8_clear cX8_clear 1 none 0 := ⟨mm 178 (by decide +kernel) (by decide +kernel), mm 47 (by decide +kernel) (by decide +kernel), by decide +kernel, by decide +kernel⟩
theorem ok_X1_init : okM yX1_init cX1_init 1 none 0 := ⟨mm 208 (by decide +kernel) (by decide +kernel), mm 48 (by decide +kernel) (by decide +kernel), by decide +kernel, by decide +kernel⟩
theorem ok_X4_init : okM yX4_init cX4_init 1 none 0 := ⟨mm 261 (by decide +kernel) (by decide +kernel), mm 49 (by decide +kernel) (by decide +kernel), by decide +kernel, by decide +kernel⟩
theorem ok_X0_init : okM yX0_init cX0_init 1 none 0 := ⟨mm 283 (by decide +kernel) (by decide +kernel), mm 50 (by decide +kernel) (by decide +kernel), by decide +kernel, by decide +kernel⟩
theorem ok_X9_wall : okM yX9_wall cX9_wall 3 (some .boolean) 2 := ⟨mm 306 (by decide +kernel) (by decide +kernel), mm 41 (by decide +kernel) (by decide +kernel), by decide +kernel, by decide +kernel⟩
theorem ok_X9_within : okM yX9_within cX9_within 3 (some .boolean) 3 := ⟨mm 309 (by decide +kernel) (by decide +kernel), mm 41 (by decide +kernel) (by decide +kernel), by decide +kernel, by decide +kernel⟩
theorem ok_X5_dropPlan : okM yX5_dropPlan cX5_dropPlan 1 none 0 := ⟨mm 314 (by decide +kernel) (by decide +kernel), mm 42 (by decide +kernel) (by decide +kernel), by decide +kernel, by decide +kernel⟩
theorem ok_X2_drop : okM yX2_drop cX2_drop 1 none 0 := ⟨mm 318 (by decide +kernel) (by decide +kernel), mm 45 (by decide +kernel) (by decide +kernel), by decide +kernel, by decide +kernel⟩
theorem ok_X1_clear : okM yX1_clear cX1_clear 1 none 0 := ⟨mm 323 (by decide +kernel) (by decide +kernel), mm 48 (by decide +kernel) (by decide +kernel), by decide +kernel, by decide +kernel⟩
theorem ok_X9_cell : okM yX9_cell cX9_cell 5 (some .boolean) 4 := ⟨mm 327 (by decide +kernel) (by decide +kernel), mm 41 (by decide +kernel) (by decide +kernel), by decide +kernel, by decide +kernel⟩
theorem ok_X7_has : okM yX7_has cX7_has 3 (some .boolean) 2 := ⟨mm 331 (by decide +kernel) (by decide +kernel), mm 43 (by decide +kernel) (by decide +kernel), by decide +kernel, by decide +kernel⟩
theorem ok_X9_place : okM yX9_place cX9_place 2 (some .int) 2 := ⟨mm 335 (by decide +kernel) (by decide +kernel), mm 41 (by decide +kernel) (by decide +kernel), by decide +kernel, by decide +kernel⟩
theorem ok_X9_motifs : okM yX9_motifs cX9_motifs 4 (some .boolean) 2 := ⟨mm 339 (by decide +kernel) (by decide +kernel), mm 41 (by decide +kernel) (by decide +kernel), by decide +kernel, by decide +kernel⟩
theorem ok_X9_areMotifs : okM yX9_areMotifs cX9_areMotifs 2 (some .boolean) 1 := ⟨mm 342 (by decide +kernel) (by decide +kernel), mm 41 (by decide +kernel) (by decide +kernel), by decide +kernel, by decide +kernel⟩
theorem ok_X9_halfByte : okM yX9_halfByte cX9_halfByte 2 (some .int) 2 := ⟨mm 345 (by decide +kernel) (by decide +kernel), mm 41 (by decide +kernel) (by decide +kernel), by decide +kernel, by decide +kernel⟩
theorem ok_X9_limit : okM yX9_limit cX9_limit 2 (some .boolean) 1 := ⟨mm 349 (by decide +kernel) (by decide +kernel), mm 41 (by decide +kernel) (by decide +kernel), by decide +kernel, by decide +kernel⟩
theorem ok_X9_saw : okM yX9_saw cX9_saw 2 (some .boolean) 1 := ⟨mm 353 (by decide +kernel) (by decide +kernel), mm 41 (by decide +kernel) (by decide +kernel), by decide +kernel, by decide +kernel⟩
theorem ok_X9_plan : okM yX9_plan cX9_plan 1 (some .int) 0 := ⟨mm 357 (by decide +kernel) (by decide +kernel), mm 41 (by decide +kernel) (by decide +kernel), by decide +kernel, by decide +kernel⟩
theorem ok_X4_findsPlan : okM yX4_findsPlan cX4_findsPlan 5 (some .boolean) 2 := ⟨mm 361 (by decide +kernel) (by decide +kernel), mm 49 (by decide +kernel) (by decide +kernel), by decide +kernel, by decide +kernel⟩
theorem ok_X4_addUpWeights : okM yX4_addUpWeights cX4_addUpWeights 5 none 1 := ⟨mm 365 (by decide +kernel) (by decide +kernel), mm 49 (by decide +kernel) (by decide +kernel), by decide +kernel, by decide +kernel⟩
theorem ok_X4_corner : okM yX4_corner cX4_corner 2 (some .int) 2 := ⟨mm 369 (by decide +kernel) (by decide +kernel), mm 49 (by decide +kernel) (by decide +kernel), by decide +kernel, by decide +kernel⟩
theorem ok_X4_findBars : okM yX4_findBars cX4_findBars 4 none 1 := ⟨mm 373 (by decide +kernel) (by decide +kernel), mm 49 (by decide +kernel) (by decide +kernel), by decide +kernel, by decide +kernel⟩
theorem ok_X4_findBarsOf : okM yX4_findBarsOf cX4_findBarsOf 5 none 3 := ⟨mm 378 (by decide +kernel) (by decide +kernel), mm 49 (by decide +kernel) (by decide +kernel), by decide +kernel, by decide +kernel⟩
theorem ok_X7_isOneCarving : okM yX7_isOneCarving cX7_isOneCarving 3 (some .boolean) 2 := ⟨mm 383 (by decide +kernel) (by decide +kernel), mm 43 (by decide +kernel) (by decide +kernel), by decide +kernel, by decide +kernel⟩
theorem ok_X4_findCosts : okM yX4_findCosts cX4_findCosts 6 none 3 := ⟨mm 387 (by decide +kernel) (by decide +kernel), mm 49 (by decide +kernel) (by decide +kernel), by decide +kernel, by decide +kernel⟩
theorem ok_X4_part : okM yX4_part cX4_part 4 (some .int) 4 := ⟨mm 390 (by decide +kernel) (by decide +kernel), mm 49 (by decide +kernel) (by decide +kernel), by decide +kernel, by decide +kernel⟩
theorem ok_X4_span : okM yX4_span cX4_span 2 (some .int) 2 := ⟨mm 393 (by decide +kernel) (by decide +kernel), mm 49 (by decide +kernel) (by decide +kernel), by decide +kernel, by decide +kernel⟩
theorem ok_X4_leastCost : okM yX4_leastCost cX4_leastCost 7 (some .int) 4 := ⟨mm 397 (by decide +kernel) (by decide +kernel), mm 49 (by decide +kernel) (by decide +kernel), by decide +kernel, by decide +kernel⟩
theorem ok_X4_weightOfPart : okM yX4_weightOfPart cX4_weightOfPart 5 (some .int) 4 := ⟨mm 401 (by decide +kernel) (by decide +kernel), mm 49 (by decide +kernel) (by decide +kernel), by decide +kernel, by decide +kernel⟩
theorem ok_X4_uprightCost : okM yX4_uprightCost cX4_uprightCost 6 (some .int) 5 := ⟨mm 406 (by decide +kernel) (by decide +kernel), mm 49 (by decide +kernel) (by decide +kernel), by decide +kernel, by decide +kernel⟩
theorem ok_X4_isBarred : okM yX4_isBarred cX4_isBarred 3 (some .boolean) 3 := ⟨mm 409 (by decide +kernel) (by decide +kernel), mm 49 (by decide +kernel) (by decide +kernel), by decide +kernel, by decide +kernel⟩
theorem ok_X4_levelCost : okM yX4_levelCost cX4_levelCost 6 (some .int) 5 := ⟨mm 416 (by decide +kernel) (by decide +kernel), mm 49 (by decide +kernel) (by decide +kernel), by decide +kernel, by decide +kernel⟩
theorem ok_X4_cutUp : okM yX4_cutUp cX4_cutUp 5 none 2 := ⟨mm 420 (by decide +kernel) (by decide +kernel), mm 49 (by decide +kernel) (by decide +kernel), by decide +kernel, by decide +kernel⟩
theorem ok_X2_startWith : okM yX2_startWith cX2_startWith 3 none 2 := ⟨mm 424 (by decide +kernel) (by decide +kernel), mm 45 (by decide +kernel) (by decide +kernel), by decide +kernel, by decide +kernel⟩
theorem ok_X4_cutsFirst : okM yX4_cutsFirst cX4_cutsFirst 9 (some .boolean) 2 := ⟨mm 428 (by decide +kernel) (by decide +kernel), mm 49 (by decide +kernel) (by decide +kernel), by decide +kernel, by decide +kernel⟩
theorem ok_X2_cutUpright : okM yX2_cutUpright cX2_cutUpright 3 none 2 := ⟨mm 432 (by decide +kernel) (by decide +kernel), mm 45 (by decide +kernel) (by decide +kernel), by decide +kernel, by decide +kernel⟩
theorem ok_X2_makeTwo : okM yX2_makeTwo cX2_makeTwo 2 none 1 := ⟨mm 436 (by decide +kernel) (by decide +kernel), mm 45 (by decide +kernel) (by decide +kernel), by decide +kernel, by decide +kernel⟩
theorem ok_X2_moveUp : okM yX2_moveUp cX2_moveUp 3 none 2 := ⟨mm 440 (by decide +kernel) (by decide +kernel), mm 45 (by decide +kernel) (by decide +kernel), by decide +kernel, by decide +kernel⟩
theorem ok_X2_cutLevel : okM yX2_cutLevel cX2_cutLevel 3 none 2 := ⟨mm 447 (by decide +kernel) (by decide +kernel), mm 45 (by decide +kernel) (by decide +kernel), by decide +kernel, by decide +kernel⟩
theorem ok_X2_numberCells : okM yX2_numberCells cX2_numberCells 2 none 0 := ⟨mm 451 (by decide +kernel) (by decide +kernel), mm 45 (by decide +kernel) (by decide +kernel), by decide +kernel, by decide +kernel⟩
theorem ok_X2_numberCellsOf : okM yX2_numberCellsOf cX2_numberCellsOf 4 none 1 := ⟨mm 455 (by decide +kernel) (by decide +kernel), mm 45 (by decide +kernel) (by decide +kernel), by decide +kernel, by decide +kernel⟩
theorem ok_X2_findTurns : okM yX2_findTurns cX2_findTurns 7 none 2 := ⟨mm 460 (by decide +kernel) (by decide +kernel), mm 45 (by decide +kernel) (by decide +kernel), by decide +kernel, by decide +kernel⟩
theorem ok_X9_block : okM yX9_block cX9_block 3 (some .int) 2 := ⟨mm 464 (by decide +kernel) (by decide +kernel), mm 41 (by decide +kernel) (by decide +kernel), by decide +kernel, by decide +kernel⟩
theorem ok_X2_has : okM yX2_has cX2_has 2 (some .boolean) 1 := ⟨mm 468 (by decide +kernel) (by decide +kernel), mm 45 (by decide +kernel) (by decide +kernel), by decide +kernel, by decide +kernel⟩
theorem ok_X5_weightOf : okM yX5_weightOf cX5_weightOf 2 (some .int) 1 := ⟨mm 473 (by decide +kernel) (by decide +kernel), mm 42 (by decide +kernel) (by decide +kernel), by decide +kernel, by decide +kernel⟩
theorem ok_X7_weightOf : okM yX7_weightOf cX7_weightOf 8 (some .int) 4 := ⟨mm 477 (by decide +kernel) (by decide +kernel), mm 43 (by decide +kernel) (by decide +kernel), by decide +kernel, by decide +kernel⟩
theorem ok_X5_dueOf : okM yX5_dueOf cX5_dueOf 2 (some .int) 1 := ⟨mm 482 (by decide +kernel) (by decide +kernel), mm 42 (by decide +kernel) (by decide +kernel), by decide +kernel, by decide +kernel⟩
theorem ok_X3_firstDayOver : okM yX3_firstDayOver cX3_firstDayOver 3 (some .int) 1 := ⟨mm 486 (by decide +kernel) (by decide +kernel), mm 46 (by decide +kernel) (by decide +kernel), by decide +kernel, by decide +kernel⟩
theorem ok_X8_isTaken : okM yX8_isTaken cX8_isTaken 2 (some .boolean) 1 := ⟨mm 490 (by decide +kernel) (by decide +kernel), mm 47 (by decide +kernel) (by decide +kernel), by decide +kernel, by decide +kernel⟩
theorem ok_X5_isFree : okM yX5_isFree cX5_isFree 4 (some .boolean) 1 := ⟨mm 494 (by decide +kernel) (by decide +kernel), mm 42 (by decide +kernel) (by decide +kernel), by decide +kernel, by decide +kernel⟩
theorem ok_X5_wideOf : okM yX5_wideOf cX5_wideOf 3 (some .int) 1 := ⟨mm 500 (by decide +kernel) (by decide +kernel), mm 42 (by decide +kernel) (by decide +kernel), by decide +kernel, by decide +kernel⟩
theorem ok_X9_at : okM yX9_at cX9_at 3 (some .int) 2 := ⟨mm 504 (by decide +kernel) (by decide +kernel), mm 41 (by decide +kernel) (by decide +kernel), by decide +kernel, by decide +kernel⟩
theorem ok_X9_above : okM yX9_above cX9_above 3 (some .boolean) 2 := ⟨mm 508 (by decide +kernel) (by decide +kernel), mm 41 (by decide +kernel) (by decide +kernel), by decide +kernel, by decide +kernel⟩
theorem ok_X2_isAbove : okM yX2_isAbove cX2_isAbove 3 (some .boolean) 2 := ⟨mm 512 (by decide +kernel) (by decide +kernel), mm 45 (by decide +kernel) (by decide +kernel), by decide +kernel, by decide +kernel⟩
theorem ok_X9_river : okM yX9_river cX9_river 3 (some .boolean) 2 := ⟨mm 516 (by decide +kernel) (by decide +kernel), mm 41 (by decide +kernel) (by decide +kernel), by decide +kernel, by decide +kernel⟩
theorem ok_X9_days : okM yX9_days cX9_days 2 (some .int) 1 := ⟨mm 520 (by decide +kernel) (by decide +kernel), mm 41 (by decide +kernel) (by decide +kernel), by decide +kernel, by decide +kernel⟩
theorem ok_X9_take : okM yX9_take cX9_take 3 (some .int) 1 := ⟨mm 524 (by decide +kernel) (by decide +kernel), mm 41 (by decide +kernel) (by decide +kernel), by decide +kernel, by decide +kernel⟩
theorem ok_X3_covers : okM yX3_covers cX3_covers 4 (some .boolean) 2 := ⟨mm 528 (by decide +kernel) (by decide +kernel), mm 46 (by decide +kernel) (by decide +kernel), by decide +kernel, by decide +kernel⟩
theorem ok_X8_lay : okM yX8_lay cX8_lay 5 (some .int) 3 := ⟨mm 533 (by decide +kernel) (by decide +kernel), mm 47 (by decide +kernel) (by decide +kernel), by decide +kernel, by decide +kernel⟩
theorem ok_X8_pileFor : okM yX8_pileFor cX8_pileFor 7 (some .int) 2 := ⟨mm 537 (by decide +kernel) (by decide +kernel), mm 47 (by decide +kernel) (by decide +kernel), by decide +kernel, by decide +kernel⟩
theorem ok_X9_order : okM yX9_order cX9_order 1 (some .int) 0 := ⟨mm 541 (by decide +kernel) (by decide +kernel), mm 41 (by decide +kernel) (by decide +kernel), by decide +kernel, by decide +kernel⟩
theorem ok_X0_arrange : okM yX0_arrange cX0_arrange 6 (some .int) 1 := ⟨mm 545 (by decide +kernel) (by decide +kernel), mm 50 (by decide +kernel) (by decide +kernel), by decide +kernel, by decide +kernel⟩
theorem ok_X0_findPress : okM yX0_findPress cX0_findPress 7 none 1 := ⟨mm 549 (by decide +kernel) (by decide +kernel), mm 50 (by decide +kernel) (by decide +kernel), by decide +kernel, by decide +kernel⟩
theorem ok_X0_passOverTaken : okM yX0_passOverTaken cX0_passOverTaken 3 none 1 := ⟨mm 557 (by decide +kernel) (by decide +kernel), mm 50 (by decide +kernel) (by decide +kernel), by decide +kernel, by decide +kernel⟩
theorem ok_X0_mostPressing : okM yX0_mostPressing cX0_mostPressing 4 (some .int) 1 := ⟨mm 564 (by decide +kernel) (by decide +kernel), mm 50 (by decide +kernel) (by decide +kernel), by decide +kernel, by decide +kernel⟩
theorem ok_X1_add : okM yX1_add cX1_add 2 none 1 := ⟨mm 568 (by decide +kernel) (by decide +kernel), mm 48 (by decide +kernel) (by decide +kernel), by decide +kernel, by decide +kernel⟩
theorem ok_X5_isInTime : okM yX5_isInTime cX5_isInTime 4 (some .boolean) 2 := ⟨mm 572 (by decide +kernel) (by decide +kernel), mm 42 (by decide +kernel) (by decide +kernel), by decide +kernel, by decide +kernel⟩
theorem ok_X9_ordered : okM yX9_ordered cX9_ordered 2 (some .int) 1 := ⟨mm 577 (by decide +kernel) (by decide +kernel), mm 41 (by decide +kernel) (by decide +kernel), by decide +kernel, by decide +kernel⟩
theorem ok_X9_piled : okM yX9_piled cX9_piled 3 (some .int) 2 := ⟨mm 581 (by decide +kernel) (by decide +kernel), mm 41 (by decide +kernel) (by decide +kernel), by decide +kernel, by decide +kernel⟩
theorem ok_X8_blockIn : okM yX8_blockIn cX8_blockIn 5 (some .int) 3 := ⟨mm 585 (by decide +kernel) (by decide +kernel), mm 47 (by decide +kernel) (by decide +kernel), by decide +kernel, by decide +kernel⟩
theorem ok_X9_sun : okM yX9_sun cX9_sun 2 (some .int) 1 := ⟨mm 589 (by decide +kernel) (by decide +kernel), mm 41 (by decide +kernel) (by decide +kernel), by decide +kernel, by decide +kernel⟩
theorem ok_X6_direction : okM yX6_direction cX6_direction 1 (some .int) 1 := ⟨mm 592 (by decide +kernel) (by decide +kernel), mm 54 (by decide +kernel) (by decide +kernel), by decide +kernel, by decide +kernel⟩
theorem ok_X9_strikes : okM yX9_strikes cX9_strikes 3 (some .int) 2 := ⟨mm 599 (by decide +kernel) (by decide +kernel), mm 41 (by decide +kernel) (by decide +kernel), by decide +kernel, by decide +kernel⟩
theorem ok_X9_isPlace : okM yX9_isPlace cX9_isPlace 2 (some .boolean) 2 := ⟨mm 602 (by decide +kernel) (by decide +kernel), mm 41 (by decide +kernel) (by decide +kernel), by decide +kernel, by decide +kernel⟩
theorem ok_X6_daysBetween : okM yX6_daysBetween cX6_daysBetween 2 (some .int) 2 := ⟨mm 605 (by decide +kernel) (by decide +kernel), mm 54 (by decide +kernel) (by decide +kernel), by decide +kernel, by decide +kernel⟩
theorem ok_X6_daysUpTo : okM yX6_daysUpTo cX6_daysUpTo 1 (some .int) 1 := ⟨mm 608 (by decide +kernel) (by decide +kernel), mm 54 (by decide +kernel) (by decide +kernel), by decide +kernel, by decide +kernel⟩
theorem ok_X9_like : okM yX9_like cX9_like 4 (some .int) 3 := ⟨mm 612 (by decide +kernel) (by decide +kernel), mm 41 (by decide +kernel) (by decide +kernel), by decide +kernel, by decide +kernel⟩
theorem ok_X6_mostAlike : okM yX6_mostAlike cX6_mostAlike 10 (some .int) 3 := ⟨mm 615 (by decide +kernel) (by decide +kernel), mm 54 (by decide +kernel) (by decide +kernel), by decide +kernel, by decide +kernel⟩
theorem ok_X9_count : okM yX9_count cX9_count 2 (some .int) 1 := ⟨mm 624 (by decide +kernel) (by decide +kernel), mm 41 (by decide +kernel) (by decide +kernel), by decide +kernel, by decide +kernel⟩
theorem ok_X9_image : okM yX9_image cX9_image 2 (some .boolean) 1 := ⟨mm 629 (by decide +kernel) (by decide +kernel), mm 41 (by decide +kernel) (by decide +kernel), by decide +kernel, by decide +kernel⟩
theorem ok_X5_become : okM yX5_become cX5_become 2 none 1 := ⟨mm 633 (by decide +kernel) (by decide +kernel), mm 42 (by decide +kernel) (by decide +kernel), by decide +kernel, by decide +kernel⟩
theorem ok_X7_become : okM yX7_become cX7_become 2 none 1 := ⟨mm 637 (by decide +kernel) (by decide +kernel), mm 43 (by decide +kernel) (by decide +kernel), by decide +kernel, by decide +kernel⟩
theorem ok_X9_copyRow : okM yX9_copyRow cX9_copyRow 2 none 2 := ⟨mm 640 (by decide +kernel) (by decide +kernel), mm 41 (by decide +kernel) (by decide +kernel), by decide +kernel, by decide +kernel⟩
theorem ok_X2_become : okM yX2_become cX2_become 2 none 1 := ⟨mm 646 (by decide +kernel) (by decide +kernel), mm 45 (by decide +kernel) (by decide +kernel), by decide +kernel, by decide +kernel⟩
theorem ok_X3_become : okM yX3_become cX3_become 2 none 1 := ⟨mm 651 (by decide +kernel) (by decide +kernel), mm 46 (by decide +kernel) (by decide +kernel), by decide +kernel, by decide +kernel⟩
theorem ok_X8_become : okM yX8_become cX8_become 2 none 1 := ⟨mm 656 (by decide +kernel) (by decide +kernel), mm 47 (by decide +kernel) (by decide +kernel), by decide +kernel, by decide +kernel⟩
theorem ok_X1_become : okM yX1_become cX1_become 2 none 1 := ⟨mm 661 (by decide +kernel) (by decide +kernel), mm 48 (by decide +kernel) (by decide +kernel), by decide +kernel, by decide +kernel⟩
theorem ok_X9_again : okM yX9_again cX9_again 2 (some .boolean) 1 := ⟨mm 666 (by decide +kernel) (by decide +kernel), mm 41 (by decide +kernel) (by decide +kernel), by decide +kernel, by decide +kernel⟩
theorem ok_X10_init : okM yX10_init cX10_init 1 none 0 := ⟨mm 671 (by decide +kernel) (by decide +kernel), mm 51 (by decide +kernel) (by decide +kernel), by decide +kernel, by decide +kernel⟩
theorem ok_X10_begins : okM yX10_begins cX10_begins 4 none 2 := ⟨mm 676 (by decide +kernel) (by decide +kernel), mm 51 (by decide +kernel) (by decide +kernel), by decide +kernel, by decide +kernel⟩
theorem ok_X10_noPlan : okM yX10_noPlan cX10_noPlan 1 none 0 := ⟨mm 680 (by decide +kernel) (by decide +kernel), mm 51 (by decide +kernel) (by decide +kernel), by decide +kernel, by decide +kernel⟩
theorem ok_X10_wall : okM yX10_wall cX10_wall 3 (some .boolean) 2 := ⟨mm 710 (by decide +kernel) (by decide +kernel), mm 51 (by decide +kernel) (by decide +kernel), by decide +kernel, by decide +kernel⟩
theorem ok_X10_isIn : okM yX10_isIn cX10_isIn 3 (some .boolean) 3 := ⟨mm 713 (by decide +kernel) (by decide +kernel), mm 51 (by decide +kernel) (by decide +kernel), by decide +kernel, by decide +kernel⟩
theorem ok_X10_cell : okM yX10_cell cX10_cell 5 (some .boolean) 4 := ⟨mm 717 (by decide +kernel) (by decide +kernel), mm 51 (by decide +kernel) (by decide +kernel), by decide +kernel, by decide +kernel⟩
theorem ok_X10_isCell : okM yX10_isCell cX10_isCell 3 (some .boolean) 2 := ⟨mm 721 (by decide +kernel) (by decide +kernel), mm 51 (by decide +kernel) (by decide +kernel), by decide +kernel, by decide +kernel⟩
theorem ok_X10_motifs : okM yX10_motifs cX10_motifs 4 (some .boolean) 2 := ⟨mm 725 (by decide +kernel) (by decide +kernel), mm 51 (by decide +kernel) (by decide +kernel), by decide +kernel, by decide +kernel⟩
theorem ok_X10_limit : okM yX10_limit cX10_limit 2 (some .boolean) 1 := ⟨mm 729 (by decide +kernel) (by decide +kernel), mm 51 (by decide +kernel) (by decide +kernel), by decide +kernel, by decide +kernel⟩
theorem ok_X10_saw : okM yX10_saw cX10_saw 2 (some .boolean) 1 := ⟨mm 733 (by decide +kernel) (by decide +kernel), mm 51 (by decide +kernel) (by decide +kernel), by decide +kernel, by decide +kernel⟩
theorem ok_X10_plan : okM yX10_plan cX10_plan 8 (some .int) 0 := ⟨mm 737 (by decide +kernel) (by decide +kernel), mm 51 (by decide +kernel) (by decide +kernel), by decide +kernel, by decide +kernel⟩
theorem ok_X10_settles : okM yX10_settles cX10_settles 7 none 4 := ⟨mm 741 (by decide +kernel) (by decide +kernel), mm 51 (by decide +kernel) (by decide +kernel), by decide +kernel, by decide +kernel⟩
theorem ok_X10_part : okM yX10_part cX10_part 4 (some .int) 4 := ⟨mm 744 (by decide +kernel) (by decide +kernel), mm 51 (by decide +kernel) (by decide +kernel), by decide +kernel, by decide +kernel⟩
theorem ok_X10_weight : okM yX10_weight cX10_weight 8 (some .int) 4 := ⟨mm 748 (by decide +kernel) (by decide +kernel), mm 51 (by decide +kernel) (by decide +kernel), by decide +kernel, by decide +kernel⟩
theorem ok_X10_mayUpright : okM yX10_mayUpright cX10_mayUpright 7 (some .boolean) 4 := ⟨mm 752 (by decide +kernel) (by decide +kernel), mm 51 (by decide +kernel) (by decide +kernel), by decide +kernel, by decide +kernel⟩
theorem ok_X10_isOne : okM yX10_isOne cX10_isOne 3 (some .boolean) 2 := ⟨mm 756 (by decide +kernel) (by decide +kernel), mm 51 (by decide +kernel) (by decide +kernel), by decide +kernel, by decide +kernel⟩
theorem ok_X10_tries : okM yX10_tries cX10_tries 8 none 5 := ⟨mm 760 (by decide +kernel) (by decide +kernel), mm 51 (by decide +kernel) (by decide +kernel), by decide +kernel, by decide +kernel⟩
theorem ok_X10_mayLevel : okM yX10_mayLevel cX10_mayLevel 7 (some .boolean) 4 := ⟨mm 764 (by decide +kernel) (by decide +kernel), mm 51 (by decide +kernel) (by decide +kernel), by decide +kernel, by decide +kernel⟩
theorem ok_X10_puts : okM yX10_puts cX10_puts 6 (some .int) 5 := ⟨mm 768 (by decide +kernel) (by decide +kernel), mm 51 (by decide +kernel) (by decide +kernel), by decide +kernel, by decide +kernel⟩
theorem ok_X10_isBlock : okM yX10_isBlock cX10_isBlock 6 none 4 := ⟨mm 772 (by decide +kernel) (by decide +kernel), mm 51 (by decide +kernel) (by decide +kernel), by decide +kernel, by decide +kernel⟩
theorem ok_X10_turnOf : okM yX10_turnOf cX10_turnOf 4 (some .int) 1 := ⟨mm 776 (by decide +kernel) (by decide +kernel), mm 51 (by decide +kernel) (by decide +kernel), by decide +kernel, by decide +kernel⟩
theorem ok_X10_of : okM yX10_of cX10_of 3 (some .int) 2 := ⟨mm 780 (by decide +kernel) (by decide +kernel), mm 51 (by decide +kernel) (by decide +kernel), by decide +kernel, by decide +kernel⟩
theorem ok_X10_block : okM yX10_block cX10_block 3 (some .int) 2 := ⟨mm 784 (by decide +kernel) (by decide +kernel), mm 51 (by decide +kernel) (by decide +kernel), by decide +kernel, by decide +kernel⟩
theorem ok_X10_isThere : okM yX10_isThere cX10_isThere 2 (some .boolean) 1 := ⟨mm 788 (by decide +kernel) (by decide +kernel), mm 51 (by decide +kernel) (by decide +kernel), by decide +kernel, by decide +kernel⟩
theorem ok_X10_due : okM yX10_due cX10_due 3 (some .int) 1 := ⟨mm 792 (by decide +kernel) (by decide +kernel), mm 51 (by decide +kernel) (by decide +kernel), by decide +kernel, by decide +kernel⟩
theorem ok_X10_stands : okM yX10_stands cX10_stands 2 (some .boolean) 1 := ⟨mm 796 (by decide +kernel) (by decide +kernel), mm 51 (by decide +kernel) (by decide +kernel), by decide +kernel, by decide +kernel⟩
theorem ok_X10_isFree : okM yX10_isFree cX10_isFree 4 (some .boolean) 1 := ⟨mm 800 (by decide +kernel) (by decide +kernel), mm 51 (by decide +kernel) (by decide +kernel), by decide +kernel, by decide +kernel⟩
theorem ok_X10_isAbove : okM yX10_isAbove cX10_isAbove 3 (some .boolean) 2 := ⟨mm 804 (by decide +kernel) (by decide +kernel), mm 51 (by decide +kernel) (by decide +kernel), by decide +kernel, by decide +kernel⟩
theorem ok_X10_wideOf : okM yX10_wideOf cX10_wideOf 3 (some .int) 1 := ⟨mm 808 (by decide +kernel) (by decide +kernel), mm 51 (by decide +kernel) (by decide +kernel), by decide +kernel, by decide +kernel⟩
theorem ok_X10_at : okM yX10_at cX10_at 4 (some .int) 2 := ⟨mm 812 (by decide +kernel) (by decide +kernel), mm 51 (by decide +kernel) (by decide +kernel), by decide +kernel, by decide +kernel⟩
theorem ok_X10_above : okM yX10_above cX10_above 3 (some .boolean) 2 := ⟨mm 816 (by decide +kernel) (by decide +kernel), mm 51 (by decide +kernel) (by decide +kernel), by decide +kernel, by decide +kernel⟩
theorem ok_X10_river : okM yX10_river cX10_river 3 (some .boolean) 2 := ⟨mm 820 (by decide +kernel) (by decide +kernel), mm 51 (by decide +kernel) (by decide +kernel), by decide +kernel, by decide +kernel⟩
theorem ok_X10_days : okM yX10_days cX10_days 2 (some .int) 1 := ⟨mm 824 (by decide +kernel) (by decide +kernel), mm 51 (by decide +kernel) (by decide +kernel), by decide +kernel, by decide +kernel⟩
theorem ok_X10_take : okM yX10_take cX10_take 6 (some .int) 1 := ⟨mm 828 (by decide +kernel) (by decide +kernel), mm 51 (by decide +kernel) (by decide +kernel), by decide +kernel, by decide +kernel⟩
theorem ok_X10_uppermost : okM yX10_uppermost cX10_uppermost 4 (some .int) 1 := ⟨mm 832 (by decide +kernel) (by decide +kernel), mm 51 (by decide +kernel) (by decide +kernel), by decide +kernel, by decide +kernel⟩
theorem ok_X10_taken : okM yX10_taken cX10_taken 3 (some .int) 0 := ⟨mm 836 (by decide +kernel) (by decide +kernel), mm 51 (by decide +kernel) (by decide +kernel), by decide +kernel, by decide +kernel⟩
theorem ok_X10_piled : okM yX10_piled cX10_piled 6 (some .int) 2 := ⟨mm 840 (by decide +kernel) (by decide +kernel), mm 51 (by decide +kernel) (by decide +kernel), by decide +kernel, by decide +kernel⟩
theorem ok_X10_order : okM yX10_order cX10_order 3 (some .int) 0 := ⟨mm 844 (by decide +kernel) (by decide +kernel), mm 51 (by decide +kernel) (by decide +kernel), by decide +kernel, by decide +kernel⟩
theorem ok_X10_presses : okM yX10_presses cX10_presses 4 none 0 := ⟨mm 848 (by decide +kernel) (by decide +kernel), mm 51 (by decide +kernel) (by decide +kernel), by decide +kernel, by decide +kernel⟩
theorem ok_X10_nextBlock : okM yX10_nextBlock cX10_nextBlock 3 (some .int) 0 := ⟨mm 853 (by decide +kernel) (by decide +kernel), mm 51 (by decide +kernel) (by decide +kernel), by decide +kernel, by decide +kernel⟩
theorem ok_X10_isFreeThen : okM yX10_isFreeThen cX10_isFreeThen 4 (some .boolean) 1 := ⟨mm 857 (by decide +kernel) (by decide +kernel), mm 51 (by decide +kernel) (by decide +kernel), by decide +kernel, by decide +kernel⟩
theorem ok_X10_ordered : okM yX10_ordered cX10_ordered 2 (some .int) 1 := ⟨mm 861 (by decide +kernel) (by decide +kernel), mm 51 (by decide +kernel) (by decide +kernel), by decide +kernel, by decide +kernel⟩
theorem ok_X10_sun : okM yX10_sun cX10_sun 2 (some .int) 1 := ⟨mm 865 (by decide +kernel) (by decide +kernel), mm 51 (by decide +kernel) (by decide +kernel), by decide +kernel, by decide +kernel⟩
theorem ok_X10_direction : okM yX10_direction cX10_direction 2 (some .int) 1 := ⟨mm 868 (by decide +kernel) (by decide +kernel), mm 51 (by decide +kernel) (by decide +kernel), by decide +kernel, by decide +kernel⟩
theorem ok_X10_strikes : okM yX10_strikes cX10_strikes 5 (some .int) 2 := ⟨mm 872 (by decide +kernel) (by decide +kernel), mm 51 (by decide +kernel) (by decide +kernel), by decide +kernel, by decide +kernel⟩
theorem ok_X10_isPlace : okM yX10_isPlace cX10_isPlace 2 (some .boolean) 2 := ⟨mm 875 (by decide +kernel) (by decide +kernel), mm 51 (by decide +kernel) (by decide +kernel), by decide +kernel, by decide +kernel⟩
theorem ok_X10_strikesOn : okM yX10_strikesOn cX10_strikesOn 3 (some .boolean) 3 := ⟨mm 878 (by decide +kernel) (by decide +kernel), mm 51 (by decide +kernel) (by decide +kernel), by decide +kernel, by decide +kernel⟩
theorem ok_X10_like : okM yX10_like cX10_like 9 (some .int) 3 := ⟨mm 882 (by decide +kernel) (by decide +kernel), mm 51 (by decide +kernel) (by decide +kernel), by decide +kernel, by decide +kernel⟩
theorem ok_X10_count : okM yX10_count cX10_count 2 (some .int) 1 := ⟨mm 886 (by decide +kernel) (by decide +kernel), mm 51 (by decide +kernel) (by decide +kernel), by decide +kernel, by decide +kernel⟩
theorem ok_X10_image : okM yX10_image cX10_image 3 (some .boolean) 1 := ⟨mm 890 (by decide +kernel) (by decide +kernel), mm 51 (by decide +kernel) (by decide +kernel), by decide +kernel, by decide +kernel⟩
theorem ok_X10_again : okM yX10_again cX10_again 3 (some .boolean) 1 := ⟨mm 894 (by decide +kernel) (by decide +kernel), mm 51 (by decide +kernel) (by decide +kernel), by decide +kernel, by decide +kernel⟩
theorem se_X4_addUpWeights : Cond.selects RX4 yX4_addUpWeights yX4_addUpWeights ∈ tblG := mm 0 (by decide +kernel) (by decide +kernel)
theorem se_X4_findBars : Cond.selects RX4 yX4_findBars yX4_findBars ∈ tblG := mm 1 (by decide +kernel) (by decide +kernel)
theorem se_X4_findBarsOf : Cond.selects RX4 yX4_findBarsOf yX4_findBarsOf ∈ tblG := mm 2 (by decide +kernel) (by decide +kernel)
theorem se_X4_findCosts : Cond.selects RX4 yX4_findCosts yX4_findCosts ∈ tblG := mm 3 (by decide +kernel) (by decide +kernel)
theorem se_X4_leastCost : Cond.selects RX4 yX4_leastCost yX4_leastCost ∈ tblG := mm 4 (by decide +kernel) (by decide +kernel)
theorem se_X4_weightOfPart : Cond.selects RX4 yX4_weightOfPart yX4_weightOfPart ∈ tblG := mm 5 (by decide +kernel) (by decide +kernel)
theorem se_X4_uprightCost : Cond.selects RX4 yX4_uprightCost yX4_uprightCost ∈ tblG := mm 6 (by decide +kernel) (by decide +kernel)
theorem se_X4_levelCost : Cond.selects RX4 yX4_levelCost yX4_levelCost ∈ tblG := mm 7 (by decide +kernel) (by decide +kernel)
theorem se_X4_cutsFirst : Cond.selects RX4 yX4_cutsFirst yX4_cutsFirst ∈ tblG := mm 8 (by decide +kernel) (by decide +kernel)
theorem se_X2_makeTwo : Cond.selects RX2 yX2_makeTwo yX2_makeTwo ∈ tblG := mm 9 (by decide +kernel) (by decide +kernel)
theorem se_X2_moveUp : Cond.selects RX2 yX2_moveUp yX2_moveUp ∈ tblG := mm 10 (by decide +kernel) (by decide +kernel)
theorem se_X2_numberCellsOf : Cond.selects RX2 yX2_numberCellsOf yX2_numberCellsOf ∈ tblG := mm 11 (by decide +kernel) (by decide +kernel)
theorem se_X8_pileFor : Cond.selects RX8 yX8_pileFor yX8_pileFor ∈ tblG := mm 12 (by decide +kernel) (by decide +kernel)
theorem se_X0_findPress : Cond.selects RX0 yX0_findPress yX0_findPress ∈ tblG := mm 13 (by decide +kernel) (by decide +kernel)
theorem se_X0_passOverTaken : Cond.selects RX0 yX0_passOverTaken yX0_passOverTaken ∈ tblG := mm 14 (by decide +kernel) (by decide +kernel)
theorem se_X0_mostPressing : Cond.selects RX0 yX0_mostPressing yX0_mostPressing ∈ tblG := mm 15 (by decide +kernel) (by decide +kernel)
theorem se_X10_begins : Cond.selects RX10 yX10_begins yX10_begins ∈ tblG := mm 16 (by decide +kernel) (by decide +kernel)
theorem se_X10_noPlan : Cond.selects RX10 yX10_noPlan yX10_noPlan ∈ tblG := mm 17 (by decide +kernel) (by decide +kernel)
theorem se_X10_isCell : Cond.selects RX10 yX10_isCell yX10_isCell ∈ tblG := mm 18 (by decide +kernel) (by decide +kernel)
theorem se_X10_settles : Cond.selects RX10 yX10_settles yX10_settles ∈ tblG := mm 19 (by decide +kernel) (by decide +kernel)
theorem se_X10_weight : Cond.selects RX10 yX10_weight yX10_weight ∈ tblG := mm 20 (by decide +kernel) (by decide +kernel)
theorem se_X10_mayUpright : Cond.selects RX10 yX10_mayUpright yX10_mayUpright ∈ tblG := mm 21 (by decide +kernel) (by decide +kernel)
theorem se_X10_isOne : Cond.selects RX10 yX10_isOne yX10_isOne ∈ tblG := mm 22 (by decide +kernel) (by decide +kernel)
theorem se_X10_tries : Cond.selects RX10 yX10_tries yX10_tries ∈ tblG := mm 23 (by decide +kernel) (by decide +kernel)
theorem se_X10_mayLevel : Cond.selects RX10 yX10_mayLevel yX10_mayLevel ∈ tblG := mm 24 (by decide +kernel) (by decide +kernel)
theorem se_X10_puts : Cond.selects RX10 yX10_puts yX10_puts ∈ tblG := mm 25 (by decide +kernel) (by decide +kernel)
theorem se_X10_isBlock : Cond.selects RX10 yX10_isBlock yX10_isBlock ∈ tblG := mm 26 (by decide +kernel) (by decide +kernel)
theorem se_X10_turnOf : Cond.selects RX10 yX10_turnOf yX10_turnOf ∈ tblG := mm 27 (by decide +kernel) (by decide +kernel)
theorem se_X10_of : Cond.selects RX10 yX10_of yX10_of ∈ tblG := mm 28 (by decide +kernel) (by decide +kernel)
theorem se_X10_isThere : Cond.selects RX10 yX10_isThere yX10_isThere ∈ tblG := mm 29 (by decide +kernel) (by decide +kernel)
theorem se_X10_due : Cond.selects RX10 yX10_due yX10_due ∈ tblG := mm 30 (by decide +kernel) (by decide +kernel)
theorem se_X10_stands : Cond.selects RX10 yX10_stands yX10_stands ∈ tblG := mm 31 (by decide +kernel) (by decide +kernel)
theorem se_X10_isFree : Cond.selects RX10 yX10_isFree yX10_isFree ∈ tblG := mm 32 (by decide +kernel) (by decide +kernel)
theorem se_X10_isAbove : Cond.selects RX10 yX10_isAbove yX10_isAbove ∈ tblG := mm 33 (by decide +kernel) (by decide +kernel)
theorem se_X10_wideOf : Cond.selects RX10 yX10_wideOf yX10_wideOf ∈ tblG := mm 34 (by decide +kernel) (by decide +kernel)
theorem se_X10_uppermost : Cond.selects RX10 yX10_uppermost yX10_uppermost ∈ tblG := mm 35 (by decide +kernel) (by decide +kernel)
theorem se_X10_taken : Cond.selects RX10 yX10_taken yX10_taken ∈ tblG := mm 36 (by decide +kernel) (by decide +kernel)
theorem se_X10_presses : Cond.selects RX10 yX10_presses yX10_presses ∈ tblG := mm 37 (by decide +kernel) (by decide +kernel)
theorem se_X10_nextBlock : Cond.selects RX10 yX10_nextBlock yX10_nextBlock ∈ tblG := mm 38 (by decide +kernel) (by decide +kernel)
theorem se_X10_isFreeThen : Cond.selects RX10 yX10_isFreeThen yX10_isFreeThen ∈ tblG := mm 39 (by decide +kernel) (by decide +kernel)
theorem in_L : Cond.initialized "TempleRaisedLaw" ∈ tblG := mm 40 (by decide +kernel) (by decide +kernel)
theorem in_X9 : Cond.initialized "TempleRaised" ∈ tblG := mm 41 (by decide +kernel) (by decide +kernel)
theorem in_X5 : Cond.initialized "TempleRaised$Site" ∈ tblG := mm 42 (by decide +kernel) (by decide +kernel)
theorem in_X7 : Cond.initialized "TempleRaised$Wall" ∈ tblG := mm 43 (by decide +kernel) (by decide +kernel)
theorem in_J7 : Cond.initialized "java/util/Arrays" ∈ tblG := mm 44 (by decide +kernel) (by decide +kernel)
theorem in_X2 : Cond.initialized "TempleRaised$Plan" ∈ tblG := mm 45 (by decide +kernel) (by decide +kernel)
theorem in_X3 : Cond.initialized "TempleRaised$River" ∈ tblG := mm 46 (by decide +kernel) (by decide +kernel)
theorem in_X8 : Cond.initialized "TempleRaised$Yard" ∈ tblG := mm 47 (by decide +kernel) (by decide +kernel)
theorem in_X1 : Cond.initialized "TempleRaised$Order" ∈ tblG := mm 48 (by decide +kernel) (by decide +kernel)
theorem in_X4 : Cond.initialized "TempleRaised$Sawyer" ∈ tblG := mm 49 (by decide +kernel) (by decide +kernel)
theorem in_X0 : Cond.initialized "TempleRaised$Foreman" ∈ tblG := mm 50 (by decide +kernel) (by decide +kernel)
theorem in_X10 : Cond.initialized "TempleRaisedModel" ∈ tblG := mm 51 (by decide +kernel) (by decide +kernel)
theorem in_J9 : Cond.initialized "java/lang/Math" ∈ tblG := mm 52 (by decide +kernel) (by decide +kernel)
theorem in_J10 : Cond.initialized "java/lang/System" ∈ tblG := mm 53 (by decide +kernel) (by decide +kernel)
theorem in_X6 : Cond.initialized "TempleRaised$Sun" ∈ tblG := mm 54 (by decide +kernel) (by decide +kernel)
theorem cl_L_7 : Cond.classLink RL 7 RX9 ∈ tblG := mm 55 (by decide +kernel) (by decide +kernel)
theorem it_X9 : Cond.instantiable RX9 4 ∈ tblG := mm 56 (by decide +kernel) (by decide +kernel)
theorem li_L_9 : Cond.methodLink RL 9 yX9_init ∈ tblG := mm 57 (by decide +kernel) (by decide +kernel)
theorem im_X9_init : Cond.instanceMethod yX9_init ∈ tblG := mm 58 (by decide +kernel) (by decide +kernel)
theorem li_X9_3 : Cond.methodLink RX9 3 objectInit ∈ tblG := mm 60 (by decide +kernel) (by decide +kernel)
theorem im_objectInit : Cond.instanceMethod objectInit ∈ tblG := mm 61 (by decide +kernel) (by decide +kernel)
theorem ic_objectInit : Cond.code objectInit ⟨#[0xb1]⟩ 1 none ∈ tblG := mm 62 (by decide +kernel) (by decide +kernel)
theorem cl_X9_9 : Cond.classLink RX9 9 RX5 ∈ tblG := mm 63 (by decide +kernel) (by decide +kernel)
theorem it_X5 : Cond.instantiable RX5 8 ∈ tblG := mm 64 (by decide +kernel) (by decide +kernel)
theorem im_X5_init : Cond.instanceMethod yX5_init ∈ tblG := mm 66 (by decide +kernel) (by decide +kernel)
theorem li_X5_3 : Cond.methodLink RX5 3 objectInit ∈ tblG := mm 68 (by decide +kernel) (by decide +kernel)
theorem cl_X5_21 : Cond.classLink RX5 21 RX7 ∈ tblG := mm 69 (by decide +kernel) (by decide +kernel)
theorem it_X7 : Cond.instantiable RX7 4 ∈ tblG := mm 70 (by decide +kernel) (by decide +kernel)
theorem li_X5_23 : Cond.methodLink RX5 23 yX7_init ∈ tblG := mm 71 (by decide +kernel) (by decide +kernel)
theorem im_X7_init : Cond.instanceMethod yX7_init ∈ tblG := mm 72 (by decide +kernel) (by decide +kernel)
theorem li_X7_3 : Cond.methodLink RX7 3 objectInit ∈ tblG := mm 74 (by decide +kernel) (by decide +kernel)
theorem li_X7_18 : Cond.methodLink RX7 18 yX7_build ∈ tblG := mm 75 (by decide +kernel) (by decide +kernel)
theorem im_X7_build : Cond.instanceMethod yX7_build ∈ tblG := mm 76 (by decide +kernel) (by decide +kernel)
theorem se_X7_build : Cond.selects RX7 yX7_build yX7_build ∈ tblG := mm 77 (by decide +kernel) (by decide +kernel)
theorem li_X7_29 : Cond.methodLink RX7 29 yJ7_fill_53178 ∈ tblG := mm 79 (by decide +kernel) (by decide +kernel)
theorem is_J7_fill_53178 : Cond.static yJ7_fill_53178 ∈ tblG := mm 80 (by decide +kernel) (by decide +kernel)
theorem fl_X7_22 : Cond.fieldLink RX7 22 "TempleRaised$Wall" "columns" "I" ∈ tblG := mm 82 (by decide +kernel) (by decide +kernel)
theorem fl_X4_35 : Cond.fieldLink RX4 35 "TempleRaised$Wall" "columns" "I" ∈ tblG := mm 83 (by decide +kernel) (by decide +kernel)
theorem fl_X0_83 : Cond.fieldLink RX0 83 "TempleRaised$Wall" "columns" "I" ∈ tblG := mm 84 (by decide +kernel) (by decide +kernel)
theorem fl_X9_70 : Cond.fieldLink RX9 70 "TempleRaised$Wall" "columns" "I" ∈ tblG := mm 85 (by decide +kernel) (by decide +kernel)
theorem fl_X5_100 : Cond.fieldLink RX5 100 "TempleRaised$Wall" "columns" "I" ∈ tblG := mm 86 (by decide +kernel) (by decide +kernel)
theorem fl_X7_26 : Cond.fieldLink RX7 26 "TempleRaised$Wall" "rows" "I" ∈ tblG := mm 87 (by decide +kernel) (by decide +kernel)
theorem fl_X4_40 : Cond.fieldLink RX4 40 "TempleRaised$Wall" "rows" "I" ∈ tblG := mm 88 (by decide +kernel) (by decide +kernel)
theorem fl_X0_78 : Cond.fieldLink RX0 78 "TempleRaised$Wall" "rows" "I" ∈ tblG := mm 89 (by decide +kernel) (by decide +kernel)
theorem fl_X5_91 : Cond.fieldLink RX5 91 "TempleRaised$Wall" "rows" "I" ∈ tblG := mm 90 (by decide +kernel) (by decide +kernel)
theorem fl_X9_206 : Cond.fieldLink RX9 206 "TempleRaised$Wall" "rows" "I" ∈ tblG := mm 91 (by decide +kernel) (by decide +kernel)
theorem fl_X7_9 : Cond.fieldLink RX7 9 "TempleRaised$Wall" "weight" "[I" ∈ tblG := mm 92 (by decide +kernel) (by decide +kernel)
theorem fl_X9_55 : Cond.fieldLink RX9 55 "TempleRaised$Wall" "weight" "[I" ∈ tblG := mm 93 (by decide +kernel) (by decide +kernel)
theorem fl_X4_94 : Cond.fieldLink RX4 94 "TempleRaised$Wall" "weight" "[I" ∈ tblG := mm 94 (by decide +kernel) (by decide +kernel)
theorem fl_X7_15 : Cond.fieldLink RX7 15 "TempleRaised$Wall" "motif" "[I" ∈ tblG := mm 95 (by decide +kernel) (by decide +kernel)
theorem fl_X9_63 : Cond.fieldLink RX9 63 "TempleRaised$Wall" "motif" "[I" ∈ tblG := mm 96 (by decide +kernel) (by decide +kernel)
theorem ac_int : Cond.arrayClass .int ∈ tblG := mm 106 (by decide +kernel) (by decide +kernel)
theorem cl_X5_28 : Cond.classLink RX5 28 RX2 ∈ tblG := mm 107 (by decide +kernel) (by decide +kernel)
theorem it_X2 : Cond.instantiable RX2 8 ∈ tblG := mm 108 (by decide +kernel) (by decide +kernel)
theorem im_X2_init : Cond.instanceMethod yX2_init ∈ tblG := mm 110 (by decide +kernel) (by decide +kernel)
theorem li_X2_3 : Cond.methodLink RX2 3 objectInit ∈ tblG := mm 112 (by decide +kernel) (by decide +kernel)
theorem fl_X2_30 : Cond.fieldLink RX2 30 "TempleRaised$Plan" "blocks" "I" ∈ tblG := mm 113 (by decide +kernel) (by decide +kernel)
theorem fl_X0_39 : Cond.fieldLink RX0 39 "TempleRaised$Plan" "blocks" "I" ∈ tblG := mm 114 (by decide +kernel) (by decide +kernel)
theorem fl_X4_58 : Cond.fieldLink RX4 58 "TempleRaised$Plan" "blocks" "I" ∈ tblG := mm 115 (by decide +kernel) (by decide +kernel)
theorem fl_X9_95 : Cond.fieldLink RX9 95 "TempleRaised$Plan" "blocks" "I" ∈ tblG := mm 116 (by decide +kernel) (by decide +kernel)
theorem fl_X2_34 : Cond.fieldLink RX2 34 "TempleRaised$Plan" "sawn" "I" ∈ tblG := mm 117 (by decide +kernel) (by decide +kernel)
theorem fl_X9_211 : Cond.fieldLink RX9 211 "TempleRaised$Plan" "sawn" "I" ∈ tblG := mm 118 (by decide +kernel) (by decide +kernel)
theorem fl_X2_9 : Cond.fieldLink RX2 9 "TempleRaised$Plan" "left" "[I" ∈ tblG := mm 119 (by decide +kernel) (by decide +kernel)
theorem fl_X5_63 : Cond.fieldLink RX5 63 "TempleRaised$Plan" "left" "[I" ∈ tblG := mm 120 (by decide +kernel) (by decide +kernel)
theorem fl_X4_71 : Cond.fieldLink RX4 71 "TempleRaised$Plan" "left" "[I" ∈ tblG := mm 121 (by decide +kernel) (by decide +kernel)
theorem fl_X9_102 : Cond.fieldLink RX9 102 "TempleRaised$Plan" "left" "[I" ∈ tblG := mm 122 (by decide +kernel) (by decide +kernel)
theorem fl_X2_15 : Cond.fieldLink RX2 15 "TempleRaised$Plan" "low" "[I" ∈ tblG := mm 123 (by decide +kernel) (by decide +kernel)
theorem fl_X5_70 : Cond.fieldLink RX5 70 "TempleRaised$Plan" "low" "[I" ∈ tblG := mm 124 (by decide +kernel) (by decide +kernel)
theorem fl_X4_76 : Cond.fieldLink RX4 76 "TempleRaised$Plan" "low" "[I" ∈ tblG := mm 125 (by decide +kernel) (by decide +kernel)
theorem fl_X9_105 : Cond.fieldLink RX9 105 "TempleRaised$Plan" "low" "[I" ∈ tblG := mm 126 (by decide +kernel) (by decide +kernel)
theorem fl_X2_18 : Cond.fieldLink RX2 18 "TempleRaised$Plan" "columns" "[I" ∈ tblG := mm 127 (by decide +kernel) (by decide +kernel)
theorem fl_X5_67 : Cond.fieldLink RX5 67 "TempleRaised$Plan" "columns" "[I" ∈ tblG := mm 128 (by decide +kernel) (by decide +kernel)
theorem fl_X4_74 : Cond.fieldLink RX4 74 "TempleRaised$Plan" "columns" "[I" ∈ tblG := mm 129 (by decide +kernel) (by decide +kernel)
theorem fl_X9_108 : Cond.fieldLink RX9 108 "TempleRaised$Plan" "columns" "[I" ∈ tblG := mm 130 (by decide +kernel) (by decide +kernel)
theorem fl_X2_21 : Cond.fieldLink RX2 21 "TempleRaised$Plan" "rows" "[I" ∈ tblG := mm 131 (by decide +kernel) (by decide +kernel)
theorem fl_X5_73 : Cond.fieldLink RX5 73 "TempleRaised$Plan" "rows" "[I" ∈ tblG := mm 132 (by decide +kernel) (by decide +kernel)
theorem fl_X4_79 : Cond.fieldLink RX4 79 "TempleRaised$Plan" "rows" "[I" ∈ tblG := mm 133 (by decide +kernel) (by decide +kernel)
theorem fl_X9_110 : Cond.fieldLink RX9 110 "TempleRaised$Plan" "rows" "[I" ∈ tblG := mm 134 (by decide +kernel) (by decide +kernel)
theorem fl_X2_24 : Cond.fieldLink RX2 24 "TempleRaised$Plan" "turn" "[I" ∈ tblG := mm 135 (by decide +kernel) (by decide +kernel)
theorem fl_X9_120 : Cond.fieldLink RX9 120 "TempleRaised$Plan" "turn" "[I" ∈ tblG := mm 136 (by decide +kernel) (by decide +kernel)
theorem fl_X2_27 : Cond.fieldLink RX2 27 "TempleRaised$Plan" "blockAt" "[I" ∈ tblG := mm 137 (by decide +kernel) (by decide +kernel)
theorem fl_X0_86 : Cond.fieldLink RX0 86 "TempleRaised$Plan" "blockAt" "[I" ∈ tblG := mm 138 (by decide +kernel) (by decide +kernel)
theorem fl_X5_93 : Cond.fieldLink RX5 93 "TempleRaised$Plan" "blockAt" "[I" ∈ tblG := mm 139 (by decide +kernel) (by decide +kernel)
theorem fl_X9_144 : Cond.fieldLink RX9 144 "TempleRaised$Plan" "blockAt" "[I" ∈ tblG := mm 140 (by decide +kernel) (by decide +kernel)
theorem cl_X5_35 : Cond.classLink RX5 35 RX3 ∈ tblG := mm 158 (by decide +kernel) (by decide +kernel)
theorem it_X3 : Cond.instantiable RX3 1 ∈ tblG := mm 159 (by decide +kernel) (by decide +kernel)
theorem im_X3_init : Cond.instanceMethod yX3_init ∈ tblG := mm 161 (by decide +kernel) (by decide +kernel)
theorem li_X3_3 : Cond.methodLink RX3 3 objectInit ∈ tblG := mm 163 (by decide +kernel) (by decide +kernel)
theorem fl_X3_9 : Cond.fieldLink RX3 9 "TempleRaised$River" "height" "[I" ∈ tblG := mm 164 (by decide +kernel) (by decide +kernel)
theorem fl_X9_154 : Cond.fieldLink RX9 154 "TempleRaised$River" "height" "[I" ∈ tblG := mm 165 (by decide +kernel) (by decide +kernel)
theorem cl_X5_42 : Cond.classLink RX5 42 RX8 ∈ tblG := mm 169 (by decide +kernel) (by decide +kernel)
theorem it_X8 : Cond.instantiable RX8 6 ∈ tblG := mm 170 (by decide +kernel) (by decide +kernel)
theorem li_X5_44 : Cond.methodLink RX5 44 yX8_init ∈ tblG := mm 171 (by decide +kernel) (by decide +kernel)
theorem im_X8_init : Cond.instanceMethod yX8_init ∈ tblG := mm 172 (by decide +kernel) (by decide +kernel)
theorem li_X8_3 : Cond.methodLink RX8 3 objectInit ∈ tblG := mm 174 (by decide +kernel) (by decide +kernel)
theorem li_X8_24 : Cond.methodLink RX8 24 yX8_clear ∈ tblG := mm 175 (by decide +kernel) (by decide +kernel)
theorem im_X8_clear : Cond.instanceMethod yX8_clear ∈ tblG := mm 176 (by decide +kernel) (by decide +kernel)
theorem se_X8_clear : Cond.selects RX8 yX8_clear yX8_clear ∈ tblG := mm 177 (by decide +kernel) (by decide +kernel)
theorem li_X8_34 : Cond.methodLink RX8 34 yJ7_fill_53178 ∈ tblG := mm 179 (by decide +kernel) (by decide +kernel)
theorem fl_X8_27 : Cond.fieldLink RX8 27 "TempleRaised$Yard" "taken" "I" ∈ tblG := mm 180 (by decide +kernel) (by decide +kernel)
theorem fl_X0_49 : Cond.fieldLink RX0 49 "TempleRaised$Yard" "taken" "I" ∈ tblG := mm 181 (by decide +kernel) (by decide +kernel)
theorem fl_X9_208 : Cond.fieldLink RX9 208 "TempleRaised$Yard" "taken" "I" ∈ tblG := mm 182 (by decide +kernel) (by decide +kernel)
theorem fl_X8_31 : Cond.fieldLink RX8 31 "TempleRaised$Yard" "piles" "I" ∈ tblG := mm 183 (by decide +kernel) (by decide +kernel)
theorem fl_X9_185 : Cond.fieldLink RX9 185 "TempleRaised$Yard" "piles" "I" ∈ tblG := mm 184 (by decide +kernel) (by decide +kernel)
theorem fl_X8_9 : Cond.fieldLink RX8 9 "TempleRaised$Yard" "takenOn" "[I" ∈ tblG := mm 185 (by decide +kernel) (by decide +kernel)
theorem fl_X9_141 : Cond.fieldLink RX9 141 "TempleRaised$Yard" "takenOn" "[I" ∈ tblG := mm 186 (by decide +kernel) (by decide +kernel)
theorem fl_X8_15 : Cond.fieldLink RX8 15 "TempleRaised$Yard" "pileOf" "[I" ∈ tblG := mm 187 (by decide +kernel) (by decide +kernel)
theorem fl_X9_135 : Cond.fieldLink RX9 135 "TempleRaised$Yard" "pileOf" "[I" ∈ tblG := mm 188 (by decide +kernel) (by decide +kernel)
theorem fl_X8_18 : Cond.fieldLink RX8 18 "TempleRaised$Yard" "placeOf" "[I" ∈ tblG := mm 189 (by decide +kernel) (by decide +kernel)
theorem fl_X8_21 : Cond.fieldLink RX8 21 "TempleRaised$Yard" "uppermost" "[I" ∈ tblG := mm 190 (by decide +kernel) (by decide +kernel)
theorem cl_X5_49 : Cond.classLink RX5 49 RX1 ∈ tblG := mm 204 (by decide +kernel) (by decide +kernel)
theorem it_X1 : Cond.instantiable RX1 2 ∈ tblG := mm 205 (by decide +kernel) (by decide +kernel)
theorem im_X1_init : Cond.instanceMethod yX1_init ∈ tblG := mm 207 (by decide +kernel) (by decide +kernel)
theorem li_X1_3 : Cond.methodLink RX1 3 objectInit ∈ tblG := mm 209 (by decide +kernel) (by decide +kernel)
theorem fl_X1_15 : Cond.fieldLink RX1 15 "TempleRaised$Order" "places" "I" ∈ tblG := mm 210 (by decide +kernel) (by decide +kernel)
theorem fl_X9_177 : Cond.fieldLink RX9 177 "TempleRaised$Order" "places" "I" ∈ tblG := mm 211 (by decide +kernel) (by decide +kernel)
theorem fl_X1_9 : Cond.fieldLink RX1 9 "TempleRaised$Order" "block" "[I" ∈ tblG := mm 212 (by decide +kernel) (by decide +kernel)
theorem fl_X9_182 : Cond.fieldLink RX9 182 "TempleRaised$Order" "block" "[I" ∈ tblG := mm 213 (by decide +kernel) (by decide +kernel)
theorem fl_X5_11 : Cond.fieldLink RX5 11 "TempleRaised$Site" "limit" "I" ∈ tblG := mm 219 (by decide +kernel) (by decide +kernel)
theorem fl_X9_77 : Cond.fieldLink RX9 77 "TempleRaised$Site" "limit" "I" ∈ tblG := mm 220 (by decide +kernel) (by decide +kernel)
theorem fl_X5_15 : Cond.fieldLink RX5 15 "TempleRaised$Site" "saw" "I" ∈ tblG := mm 221 (by decide +kernel) (by decide +kernel)
theorem fl_X9_80 : Cond.fieldLink RX9 80 "TempleRaised$Site" "saw" "I" ∈ tblG := mm 222 (by decide +kernel) (by decide +kernel)
theorem fl_X5_18 : Cond.fieldLink RX5 18 "TempleRaised$Site" "day" "I" ∈ tblG := mm 223 (by decide +kernel) (by decide +kernel)
theorem fl_X0_63 : Cond.fieldLink RX0 63 "TempleRaised$Site" "day" "I" ∈ tblG := mm 224 (by decide +kernel) (by decide +kernel)
theorem fl_X9_159 : Cond.fieldLink RX9 159 "TempleRaised$Site" "day" "I" ∈ tblG := mm 225 (by decide +kernel) (by decide +kernel)
theorem fl_X5_24 : Cond.fieldLink RX5 24 "TempleRaised$Site" "wall" "LTempleRaised$Wall;" ∈ tblG := mm 226 (by decide +kernel) (by decide +kernel)
theorem fl_X9_38 : Cond.fieldLink RX9 38 "TempleRaised$Site" "wall" "LTempleRaised$Wall;" ∈ tblG := mm 227 (by decide +kernel) (by decide +kernel)
theorem fl_X0_74 : Cond.fieldLink RX0 74 "TempleRaised$Site" "wall" "LTempleRaised$Wall;" ∈ tblG := mm 228 (by decide +kernel) (by decide +kernel)
theorem fl_X5_31 : Cond.fieldLink RX5 31 "TempleRaised$Site" "plan" "LTempleRaised$Plan;" ∈ tblG := mm 229 (by decide +kernel) (by decide +kernel)
theorem fl_X0_35 : Cond.fieldLink RX0 35 "TempleRaised$Site" "plan" "LTempleRaised$Plan;" ∈ tblG := mm 230 (by decide +kernel) (by decide +kernel)
theorem fl_X9_87 : Cond.fieldLink RX9 87 "TempleRaised$Site" "plan" "LTempleRaised$Plan;" ∈ tblG := mm 231 (by decide +kernel) (by decide +kernel)
theorem fl_X5_38 : Cond.fieldLink RX5 38 "TempleRaised$Site" "river" "LTempleRaised$River;" ∈ tblG := mm 232 (by decide +kernel) (by decide +kernel)
theorem fl_X9_150 : Cond.fieldLink RX9 150 "TempleRaised$Site" "river" "LTempleRaised$River;" ∈ tblG := mm 233 (by decide +kernel) (by decide +kernel)
theorem fl_X5_45 : Cond.fieldLink RX5 45 "TempleRaised$Site" "yard" "LTempleRaised$Yard;" ∈ tblG := mm 234 (by decide +kernel) (by decide +kernel)
theorem fl_X0_45 : Cond.fieldLink RX0 45 "TempleRaised$Site" "yard" "LTempleRaised$Yard;" ∈ tblG := mm 235 (by decide +kernel) (by decide +kernel)
theorem fl_X9_123 : Cond.fieldLink RX9 123 "TempleRaised$Site" "yard" "LTempleRaised$Yard;" ∈ tblG := mm 236 (by decide +kernel) (by decide +kernel)
theorem fl_X5_52 : Cond.fieldLink RX5 52 "TempleRaised$Site" "order" "LTempleRaised$Order;" ∈ tblG := mm 237 (by decide +kernel) (by decide +kernel)
theorem fl_X0_24 : Cond.fieldLink RX0 24 "TempleRaised$Site" "order" "LTempleRaised$Order;" ∈ tblG := mm 238 (by decide +kernel) (by decide +kernel)
theorem fl_X9_173 : Cond.fieldLink RX9 173 "TempleRaised$Site" "order" "LTempleRaised$Order;" ∈ tblG := mm 239 (by decide +kernel) (by decide +kernel)
theorem cl_X9_16 : Cond.classLink RX9 16 RX4 ∈ tblG := mm 257 (by decide +kernel) (by decide +kernel)
theorem it_X4 : Cond.instantiable RX4 5 ∈ tblG := mm 258 (by decide +kernel) (by decide +kernel)
theorem im_X4_init : Cond.instanceMethod yX4_init ∈ tblG := mm 260 (by decide +kernel) (by decide +kernel)
theorem li_X4_3 : Cond.methodLink RX4 3 objectInit ∈ tblG := mm 262 (by decide +kernel) (by decide +kernel)
theorem fl_X4_24 : Cond.fieldLink RX4 24 "TempleRaised$Sawyer" "limit" "I" ∈ tblG := mm 263 (by decide +kernel) (by decide +kernel)
theorem fl_X4_11 : Cond.fieldLink RX4 11 "TempleRaised$Sawyer" "cost" "[I" ∈ tblG := mm 264 (by decide +kernel) (by decide +kernel)
theorem fl_X4_15 : Cond.fieldLink RX4 15 "TempleRaised$Sawyer" "weightTo" "[I" ∈ tblG := mm 265 (by decide +kernel) (by decide +kernel)
theorem fl_X4_18 : Cond.fieldLink RX4 18 "TempleRaised$Sawyer" "uprightBars" "[I" ∈ tblG := mm 266 (by decide +kernel) (by decide +kernel)
theorem fl_X4_21 : Cond.fieldLink RX4 21 "TempleRaised$Sawyer" "levelBars" "[I" ∈ tblG := mm 267 (by decide +kernel) (by decide +kernel)
theorem cl_X9_23 : Cond.classLink RX9 23 RX0 ∈ tblG := mm 279 (by decide +kernel) (by decide +kernel)
theorem it_X0 : Cond.instantiable RX0 1 ∈ tblG := mm 280 (by decide +kernel) (by decide +kernel)
theorem im_X0_init : Cond.instanceMethod yX0_init ∈ tblG := mm 282 (by decide +kernel) (by decide +kernel)
theorem li_X0_5 : Cond.methodLink RX0 5 objectInit ∈ tblG := mm 284 (by decide +kernel) (by decide +kernel)
theorem fl_X0_11 : Cond.fieldLink RX0 11 "TempleRaised$Foreman" "press" "[I" ∈ tblG := mm 285 (by decide +kernel) (by decide +kernel)
theorem fl_X9_12 : Cond.fieldLink RX9 12 "TempleRaised" "site" "LTempleRaised$Site;" ∈ tblG := mm 290 (by decide +kernel) (by decide +kernel)
theorem fl_X9_19 : Cond.fieldLink RX9 19 "TempleRaised" "sawyer" "LTempleRaised$Sawyer;" ∈ tblG := mm 291 (by decide +kernel) (by decide +kernel)
theorem fl_X9_26 : Cond.fieldLink RX9 26 "TempleRaised" "foreman" "LTempleRaised$Foreman;" ∈ tblG := mm 292 (by decide +kernel) (by decide +kernel)
theorem fl_X9_30 : Cond.fieldLink RX9 30 "TempleRaised" "images" "[LTempleRaised$Site;" ∈ tblG := mm 293 (by decide +kernel) (by decide +kernel)
theorem li_L_13 : Cond.methodLink RL 13 yX9_wall ∈ tblG := mm 303 (by decide +kernel) (by decide +kernel)
theorem im_X9_wall : Cond.instanceMethod yX9_wall ∈ tblG := mm 304 (by decide +kernel) (by decide +kernel)
theorem se_X9_wall : Cond.selects RX9 yX9_wall yX9_wall ∈ tblG := mm 305 (by decide +kernel) (by decide +kernel)
theorem li_X9_34 : Cond.methodLink RX9 34 yX9_within ∈ tblG := mm 307 (by decide +kernel) (by decide +kernel)
theorem is_X9_within : Cond.static yX9_within ∈ tblG := mm 308 (by decide +kernel) (by decide +kernel)
theorem li_X9_42 : Cond.methodLink RX9 42 yX7_build ∈ tblG := mm 310 (by decide +kernel) (by decide +kernel)
theorem li_X9_48 : Cond.methodLink RX9 48 yX5_dropPlan ∈ tblG := mm 311 (by decide +kernel) (by decide +kernel)
theorem im_X5_dropPlan : Cond.instanceMethod yX5_dropPlan ∈ tblG := mm 312 (by decide +kernel) (by decide +kernel)
theorem se_X5_dropPlan : Cond.selects RX5 yX5_dropPlan yX5_dropPlan ∈ tblG := mm 313 (by decide +kernel) (by decide +kernel)
theorem li_X5_56 : Cond.methodLink RX5 56 yX2_drop ∈ tblG := mm 315 (by decide +kernel) (by decide +kernel)
theorem im_X2_drop : Cond.instanceMethod yX2_drop ∈ tblG := mm 316 (by decide +kernel) (by decide +kernel)
theorem se_X2_drop : Cond.selects RX2 yX2_drop yX2_drop ∈ tblG := mm 317 (by decide +kernel) (by decide +kernel)
theorem li_X5_59 : Cond.methodLink RX5 59 yX8_clear ∈ tblG := mm 319 (by decide +kernel) (by decide +kernel)
theorem li_X5_62 : Cond.methodLink RX5 62 yX1_clear ∈ tblG := mm 320 (by decide +kernel) (by decide +kernel)
theorem im_X1_clear : Cond.instanceMethod yX1_clear ∈ tblG := mm 321 (by decide +kernel) (by decide +kernel)
theorem se_X1_clear : Cond.selects RX1 yX1_clear yX1_clear ∈ tblG := mm 322 (by decide +kernel) (by decide +kernel)
theorem li_L_18 : Cond.methodLink RL 18 yX9_cell ∈ tblG := mm 324 (by decide +kernel) (by decide +kernel)
theorem im_X9_cell : Cond.instanceMethod yX9_cell ∈ tblG := mm 325 (by decide +kernel) (by decide +kernel)
theorem se_X9_cell : Cond.selects RX9 yX9_cell yX9_cell ∈ tblG := mm 326 (by decide +kernel) (by decide +kernel)
theorem li_X9_51 : Cond.methodLink RX9 51 yX7_has ∈ tblG := mm 328 (by decide +kernel) (by decide +kernel)
theorem im_X7_has : Cond.instanceMethod yX7_has ∈ tblG := mm 329 (by decide +kernel) (by decide +kernel)
theorem se_X7_has : Cond.selects RX7 yX7_has yX7_has ∈ tblG := mm 330 (by decide +kernel) (by decide +kernel)
theorem li_X9_59 : Cond.methodLink RX9 59 yX9_place ∈ tblG := mm 333 (by decide +kernel) (by decide +kernel)
theorem is_X9_place : Cond.static yX9_place ∈ tblG := mm 334 (by decide +kernel) (by decide +kernel)
theorem li_L_23 : Cond.methodLink RL 23 yX9_motifs ∈ tblG := mm 336 (by decide +kernel) (by decide +kernel)
theorem im_X9_motifs : Cond.instanceMethod yX9_motifs ∈ tblG := mm 337 (by decide +kernel) (by decide +kernel)
theorem se_X9_motifs : Cond.selects RX9 yX9_motifs yX9_motifs ∈ tblG := mm 338 (by decide +kernel) (by decide +kernel)
theorem li_X9_66 : Cond.methodLink RX9 66 yX9_areMotifs ∈ tblG := mm 340 (by decide +kernel) (by decide +kernel)
theorem is_X9_areMotifs : Cond.static yX9_areMotifs ∈ tblG := mm 341 (by decide +kernel) (by decide +kernel)
theorem li_X9_74 : Cond.methodLink RX9 74 yX9_halfByte ∈ tblG := mm 343 (by decide +kernel) (by decide +kernel)
theorem is_X9_halfByte : Cond.static yX9_halfByte ∈ tblG := mm 344 (by decide +kernel) (by decide +kernel)
theorem li_L_27 : Cond.methodLink RL 27 yX9_limit ∈ tblG := mm 346 (by decide +kernel) (by decide +kernel)
theorem im_X9_limit : Cond.instanceMethod yX9_limit ∈ tblG := mm 347 (by decide +kernel) (by decide +kernel)
theorem se_X9_limit : Cond.selects RX9 yX9_limit yX9_limit ∈ tblG := mm 348 (by decide +kernel) (by decide +kernel)
theorem li_L_32 : Cond.methodLink RL 32 yX9_saw ∈ tblG := mm 350 (by decide +kernel) (by decide +kernel)
theorem im_X9_saw : Cond.instanceMethod yX9_saw ∈ tblG := mm 351 (by decide +kernel) (by decide +kernel)
theorem se_X9_saw : Cond.selects RX9 yX9_saw yX9_saw ∈ tblG := mm 352 (by decide +kernel) (by decide +kernel)
theorem li_L_36 : Cond.methodLink RL 36 yX9_plan ∈ tblG := mm 354 (by decide +kernel) (by decide +kernel)
theorem im_X9_plan : Cond.instanceMethod yX9_plan ∈ tblG := mm 355 (by decide +kernel) (by decide +kernel)
theorem se_X9_plan : Cond.selects RX9 yX9_plan yX9_plan ∈ tblG := mm 356 (by decide +kernel) (by decide +kernel)
theorem li_X9_83 : Cond.methodLink RX9 83 yX4_findsPlan ∈ tblG := mm 358 (by decide +kernel) (by decide +kernel)
theorem im_X4_findsPlan : Cond.instanceMethod yX4_findsPlan ∈ tblG := mm 359 (by decide +kernel) (by decide +kernel)
theorem se_X4_findsPlan : Cond.selects RX4 yX4_findsPlan yX4_findsPlan ∈ tblG := mm 360 (by decide +kernel) (by decide +kernel)
theorem li_X4_28 : Cond.methodLink RX4 28 yX4_addUpWeights ∈ tblG := mm 362 (by decide +kernel) (by decide +kernel)
theorem im_X4_addUpWeights : Cond.instanceMethod yX4_addUpWeights ∈ tblG := mm 364 (by decide +kernel) (by decide +kernel)
theorem li_X4_101 : Cond.methodLink RX4 101 yX4_corner ∈ tblG := mm 367 (by decide +kernel) (by decide +kernel)
theorem is_X4_corner : Cond.static yX4_corner ∈ tblG := mm 368 (by decide +kernel) (by decide +kernel)
theorem li_X4_32 : Cond.methodLink RX4 32 yX4_findBars ∈ tblG := mm 370 (by decide +kernel) (by decide +kernel)
theorem im_X4_findBars : Cond.instanceMethod yX4_findBars ∈ tblG := mm 372 (by decide +kernel) (by decide +kernel)
theorem li_X4_104 : Cond.methodLink RX4 104 yJ7_fill_53178 ∈ tblG := mm 374 (by decide +kernel) (by decide +kernel)
theorem li_X4_110 : Cond.methodLink RX4 110 yX4_findBarsOf ∈ tblG := mm 375 (by decide +kernel) (by decide +kernel)
theorem im_X4_findBarsOf : Cond.instanceMethod yX4_findBarsOf ∈ tblG := mm 377 (by decide +kernel) (by decide +kernel)
theorem li_X4_114 : Cond.methodLink RX4 114 yX7_has ∈ tblG := mm 379 (by decide +kernel) (by decide +kernel)
theorem li_X4_118 : Cond.methodLink RX4 118 yX7_isOneCarving ∈ tblG := mm 380 (by decide +kernel) (by decide +kernel)
theorem im_X7_isOneCarving : Cond.instanceMethod yX7_isOneCarving ∈ tblG := mm 381 (by decide +kernel) (by decide +kernel)
theorem se_X7_isOneCarving : Cond.selects RX7 yX7_isOneCarving yX7_isOneCarving ∈ tblG := mm 382 (by decide +kernel) (by decide +kernel)
theorem li_X4_43 : Cond.methodLink RX4 43 yX4_findCosts ∈ tblG := mm 384 (by decide +kernel) (by decide +kernel)
theorem im_X4_findCosts : Cond.instanceMethod yX4_findCosts ∈ tblG := mm 386 (by decide +kernel) (by decide +kernel)
theorem li_X4_47 : Cond.methodLink RX4 47 yX4_part ∈ tblG := mm 388 (by decide +kernel) (by decide +kernel)
theorem is_X4_part : Cond.static yX4_part ∈ tblG := mm 389 (by decide +kernel) (by decide +kernel)
theorem li_X4_136 : Cond.methodLink RX4 136 yX4_span ∈ tblG := mm 391 (by decide +kernel) (by decide +kernel)
theorem is_X4_span : Cond.static yX4_span ∈ tblG := mm 392 (by decide +kernel) (by decide +kernel)
theorem li_X4_121 : Cond.methodLink RX4 121 yX4_leastCost ∈ tblG := mm 394 (by decide +kernel) (by decide +kernel)
theorem im_X4_leastCost : Cond.instanceMethod yX4_leastCost ∈ tblG := mm 396 (by decide +kernel) (by decide +kernel)
theorem li_X4_124 : Cond.methodLink RX4 124 yX4_weightOfPart ∈ tblG := mm 398 (by decide +kernel) (by decide +kernel)
theorem im_X4_weightOfPart : Cond.instanceMethod yX4_weightOfPart ∈ tblG := mm 400 (by decide +kernel) (by decide +kernel)
theorem co_X4_51 : Cond.constant RX4 51 (1048576) ∈ tblG := mm 402 (by decide +kernel) (by decide +kernel)
theorem li_X4_81 : Cond.methodLink RX4 81 yX4_uprightCost ∈ tblG := mm 403 (by decide +kernel) (by decide +kernel)
theorem im_X4_uprightCost : Cond.instanceMethod yX4_uprightCost ∈ tblG := mm 405 (by decide +kernel) (by decide +kernel)
theorem li_X4_132 : Cond.methodLink RX4 132 yX4_isBarred ∈ tblG := mm 407 (by decide +kernel) (by decide +kernel)
theorem is_X4_isBarred : Cond.static yX4_isBarred ∈ tblG := mm 408 (by decide +kernel) (by decide +kernel)
theorem li_X4_127 : Cond.methodLink RX4 127 yJ9_min_7cf53 ∈ tblG := mm 410 (by decide +kernel) (by decide +kernel)
theorem is_J9_min_7cf53 : Cond.static yJ9_min_7cf53 ∈ tblG := mm 411 (by decide +kernel) (by decide +kernel)
theorem ic_min : Cond.code Lib.Math.min.name Lib.Math.min.code 2 (some .int) ∈ tblG := mm 412 (by decide +kernel) (by decide +kernel)
theorem is_min : Cond.static Lib.Math.min.name ∈ tblG := mm 411 (by decide +kernel) (by decide +kernel)
theorem li_X4_88 : Cond.methodLink RX4 88 yX4_levelCost ∈ tblG := mm 413 (by decide +kernel) (by decide +kernel)
theorem im_X4_levelCost : Cond.instanceMethod yX4_levelCost ∈ tblG := mm 415 (by decide +kernel) (by decide +kernel)
theorem li_X9_91 : Cond.methodLink RX9 91 yX4_cutUp ∈ tblG := mm 417 (by decide +kernel) (by decide +kernel)
theorem im_X4_cutUp : Cond.instanceMethod yX4_cutUp ∈ tblG := mm 418 (by decide +kernel) (by decide +kernel)
theorem se_X4_cutUp : Cond.selects RX4 yX4_cutUp yX4_cutUp ∈ tblG := mm 419 (by decide +kernel) (by decide +kernel)
theorem li_X4_52 : Cond.methodLink RX4 52 yX2_startWith ∈ tblG := mm 421 (by decide +kernel) (by decide +kernel)
theorem im_X2_startWith : Cond.instanceMethod yX2_startWith ∈ tblG := mm 422 (by decide +kernel) (by decide +kernel)
theorem se_X2_startWith : Cond.selects RX2 yX2_startWith yX2_startWith ∈ tblG := mm 423 (by decide +kernel) (by decide +kernel)
theorem li_X4_61 : Cond.methodLink RX4 61 yX4_cutsFirst ∈ tblG := mm 425 (by decide +kernel) (by decide +kernel)
theorem im_X4_cutsFirst : Cond.instanceMethod yX4_cutsFirst ∈ tblG := mm 427 (by decide +kernel) (by decide +kernel)
theorem li_X4_85 : Cond.methodLink RX4 85 yX2_cutUpright ∈ tblG := mm 429 (by decide +kernel) (by decide +kernel)
theorem im_X2_cutUpright : Cond.instanceMethod yX2_cutUpright ∈ tblG := mm 430 (by decide +kernel) (by decide +kernel)
theorem se_X2_cutUpright : Cond.selects RX2 yX2_cutUpright yX2_cutUpright ∈ tblG := mm 431 (by decide +kernel) (by decide +kernel)
theorem li_X2_41 : Cond.methodLink RX2 41 yX2_makeTwo ∈ tblG := mm 433 (by decide +kernel) (by decide +kernel)
theorem im_X2_makeTwo : Cond.instanceMethod yX2_makeTwo ∈ tblG := mm 435 (by decide +kernel) (by decide +kernel)
theorem li_X2_45 : Cond.methodLink RX2 45 yX2_moveUp ∈ tblG := mm 437 (by decide +kernel) (by decide +kernel)
theorem im_X2_moveUp : Cond.instanceMethod yX2_moveUp ∈ tblG := mm 439 (by decide +kernel) (by decide +kernel)
theorem li_X2_49 : Cond.methodLink RX2 49 arraycopyName ∈ tblG := mm 441 (by decide +kernel) (by decide +kernel)
theorem is_arraycopy : Cond.static arraycopyName ∈ tblG := mm 442 (by decide +kernel) (by decide +kernel)
theorem ia_arraycopy : Cond.native arraycopyName ∈ tblG := mm 443 (by decide +kernel) (by decide +kernel)
theorem li_X4_91 : Cond.methodLink RX4 91 yX2_cutLevel ∈ tblG := mm 444 (by decide +kernel) (by decide +kernel)
theorem im_X2_cutLevel : Cond.instanceMethod yX2_cutLevel ∈ tblG := mm 445 (by decide +kernel) (by decide +kernel)
theorem se_X2_cutLevel : Cond.selects RX2 yX2_cutLevel yX2_cutLevel ∈ tblG := mm 446 (by decide +kernel) (by decide +kernel)
theorem li_X4_65 : Cond.methodLink RX4 65 yX2_numberCells ∈ tblG := mm 448 (by decide +kernel) (by decide +kernel)
theorem im_X2_numberCells : Cond.instanceMethod yX2_numberCells ∈ tblG := mm 449 (by decide +kernel) (by decide +kernel)
theorem se_X2_numberCells : Cond.selects RX2 yX2_numberCells yX2_numberCells ∈ tblG := mm 450 (by decide +kernel) (by decide +kernel)
theorem li_X2_55 : Cond.methodLink RX2 55 yX2_numberCellsOf ∈ tblG := mm 452 (by decide +kernel) (by decide +kernel)
theorem im_X2_numberCellsOf : Cond.instanceMethod yX2_numberCellsOf ∈ tblG := mm 454 (by decide +kernel) (by decide +kernel)
theorem li_X4_68 : Cond.methodLink RX4 68 yX2_findTurns ∈ tblG := mm 457 (by decide +kernel) (by decide +kernel)
theorem im_X2_findTurns : Cond.instanceMethod yX2_findTurns ∈ tblG := mm 458 (by decide +kernel) (by decide +kernel)
theorem se_X2_findTurns : Cond.selects RX2 yX2_findTurns yX2_findTurns ∈ tblG := mm 459 (by decide +kernel) (by decide +kernel)
theorem li_L_41 : Cond.methodLink RL 41 yX9_block ∈ tblG := mm 461 (by decide +kernel) (by decide +kernel)
theorem im_X9_block : Cond.instanceMethod yX9_block ∈ tblG := mm 462 (by decide +kernel) (by decide +kernel)
theorem se_X9_block : Cond.selects RX9 yX9_block yX9_block ∈ tblG := mm 463 (by decide +kernel) (by decide +kernel)
theorem li_X9_100 : Cond.methodLink RX9 100 yX2_has ∈ tblG := mm 465 (by decide +kernel) (by decide +kernel)
theorem im_X2_has : Cond.instanceMethod yX2_has ∈ tblG := mm 466 (by decide +kernel) (by decide +kernel)
theorem se_X2_has : Cond.selects RX2 yX2_has yX2_has ∈ tblG := mm 467 (by decide +kernel) (by decide +kernel)
theorem li_X9_113 : Cond.methodLink RX9 113 yX5_weightOf ∈ tblG := mm 470 (by decide +kernel) (by decide +kernel)
theorem im_X5_weightOf : Cond.instanceMethod yX5_weightOf ∈ tblG := mm 471 (by decide +kernel) (by decide +kernel)
theorem se_X5_weightOf : Cond.selects RX5 yX5_weightOf yX5_weightOf ∈ tblG := mm 472 (by decide +kernel) (by decide +kernel)
theorem li_X5_76 : Cond.methodLink RX5 76 yX7_weightOf ∈ tblG := mm 474 (by decide +kernel) (by decide +kernel)
theorem im_X7_weightOf : Cond.instanceMethod yX7_weightOf ∈ tblG := mm 475 (by decide +kernel) (by decide +kernel)
theorem se_X7_weightOf : Cond.selects RX7 yX7_weightOf yX7_weightOf ∈ tblG := mm 476 (by decide +kernel) (by decide +kernel)
theorem li_X9_117 : Cond.methodLink RX9 117 yX5_dueOf ∈ tblG := mm 479 (by decide +kernel) (by decide +kernel)
theorem im_X5_dueOf : Cond.instanceMethod yX5_dueOf ∈ tblG := mm 480 (by decide +kernel) (by decide +kernel)
theorem se_X5_dueOf : Cond.selects RX5 yX5_dueOf yX5_dueOf ∈ tblG := mm 481 (by decide +kernel) (by decide +kernel)
theorem li_X5_80 : Cond.methodLink RX5 80 yX3_firstDayOver ∈ tblG := mm 483 (by decide +kernel) (by decide +kernel)
theorem im_X3_firstDayOver : Cond.instanceMethod yX3_firstDayOver ∈ tblG := mm 484 (by decide +kernel) (by decide +kernel)
theorem se_X3_firstDayOver : Cond.selects RX3 yX3_firstDayOver yX3_firstDayOver ∈ tblG := mm 485 (by decide +kernel) (by decide +kernel)
theorem li_X9_127 : Cond.methodLink RX9 127 yX8_isTaken ∈ tblG := mm 487 (by decide +kernel) (by decide +kernel)
theorem im_X8_isTaken : Cond.instanceMethod yX8_isTaken ∈ tblG := mm 488 (by decide +kernel) (by decide +kernel)
theorem se_X8_isTaken : Cond.selects RX8 yX8_isTaken yX8_isTaken ∈ tblG := mm 489 (by decide +kernel) (by decide +kernel)
theorem li_X9_132 : Cond.methodLink RX9 132 yX5_isFree ∈ tblG := mm 491 (by decide +kernel) (by decide +kernel)
theorem im_X5_isFree : Cond.instanceMethod yX5_isFree ∈ tblG := mm 492 (by decide +kernel) (by decide +kernel)
theorem se_X5_isFree : Cond.selects RX5 yX5_isFree yX5_isFree ∈ tblG := mm 493 (by decide +kernel) (by decide +kernel)
theorem li_X5_87 : Cond.methodLink RX5 87 yX8_isTaken ∈ tblG := mm 495 (by decide +kernel) (by decide +kernel)
theorem li_X9_138 : Cond.methodLink RX9 138 yX5_wideOf ∈ tblG := mm 497 (by decide +kernel) (by decide +kernel)
theorem im_X5_wideOf : Cond.instanceMethod yX5_wideOf ∈ tblG := mm 498 (by decide +kernel) (by decide +kernel)
theorem se_X5_wideOf : Cond.selects RX5 yX5_wideOf yX5_wideOf ∈ tblG := mm 499 (by decide +kernel) (by decide +kernel)
theorem li_L_46 : Cond.methodLink RL 46 yX9_at ∈ tblG := mm 501 (by decide +kernel) (by decide +kernel)
theorem im_X9_at : Cond.instanceMethod yX9_at ∈ tblG := mm 502 (by decide +kernel) (by decide +kernel)
theorem se_X9_at : Cond.selects RX9 yX9_at yX9_at ∈ tblG := mm 503 (by decide +kernel) (by decide +kernel)
theorem li_L_50 : Cond.methodLink RL 50 yX9_above ∈ tblG := mm 505 (by decide +kernel) (by decide +kernel)
theorem im_X9_above : Cond.instanceMethod yX9_above ∈ tblG := mm 506 (by decide +kernel) (by decide +kernel)
theorem se_X9_above : Cond.selects RX9 yX9_above yX9_above ∈ tblG := mm 507 (by decide +kernel) (by decide +kernel)
theorem li_X9_147 : Cond.methodLink RX9 147 yX2_isAbove ∈ tblG := mm 509 (by decide +kernel) (by decide +kernel)
theorem im_X2_isAbove : Cond.instanceMethod yX2_isAbove ∈ tblG := mm 510 (by decide +kernel) (by decide +kernel)
theorem se_X2_isAbove : Cond.selects RX2 yX2_isAbove yX2_isAbove ∈ tblG := mm 511 (by decide +kernel) (by decide +kernel)
theorem li_L_54 : Cond.methodLink RL 54 yX9_river ∈ tblG := mm 513 (by decide +kernel) (by decide +kernel)
theorem im_X9_river : Cond.instanceMethod yX9_river ∈ tblG := mm 514 (by decide +kernel) (by decide +kernel)
theorem se_X9_river : Cond.selects RX9 yX9_river yX9_river ∈ tblG := mm 515 (by decide +kernel) (by decide +kernel)
theorem li_L_58 : Cond.methodLink RL 58 yX9_days ∈ tblG := mm 517 (by decide +kernel) (by decide +kernel)
theorem im_X9_days : Cond.instanceMethod yX9_days ∈ tblG := mm 518 (by decide +kernel) (by decide +kernel)
theorem se_X9_days : Cond.selects RX9 yX9_days yX9_days ∈ tblG := mm 519 (by decide +kernel) (by decide +kernel)
theorem li_L_63 : Cond.methodLink RL 63 yX9_take ∈ tblG := mm 521 (by decide +kernel) (by decide +kernel)
theorem im_X9_take : Cond.instanceMethod yX9_take ∈ tblG := mm 522 (by decide +kernel) (by decide +kernel)
theorem se_X9_take : Cond.selects RX9 yX9_take yX9_take ∈ tblG := mm 523 (by decide +kernel) (by decide +kernel)
theorem li_X9_162 : Cond.methodLink RX9 162 yX3_covers ∈ tblG := mm 525 (by decide +kernel) (by decide +kernel)
theorem im_X3_covers : Cond.instanceMethod yX3_covers ∈ tblG := mm 526 (by decide +kernel) (by decide +kernel)
theorem se_X3_covers : Cond.selects RX3 yX3_covers yX3_covers ∈ tblG := mm 527 (by decide +kernel) (by decide +kernel)
theorem li_X3_15 : Cond.methodLink RX3 15 yJ9_min_7cf53 ∈ tblG := mm 529 (by decide +kernel) (by decide +kernel)
theorem li_X9_165 : Cond.methodLink RX9 165 yX8_lay ∈ tblG := mm 530 (by decide +kernel) (by decide +kernel)
theorem im_X8_lay : Cond.instanceMethod yX8_lay ∈ tblG := mm 531 (by decide +kernel) (by decide +kernel)
theorem se_X8_lay : Cond.selects RX8 yX8_lay yX8_lay ∈ tblG := mm 532 (by decide +kernel) (by decide +kernel)
theorem li_X8_40 : Cond.methodLink RX8 40 yX8_pileFor ∈ tblG := mm 534 (by decide +kernel) (by decide +kernel)
theorem im_X8_pileFor : Cond.instanceMethod yX8_pileFor ∈ tblG := mm 536 (by decide +kernel) (by decide +kernel)
theorem li_L_67 : Cond.methodLink RL 67 yX9_order ∈ tblG := mm 538 (by decide +kernel) (by decide +kernel)
theorem im_X9_order : Cond.instanceMethod yX9_order ∈ tblG := mm 539 (by decide +kernel) (by decide +kernel)
theorem se_X9_order : Cond.selects RX9 yX9_order yX9_order ∈ tblG := mm 540 (by decide +kernel) (by decide +kernel)
theorem li_X9_169 : Cond.methodLink RX9 169 yX0_arrange ∈ tblG := mm 542 (by decide +kernel) (by decide +kernel)
theorem im_X0_arrange : Cond.instanceMethod yX0_arrange ∈ tblG := mm 543 (by decide +kernel) (by decide +kernel)
theorem se_X0_arrange : Cond.selects RX0 yX0_arrange yX0_arrange ∈ tblG := mm 544 (by decide +kernel) (by decide +kernel)
theorem li_X0_17 : Cond.methodLink RX0 17 yX0_findPress ∈ tblG := mm 546 (by decide +kernel) (by decide +kernel)
theorem im_X0_findPress : Cond.instanceMethod yX0_findPress ∈ tblG := mm 548 (by decide +kernel) (by decide +kernel)
theorem li_X0_70 : Cond.methodLink RX0 70 yX5_dueOf ∈ tblG := mm 550 (by decide +kernel) (by decide +kernel)
theorem co_X0_73 : Cond.constant RX0 73 (100000) ∈ tblG := mm 551 (by decide +kernel) (by decide +kernel)
theorem li_X0_93 : Cond.methodLink RX0 93 yJ9_min_7cf53 ∈ tblG := mm 553 (by decide +kernel) (by decide +kernel)
theorem li_X0_21 : Cond.methodLink RX0 21 yX0_passOverTaken ∈ tblG := mm 554 (by decide +kernel) (by decide +kernel)
theorem im_X0_passOverTaken : Cond.instanceMethod yX0_passOverTaken ∈ tblG := mm 556 (by decide +kernel) (by decide +kernel)
theorem li_X0_98 : Cond.methodLink RX0 98 yX8_isTaken ∈ tblG := mm 558 (by decide +kernel) (by decide +kernel)
theorem co_X0_62 : Cond.constant RX0 62 (2147483647) ∈ tblG := mm 559 (by decide +kernel) (by decide +kernel)
theorem li_X0_30 : Cond.methodLink RX0 30 yX1_clear ∈ tblG := mm 560 (by decide +kernel) (by decide +kernel)
theorem li_X0_54 : Cond.methodLink RX0 54 yX0_mostPressing ∈ tblG := mm 561 (by decide +kernel) (by decide +kernel)
theorem im_X0_mostPressing : Cond.instanceMethod yX0_mostPressing ∈ tblG := mm 563 (by decide +kernel) (by decide +kernel)
theorem li_X0_58 : Cond.methodLink RX0 58 yX1_add ∈ tblG := mm 565 (by decide +kernel) (by decide +kernel)
theorem im_X1_add : Cond.instanceMethod yX1_add ∈ tblG := mm 566 (by decide +kernel) (by decide +kernel)
theorem se_X1_add : Cond.selects RX1 yX1_add yX1_add ∈ tblG := mm 567 (by decide +kernel) (by decide +kernel)
theorem li_X0_66 : Cond.methodLink RX0 66 yX5_isInTime ∈ tblG := mm 569 (by decide +kernel) (by decide +kernel)
theorem im_X5_isInTime : Cond.instanceMethod yX5_isInTime ∈ tblG := mm 570 (by decide +kernel) (by decide +kernel)
theorem se_X5_isInTime : Cond.selects RX5 yX5_isInTime yX5_isInTime ∈ tblG := mm 571 (by decide +kernel) (by decide +kernel)
theorem li_X5_84 : Cond.methodLink RX5 84 yX5_dueOf ∈ tblG := mm 573 (by decide +kernel) (by decide +kernel)
theorem li_L_71 : Cond.methodLink RL 71 yX9_ordered ∈ tblG := mm 574 (by decide +kernel) (by decide +kernel)
theorem im_X9_ordered : Cond.instanceMethod yX9_ordered ∈ tblG := mm 575 (by decide +kernel) (by decide +kernel)
theorem se_X9_ordered : Cond.selects RX9 yX9_ordered yX9_ordered ∈ tblG := mm 576 (by decide +kernel) (by decide +kernel)
theorem li_L_75 : Cond.methodLink RL 75 yX9_piled ∈ tblG := mm 578 (by decide +kernel) (by decide +kernel)
theorem im_X9_piled : Cond.instanceMethod yX9_piled ∈ tblG := mm 579 (by decide +kernel) (by decide +kernel)
theorem se_X9_piled : Cond.selects RX9 yX9_piled yX9_piled ∈ tblG := mm 580 (by decide +kernel) (by decide +kernel)
theorem li_X9_188 : Cond.methodLink RX9 188 yX8_blockIn ∈ tblG := mm 582 (by decide +kernel) (by decide +kernel)
theorem im_X8_blockIn : Cond.instanceMethod yX8_blockIn ∈ tblG := mm 583 (by decide +kernel) (by decide +kernel)
theorem se_X8_blockIn : Cond.selects RX8 yX8_blockIn yX8_blockIn ∈ tblG := mm 584 (by decide +kernel) (by decide +kernel)
theorem li_L_79 : Cond.methodLink RL 79 yX9_sun ∈ tblG := mm 586 (by decide +kernel) (by decide +kernel)
theorem im_X9_sun : Cond.instanceMethod yX9_sun ∈ tblG := mm 587 (by decide +kernel) (by decide +kernel)
theorem se_X9_sun : Cond.selects RX9 yX9_sun yX9_sun ∈ tblG := mm 588 (by decide +kernel) (by decide +kernel)
theorem li_X9_192 : Cond.methodLink RX9 192 yX6_direction ∈ tblG := mm 590 (by decide +kernel) (by decide +kernel)
theorem is_X6_direction : Cond.static yX6_direction ∈ tblG := mm 591 (by decide +kernel) (by decide +kernel)
theorem li_X6_9 : Cond.methodLink RX6 9 yJ9_abs_0f7a4 ∈ tblG := mm 593 (by decide +kernel) (by decide +kernel)
theorem is_J9_abs_0f7a4 : Cond.static yJ9_abs_0f7a4 ∈ tblG := mm 594 (by decide +kernel) (by decide +kernel)
theorem ic_abs : Cond.code Lib.Math.abs.name Lib.Math.abs.code 1 (some .int) ∈ tblG := mm 595 (by decide +kernel) (by decide +kernel)
theorem is_abs : Cond.static Lib.Math.abs.name ∈ tblG := mm 594 (by decide +kernel) (by decide +kernel)
theorem li_L_83 : Cond.methodLink RL 83 yX9_strikes ∈ tblG := mm 596 (by decide +kernel) (by decide +kernel)
theorem im_X9_strikes : Cond.instanceMethod yX9_strikes ∈ tblG := mm 597 (by decide +kernel) (by decide +kernel)
theorem se_X9_strikes : Cond.selects RX9 yX9_strikes yX9_strikes ∈ tblG := mm 598 (by decide +kernel) (by decide +kernel)
theorem li_X9_197 : Cond.methodLink RX9 197 yX9_isPlace ∈ tblG := mm 600 (by decide +kernel) (by decide +kernel)
theorem is_X9_isPlace : Cond.static yX9_isPlace ∈ tblG := mm 601 (by decide +kernel) (by decide +kernel)
theorem li_X9_200 : Cond.methodLink RX9 200 yX6_daysBetween ∈ tblG := mm 603 (by decide +kernel) (by decide +kernel)
theorem is_X6_daysBetween : Cond.static yX6_daysBetween ∈ tblG := mm 604 (by decide +kernel) (by decide +kernel)
theorem li_X6_15 : Cond.methodLink RX6 15 yX6_daysUpTo ∈ tblG := mm 606 (by decide +kernel) (by decide +kernel)
theorem is_X6_daysUpTo : Cond.static yX6_daysUpTo ∈ tblG := mm 607 (by decide +kernel) (by decide +kernel)
theorem li_L_87 : Cond.methodLink RL 87 yX9_like ∈ tblG := mm 609 (by decide +kernel) (by decide +kernel)
theorem im_X9_like : Cond.instanceMethod yX9_like ∈ tblG := mm 610 (by decide +kernel) (by decide +kernel)
theorem se_X9_like : Cond.selects RX9 yX9_like yX9_like ∈ tblG := mm 611 (by decide +kernel) (by decide +kernel)
theorem li_X9_203 : Cond.methodLink RX9 203 yX6_mostAlike ∈ tblG := mm 613 (by decide +kernel) (by decide +kernel)
theorem is_X6_mostAlike : Cond.static yX6_mostAlike ∈ tblG := mm 614 (by decide +kernel) (by decide +kernel)
theorem li_X6_20 : Cond.methodLink RX6 20 yX6_daysBetween ∈ tblG := mm 616 (by decide +kernel) (by decide +kernel)
theorem li_X6_24 : Cond.methodLink RX6 24 yJ9_max_7cf53 ∈ tblG := mm 617 (by decide +kernel) (by decide +kernel)
theorem is_J9_max_7cf53 : Cond.static yJ9_max_7cf53 ∈ tblG := mm 618 (by decide +kernel) (by decide +kernel)
theorem ic_max : Cond.code Lib.Math.max.name Lib.Math.max.code 2 (some .int) ∈ tblG := mm 619 (by decide +kernel) (by decide +kernel)
theorem is_max : Cond.static Lib.Math.max.name ∈ tblG := mm 618 (by decide +kernel) (by decide +kernel)
theorem li_X6_27 : Cond.methodLink RX6 27 yJ9_min_7cf53 ∈ tblG := mm 620 (by decide +kernel) (by decide +kernel)
theorem li_L_92 : Cond.methodLink RL 92 yX9_count ∈ tblG := mm 621 (by decide +kernel) (by decide +kernel)
theorem im_X9_count : Cond.instanceMethod yX9_count ∈ tblG := mm 622 (by decide +kernel) (by decide +kernel)
theorem se_X9_count : Cond.selects RX9 yX9_count yX9_count ∈ tblG := mm 623 (by decide +kernel) (by decide +kernel)
theorem li_X9_214 : Cond.methodLink RX9 214 yX7_weightOf ∈ tblG := mm 625 (by decide +kernel) (by decide +kernel)
theorem li_L_96 : Cond.methodLink RL 96 yX9_image ∈ tblG := mm 626 (by decide +kernel) (by decide +kernel)
theorem im_X9_image : Cond.instanceMethod yX9_image ∈ tblG := mm 627 (by decide +kernel) (by decide +kernel)
theorem se_X9_image : Cond.selects RX9 yX9_image yX9_image ∈ tblG := mm 628 (by decide +kernel) (by decide +kernel)
theorem li_X9_217 : Cond.methodLink RX9 217 yX5_become ∈ tblG := mm 630 (by decide +kernel) (by decide +kernel)
theorem im_X5_become : Cond.instanceMethod yX5_become ∈ tblG := mm 631 (by decide +kernel) (by decide +kernel)
theorem se_X5_become : Cond.selects RX5 yX5_become yX5_become ∈ tblG := mm 632 (by decide +kernel) (by decide +kernel)
theorem li_X5_102 : Cond.methodLink RX5 102 yX7_become ∈ tblG := mm 634 (by decide +kernel) (by decide +kernel)
theorem im_X7_become : Cond.instanceMethod yX7_become ∈ tblG := mm 635 (by decide +kernel) (by decide +kernel)
theorem se_X7_become : Cond.selects RX7 yX7_become yX7_become ∈ tblG := mm 636 (by decide +kernel) (by decide +kernel)
theorem is_X9_copyRow : Cond.static yX9_copyRow ∈ tblG := mm 639 (by decide +kernel) (by decide +kernel)
theorem li_X9_221 : Cond.methodLink RX9 221 yJ9_min_7cf53 ∈ tblG := mm 641 (by decide +kernel) (by decide +kernel)
theorem li_X9_226 : Cond.methodLink RX9 226 arraycopyName ∈ tblG := mm 642 (by decide +kernel) (by decide +kernel)
theorem li_X5_106 : Cond.methodLink RX5 106 yX2_become ∈ tblG := mm 643 (by decide +kernel) (by decide +kernel)
theorem im_X2_become : Cond.instanceMethod yX2_become ∈ tblG := mm 644 (by decide +kernel) (by decide +kernel)
theorem se_X2_become : Cond.selects RX2 yX2_become yX2_become ∈ tblG := mm 645 (by decide +kernel) (by decide +kernel)
theorem li_X5_109 : Cond.methodLink RX5 109 yX3_become ∈ tblG := mm 648 (by decide +kernel) (by decide +kernel)
theorem im_X3_become : Cond.instanceMethod yX3_become ∈ tblG := mm 649 (by decide +kernel) (by decide +kernel)
theorem se_X3_become : Cond.selects RX3 yX3_become yX3_become ∈ tblG := mm 650 (by decide +kernel) (by decide +kernel)
theorem li_X5_112 : Cond.methodLink RX5 112 yX8_become ∈ tblG := mm 653 (by decide +kernel) (by decide +kernel)
theorem im_X8_become : Cond.instanceMethod yX8_become ∈ tblG := mm 654 (by decide +kernel) (by decide +kernel)
theorem se_X8_become : Cond.selects RX8 yX8_become yX8_become ∈ tblG := mm 655 (by decide +kernel) (by decide +kernel)
theorem li_X5_115 : Cond.methodLink RX5 115 yX1_become ∈ tblG := mm 658 (by decide +kernel) (by decide +kernel)
theorem im_X1_become : Cond.instanceMethod yX1_become ∈ tblG := mm 659 (by decide +kernel) (by decide +kernel)
theorem se_X1_become : Cond.selects RX1 yX1_become yX1_become ∈ tblG := mm 660 (by decide +kernel) (by decide +kernel)
theorem li_L_100 : Cond.methodLink RL 100 yX9_again ∈ tblG := mm 663 (by decide +kernel) (by decide +kernel)
theorem im_X9_again : Cond.instanceMethod yX9_again ∈ tblG := mm 664 (by decide +kernel) (by decide +kernel)
theorem se_X9_again : Cond.selects RX9 yX9_again yX9_again ∈ tblG := mm 665 (by decide +kernel) (by decide +kernel)
theorem cl_L_10 : Cond.classLink RL 10 RX10 ∈ tblG := mm 667 (by decide +kernel) (by decide +kernel)
theorem it_X10 : Cond.instantiable RX10 8 ∈ tblG := mm 668 (by decide +kernel) (by decide +kernel)
theorem li_L_12 : Cond.methodLink RL 12 yX10_init ∈ tblG := mm 669 (by decide +kernel) (by decide +kernel)
theorem im_X10_init : Cond.instanceMethod yX10_init ∈ tblG := mm 670 (by decide +kernel) (by decide +kernel)
theorem li_X10_1 : Cond.methodLink RX10 1 objectInit ∈ tblG := mm 672 (by decide +kernel) (by decide +kernel)
theorem li_X10_35 : Cond.methodLink RX10 35 yX10_begins ∈ tblG := mm 673 (by decide +kernel) (by decide +kernel)
theorem im_X10_begins : Cond.instanceMethod yX10_begins ∈ tblG := mm 675 (by decide +kernel) (by decide +kernel)
theorem li_X10_39 : Cond.methodLink RX10 39 yX10_noPlan ∈ tblG := mm 677 (by decide +kernel) (by decide +kernel)
theorem im_X10_noPlan : Cond.instanceMethod yX10_noPlan ∈ tblG := mm 679 (by decide +kernel) (by decide +kernel)
theorem fl_X10_7 : Cond.fieldLink RX10 7 "TempleRaisedModel" "all" "[I" ∈ tblG := mm 681 (by decide +kernel) (by decide +kernel)
theorem fl_X10_13 : Cond.fieldLink RX10 13 "TempleRaisedModel" "has" "[Z" ∈ tblG := mm 682 (by decide +kernel) (by decide +kernel)
theorem fl_X10_17 : Cond.fieldLink RX10 17 "TempleRaisedModel" "few" "[I" ∈ tblG := mm 683 (by decide +kernel) (by decide +kernel)
theorem fl_X10_20 : Cond.fieldLink RX10 20 "TempleRaisedModel" "sawn" "[I" ∈ tblG := mm 684 (by decide +kernel) (by decide +kernel)
theorem fl_X10_23 : Cond.fieldLink RX10 23 "TempleRaisedModel" "cut" "[I" ∈ tblG := mm 685 (by decide +kernel) (by decide +kernel)
theorem fl_X10_26 : Cond.fieldLink RX10 26 "TempleRaisedModel" "todo" "[I" ∈ tblG := mm 686 (by decide +kernel) (by decide +kernel)
theorem fl_X10_29 : Cond.fieldLink RX10 29 "TempleRaisedModel" "press" "[I" ∈ tblG := mm 687 (by decide +kernel) (by decide +kernel)
theorem fl_X10_32 : Cond.fieldLink RX10 32 "TempleRaisedModel" "gone" "[Z" ∈ tblG := mm 688 (by decide +kernel) (by decide +kernel)
theorem ac_boolean : Cond.arrayClass .boolean ∈ tblG := mm 706 (by decide +kernel) (by decide +kernel)
theorem li_L_17 : Cond.methodLink RL 17 yX10_wall ∈ tblG := mm 707 (by decide +kernel) (by decide +kernel)
theorem im_X10_wall : Cond.instanceMethod yX10_wall ∈ tblG := mm 708 (by decide +kernel) (by decide +kernel)
theorem se_X10_wall : Cond.selects RX10 yX10_wall yX10_wall ∈ tblG := mm 709 (by decide +kernel) (by decide +kernel)
theorem li_X10_42 : Cond.methodLink RX10 42 yX10_isIn ∈ tblG := mm 711 (by decide +kernel) (by decide +kernel)
theorem is_X10_isIn : Cond.static yX10_isIn ∈ tblG := mm 712 (by decide +kernel) (by decide +kernel)
theorem li_L_22 : Cond.methodLink RL 22 yX10_cell ∈ tblG := mm 714 (by decide +kernel) (by decide +kernel)
theorem im_X10_cell : Cond.instanceMethod yX10_cell ∈ tblG := mm 715 (by decide +kernel) (by decide +kernel)
theorem se_X10_cell : Cond.selects RX10 yX10_cell yX10_cell ∈ tblG := mm 716 (by decide +kernel) (by decide +kernel)
theorem li_X10_46 : Cond.methodLink RX10 46 yX10_isCell ∈ tblG := mm 718 (by decide +kernel) (by decide +kernel)
theorem im_X10_isCell : Cond.instanceMethod yX10_isCell ∈ tblG := mm 720 (by decide +kernel) (by decide +kernel)
theorem li_L_26 : Cond.methodLink RL 26 yX10_motifs ∈ tblG := mm 722 (by decide +kernel) (by decide +kernel)
theorem im_X10_motifs : Cond.instanceMethod yX10_motifs ∈ tblG := mm 723 (by decide +kernel) (by decide +kernel)
theorem se_X10_motifs : Cond.selects RX10 yX10_motifs yX10_motifs ∈ tblG := mm 724 (by decide +kernel) (by decide +kernel)
theorem li_L_31 : Cond.methodLink RL 31 yX10_limit ∈ tblG := mm 726 (by decide +kernel) (by decide +kernel)
theorem im_X10_limit : Cond.instanceMethod yX10_limit ∈ tblG := mm 727 (by decide +kernel) (by decide +kernel)
theorem se_X10_limit : Cond.selects RX10 yX10_limit yX10_limit ∈ tblG := mm 728 (by decide +kernel) (by decide +kernel)
theorem li_L_35 : Cond.methodLink RL 35 yX10_saw ∈ tblG := mm 730 (by decide +kernel) (by decide +kernel)
theorem im_X10_saw : Cond.instanceMethod yX10_saw ∈ tblG := mm 731 (by decide +kernel) (by decide +kernel)
theorem se_X10_saw : Cond.selects RX10 yX10_saw yX10_saw ∈ tblG := mm 732 (by decide +kernel) (by decide +kernel)
theorem li_L_40 : Cond.methodLink RL 40 yX10_plan ∈ tblG := mm 734 (by decide +kernel) (by decide +kernel)
theorem im_X10_plan : Cond.instanceMethod yX10_plan ∈ tblG := mm 735 (by decide +kernel) (by decide +kernel)
theorem se_X10_plan : Cond.selects RX10 yX10_plan yX10_plan ∈ tblG := mm 736 (by decide +kernel) (by decide +kernel)
theorem li_X10_71 : Cond.methodLink RX10 71 yX10_settles ∈ tblG := mm 738 (by decide +kernel) (by decide +kernel)
theorem im_X10_settles : Cond.instanceMethod yX10_settles ∈ tblG := mm 740 (by decide +kernel) (by decide +kernel)
theorem li_X10_53 : Cond.methodLink RX10 53 yX10_part ∈ tblG := mm 742 (by decide +kernel) (by decide +kernel)
theorem is_X10_part : Cond.static yX10_part ∈ tblG := mm 743 (by decide +kernel) (by decide +kernel)
theorem li_X10_57 : Cond.methodLink RX10 57 yX10_weight ∈ tblG := mm 745 (by decide +kernel) (by decide +kernel)
theorem im_X10_weight : Cond.instanceMethod yX10_weight ∈ tblG := mm 747 (by decide +kernel) (by decide +kernel)
theorem li_X10_60 : Cond.methodLink RX10 60 yX10_mayUpright ∈ tblG := mm 749 (by decide +kernel) (by decide +kernel)
theorem im_X10_mayUpright : Cond.instanceMethod yX10_mayUpright ∈ tblG := mm 751 (by decide +kernel) (by decide +kernel)
theorem li_X10_50 : Cond.methodLink RX10 50 yX10_isOne ∈ tblG := mm 753 (by decide +kernel) (by decide +kernel)
theorem im_X10_isOne : Cond.instanceMethod yX10_isOne ∈ tblG := mm 755 (by decide +kernel) (by decide +kernel)
theorem li_X10_64 : Cond.methodLink RX10 64 yX10_tries ∈ tblG := mm 757 (by decide +kernel) (by decide +kernel)
theorem im_X10_tries : Cond.instanceMethod yX10_tries ∈ tblG := mm 759 (by decide +kernel) (by decide +kernel)
theorem li_X10_68 : Cond.methodLink RX10 68 yX10_mayLevel ∈ tblG := mm 761 (by decide +kernel) (by decide +kernel)
theorem im_X10_mayLevel : Cond.instanceMethod yX10_mayLevel ∈ tblG := mm 763 (by decide +kernel) (by decide +kernel)
theorem li_X10_75 : Cond.methodLink RX10 75 yX10_puts ∈ tblG := mm 765 (by decide +kernel) (by decide +kernel)
theorem im_X10_puts : Cond.instanceMethod yX10_puts ∈ tblG := mm 767 (by decide +kernel) (by decide +kernel)
theorem li_X10_79 : Cond.methodLink RX10 79 yX10_isBlock ∈ tblG := mm 769 (by decide +kernel) (by decide +kernel)
theorem im_X10_isBlock : Cond.instanceMethod yX10_isBlock ∈ tblG := mm 771 (by decide +kernel) (by decide +kernel)
theorem li_X10_82 : Cond.methodLink RX10 82 yX10_turnOf ∈ tblG := mm 773 (by decide +kernel) (by decide +kernel)
theorem im_X10_turnOf : Cond.instanceMethod yX10_turnOf ∈ tblG := mm 775 (by decide +kernel) (by decide +kernel)
theorem li_X10_86 : Cond.methodLink RX10 86 yX10_of ∈ tblG := mm 777 (by decide +kernel) (by decide +kernel)
theorem im_X10_of : Cond.instanceMethod yX10_of ∈ tblG := mm 779 (by decide +kernel) (by decide +kernel)
theorem li_L_45 : Cond.methodLink RL 45 yX10_block ∈ tblG := mm 781 (by decide +kernel) (by decide +kernel)
theorem im_X10_block : Cond.instanceMethod yX10_block ∈ tblG := mm 782 (by decide +kernel) (by decide +kernel)
theorem se_X10_block : Cond.selects RX10 yX10_block yX10_block ∈ tblG := mm 783 (by decide +kernel) (by decide +kernel)
theorem li_X10_97 : Cond.methodLink RX10 97 yX10_isThere ∈ tblG := mm 785 (by decide +kernel) (by decide +kernel)
theorem im_X10_isThere : Cond.instanceMethod yX10_isThere ∈ tblG := mm 787 (by decide +kernel) (by decide +kernel)
theorem li_X10_100 : Cond.methodLink RX10 100 yX10_due ∈ tblG := mm 789 (by decide +kernel) (by decide +kernel)
theorem im_X10_due : Cond.instanceMethod yX10_due ∈ tblG := mm 791 (by decide +kernel) (by decide +kernel)
theorem li_X10_90 : Cond.methodLink RX10 90 yX10_stands ∈ tblG := mm 793 (by decide +kernel) (by decide +kernel)
theorem im_X10_stands : Cond.instanceMethod yX10_stands ∈ tblG := mm 795 (by decide +kernel) (by decide +kernel)
theorem li_X10_103 : Cond.methodLink RX10 103 yX10_isFree ∈ tblG := mm 797 (by decide +kernel) (by decide +kernel)
theorem im_X10_isFree : Cond.instanceMethod yX10_isFree ∈ tblG := mm 799 (by decide +kernel) (by decide +kernel)
theorem li_X10_94 : Cond.methodLink RX10 94 yX10_isAbove ∈ tblG := mm 801 (by decide +kernel) (by decide +kernel)
theorem im_X10_isAbove : Cond.instanceMethod yX10_isAbove ∈ tblG := mm 803 (by decide +kernel) (by decide +kernel)
theorem li_X10_106 : Cond.methodLink RX10 106 yX10_wideOf ∈ tblG := mm 805 (by decide +kernel) (by decide +kernel)
theorem im_X10_wideOf : Cond.instanceMethod yX10_wideOf ∈ tblG := mm 807 (by decide +kernel) (by decide +kernel)
theorem li_L_49 : Cond.methodLink RL 49 yX10_at ∈ tblG := mm 809 (by decide +kernel) (by decide +kernel)
theorem im_X10_at : Cond.instanceMethod yX10_at ∈ tblG := mm 810 (by decide +kernel) (by decide +kernel)
theorem se_X10_at : Cond.selects RX10 yX10_at yX10_at ∈ tblG := mm 811 (by decide +kernel) (by decide +kernel)
theorem li_L_53 : Cond.methodLink RL 53 yX10_above ∈ tblG := mm 813 (by decide +kernel) (by decide +kernel)
theorem im_X10_above : Cond.instanceMethod yX10_above ∈ tblG := mm 814 (by decide +kernel) (by decide +kernel)
theorem se_X10_above : Cond.selects RX10 yX10_above yX10_above ∈ tblG := mm 815 (by decide +kernel) (by decide +kernel)
theorem li_L_57 : Cond.methodLink RL 57 yX10_river ∈ tblG := mm 817 (by decide +kernel) (by decide +kernel)
theorem im_X10_river : Cond.instanceMethod yX10_river ∈ tblG := mm 818 (by decide +kernel) (by decide +kernel)
theorem se_X10_river : Cond.selects RX10 yX10_river yX10_river ∈ tblG := mm 819 (by decide +kernel) (by decide +kernel)
theorem li_L_62 : Cond.methodLink RL 62 yX10_days ∈ tblG := mm 821 (by decide +kernel) (by decide +kernel)
theorem im_X10_days : Cond.instanceMethod yX10_days ∈ tblG := mm 822 (by decide +kernel) (by decide +kernel)
theorem se_X10_days : Cond.selects RX10 yX10_days yX10_days ∈ tblG := mm 823 (by decide +kernel) (by decide +kernel)
theorem li_L_66 : Cond.methodLink RL 66 yX10_take ∈ tblG := mm 825 (by decide +kernel) (by decide +kernel)
theorem im_X10_take : Cond.instanceMethod yX10_take ∈ tblG := mm 826 (by decide +kernel) (by decide +kernel)
theorem se_X10_take : Cond.selects RX10 yX10_take yX10_take ∈ tblG := mm 827 (by decide +kernel) (by decide +kernel)
theorem li_X10_113 : Cond.methodLink RX10 113 yX10_uppermost ∈ tblG := mm 829 (by decide +kernel) (by decide +kernel)
theorem im_X10_uppermost : Cond.instanceMethod yX10_uppermost ∈ tblG := mm 831 (by decide +kernel) (by decide +kernel)
theorem li_X10_109 : Cond.methodLink RX10 109 yX10_taken ∈ tblG := mm 833 (by decide +kernel) (by decide +kernel)
theorem im_X10_taken : Cond.instanceMethod yX10_taken ∈ tblG := mm 835 (by decide +kernel) (by decide +kernel)
theorem li_L_78 : Cond.methodLink RL 78 yX10_piled ∈ tblG := mm 837 (by decide +kernel) (by decide +kernel)
theorem im_X10_piled : Cond.instanceMethod yX10_piled ∈ tblG := mm 838 (by decide +kernel) (by decide +kernel)
theorem se_X10_piled : Cond.selects RX10 yX10_piled yX10_piled ∈ tblG := mm 839 (by decide +kernel) (by decide +kernel)
theorem li_L_70 : Cond.methodLink RL 70 yX10_order ∈ tblG := mm 841 (by decide +kernel) (by decide +kernel)
theorem im_X10_order : Cond.instanceMethod yX10_order ∈ tblG := mm 842 (by decide +kernel) (by decide +kernel)
theorem se_X10_order : Cond.selects RX10 yX10_order yX10_order ∈ tblG := mm 843 (by decide +kernel) (by decide +kernel)
theorem li_X10_120 : Cond.methodLink RX10 120 yX10_presses ∈ tblG := mm 845 (by decide +kernel) (by decide +kernel)
theorem im_X10_presses : Cond.instanceMethod yX10_presses ∈ tblG := mm 847 (by decide +kernel) (by decide +kernel)
theorem co_X10_116 : Cond.constant RX10 116 (100000) ∈ tblG := mm 849 (by decide +kernel) (by decide +kernel)
theorem li_X10_123 : Cond.methodLink RX10 123 yX10_nextBlock ∈ tblG := mm 850 (by decide +kernel) (by decide +kernel)
theorem im_X10_nextBlock : Cond.instanceMethod yX10_nextBlock ∈ tblG := mm 852 (by decide +kernel) (by decide +kernel)
theorem li_X10_117 : Cond.methodLink RX10 117 yX10_isFreeThen ∈ tblG := mm 854 (by decide +kernel) (by decide +kernel)
theorem im_X10_isFreeThen : Cond.instanceMethod yX10_isFreeThen ∈ tblG := mm 856 (by decide +kernel) (by decide +kernel)
theorem li_L_74 : Cond.methodLink RL 74 yX10_ordered ∈ tblG := mm 858 (by decide +kernel) (by decide +kernel)
theorem im_X10_ordered : Cond.instanceMethod yX10_ordered ∈ tblG := mm 859 (by decide +kernel) (by decide +kernel)
theorem se_X10_ordered : Cond.selects RX10 yX10_ordered yX10_ordered ∈ tblG := mm 860 (by decide +kernel) (by decide +kernel)
theorem li_L_82 : Cond.methodLink RL 82 yX10_sun ∈ tblG := mm 862 (by decide +kernel) (by decide +kernel)
theorem im_X10_sun : Cond.instanceMethod yX10_sun ∈ tblG := mm 863 (by decide +kernel) (by decide +kernel)
theorem se_X10_sun : Cond.selects RX10 yX10_sun yX10_sun ∈ tblG := mm 864 (by decide +kernel) (by decide +kernel)
theorem li_X10_126 : Cond.methodLink RX10 126 yX10_direction ∈ tblG := mm 866 (by decide +kernel) (by decide +kernel)
theorem is_X10_direction : Cond.static yX10_direction ∈ tblG := mm 867 (by decide +kernel) (by decide +kernel)
theorem li_L_86 : Cond.methodLink RL 86 yX10_strikes ∈ tblG := mm 869 (by decide +kernel) (by decide +kernel)
theorem im_X10_strikes : Cond.instanceMethod yX10_strikes ∈ tblG := mm 870 (by decide +kernel) (by decide +kernel)
theorem se_X10_strikes : Cond.selects RX10 yX10_strikes yX10_strikes ∈ tblG := mm 871 (by decide +kernel) (by decide +kernel)
theorem li_X10_129 : Cond.methodLink RX10 129 yX10_isPlace ∈ tblG := mm 873 (by decide +kernel) (by decide +kernel)
theorem is_X10_isPlace : Cond.static yX10_isPlace ∈ tblG := mm 874 (by decide +kernel) (by decide +kernel)
theorem li_X10_132 : Cond.methodLink RX10 132 yX10_strikesOn ∈ tblG := mm 876 (by decide +kernel) (by decide +kernel)
theorem is_X10_strikesOn : Cond.static yX10_strikesOn ∈ tblG := mm 877 (by decide +kernel) (by decide +kernel)
theorem li_L_91 : Cond.methodLink RL 91 yX10_like ∈ tblG := mm 879 (by decide +kernel) (by decide +kernel)
theorem im_X10_like : Cond.instanceMethod yX10_like ∈ tblG := mm 880 (by decide +kernel) (by decide +kernel)
theorem se_X10_like : Cond.selects RX10 yX10_like yX10_like ∈ tblG := mm 881 (by decide +kernel) (by decide +kernel)
theorem li_L_95 : Cond.methodLink RL 95 yX10_count ∈ tblG := mm 883 (by decide +kernel) (by decide +kernel)
theorem im_X10_count : Cond.instanceMethod yX10_count ∈ tblG := mm 884 (by decide +kernel) (by decide +kernel)
theorem se_X10_count : Cond.selects RX10 yX10_count yX10_count ∈ tblG := mm 885 (by decide +kernel) (by decide +kernel)
theorem li_L_99 : Cond.methodLink RL 99 yX10_image ∈ tblG := mm 887 (by decide +kernel) (by decide +kernel)
theorem im_X10_image : Cond.instanceMethod yX10_image ∈ tblG := mm 888 (by decide +kernel) (by decide +kernel)
theorem se_X10_image : Cond.selects RX10 yX10_image yX10_image ∈ tblG := mm 889 (by decide +kernel) (by decide +kernel)
theorem li_L_103 : Cond.methodLink RL 103 yX10_again ∈ tblG := mm 891 (by decide +kernel) (by decide +kernel)
theorem im_X10_again : Cond.instanceMethod yX10_again ∈ tblG := mm 892 (by decide +kernel) (by decide +kernel)
theorem se_X10_again : Cond.selects RX10 yX10_again yX10_again ∈ tblG := mm 893 (by decide +kernel) (by decide +kernel)
theorem uw_X0 : ∀ w ∈ u_ws RX0 TX0 1, w ∈ tblG := by decide +kernel
theorem uw_X1 : ∀ w ∈ u_ws RX1 TX1 2, w ∈ tblG := by decide +kernel
theorem uw_X2 : ∀ w ∈ u_ws RX2 TX2 8, w ∈ tblG := by decide +kernel
theorem uw_X3 : ∀ w ∈ u_ws RX3 TX3 1, w ∈ tblG := by decide +kernel
theorem uw_X4 : ∀ w ∈ u_ws RX4 TX4 5, w ∈ tblG := by decide +kernel
theorem uw_X5 : ∀ w ∈ u_ws RX5 TX5 8, w ∈ tblG := by decide +kernel
theorem uw_X7 : ∀ w ∈ u_ws RX7 TX7 4, w ∈ tblG := by decide +kernel
theorem uw_X8 : ∀ w ∈ u_ws RX8 TX8 6, w ∈ tblG := by decide +kernel
theorem uw_X9 : ∀ w ∈ u_ws RX9 TX9 4, w ∈ tblG := by decide +kernel
theorem uw_X10 : ∀ w ∈ u_ws RX10 TX10 8, w ∈ tblG := by decide +kernel
def nestL : List (String × Nat × MethodName × String) := [(RX9, 11, yX5_init, "TempleRaised"), (RX5, 30, yX2_init, "TempleRaised"), (RX5, 37, yX3_init, "TempleRaised"), (RX5, 51, yX1_init, "TempleRaised"), (RX9, 18, yX4_init, "TempleRaised"), (RX9, 25, yX0_init, "TempleRaised"), (RX7, 35, yX9_within, "TempleRaised"), (RX4, 97, yX9_place, "TempleRaised"), (RX2, 58, yX9_place, "TempleRaised"), (RX2, 37, yX9_within, "TempleRaised"), (RX7, 39, yX9_place, "TempleRaised"), (RX5, 96, yX9_place, "TempleRaised"), (RX0, 89, yX9_place, "TempleRaised"), (RX7, 43, yX9_copyRow, "TempleRaised"), (RX2, 62, yX9_copyRow, "TempleRaised"), (RX3, 21, yX9_copyRow, "TempleRaised"), (RX8, 44, yX9_copyRow, "TempleRaised"), (RX1, 19, yX9_copyRow, "TempleRaised")]
theorem nq_X9_11 : (RX9, 11, yX5_init, "TempleRaised") ∈ nestL := List.mem_of_getElem? (i := 0) rfl
theorem nq_X5_30 : (RX5, 30, yX2_init, "TempleRaised") ∈ nestL := List.mem_of_getElem? (i := 1) rfl
theorem nq_X5_37 : (RX5, 37, yX3_init, "TempleRaised") ∈ nestL := List.mem_of_getElem? (i := 2) rfl
theorem nq_X5_51 : (RX5, 51, yX1_init, "TempleRaised") ∈ nestL := List.mem_of_getElem? (i := 3) rfl
theorem nq_X9_18 : (RX9, 18, yX4_init, "TempleRaised") ∈ nestL := List.mem_of_getElem? (i := 4) rfl
theorem nq_X9_25 : (RX9, 25, yX0_init, "TempleRaised") ∈ nestL := List.mem_of_getElem? (i := 5) rfl
theorem nq_X7_35 : (RX7, 35, yX9_within, "TempleRaised") ∈ nestL := List.mem_of_getElem? (i := 6) rfl
theorem nq_X4_97 : (RX4, 97, yX9_place, "TempleRaised") ∈ nestL := List.mem_of_getElem? (i := 7) rfl
theorem nq_X2_58 : (RX2, 58, yX9_place, "TempleRaised") ∈ nestL := List.mem_of_getElem? (i := 8) rfl
theorem nq_X2_37 : (RX2, 37, yX9_within, "TempleRaised") ∈ nestL := List.mem_of_getElem? (i := 9) rfl
theorem nq_X7_39 : (RX7, 39, yX9_place, "TempleRaised") ∈ nestL := List.mem_of_getElem? (i := 10) rfl
theorem nq_X5_96 : (RX5, 96, yX9_place, "TempleRaised") ∈ nestL := List.mem_of_getElem? (i := 11) rfl
theorem nq_X0_89 : (RX0, 89, yX9_place, "TempleRaised") ∈ nestL := List.mem_of_getElem? (i := 12) rfl
theorem nq_X7_43 : (RX7, 43, yX9_copyRow, "TempleRaised") ∈ nestL := List.mem_of_getElem? (i := 13) rfl
theorem nq_X2_62 : (RX2, 62, yX9_copyRow, "TempleRaised") ∈ nestL := List.mem_of_getElem? (i := 14) rfl
theorem nq_X3_21 : (RX3, 21, yX9_copyRow, "TempleRaised") ∈ nestL := List.mem_of_getElem? (i := 15) rfl
theorem nq_X8_44 : (RX8, 44, yX9_copyRow, "TempleRaised") ∈ nestL := List.mem_of_getElem? (i := 16) rfl
theorem nq_X1_19 : (RX1, 19, yX9_copyRow, "TempleRaised") ∈ nestL := List.mem_of_getElem? (i := 17) rfl
end
section
abbrev oc (a ci : Nat) (fs : List Value) : Nat × va_E := (a, .inr (ci, fs))
abbrev ai (cA : ClassId) (a n : Nat) (f : Nat → Int32) : Nat × va_E := (a, .inl (cA, n, .inl f))
abbrev aq (cA : ClassId) (a n : Nat) (f : Nat → Option Nat) : Nat × va_E := (a, .inl (cA, n, .inr (.inr (.inr (.inr f)))))
abbrev tys3 (cI cB cS : ClassId) : List (ClassId × FieldType) := [(cI, .int), (cB, .boolean), (cS, .object "TempleRaised$Site")]
/-- what the tables say all along: the classes, the array classes, the nest's links -/
def KK (D : va_G) (cI cB cS : ClassId) (U : State) : Prop := va_K D vwCl (tys3 cI cB cS) U ∧ (∀ q ∈ nestL, va_Nw (.methodLinkNest q.1 q.2.1 q.2.2.1 q.2.2.2) U) ∧ va_AO "TempleRaised$Site" U
theorem KK.warm {D : va_G} {cI cB cS : ClassId} {s U : State} (hW : s.WarmedH U.vm) (h : KK D cI cB cS s) : KK D cI cB cS U := ⟨va_K.moved hW.alike h.1, fun q hq => va_Nw.warmM hW (h.2.1 q hq), va_AO.moved hW.alike h.2.2⟩
theorem KK.same {D : va_G} {cI cB cS : ClassId} {s U : State} (hv : s.vm = U.vm) (h : KK D cI cB cS s) : KK D cI cB cS U := ⟨va_K.moved (hv ▸ Vm.Alike.refl s.vm) h.1, fun q hq => va_Nw.same rfl hv (h.2.1 q hq), va_AO.moved (hv ▸ Vm.Alike.refl s.vm) h.2.2⟩
/-- the world: the cells ws, apart, in A -/
def PD (D : va_G) (A : Nat → Prop) (ws : va_W) (H : Heap) : Prop := va_P D vwCl ws H ∧ va_D A ws
def Pw (D : va_G) (cI cB cS : ClassId) (av : List Value) (ws : va_W) (sz : Nat) : Array Value → State → Prop := va_Pc av (fun U => U.heap.size = sz ∧ PD D (fun _ => True) ws U.heap ∧ KK D cI cB cS U)
abbrev Bw {S : Type} (D : va_G) (A : Nat → Prop) (w1 : S → va_W) : S → State → Prop := fun u t => PD D A (w1 u) t.heap
/-- the contract of a method that answers an int, or a boolean as one -/
def Ci (l : Launch) (y : MethodName) (cc : ByteArray) (maxL : Nat) (ret : Option FieldType) (rm : Room) (D : va_G) (cI cB cS : ClassId) (av : List Value) (ws : va_W) {S : Type} (post : Int32 → S → Prop) (w1 : S → va_W) : Prop :=
  ∀ sz : Nat, Met l y (Cond.code y cc maxL ret :: tblG) rm (Pw D cI cB cS av ws sz) (va_Qi post (Bw D (va_A ws sz) w1) (va_A ws sz)) rm.cells rm.slots (va_A ws sz)
def Cv (l : Launch) (y : MethodName) (cc : ByteArray) (maxL : Nat) (ret : Option FieldType) (rm : Room) (D : va_G) (cI cB cS : ClassId) (av : List Value) (ws : va_W) {S : Type} (post : S → Prop) (w1 : S → va_W) : Prop :=
  ∀ sz : Nat, Met l y (Cond.code y cc maxL ret :: tblG) rm (Pw D cI cB cS av ws sz) (va_Qv post (Bw D (va_A ws sz) w1) (va_A ws sz)) rm.cells rm.slots (va_A ws sz)
theorem gd {w : Cond} (h : w ∈ tblG) : w ∈ tblG ∧ ((w.onTables && w.keeps) = true ∨ ∃ ty, w = .arrayClass ty) := ⟨h, good_of_word (List.mem_filter.mp h).2⟩
theorem gdc {y : MethodName} {cc : ByteArray} {maxL n : Nat} {ret : Option FieldType} (h : okM y cc maxL ret n) : GoodIn tblG (Cond.code y cc maxL ret :: tblG) := fun _ hw => (List.mem_cons.mp hw).elim (fun e => e ▸ gd h.1) gd
theorem Pw.blind {D : va_G} {cI cB cS : ClassId} {av : List Value} {ws : va_W} {sz : Nat} : FrameBlind (Pw D cI cB cS av ws sz) := fun a U g mk q => by
  obtain ⟨q0, q1, q2, q3⟩ := q
  exact ⟨q0, q1, q2, KK.same (s := U) rfl q3⟩
theorem filterMap_of_map {α β : Type} {f : α → Option β} : ∀ {l : List α} {r : List β}, l.map f = r.map some → l.filterMap f = r
  | [], [], _ => rfl
  | [], _ :: _, h => by simp at h
  | _ :: _, [], h => by simp at h
  | a :: l, b :: r, h => by
    simp only [List.map_cons, List.cons.injEq] at h
    rw [List.filterMap_cons, h.1, filterMap_of_map h.2]
theorem PD.sub {D : va_G} {A : Nat → Prop} {ws ws' : va_W} {H : Heap} (h : PD D A ws H) (is : List Nat) (hn : va_nd is = true) (hs : is.map (fun i => ws[i]?) = ws'.map some) : PD D A ws' H := ⟨h.1.sub is (filterMap_of_map hs), h.2.sub is hn hs⟩
theorem PD.app {D : va_G} {A B : Nat → Prop} {ws : va_W} {H : Heap} (h : PD D A ws H) : PD D (fun _ => True) ws H := ⟨h.1, h.2.weaken (fun _ _ _ _ => trivial)⟩
theorem Ci.of {l : Launch} {y : MethodName} {cc : ByteArray} {maxL n : Nat} {ret : Option FieldType} {rm : Room} {D : va_G} {cI cB cS : ClassId} {av : List Value} {ws : va_W} {S : Type} {post : Int32 → S → Prop} {w1 : S → va_W} (ok : okM y cc maxL ret n) (hn : (lg_sl av).length ≤ maxL)
    (body : ∀ (p : Program) (e : Env) (s : State) (m : MethodId) (below : List Frame) (meth : Method) (c : Code) (A : Nat → Prop), p.tables.exec = Jvm.exec → c.code = cc → meth.sig.returnType = ret → c.maxLocals = maxL → s.vm.findClass y.cls = some m.cls → (∀ w ∈ tblG, w.before av.toArray s = true) → meth.locks = false → meth.name = y.name → KK D cI cB cS s → PD D A ws s.heap → (∀ q, s.heap.size ≤ q → A q) → va_S A s.heap s.heap [] → ∀ ls : Array Slot, lv_has ls maxL (lv_args 0 av) →
      W p l e rm s m av.toArray below meth c s.heap [] 0 0 (MQ below (va_Qi post (Bw D A w1) A) av.toArray s rm.cells rm.slots A) (F0 m 0 ls [])) : Ci l y cc maxL ret rm D cI cB cS av ws post w1 := by
  intro sz
  refine Met.ofW (cc := cc) (maxL := maxL) (ret := ret) ok.2.2.2 rfl ?_
  intro p e s m args below meth c s₁ B hml hv
  obtain ⟨rfl, hsz, hP, hK⟩ := hv
  subst hsz
  have hl := lv_entry av (n := maxL) hn
  rw [lg_entry_eq]
  exact body p e s m below meth c _ B.exec B.bytes B.returns hml (findClass_of_methodNamed B.named) (fun w h => atoms_spec (ws := Cond.code y cc maxL ret :: tblG) B.pre w (List.mem_cons_of_mem _ h)) B.notSynchronized (name_of_methodNamed B.named B.method).1 hK ⟨hP.1, hP.2.self (sz := s.heap.size)⟩ (fun q h => Or.inr h) va_S.rf _ hl
theorem Cv.of {l : Launch} {y : MethodName} {cc : ByteArray} {maxL n : Nat} {ret : Option FieldType} {rm : Room} {D : va_G} {cI cB cS : ClassId} {av : List Value} {ws : va_W} {S : Type} {post : S → Prop} {w1 : S → va_W} (ok : okM y cc maxL ret n) (hn : (lg_sl av).length ≤ maxL)
    (body : ∀ (p : Program) (e : Env) (s : State) (m : MethodId) (below : List Frame) (meth : Method) (c : Code) (A : Nat → Prop), p.tables.exec = Jvm.exec → c.code = cc → meth.sig.returnType = ret → c.maxLocals = maxL → s.vm.findClass y.cls = some m.cls → (∀ w ∈ tblG, w.before av.toArray s = true) → meth.locks = false → meth.name = y.name → KK D cI cB cS s → PD D A ws s.heap → (∀ q, s.heap.size ≤ q → A q) → va_S A s.heap s.heap [] → ∀ ls : Array Slot, lv_has ls maxL (lv_args 0 av) →
      W p l e rm s m av.toArray below meth c s.heap [] 0 0 (MQ below (va_Qv post (Bw D A w1) A) av.toArray s rm.cells rm.slots A) (F0 m 0 ls [])) : Cv l y cc maxL ret rm D cI cB cS av ws post w1 := by
  intro sz
  refine Met.ofW (cc := cc) (maxL := maxL) (ret := ret) ok.2.2.2 rfl ?_
  intro p e s m args below meth c s₁ B hml hv
  obtain ⟨rfl, hsz, hP, hK⟩ := hv
  subst hsz
  have hl := lv_entry av (n := maxL) hn
  rw [lg_entry_eq]
  exact body p e s m below meth c _ B.exec B.bytes B.returns hml (findClass_of_methodNamed B.named) (fun w h => atoms_spec (ws := Cond.code y cc maxL ret :: tblG) B.pre w (List.mem_cons_of_mem _ h)) B.notSynchronized (name_of_methodNamed B.named B.method).1 hK ⟨hP.1, hP.2.self (sz := s.heap.size)⟩ (fun q h => Or.inr h) va_S.rf _ hl
section BASE
variable {p : Program} {l : Launch} {e : Env} {R : Room} {s : State} {m : MethodId} {args : Array Value} {below : List Frame} {meth : Method} {c : Code} {H : Heap} {locs : List Loc} {cells slots : Nat} {Q : State → Prop} {cc : ByteArray} {pc : Nat} {ls : Array Slot} {rest : List Value} {D : va_G} {cI cB cS : ClassId} {A : Nat → Prop} {ws : va_W} {a : Nat} {own : String}
theorem Ri {S : Type} {post : Int32 → S → Prop} {w1 : S → va_W} {v : Int32} {u : S} (hx : p.tables.exec = Jvm.exec) (hb : c.code = cc) (hr : meth.sig.returnType = some .int) (hk : meth.locks = false) (hS : va_S A s.heap H locs) (hdg : decode cc pc = .ok (.ireturn, 1)) (hP : PD D A (w1 u) H) (hv : post v u) :
    W p l e R s m args below meth c H locs cells slots (MQ below (va_Qi post (Bw D A w1) A) args s cells slots A) (F0 m pc ls [.int v]) :=
  W.iret hx hb hr (fun t ht _ => ⟨⟨v, u, rfl, hv, by show PD D A (w1 u) t.heap; rw [ht]; exact hP⟩, hS.F ht⟩) hS.2.2 hdg hk
theorem Rz {S : Type} {post : Int32 → S → Prop} {w1 : S → va_W} {v : Int32} {u : S} (hx : p.tables.exec = Jvm.exec) (hb : c.code = cc) (hr : meth.sig.returnType = some .boolean) (hk : meth.locks = false) (hS : va_S A s.heap H locs) (hdg : decode cc pc = .ok (.ireturn, 1)) (hP : PD D A (w1 u) H) (hn : v = 0 ∨ v = 1) (hv : post v u) :
    W p l e R s m args below meth c H locs cells slots (MQ below (va_Qi post (Bw D A w1) A) args s cells slots A) (F0 m pc ls [.int v]) :=
  W.zret hx hb hr (by rcases hn with rfl | rfl <;> decide) (fun t ht _ => ⟨⟨v, u, rfl, hv, by show PD D A (w1 u) t.heap; rw [ht]; exact hP⟩, hS.F ht⟩) hS.2.2 hdg hk
theorem Rv {S : Type} {post : S → Prop} {w1 : S → va_W} {u : S} (hx : p.tables.exec = Jvm.exec) (hb : c.code = cc) (hr : meth.sig.returnType = none) (hk : meth.locks = false) (hS : va_S A s.heap H locs) (hdg : decode cc pc = .ok (.return_, 1)) (hP : PD D A (w1 u) H) (hv : post u) :
    W p l e R s m args below meth c H locs cells slots (MQ below (va_Qv post (Bw D A w1) A) args s cells slots A) (F0 m pc ls []) :=
  W.vret hx hb hr (fun t ht _ => ⟨⟨u, rfl, hv, by show PD D A (w1 u) t.heap; rw [ht]; exact hP⟩, hS.F ht⟩) hS.2.2 hdg hk
theorem ild (hx : p.tables.exec = Jvm.exec) (hb : c.code = cc) (hK : KK D cI cB cS s) (hP : PD D A ws H) (q0 : Nat) {n : Nat} {f : Nat → Int32} (ha : ws[q0]? = some (a, .inl (cI, n, .inl f))) {i : Int32} (hdg : decode cc pc = .ok (.iaload, 1)) (hin : vp_in i n)
    (kk : W p l e R s m args below meth c H locs cells slots Q (F0 m (pc + 1) ls (.int (f i.toNatClampNeg) :: rest))) : W p l e R s m args below meth c H locs cells slots Q (F0 m pc ls (.int i :: .ref a :: rest)) := va_iald hx hb hK.1 hP.1 q0 0 ha rfl hin hdg kk
theorem zld (hx : p.tables.exec = Jvm.exec) (hb : c.code = cc) (hK : KK D cI cB cS s) (hP : PD D A ws H) (q0 : Nat) {n : Nat} {f : Nat → Int32} (ha : ws[q0]? = some (a, .inl (cB, n, .inl f))) {i : Int32} (hdg : decode cc pc = .ok (.baload, 1)) (hin : vp_in i n)
    (kk : W p l e R s m args below meth c H locs cells slots Q (F0 m (pc + 1) ls (.int (f i.toNatClampNeg) :: rest))) : W p l e R s m args below meth c H locs cells slots Q (F0 m pc ls (.int i :: .ref a :: rest)) := va_zald hx hb hK.1 hP.1 q0 1 ha rfl hin hdg kk
theorem ist (hx : p.tables.exec = Jvm.exec) (hb : c.code = cc) (hK : KK D cI cB cS s) (hP : PD D A ws H) (hS : va_S A s.heap H locs) (q0 : Nat) {n : Nat} {f : Nat → Int32} (ha : ws[q0]? = some (a, .inl (cI, n, .inl f))) {i x : Int32} (hdg : decode cc pc = .ok (.iastore, 1)) (hin : vp_in i n)
    (kk : ∀ (g : Nat → Int32), g = upd f i.toNatClampNeg x → ∀ (H1 : Heap) (locs1 : List Loc), PD D A (ws.set q0 (a, .inl (cI, n, .inl g))) H1 → va_S A s.heap H1 locs1 → W p l e R s m args below meth c H1 locs1 cells slots Q (F0 m (pc + 1) ls rest)) : W p l e R s m args below meth c H locs cells slots Q (F0 m pc ls (.int x :: .int i :: .ref a :: rest)) :=
  va_iast hx hb hK.1 hP.1 hP.2 hS q0 0 ha rfl hin hdg (fun H1 locs1 h1 h2 h3 => kk _ rfl H1 locs1 ⟨h1, h2⟩ h3)
theorem zst (hx : p.tables.exec = Jvm.exec) (hb : c.code = cc) (hK : KK D cI cB cS s) (hP : PD D A ws H) (hS : va_S A s.heap H locs) (q0 : Nat) {n : Nat} {f : Nat → Int32} (ha : ws[q0]? = some (a, .inl (cB, n, .inl f))) {i x : Int32} (hdg : decode cc pc = .ok (.bastore, 1)) (hin : vp_in i n) (hz : x = 0 ∨ x = 1)
    (kk : ∀ (g : Nat → Int32), g = upd f i.toNatClampNeg x → ∀ (H1 : Heap) (locs1 : List Loc), PD D A (ws.set q0 (a, .inl (cB, n, .inl g))) H1 → va_S A s.heap H1 locs1 → W p l e R s m args below meth c H1 locs1 cells slots Q (F0 m (pc + 1) ls rest)) : W p l e R s m args below meth c H locs cells slots Q (F0 m pc ls (.int x :: .int i :: .ref a :: rest)) :=
  va_zast hx hb hK.1 hP.1 hP.2 hS q0 1 ha rfl hin hdg (fun H1 locs1 h1 h2 h3 => kk _ (by rcases hz with rfl | rfl <;> rfl) H1 locs1 ⟨h1, h2⟩ h3)
theorem iln (hx : p.tables.exec = Jvm.exec) (hb : c.code = cc) (hK : KK D cI cB cS s) (hP : PD D A ws H) (q0 : Nat) {n : Nat} {f : Nat → Int32} (ha : ws[q0]? = some (a, .inl (cI, n, .inl f))) (hdg : decode cc pc = .ok (.arraylength, 1))
    (kk : W p l e R s m args below meth c H locs cells slots Q (F0 m (pc + 1) ls (.int (nI n) :: rest))) : W p l e R s m args below meth c H locs cells slots Q (F0 m pc ls (.ref a :: rest)) := va_alen hx hb hK.1 hP.1 q0 0 ha (ty := .int) rfl rfl hdg kk
theorem cpi (hx : p.tables.exec = Jvm.exec) (hb : c.code = cc) (hml : c.maxLocals = ls.size) (ht : ∀ w ∈ tblG, w.before args s = true) (hown : s.vm.findClass own = some m.cls) (hK : KK D cI cB cS s) (hP : PD D A ws H) (hS : va_S A s.heap H locs) (q0 q1 : Nat) {index : Nat} (hli : Cond.methodLink own index arraycopyName ∈ tblG) {a0 n0 n1 : Nat} {f g : Nat → Int32} (ha0 : ws[q0]? = some (a0, .inl (cI, n0, .inl f))) (ha1 : ws[q1]? = some (a, .inl (cI, n1, .inl g)))
    {sp dp n : Int32} (hfr : 1 ≤ R.frames) (hlo : (rest.map fun v => v.category).sum + (nativeFrameWords "java/lang/System" "arraycopy" 5 + 11) ≤ R.locals) (hdg : decode cc pc = .ok (.invokestatic index, 3)) (hin : (¬ sp < 0 ∧ ¬ dp < 0 ∧ ¬ n < 0) ∧ sp.toNatClampNeg + n.toNatClampNeg ≤ n0 ∧ dp.toNatClampNeg + n.toNatClampNeg ≤ n1)
    (kk : ∀ (h : Nat → Int32), h = va_cpy f g sp.toNatClampNeg dp.toNatClampNeg n.toNatClampNeg → ∀ (H1 : Heap) (locs1 : List Loc), PD D A (ws.set q1 (a, .inl (cI, n1, .inl h))) H1 → va_S A s.heap H1 locs1 → W p l e R s m args below meth c H1 locs1 cells slots Q (F0 m (pc + 3) ls rest)) : W p l e R s m args below meth c H locs cells slots Q (F0 m pc ls (.int n :: .int dp :: .ref a :: .int sp :: .ref a0 :: rest)) :=
  va_copyi hx hb hml hown (ht _ hli) (ht _ ia_arraycopy) (ht _ is_arraycopy) (ht _ in_J10) hK.1 hP.1 hP.2 hS q0 q1 0 0 ha0 ha1 rfl rfl rfl hin.1.1 hin.1.2.1 hin.1.2.2 hin.2.1 hin.2.2 (fun _ _ => rfl) hfr hlo hdg (fun H1 locs1 h1 h2 h3 => kk _ rfl H1 locs1 ⟨h1, h2⟩ h3)
theorem mmin (hx : p.tables.exec = Jvm.exec) (hb : c.code = cc) (hml : c.maxLocals = ls.size) (ht : ∀ w ∈ tblG, w.before args s = true) (hown : s.vm.findClass own = some m.cls) {index : Nat} (hli : Cond.methodLink own index Lib.Math.min.name ∈ tblG) (hfr : 1 ≤ R.frames) (hlo : (rest.map fun v => v.category).sum + 13 ≤ R.locals) (hc : cells ≤ R.cells ∧ slots ≤ R.slots) {x y : Int32} (hdg : decode cc pc = .ok (.invokestatic index, 3))
    (kk : W p l e R s m args below meth c H locs cells slots Q (F0 m (pc + 3) ls (.int (if y < x then y else x) :: rest))) : W p l e R s m args below meth c H locs cells slots Q (F0 m pc ls (.int y :: .int x :: rest)) := va_mmin hx hb hml hown (ht _ hli) (ht _ is_min) (ht _ in_J9) (ht _ ic_min) hfr hlo hc.1 hc.2 hdg kk
theorem mmax (hx : p.tables.exec = Jvm.exec) (hb : c.code = cc) (hml : c.maxLocals = ls.size) (ht : ∀ w ∈ tblG, w.before args s = true) (hown : s.vm.findClass own = some m.cls) {index : Nat} (hli : Cond.methodLink own index Lib.Math.max.name ∈ tblG) (hfr : 1 ≤ R.frames) (hlo : (rest.map fun v => v.category).sum + 13 ≤ R.locals) (hc : cells ≤ R.cells ∧ slots ≤ R.slots) {x y : Int32} (hdg : decode cc pc = .ok (.invokestatic index, 3))
    (kk : W p l e R s m args below meth c H locs cells slots Q (F0 m (pc + 3) ls (.int (if x < y then y else x) :: rest))) : W p l e R s m args below meth c H locs cells slots Q (F0 m pc ls (.int y :: .int x :: rest)) := va_mmax hx hb hml hown (ht _ hli) (ht _ is_max) (ht _ in_J9) (ht _ ic_max) hfr hlo hc.1 hc.2 hdg kk
theorem mabs (hx : p.tables.exec = Jvm.exec) (hb : c.code = cc) (hml : c.maxLocals = ls.size) (ht : ∀ w ∈ tblG, w.before args s = true) (hown : s.vm.findClass own = some m.cls) {index : Nat} (hli : Cond.methodLink own index Lib.Math.abs.name ∈ tblG) (hfr : 1 ≤ R.frames) (hlo : (rest.map fun v => v.category).sum + 13 ≤ R.locals) (hc : cells ≤ R.cells ∧ slots ≤ R.slots) {x : Int32} (hdg : decode cc pc = .ok (.invokestatic index, 3))
    (kk : W p l e R s m args below meth c H locs cells slots Q (F0 m (pc + 3) ls (.int (if 0 ≤ x then x else 0 - x) :: rest))) : W p l e R s m args below meth c H locs cells slots Q (F0 m pc ls (.int x :: rest)) := va_mabs hx hb hml hown (ht _ hli) (ht _ is_abs) (ht _ in_J9) (ht _ ic_abs) hfr hlo hc.1 hc.2 hdg kk
/-- behind a call: the rest unchanged beside what the callee gives back -/
theorem Kji {S : Type} {post : Int32 → S → Prop} {w1 : S → va_W} {wc : va_W} {mc ms : Nat} {st0 : List Value} {av : Array Value} (hr : va_Run p l e R s m args below meth c H locs cells slots mc ms (F0 m pc ls st0) rest (va_Qi post (Bw D (va_A wc H.size) w1) (va_A wc H.size) av) (va_A wc H.size)) (hP : PD D A ws H) (hS : va_S A s.heap H locs) (hA : ∀ q, s.heap.size ≤ q → A q) (isC isR : List Nat) (hC : isC.map (fun i => ws[i]?) = wc.map some) (hR : isR.map (fun i => ws[i]?) = (isR.filterMap (fun i => ws[i]?)).map some) (hn : va_nd isR = true) (hdis : ∀ i ∈ isR, i ∉ isC)
    (kk : ∀ (r : Int32) (u : S) (H1 : Heap) (locs1 : List Loc), post r u → PD D A (isR.filterMap (fun i => ws[i]?) ++ w1 u) H1 → va_S A s.heap H1 locs1 → W p l e R s m args below meth c H1 locs1 (cells + mc) (slots + ms) Q (F0 m (pc + 3) ls (.int r :: rest))) : W p l e R s m args below meth c H locs cells slots Q (F0 m pc ls st0) := by
  have hFc := va_free (wc := wc) hP.2 hS hA isC hC
  refine va_calli hr hS (fun q _ h => hFc q h) hFc (fun r u t H1 locs1 ht hvm hw hB hz hk hS1 => ?_)
  obtain ⟨hP1, hD1⟩ := hB
  rw [ht] at hP1
  obtain ⟨hP2, hD2⟩ := va_join hP.1 hP.2 isC isR hC hR hn hdis hk hFc hP1 hD1
  exact kk r u H1 locs1 hw ⟨hP2, hD2⟩ hS1
theorem Kjv {S : Type} {post : S → Prop} {w1 : S → va_W} {wc : va_W} {mc ms : Nat} {st0 : List Value} {av : Array Value} (hr : va_Run p l e R s m args below meth c H locs cells slots mc ms (F0 m pc ls st0) rest (va_Qv post (Bw D (va_A wc H.size) w1) (va_A wc H.size) av) (va_A wc H.size)) (hP : PD D A ws H) (hS : va_S A s.heap H locs) (hA : ∀ q, s.heap.size ≤ q → A q) (isC isR : List Nat) (hC : isC.map (fun i => ws[i]?) = wc.map some) (hR : isR.map (fun i => ws[i]?) = (isR.filterMap (fun i => ws[i]?)).map some) (hn : va_nd isR = true) (hdis : ∀ i ∈ isR, i ∉ isC)
    (kk : ∀ (u : S) (H1 : Heap) (locs1 : List Loc), post u → PD D A (isR.filterMap (fun i => ws[i]?) ++ w1 u) H1 → va_S A s.heap H1 locs1 → W p l e R s m args below meth c H1 locs1 (cells + mc) (slots + ms) Q (F0 m (pc + 3) ls rest)) : W p l e R s m args below meth c H locs cells slots Q (F0 m pc ls st0) := by
  have hFc := va_free (wc := wc) hP.2 hS hA isC hC
  refine va_callv hr hS (fun q _ h => hFc q h) hFc (fun u t H1 locs1 ht hvm hw hB hz hk hS1 => ?_)
  obtain ⟨hP1, hD1⟩ := hB
  rw [ht] at hP1
  obtain ⟨hP2, hD2⟩ := va_join hP.1 hP.2 isC isR hC hR hn hdis hk hFc hP1 hD1
  exact kk u H1 locs1 hw ⟨hP2, hD2⟩ hS1
theorem Pw.at' {av : List Value} {wc : va_W} (hK : KK D cI cB cS s) (hP : PD D A ws H) (isC : List Nat) (hnC : va_nd isC = true) (hC : isC.map (fun i => ws[i]?) = wc.map some) : ∀ U : State, U.heap = H → s.WarmedH U.vm → Pw D cI cB cS av wc H.size av.toArray U := fun U hU hW => ⟨rfl, by rw [hU], by rw [hU]; exact (hP.sub isC hnC hC).app (B := A), hK.warm hW⟩
variable {S : Type} {posti : Int32 → S → Prop} {postv : S → Prop} {w1 : S → va_W} {wc : va_W} {y : MethodName} {cy : ByteArray} {maxL n index nL : Nat} {ret : Option FieldType} {rm : Room} {As : List Value} {b : Nat} {host : String}
theorem cwB (ht : ∀ w ∈ tblG, w.before args s = true) (ok : okM y cy maxL ret n) (hli : Cond.methodLink own index y ∈ tblG) (hR : rm.frames + 1 ≤ R.frames ∧ 8 + (maxL + 11) + rm.locals ≤ R.locals) : CallB R s args own index y cy maxL ret (Cond.code y cy maxL ret :: tblG) rm rm.cells rm.slots n :=
  callB_of n ht (gdc ok) rfl rfl rfl (ht _ ok.2.1) (ht _ hli) ok.2.2.1 hR
theorem KVi (FX : CallFix p m c cc nL s args tblG own) (hM : Ci l y cy maxL ret rm D cI cB cS (.ref b :: As) wc posti w1) (ok : okM y cy maxL ret n) (him : Cond.instanceMethod y ∈ tblG) (hse : Cond.selects y.cls y y ∈ tblG) (hli : Cond.methodLink own index y ∈ tblG) (hdg : decode cc pc = .ok (.invokevirtual index, 3)) (hK : KK D cI cB cS s) (hP : PD D A ws H) (hS : va_S A s.heap H locs) (hA : ∀ q, s.heap.size ≤ q → A q) (isC isR : List Nat) (q0 : Nat) {ci : Nat} {fs : List Value} (he : ws[q0]? = some (b, .inr (ci, fs)))
    (hC : isC.map (fun i => ws[i]?) = wc.map some) (hR : isR.map (fun i => ws[i]?) = (isR.filterMap (fun i => ws[i]?)).map some) (hn : va_nd isC = true ∧ va_nd isR = true ∧ ∀ i ∈ isR, i ∉ isC) (hci : (vwCl[ci]?).map (fun q => q.1) = some y.cls) (hL : As.length = n) (hsz : ls.size = nL) (hW : (rest.map fun v => v.category).sum ≤ 8) (hRm : rm.frames + 1 ≤ R.frames ∧ 8 + (maxL + 11) + rm.locals ≤ R.locals) (hf : cells + rm.cells ≤ R.cells ∧ slots + rm.slots ≤ R.slots)
    (kk : ∀ (r : Int32) (u : S) (H1 : Heap) (locs1 : List Loc), posti r u → PD D A (isR.filterMap (fun i => ws[i]?) ++ w1 u) H1 → va_S A s.heap H1 locs1 → W p l e R s m args below meth c H1 locs1 (cells + rm.cells) (slots + rm.slots) Q (F0 m (pc + 3) ls (.int r :: rest))) : W p l e R s m args below meth c H locs cells slots Q (F0 m pc ls (As.reverse ++ .ref b :: rest)) := by
  obtain ⟨q, hq, hqe⟩ : ∃ q, vwCl[ci]? = some q ∧ q.1 = y.cls := by
    cases h : vwCl[ci]? with
    | none => rw [h] at hci; cases hci
    | some q => rw [h] at hci; exact ⟨q, rfl, Option.some.inj hci⟩
  exact Kji (va_runV FX (hM H.size) ⟨cwB FX.2.2.2.2 ok hli hRm, FX.2.2.2.2 _ him, FX.2.2.2.2 _ hse⟩ ⟨Pw.blind, hqe ▸ va_recv hK.1 hP.1 hq he, Pw.at' hK hP isC hn.1 hC⟩ rfl hL hsz rfl (lv_room hW) hdg hf) hP hS hA isC isR hC hR hn.2.1 hn.2.2 kk
theorem KVv (FX : CallFix p m c cc nL s args tblG own) (hM : Cv l y cy maxL ret rm D cI cB cS (.ref b :: As) wc postv w1) (ok : okM y cy maxL ret n) (him : Cond.instanceMethod y ∈ tblG) (hse : Cond.selects y.cls y y ∈ tblG) (hli : Cond.methodLink own index y ∈ tblG) (hdg : decode cc pc = .ok (.invokevirtual index, 3)) (hK : KK D cI cB cS s) (hP : PD D A ws H) (hS : va_S A s.heap H locs) (hA : ∀ q, s.heap.size ≤ q → A q) (isC isR : List Nat) (q0 : Nat) {ci : Nat} {fs : List Value} (he : ws[q0]? = some (b, .inr (ci, fs)))
    (hC : isC.map (fun i => ws[i]?) = wc.map some) (hR : isR.map (fun i => ws[i]?) = (isR.filterMap (fun i => ws[i]?)).map some) (hn : va_nd isC = true ∧ va_nd isR = true ∧ ∀ i ∈ isR, i ∉ isC) (hci : (vwCl[ci]?).map (fun q => q.1) = some y.cls) (hL : As.length = n) (hsz : ls.size = nL) (hW : (rest.map fun v => v.category).sum ≤ 8) (hRm : rm.frames + 1 ≤ R.frames ∧ 8 + (maxL + 11) + rm.locals ≤ R.locals) (hf : cells + rm.cells ≤ R.cells ∧ slots + rm.slots ≤ R.slots)
    (kk : ∀ (u : S) (H1 : Heap) (locs1 : List Loc), postv u → PD D A (isR.filterMap (fun i => ws[i]?) ++ w1 u) H1 → va_S A s.heap H1 locs1 → W p l e R s m args below meth c H1 locs1 (cells + rm.cells) (slots + rm.slots) Q (F0 m (pc + 3) ls rest)) : W p l e R s m args below meth c H locs cells slots Q (F0 m pc ls (As.reverse ++ .ref b :: rest)) := by
  obtain ⟨q, hq, hqe⟩ : ∃ q, vwCl[ci]? = some q ∧ q.1 = y.cls := by
    cases h : vwCl[ci]? with
    | none => rw [h] at hci; cases hci
    | some q => rw [h] at hci; exact ⟨q, rfl, Option.some.inj hci⟩
  exact Kjv (va_runV FX (hM H.size) ⟨cwB FX.2.2.2.2 ok hli hRm, FX.2.2.2.2 _ him, FX.2.2.2.2 _ hse⟩ ⟨Pw.blind, hqe ▸ va_recv hK.1 hP.1 hq he, Pw.at' hK hP isC hn.1 hC⟩ rfl hL hsz rfl (lv_room hW) hdg hf) hP hS hA isC isR hC hR hn.2.1 hn.2.2 kk
theorem KSi (FX : CallFix p m c cc nL s args tblG own) (hM : Ci l y cy maxL ret rm D cI cB cS As wc posti w1) (ok : okM y cy maxL ret n) (his : Cond.static y ∈ tblG) (hli : Cond.methodLink own index y ∈ tblG) (hdg : decode cc pc = .ok (.invokestatic index, 3)) (hK : KK D cI cB cS s) (hP : PD D A ws H) (hS : va_S A s.heap H locs) (hA : ∀ q, s.heap.size ≤ q → A q) (isC isR : List Nat)
    (hC : isC.map (fun i => ws[i]?) = wc.map some) (hR : isR.map (fun i => ws[i]?) = (isR.filterMap (fun i => ws[i]?)).map some) (hn : va_nd isC = true ∧ va_nd isR = true ∧ ∀ i ∈ isR, i ∉ isC) (hL : As.length = n) (hsz : ls.size = nL) (hW : (rest.map fun v => v.category).sum ≤ 8) (hRm : rm.frames + 1 ≤ R.frames ∧ 8 + (maxL + 11) + rm.locals ≤ R.locals) (hf : cells + rm.cells ≤ R.cells ∧ slots + rm.slots ≤ R.slots)
    (kk : ∀ (r : Int32) (u : S) (H1 : Heap) (locs1 : List Loc), posti r u → PD D A (isR.filterMap (fun i => ws[i]?) ++ w1 u) H1 → va_S A s.heap H1 locs1 → W p l e R s m args below meth c H1 locs1 (cells + rm.cells) (slots + rm.slots) Q (F0 m (pc + 3) ls (.int r :: rest))) : W p l e R s m args below meth c H locs cells slots Q (F0 m pc ls (As.reverse ++ rest)) :=
  Kji (va_runS FX (hM H.size) ⟨cwB FX.2.2.2.2 ok hli hRm, FX.2.2.2.2 _ his⟩ ⟨Pw.blind, Pw.at' hK hP isC hn.1 hC⟩ rfl hL hsz rfl (lv_room hW) hdg hf) hP hS hA isC isR hC hR hn.2.1 hn.2.2 kk
theorem KSv (FX : CallFix p m c cc nL s args tblG own) (hM : Cv l y cy maxL ret rm D cI cB cS As wc postv w1) (ok : okM y cy maxL ret n) (his : Cond.static y ∈ tblG) (hli : Cond.methodLink own index y ∈ tblG) (hdg : decode cc pc = .ok (.invokestatic index, 3)) (hK : KK D cI cB cS s) (hP : PD D A ws H) (hS : va_S A s.heap H locs) (hA : ∀ q, s.heap.size ≤ q → A q) (isC isR : List Nat)
    (hC : isC.map (fun i => ws[i]?) = wc.map some) (hR : isR.map (fun i => ws[i]?) = (isR.filterMap (fun i => ws[i]?)).map some) (hn : va_nd isC = true ∧ va_nd isR = true ∧ ∀ i ∈ isR, i ∉ isC) (hL : As.length = n) (hsz : ls.size = nL) (hW : (rest.map fun v => v.category).sum ≤ 8) (hRm : rm.frames + 1 ≤ R.frames ∧ 8 + (maxL + 11) + rm.locals ≤ R.locals) (hf : cells + rm.cells ≤ R.cells ∧ slots + rm.slots ≤ R.slots)
    (kk : ∀ (u : S) (H1 : Heap) (locs1 : List Loc), postv u → PD D A (isR.filterMap (fun i => ws[i]?) ++ w1 u) H1 → va_S A s.heap H1 locs1 → W p l e R s m args below meth c H1 locs1 (cells + rm.cells) (slots + rm.slots) Q (F0 m (pc + 3) ls rest)) : W p l e R s m args below meth c H locs cells slots Q (F0 m pc ls (As.reverse ++ rest)) :=
  Kjv (va_runS FX (hM H.size) ⟨cwB FX.2.2.2.2 ok hli hRm, FX.2.2.2.2 _ his⟩ ⟨Pw.blind, Pw.at' hK hP isC hn.1 hC⟩ rfl hL hsz rfl (lv_room hW) hdg hf) hP hS hA isC isR hC hR hn.2.1 hn.2.2 kk
theorem cwN (ht : ∀ w ∈ tblG, w.before args s = true) (hK : KK D cI cB cS s) (ok : okM y cy maxL ret n) (hq : (own, index, y, host) ∈ nestL) (hR : rm.frames + 1 ≤ R.frames ∧ 8 + (maxL + 11) + rm.locals ≤ R.locals) : va_CN R s args own index y host cy maxL ret (Cond.code y cy maxL ret :: tblG) rm rm.cells rm.slots n :=
  va_cnB n ht (gdc ok) rfl rfl rfl (hK.2.1 _ hq) (ht _ ok.2.1) ok.2.2.1 hR
theorem KNi (FX : CallFix p m c cc nL s args tblG own) (hM : Ci l y cy maxL ret rm D cI cB cS As wc posti w1) (ok : okM y cy maxL ret n) (his : Cond.static y ∈ tblG) (hq : (own, index, y, host) ∈ nestL) (hdg : decode cc pc = .ok (.invokestatic index, 3)) (hK : KK D cI cB cS s) (hP : PD D A ws H) (hS : va_S A s.heap H locs) (hA : ∀ q, s.heap.size ≤ q → A q) (isC isR : List Nat)
    (hC : isC.map (fun i => ws[i]?) = wc.map some) (hR : isR.map (fun i => ws[i]?) = (isR.filterMap (fun i => ws[i]?)).map some) (hn : va_nd isC = true ∧ va_nd isR = true ∧ ∀ i ∈ isR, i ∉ isC) (hL : As.length = n) (hsz : ls.size = nL) (hW : (rest.map fun v => v.category).sum ≤ 8) (hRm : rm.frames + 1 ≤ R.frames ∧ 8 + (maxL + 11) + rm.locals ≤ R.locals) (hf : cells + rm.cells ≤ R.cells ∧ slots + rm.slots ≤ R.slots)
    (kk : ∀ (r : Int32) (u : S) (H1 : Heap) (locs1 : List Loc), posti r u → PD D A (isR.filterMap (fun i => ws[i]?) ++ w1 u) H1 → va_S A s.heap H1 locs1 → W p l e R s m args below meth c H1 locs1 (cells + rm.cells) (slots + rm.slots) Q (F0 m (pc + 3) ls (.int r :: rest))) : W p l e R s m args below meth c H locs cells slots Q (F0 m pc ls (As.reverse ++ rest)) :=
  Kji (va_runSN FX (hM H.size) ⟨cwN FX.2.2.2.2 hK ok hq hRm, FX.2.2.2.2 _ his, trivial⟩ ⟨Pw.blind, Pw.at' hK hP isC hn.1 hC⟩ rfl hL hsz rfl (lv_room hW) hdg hf) hP hS hA isC isR hC hR hn.2.1 hn.2.2 kk
theorem KNv (FX : CallFix p m c cc nL s args tblG own) (hM : Cv l y cy maxL ret rm D cI cB cS As wc postv w1) (ok : okM y cy maxL ret n) (his : Cond.static y ∈ tblG) (hq : (own, index, y, host) ∈ nestL) (hdg : decode cc pc = .ok (.invokestatic index, 3)) (hK : KK D cI cB cS s) (hP : PD D A ws H) (hS : va_S A s.heap H locs) (hA : ∀ q, s.heap.size ≤ q → A q) (isC isR : List Nat)
    (hC : isC.map (fun i => ws[i]?) = wc.map some) (hR : isR.map (fun i => ws[i]?) = (isR.filterMap (fun i => ws[i]?)).map some) (hn : va_nd isC = true ∧ va_nd isR = true ∧ ∀ i ∈ isR, i ∉ isC) (hL : As.length = n) (hsz : ls.size = nL) (hW : (rest.map fun v => v.category).sum ≤ 8) (hRm : rm.frames + 1 ≤ R.frames ∧ 8 + (maxL + 11) + rm.locals ≤ R.locals) (hf : cells + rm.cells ≤ R.cells ∧ slots + rm.slots ≤ R.slots)
    (kk : ∀ (u : S) (H1 : Heap) (locs1 : List Loc), postv u → PD D A (isR.filterMap (fun i => ws[i]?) ++ w1 u) H1 → va_S A s.heap H1 locs1 → W p l e R s m args below meth c H1 locs1 (cells + rm.cells) (slots + rm.slots) Q (F0 m (pc + 3) ls rest)) : W p l e R s m args below meth c H locs cells slots Q (F0 m pc ls (As.reverse ++ rest)) :=
  Kjv (va_runSN FX (hM H.size) ⟨cwN FX.2.2.2.2 hK ok hq hRm, FX.2.2.2.2 _ his, trivial⟩ ⟨Pw.blind, Pw.at' hK hP isC hn.1 hC⟩ rfl hL hsz rfl (lv_room hW) hdg hf) hP hS hA isC isR hC hR hn.2.1 hn.2.2 kk
theorem KIv (FX : CallFix p m c cc nL s args tblG own) (hM : Cv l y cy maxL none rm D cI cB cS (.ref b :: As) wc postv w1) (ok : okM y cy maxL none n) (him : Cond.instanceMethod y ∈ tblG) (hy : y.name = "<init>") (hli : Cond.methodLink own index y ∈ tblG) (hdg : decode cc pc = .ok (.invokespecial index, 3)) (hK : KK D cI cB cS s) (hP : PD D A ws H) (hS : va_S A s.heap H locs) (hA : ∀ q, s.heap.size ≤ q → A q) (isC isR : List Nat)
    (hC : isC.map (fun i => ws[i]?) = wc.map some) (hR : isR.map (fun i => ws[i]?) = (isR.filterMap (fun i => ws[i]?)).map some) (hn : va_nd isC = true ∧ va_nd isR = true ∧ ∀ i ∈ isR, i ∉ isC) (hL : As.length = n) (hsz : ls.size = nL) (hW : (rest.map fun v => v.category).sum ≤ 8) (hRm : rm.frames + 1 ≤ R.frames ∧ 8 + (maxL + 11) + rm.locals ≤ R.locals) (hf : cells + rm.cells ≤ R.cells ∧ slots + rm.slots ≤ R.slots)
    (kk : ∀ (u : S) (H1 : Heap) (locs1 : List Loc), postv u → PD D A (isR.filterMap (fun i => ws[i]?) ++ w1 u) H1 → va_S A s.heap H1 locs1 → W p l e R s m args below meth c H1 locs1 (cells + rm.cells) (slots + rm.slots) Q (F0 m (pc + 3) ls rest)) : W p l e R s m args below meth c H locs cells slots Q (F0 m pc ls (As.reverse ++ .ref b :: rest)) :=
  Kjv (va_runI FX (hM H.size) ⟨cwB FX.2.2.2.2 ok hli hRm, hy, FX.2.2.2.2 _ him⟩ ⟨Pw.blind, Pw.at' hK hP isC hn.1 hC⟩ rfl hL hsz rfl (lv_room hW) hdg hf) hP hS hA isC isR hC hR hn.2.1 hn.2.2 kk
theorem KMv (FX : CallFix p m c cc nL s args tblG own) (hM : Cv l y cy maxL none rm D cI cB cS (.ref b :: As) wc postv w1) (ok : okM y cy maxL none n) (him : Cond.instanceMethod y ∈ tblG) (hy : y.name = "<init>") (hq : (own, index, y, host) ∈ nestL) (hdg : decode cc pc = .ok (.invokespecial index, 3)) (hK : KK D cI cB cS s) (hP : PD D A ws H) (hS : va_S A s.heap H locs) (hA : ∀ q, s.heap.size ≤ q → A q) (isC isR : List Nat)
    (hC : isC.map (fun i => ws[i]?) = wc.map some) (hR : isR.map (fun i => ws[i]?) = (isR.filterMap (fun i => ws[i]?)).map some) (hn : va_nd isC = true ∧ va_nd isR = true ∧ ∀ i ∈ isR, i ∉ isC) (hL : As.length = n) (hsz : ls.size = nL) (hW : (rest.map fun v => v.category).sum ≤ 8) (hRm : rm.frames + 1 ≤ R.frames ∧ 8 + (maxL + 11) + rm.locals ≤ R.locals) (hf : cells + rm.cells ≤ R.cells ∧ slots + rm.slots ≤ R.slots)
    (kk : ∀ (u : S) (H1 : Heap) (locs1 : List Loc), postv u → PD D A (isR.filterMap (fun i => ws[i]?) ++ w1 u) H1 → va_S A s.heap H1 locs1 → W p l e R s m args below meth c H1 locs1 (cells + rm.cells) (slots + rm.slots) Q (F0 m (pc + 3) ls rest)) : W p l e R s m args below meth c H locs cells slots Q (F0 m pc ls (As.reverse ++ .ref b :: rest)) :=
  Kjv (va_runIN FX (hM H.size) ⟨cwN FX.2.2.2.2 hK ok hq hRm, hy, FX.2.2.2.2 _ him⟩ ⟨Pw.blind, Pw.at' hK hP isC hn.1 hC⟩ rfl hL hsz rfl (lv_room hW) hdg hf) hP hS hA isC isR hC hR hn.2.1 hn.2.2 kk
theorem KK.int {cA : ClassId} {tys : List (ClassId × FieldType)} (hK : KK D cI cB cS s) (h : va_K D vwCl (tys ++ [(cA, .int)]) s) : cA = cI := by
  have h1 := (h.2 tys.length (cA, .int) (by simp)).2
  have h2 := (hK.1.2 0 (cI, .int) rfl).2
  exact Option.some.inj (h1.symm.trans h2)
theorem KK.bool {cA : ClassId} {tys : List (ClassId × FieldType)} (hK : KK D cI cB cS s) (h : va_K D vwCl (tys ++ [(cA, .boolean)]) s) : cA = cB := by
  have h1 := (h.2 tys.length (cA, .boolean) (by simp)).2
  have h2 := (hK.1.2 1 (cB, .boolean) rfl).2
  exact Option.some.inj (h1.symm.trans h2)
theorem KK.site {cA : ClassId} {tys : List (ClassId × FieldType)} (hK : KK D cI cB cS s) (h : va_K D vwCl (tys ++ [(cA, .object "TempleRaised$Site")]) s) : cA = cS := by
  obtain ⟨_, _, _, _, _, h1⟩ := (h.2 tys.length (cA, .object "TempleRaised$Site") (by simp)).2
  obtain ⟨_, _, _, _, _, h2⟩ := (hK.1.2 2 (cS, .object "TempleRaised$Site") rfl).2
  exact Option.some.inj (h1.symm.trans h2)
theorem nai (hx : p.tables.exec = Jvm.exec) (hb : c.code = cc) (ht : ∀ w ∈ tblG, w.before args s = true) (hK : KK D cI cB cS s) (hP : PD D A ws H) (hS : va_S A s.heap H locs) (hA : ∀ q, s.heap.size ≤ q → A q) {n : Int32} (N : Nat) (hN : n.toNatClampNeg = N) (hn : ¬ n < 0) (hb4 : N * 4 ≤ 536870912) (hcells : cells + 1 ≤ R.cells) (hslots : slots + N ≤ R.slots) (hdg : decode cc pc = .ok (.newarray .int, 2))
    (kk : ∀ (q : Nat) (H1 : Heap), PD D A (ws ++ [ai cI q N (fun _ => 0)]) H1 → va_S A s.heap H1 locs → W p l e R s m args below meth c H1 locs (cells + 1) (slots + N) Q (F0 m (pc + 2) ls (.ref q :: rest))) : W p l e R s m args below meth c H locs cells slots Q (F0 m pc ls (.int n :: rest)) :=
  va_newa (atype := .int) (a0 := (N, .inl (fun _ => 0))) hx hb (ht _ ac_int) rfl hK.1 hP.1 hP.2 hS hA (fun _ => rfl) hn hN hb4 hcells hslots hdg (fun q cA H1 k1 h1 h2 h3 => by
    have e := hK.int k1
    subst e
    exact kk q H1 ⟨h1, h2⟩ h3)
theorem nab (hx : p.tables.exec = Jvm.exec) (hb : c.code = cc) (ht : ∀ w ∈ tblG, w.before args s = true) (hK : KK D cI cB cS s) (hP : PD D A ws H) (hS : va_S A s.heap H locs) (hA : ∀ q, s.heap.size ≤ q → A q) {n : Int32} (N : Nat) (hN : n.toNatClampNeg = N) (hn : ¬ n < 0) (hb4 : N * 1 ≤ 536870912) (hcells : cells + 1 ≤ R.cells) (hslots : slots + N ≤ R.slots) (hdg : decode cc pc = .ok (.newarray .boolean, 2))
    (kk : ∀ (q : Nat) (H1 : Heap), PD D A (ws ++ [ai cB q N (fun _ => 0)]) H1 → va_S A s.heap H1 locs → W p l e R s m args below meth c H1 locs (cells + 1) (slots + N) Q (F0 m (pc + 2) ls (.ref q :: rest))) : W p l e R s m args below meth c H locs cells slots Q (F0 m pc ls (.int n :: rest)) :=
  va_newa (atype := .boolean) (a0 := (N, .inl (fun _ => 0))) hx hb (ht _ ac_boolean) rfl hK.1 hP.1 hP.2 hS hA (fun _ => rfl) hn hN hb4 hcells hslots hdg (fun q cA H1 k1 h1 h2 h3 => by
    have e := hK.bool k1
    subst e
    exact kk q H1 ⟨h1, h2⟩ h3)
theorem nas (hx : p.tables.exec = Jvm.exec) (hb : c.code = cc) (ht : ∀ w ∈ tblG, w.before args s = true) (hown : s.vm.findClass own = some m.cls) (hK : KK D cI cB cS s) (hP : PD D A ws H) (hS : va_S A s.heap H locs) (hA : ∀ q, s.heap.size ≤ q → A q) {index : Nat} (hcl : Cond.classLink own index "TempleRaised$Site" ∈ tblG) {n : Int32} (N : Nat) (hN : n.toNatClampNeg = N) (hn : ¬ n < 0) (hb4 : N * 4 ≤ 536870912) (hcells : cells + 1 ≤ R.cells) (hslots : slots + N ≤ R.slots) (hdg : decode cc pc = .ok (.anewarray index, 3))
    (kk : ∀ (q : Nat) (H1 : Heap), PD D A (ws ++ [aq cS q N (fun _ => none)]) H1 → va_S A s.heap H1 locs → W p l e R s m args below meth c H1 locs (cells + 1) (slots + N) Q (F0 m (pc + 3) ls (.ref q :: rest))) : W p l e R s m args below meth c H locs cells slots Q (F0 m pc ls (.int n :: rest)) :=
  va_newq hx hb hown (ht _ hcl) hK.2.2 hK.1 hP.1 hP.2 hS hA hn hN hb4 hcells hslots hdg (fun q cA H1 k1 h1 h2 h3 => by
    have e := hK.site k1
    subst e
    exact kk q H1 ⟨h1, h2⟩ h3)
theorem oin (hx : p.tables.exec = Jvm.exec) (hb : c.code = cc) (ht : ∀ w ∈ tblG, w.before args s = true) (hown : s.vm.findClass own = some m.cls) (hml : c.maxLocals = ls.size) {idx : Nat} (hli : Cond.methodLink own idx objectInit ∈ tblG) (hfr : 1 ≤ R.frames) (hlo : 2 * (F0 m pc ls (.ref a :: rest)).monitorRoom + (rest.map fun v => v.category).sum + 12 ≤ R.locals) (hdg : decode cc pc = .ok (.invokespecial idx, 3))
    (kk : W p l e R s m args below meth c H locs cells slots Q (F0 m (pc + 3) ls rest)) : W p l e R s m args below meth c H locs cells slots Q (F0 m pc ls (.ref a :: rest)) :=
  W.objInit hx hb hown (ht _ hli) (ht _ im_objectInit) (ht _ ic_objectInit) rfl hml.symm rfl hdg hfr hlo (W.eq (g2 := F0 m (pc + 3) ls rest) rfl kk)
end BASE
end
section
section FIELDS
variable {p : Program} {l : Launch} {e : Env} {R : Room} {s : State} {m : MethodId} {args : Array Value} {below : List Frame} {meth : Method} {c : Code} {H : Heap} {locs : List Loc} {cells slots : Nat} {Q : State → Prop} {cc : ByteArray} {pc : Nat} {ls : Array Slot} {rest : List Value} {D : va_G} {cI cB cS : ClassId} {A : Nat → Prop} {ws : va_W} {a : Nat} {own : String}
theorem gX0 (hx : p.tables.exec = Jvm.exec) (hb : c.code = cc) (ht : ∀ w ∈ tblG, w.before args s = true) (hown : s.vm.findClass own = some m.cls) (hK : KK D cI cB cS s) (hP : PD D A ws H) (q0 : Nat) {fs : List Value} (he : ws[q0]? = some (a, .inr (0, fs))) (k : Nat) (hk : k < 1) {index : Nat} (hli : Cond.fieldLink own index RX0 (TX0 k).2.1 (TX0 k).2.2.1 ∈ tblG) (hsame : ∀ x, s.fieldFound? (TX0 k).1 (TX0 k).2.1 (TX0 k).2.2.1 = some x → s.fieldFound? RX0 (TX0 k).2.1 (TX0 k).2.2.1 = some x) {v : Value} (hv : fs[k]? = some v) (hdg : decode cc pc = .ok (.getfield index, 3)) (kk : W p l e R s m args below meth c H locs cells slots Q (F0 m (pc + 3) ls (v :: rest))) : W p l e R s m args below meth c H locs cells slots Q (F0 m pc ls (.ref a :: rest)) :=
  va_get (ci := 0) (C := RX0) (T := TX0) (N := 1) hx hb ht uw_X0 hown hK.1 hP.1 q0 he rfl k hk (ht _ hli) hsame hv hdg kk
theorem pX0 (hx : p.tables.exec = Jvm.exec) (hb : c.code = cc) (ht : ∀ w ∈ tblG, w.before args s = true) (hown : s.vm.findClass own = some m.cls) (hK : KK D cI cB cS s) (hP : PD D A ws H) (hS : va_S A s.heap H locs) (q0 : Nat) {fs : List Value} (he : ws[q0]? = some (a, .inr (0, fs))) (k : Nat) (hk : k < 1) {index : Nat} (hli : Cond.fieldLink own index RX0 (TX0 k).2.1 (TX0 k).2.2.1 ∈ tblG) (hsame : ∀ x, s.fieldFound? (TX0 k).1 (TX0 k).2.1 (TX0 k).2.2.1 = some x → s.fieldFound? RX0 (TX0 k).2.1 (TX0 k).2.2.1 = some x) (hfin : (TX0 k).2.2.2 = false) {ty : FieldType} {v : Value} (hd : parseFieldDescriptor (TX0 k).2.2.1 = some ty) (hn : narrow ty v = v) (hfit : fits ty v = true) (hl : k < fs.length) (hdg : decode cc pc = .ok (.putfield index, 3)) (kk : ∀ (H1 : Heap) (locs1 : List Loc), PD D A (ws.set q0 (a, .inr (0, fs.set k v))) H1 → va_S A s.heap H1 locs1 → W p l e R s m args below meth c H1 locs1 cells slots Q (F0 m (pc + 3) ls rest)) : W p l e R s m args below meth c H locs cells slots Q (F0 m pc ls (v :: .ref a :: rest)) :=
  va_put (ci := 0) (C := RX0) (T := TX0) (N := 1) hx hb ht uw_X0 tyX0 tyX0_ok nmX0 hown hK.1 hP.1 hP.2 hS q0 he rfl k hk (ht _ hli) hsame hfin hd hn hfit hl hdg (fun H1 locs1 h1 h2 h3 => kk H1 locs1 ⟨h1, h2⟩ h3)
theorem qX0 (hx : p.tables.exec = Jvm.exec) (hb : c.code = cc) (ht : ∀ w ∈ tblG, w.before args s = true) (hown : s.vm.findClass own = some m.cls) (hK : KK D cI cB cS s) (hP : PD D A ws H) (hS : va_S A s.heap H locs) (q0 : Nat) {fs : List Value} (he : ws[q0]? = some (a, .inr (0, fs))) (k : Nat) (hk : k < 1) {index : Nat} (hli : Cond.fieldLink own index RX0 (TX0 k).2.1 (TX0 k).2.2.1 ∈ tblG) (hsame : ∀ x, s.fieldFound? (TX0 k).1 (TX0 k).2.1 (TX0 k).2.2.1 = some x → s.fieldFound? RX0 (TX0 k).2.1 (TX0 k).2.2.1 = some x) (hfin : (TX0 k).2.2.2 = true) (hin2 : meth.name = "<init>") (hdecl : (TX0 k).1 = own) {ty : FieldType} {v : Value} (hd : parseFieldDescriptor (TX0 k).2.2.1 = some ty) (hn : narrow ty v = v) (hfit : fits ty v = true) (hl : k < fs.length) (hdg : decode cc pc = .ok (.putfield index, 3)) (kk : ∀ (H1 : Heap) (locs1 : List Loc), PD D A (ws.set q0 (a, .inr (0, fs.set k v))) H1 → va_S A s.heap H1 locs1 → W p l e R s m args below meth c H1 locs1 cells slots Q (F0 m (pc + 3) ls rest)) : W p l e R s m args below meth c H locs cells slots Q (F0 m pc ls (v :: .ref a :: rest)) :=
  va_putF (ci := 0) (C := RX0) (T := TX0) (N := 1) hx hb ht uw_X0 tyX0 tyX0_ok nmX0 hown hK.1 hP.1 hP.2 hS q0 he rfl k hk (ht _ hli) hsame hfin hin2 hdecl hd hn hfit hl hdg (fun H1 locs1 h1 h2 h3 => kk H1 locs1 ⟨h1, h2⟩ h3)
theorem nX0 (hx : p.tables.exec = Jvm.exec) (hb : c.code = cc) (ht : ∀ w ∈ tblG, w.before args s = true) (hown : s.vm.findClass own = some m.cls) (hK : KK D cI cB cS s) (hP : PD D A ws H) (hS : va_S A s.heap H locs) (hA : ∀ q, s.heap.size ≤ q → A q) {index : Nat} (hcl : Cond.classLink own index RX0 ∈ tblG) (fs : List Value) (hfs : ∀ j, j < 1 → defaultValue (tyX0 j) = vp_V fs j) (hcells : cells + 1 ≤ R.cells) (hslots : slots + 1 ≤ R.slots) (hdg : decode cc pc = .ok (.new index, 3)) (kk : ∀ (q : Nat) (H1 : Heap), PD D A (ws ++ [oc q 0 fs]) H1 → va_S A s.heap H1 locs → W p l e R s m args below meth c H1 locs (cells + 1) (slots + 1) Q (F0 m (pc + 3) ls (.ref q :: rest))) : W p l e R s m args below meth c H locs cells slots Q (F0 m pc ls rest) :=
  va_new (ci := 0) (C := RX0) (T := TX0) (N := 1) hx hb ht uw_X0 tyX0 tyX0_ok hown (ht _ hcl) (ht _ it_X0) (ht _ in_X0) hK.1 hP.1 hP.2 hS hA rfl hfs hcells hslots hdg (fun q H1 h1 h2 h3 => kk q H1 ⟨h1, h2⟩ h3)
theorem gX1 (hx : p.tables.exec = Jvm.exec) (hb : c.code = cc) (ht : ∀ w ∈ tblG, w.before args s = true) (hown : s.vm.findClass own = some m.cls) (hK : KK D cI cB cS s) (hP : PD D A ws H) (q0 : Nat) {fs : List Value} (he : ws[q0]? = some (a, .inr (1, fs))) (k : Nat) (hk : k < 2) {index : Nat} (hli : Cond.fieldLink own index RX1 (TX1 k).2.1 (TX1 k).2.2.1 ∈ tblG) (hsame : ∀ x, s.fieldFound? (TX1 k).1 (TX1 k).2.1 (TX1 k).2.2.1 = some x → s.fieldFound? RX1 (TX1 k).2.1 (TX1 k).2.2.1 = some x) {v : Value} (hv : fs[k]? = some v) (hdg : decode cc pc = .ok (.getfield index, 3)) (kk : W p l e R s m args below meth c H locs cells slots Q (F0 m (pc + 3) ls (v :: rest))) : W p l e R s m args below meth c H locs cells slots Q (F0 m pc ls (.ref a :: rest)) :=
  va_get (ci := 1) (C := RX1) (T := TX1) (N := 2) hx hb ht uw_X1 hown hK.1 hP.1 q0 he rfl k hk (ht _ hli) hsame hv hdg kk
theorem pX1 (hx : p.tables.exec = Jvm.exec) (hb : c.code = cc) (ht : ∀ w ∈ tblG, w.before args s = true) (hown : s.vm.findClass own = some m.cls) (hK : KK D cI cB cS s) (hP : PD D A ws H) (hS : va_S A s.heap H locs) (q0 : Nat) {fs : List Value} (he : ws[q0]? = some (a, .inr (1, fs))) (k : Nat) (hk : k < 2) {index : Nat} (hli : Cond.fieldLink own index RX1 (TX1 k).2.1 (TX1 k).2.2.1 ∈ tblG) (hsame : ∀ x, s.fieldFound? (TX1 k).1 (TX1 k).2.1 (TX1 k).2.2.1 = some x → s.fieldFound? RX1 (TX1 k).2.1 (TX1 k).2.2.1 = some x) (hfin : (TX1 k).2.2.2 = false) {ty : FieldType} {v : Value} (hd : parseFieldDescriptor (TX1 k).2.2.1 = some ty) (hn : narrow ty v = v) (hfit : fits ty v = true) (hl : k < fs.length) (hdg : decode cc pc = .ok (.putfield index, 3)) (kk : ∀ (H1 : Heap) (locs1 : List Loc), PD D A (ws.set q0 (a, .inr (1, fs.set k v))) H1 → va_S A s.heap H1 locs1 → W p l e R s m args below meth c H1 locs1 cells slots Q (F0 m (pc + 3) ls rest)) : W p l e R s m args below meth c H locs cells slots Q (F0 m pc ls (v :: .ref a :: rest)) :=
  va_put (ci := 1) (C := RX1) (T := TX1) (N := 2) hx hb ht uw_X1 tyX1 tyX1_ok nmX1 hown hK.1 hP.1 hP.2 hS q0 he rfl k hk (ht _ hli) hsame hfin hd hn hfit hl hdg (fun H1 locs1 h1 h2 h3 => kk H1 locs1 ⟨h1, h2⟩ h3)
theorem qX1 (hx : p.tables.exec = Jvm.exec) (hb : c.code = cc) (ht : ∀ w ∈ tblG, w.before args s = true) (hown : s.vm.findClass own = some m.cls) (hK : KK D cI cB cS s) (hP : PD D A ws H) (hS : va_S A s.heap H locs) (q0 : Nat) {fs : List Value} (he : ws[q0]? = some (a, .inr (1, fs))) (k : Nat) (hk : k < 2) {index : Nat} (hli : Cond.fieldLink own index RX1 (TX1 k).2.1 (TX1 k).2.2.1 ∈ tblG) (hsame : ∀ x, s.fieldFound? (TX1 k).1 (TX1 k).2.1 (TX1 k).2.2.1 = some x → s.fieldFound? RX1 (TX1 k).2.1 (TX1 k).2.2.1 = some x) (hfin : (TX1 k).2.2.2 = true) (hin2 : meth.name = "<init>") (hdecl : (TX1 k).1 = own) {ty : FieldType} {v : Value} (hd : parseFieldDescriptor (TX1 k).2.2.1 = some ty) (hn : narrow ty v = v) (hfit : fits ty v = true) (hl : k < fs.length) (hdg : decode cc pc = .ok (.putfield index, 3)) (kk : ∀ (H1 : Heap) (locs1 : List Loc), PD D A (ws.set q0 (a, .inr (1, fs.set k v))) H1 → va_S A s.heap H1 locs1 → W p l e R s m args below meth c H1 locs1 cells slots Q (F0 m (pc + 3) ls rest)) : W p l e R s m args below meth c H locs cells slots Q (F0 m pc ls (v :: .ref a :: rest)) :=
  va_putF (ci := 1) (C := RX1) (T := TX1) (N := 2) hx hb ht uw_X1 tyX1 tyX1_ok nmX1 hown hK.1 hP.1 hP.2 hS q0 he rfl k hk (ht _ hli) hsame hfin hin2 hdecl hd hn hfit hl hdg (fun H1 locs1 h1 h2 h3 => kk H1 locs1 ⟨h1, h2⟩ h3)
theorem nX1 (hx : p.tables.exec = Jvm.exec) (hb : c.code = cc) (ht : ∀ w ∈ tblG, w.before args s = true) (hown : s.vm.findClass own = some m.cls) (hK : KK D cI cB cS s) (hP : PD D A ws H) (hS : va_S A s.heap H locs) (hA : ∀ q, s.heap.size ≤ q → A q) {index : Nat} (hcl : Cond.classLink own index RX1 ∈ tblG) (fs : List Value) (hfs : ∀ j, j < 2 → defaultValue (tyX1 j) = vp_V fs j) (hcells : cells + 1 ≤ R.cells) (hslots : slots + 2 ≤ R.slots) (hdg : decode cc pc = .ok (.new index, 3)) (kk : ∀ (q : Nat) (H1 : Heap), PD D A (ws ++ [oc q 1 fs]) H1 → va_S A s.heap H1 locs → W p l e R s m args below meth c H1 locs (cells + 1) (slots + 2) Q (F0 m (pc + 3) ls (.ref q :: rest))) : W p l e R s m args below meth c H locs cells slots Q (F0 m pc ls rest) :=
  va_new (ci := 1) (C := RX1) (T := TX1) (N := 2) hx hb ht uw_X1 tyX1 tyX1_ok hown (ht _ hcl) (ht _ it_X1) (ht _ in_X1) hK.1 hP.1 hP.2 hS hA rfl hfs hcells hslots hdg (fun q H1 h1 h2 h3 => kk q H1 ⟨h1, h2⟩ h3)
theorem gX2 (hx : p.tables.exec = Jvm.exec) (hb : c.code = cc) (ht : ∀ w ∈ tblG, w.before args s = true) (hown : s.vm.findClass own = some m.cls) (hK : KK D cI cB cS s) (hP : PD D A ws H) (q0 : Nat) {fs : List Value} (he : ws[q0]? = some (a, .inr (2, fs))) (k : Nat) (hk : k < 8) {index : Nat} (hli : Cond.fieldLink own index RX2 (TX2 k).2.1 (TX2 k).2.2.1 ∈ tblG) (hsame : ∀ x, s.fieldFound? (TX2 k).1 (TX2 k).2.1 (TX2 k).2.2.1 = some x → s.fieldFound? RX2 (TX2 k).2.1 (TX2 k).2.2.1 = some x) {v : Value} (hv : fs[k]? = some v) (hdg : decode cc pc = .ok (.getfield index, 3)) (kk : W p l e R s m args below meth c H locs cells slots Q (F0 m (pc + 3) ls (v :: rest))) : W p l e R s m args below meth c H locs cells slots Q (F0 m pc ls (.ref a :: rest)) :=
  va_get (ci := 2) (C := RX2) (T := TX2) (N := 8) hx hb ht uw_X2 hown hK.1 hP.1 q0 he rfl k hk (ht _ hli) hsame hv hdg kk
theorem pX2 (hx : p.tables.exec = Jvm.exec) (hb : c.code = cc) (ht : ∀ w ∈ tblG, w.before args s = true) (hown : s.vm.findClass own = some m.cls) (hK : KK D cI cB cS s) (hP : PD D A ws H) (hS : va_S A s.heap H locs) (q0 : Nat) {fs : List Value} (he : ws[q0]? = some (a, .inr (2, fs))) (k : Nat) (hk : k < 8) {index : Nat} (hli : Cond.fieldLink own index RX2 (TX2 k).2.1 (TX2 k).2.2.1 ∈ tblG) (hsame : ∀ x, s.fieldFound? (TX2 k).1 (TX2 k).2.1 (TX2 k).2.2.1 = some x → s.fieldFound? RX2 (TX2 k).2.1 (TX2 k).2.2.1 = some x) (hfin : (TX2 k).2.2.2 = false) {ty : FieldType} {v : Value} (hd : parseFieldDescriptor (TX2 k).2.2.1 = some ty) (hn : narrow ty v = v) (hfit : fits ty v = true) (hl : k < fs.length) (hdg : decode cc pc = .ok (.putfield index, 3)) (kk : ∀ (H1 : Heap) (locs1 : List Loc), PD D A (ws.set q0 (a, .inr (2, fs.set k v))) H1 → va_S A s.heap H1 locs1 → W p l e R s m args below meth c H1 locs1 cells slots Q (F0 m (pc + 3) ls rest)) : W p l e R s m args below meth c H locs cells slots Q (F0 m pc ls (v :: .ref a :: rest)) :=
  va_put (ci := 2) (C := RX2) (T := TX2) (N := 8) hx hb ht uw_X2 tyX2 tyX2_ok nmX2 hown hK.1 hP.1 hP.2 hS q0 he rfl k hk (ht _ hli) hsame hfin hd hn hfit hl hdg (fun H1 locs1 h1 h2 h3 => kk H1 locs1 ⟨h1, h2⟩ h3)
theorem qX2 (hx : p.tables.exec = Jvm.exec) (hb : c.code = cc) (ht : ∀ w ∈ tblG, w.before args s = true) (hown : s.vm.findClass own = some m.cls) (hK : KK D cI cB cS s) (hP : PD D A ws H) (hS : va_S A s.heap H locs) (q0 : Nat) {fs : List Value} (he : ws[q0]? = some (a, .inr (2, fs))) (k : Nat) (hk : k < 8) {index : Nat} (hli : Cond.fieldLink own index RX2 (TX2 k).2.1 (TX2 k).2.2.1 ∈ tblG) (hsame : ∀ x, s.fieldFound? (TX2 k).1 (TX2 k).2.1 (TX2 k).2.2.1 = some x → s.fieldFound? RX2 (TX2 k).2.1 (TX2 k).2.2.1 = some x) (hfin : (TX2 k).2.2.2 = true) (hin2 : meth.name = "<init>") (hdecl : (TX2 k).1 = own) {ty : FieldType} {v : Value} (hd : parseFieldDescriptor (TX2 k).2.2.1 = some ty) (hn : narrow ty v = v) (hfit : fits ty v = true) (hl : k < fs.length) (hdg : decode cc pc = .ok (.putfield index, 3)) (kk : ∀ (H1 : Heap) (locs1 : List Loc), PD D A (ws.set q0 (a, .inr (2, fs.set k v))) H1 → va_S A s.heap H1 locs1 → W p l e R s m args below meth c H1 locs1 cells slots Q (F0 m (pc + 3) ls rest)) : W p l e R s m args below meth c H locs cells slots Q (F0 m pc ls (v :: .ref a :: rest)) :=
  va_putF (ci := 2) (C := RX2) (T := TX2) (N := 8) hx hb ht uw_X2 tyX2 tyX2_ok nmX2 hown hK.1 hP.1 hP.2 hS q0 he rfl k hk (ht _ hli) hsame hfin hin2 hdecl hd hn hfit hl hdg (fun H1 locs1 h1 h2 h3 => kk H1 locs1 ⟨h1, h2⟩ h3)
theorem nX2 (hx : p.tables.exec = Jvm.exec) (hb : c.code = cc) (ht : ∀ w ∈ tblG, w.before args s = true) (hown : s.vm.findClass own = some m.cls) (hK : KK D cI cB cS s) (hP : PD D A ws H) (hS : va_S A s.heap H locs) (hA : ∀ q, s.heap.size ≤ q → A q) {index : Nat} (hcl : Cond.classLink own index RX2 ∈ tblG) (fs : List Value) (hfs : ∀ j, j < 8 → defaultValue (tyX2 j) = vp_V fs j) (hcells : cells + 1 ≤ R.cells) (hslots : slots + 8 ≤ R.slots) (hdg : decode cc pc = .ok (.new index, 3)) (kk : ∀ (q : Nat) (H1 : Heap), PD D A (ws ++ [oc q 2 fs]) H1 → va_S A s.heap H1 locs → W p l e R s m args below meth c H1 locs (cells + 1) (slots + 8) Q (F0 m (pc + 3) ls (.ref q :: rest))) : W p l e R s m args below meth c H locs cells slots Q (F0 m pc ls rest) :=
  va_new (ci := 2) (C := RX2) (T := TX2) (N := 8) hx hb ht uw_X2 tyX2 tyX2_ok hown (ht _ hcl) (ht _ it_X2) (ht _ in_X2) hK.1 hP.1 hP.2 hS hA rfl hfs hcells hslots hdg (fun q H1 h1 h2 h3 => kk q H1 ⟨h1, h2⟩ h3)
theorem gX3 (hx : p.tables.exec = Jvm.exec) (hb : c.code = cc) (ht : ∀ w ∈ tblG, w.before args s = true) (hown : s.vm.findClass own = some m.cls) (hK : KK D cI cB cS s) (hP : PD D A ws H) (q0 : Nat) {fs : List Value} (he : ws[q0]? = some (a, .inr (3, fs))) (k : Nat) (hk : k < 1) {index : Nat} (hli : Cond.fieldLink own index RX3 (TX3 k).2.1 (TX3 k).2.2.1 ∈ tblG) (hsame : ∀ x, s.fieldFound? (TX3 k).1 (TX3 k).2.1 (TX3 k).2.2.1 = some x → s.fieldFound? RX3 (TX3 k).2.1 (TX3 k).2.2.1 = some x) {v : Value} (hv : fs[k]? = some v) (hdg : decode cc pc = .ok (.getfield index, 3)) (kk : W p l e R s m args below meth c H locs cells slots Q (F0 m (pc + 3) ls (v :: rest))) : W p l e R s m args below meth c H locs cells slots Q (F0 m pc ls (.ref a :: rest)) :=
  va_get (ci := 3) (C := RX3) (T := TX3) (N := 1) hx hb ht uw_X3 hown hK.1 hP.1 q0 he rfl k hk (ht _ hli) hsame hv hdg kk
theorem pX3 (hx : p.tables.exec = Jvm.exec) (hb : c.code = cc) (ht : ∀ w ∈ tblG, w.before args s = true) (hown : s.vm.findClass own = some m.cls) (hK : KK D cI cB cS s) (hP : PD D A ws H) (hS : va_S A s.heap H locs) (q0 : Nat) {fs : List Value} (he : ws[q0]? = some (a, .inr (3, fs))) (k : Nat) (hk : k < 1) {index : Nat} (hli : Cond.fieldLink own index RX3 (TX3 k).2.1 (TX3 k).2.2.1 ∈ tblG) (hsame : ∀ x, s.fieldFound? (TX3 k).1 (TX3 k).2.1 (TX3 k).2.2.1 = some x → s.fieldFound? RX3 (TX3 k).2.1 (TX3 k).2.2.1 = some x) (hfin : (TX3 k).2.2.2 = false) {ty : FieldType} {v : Value} (hd : parseFieldDescriptor (TX3 k).2.2.1 = some ty) (hn : narrow ty v = v) (hfit : fits ty v = true) (hl : k < fs.length) (hdg : decode cc pc = .ok (.putfield index, 3)) (kk : ∀ (H1 : Heap) (locs1 : List Loc), PD D A (ws.set q0 (a, .inr (3, fs.set k v))) H1 → va_S A s.heap H1 locs1 → W p l e R s m args below meth c H1 locs1 cells slots Q (F0 m (pc + 3) ls rest)) : W p l e R s m args below meth c H locs cells slots Q (F0 m pc ls (v :: .ref a :: rest)) :=
  va_put (ci := 3) (C := RX3) (T := TX3) (N := 1) hx hb ht uw_X3 tyX3 tyX3_ok nmX3 hown hK.1 hP.1 hP.2 hS q0 he rfl k hk (ht _ hli) hsame hfin hd hn hfit hl hdg (fun H1 locs1 h1 h2 h3 => kk H1 locs1 ⟨h1, h2⟩ h3)
theorem qX3 (hx : p.tables.exec = Jvm.exec) (hb : c.code = cc) (ht : ∀ w ∈ tblG, w.before args s = true) (hown : s.vm.findClass own = some m.cls) (hK : KK D cI cB cS s) (hP : PD D A ws H) (hS : va_S A s.heap H locs) (q0 : Nat) {fs : List Value} (he : ws[q0]? = some (a, .inr (3, fs))) (k : Nat) (hk : k < 1) {index : Nat} (hli : Cond.fieldLink own index RX3 (TX3 k).2.1 (TX3 k).2.2.1 ∈ tblG) (hsame : ∀ x, s.fieldFound? (TX3 k).1 (TX3 k).2.1 (TX3 k).2.2.1 = some x → s.fieldFound? RX3 (TX3 k).2.1 (TX3 k).2.2.1 = some x) (hfin : (TX3 k).2.2.2 = true) (hin2 : meth.name = "<init>") (hdecl : (TX3 k).1 = own) {ty : FieldType} {v : Value} (hd : parseFieldDescriptor (TX3 k).2.2.1 = some ty) (hn : narrow ty v = v) (hfit : fits ty v = true) (hl : k < fs.length) (hdg : decode cc pc = .ok (.putfield index, 3)) (kk : ∀ (H1 : Heap) (locs1 : List Loc), PD D A (ws.set q0 (a, .inr (3, fs.set k v))) H1 → va_S A s.heap H1 locs1 → W p l e R s m args below meth c H1 locs1 cells slots Q (F0 m (pc + 3) ls rest)) : W p l e R s m args below meth c H locs cells slots Q (F0 m pc ls (v :: .ref a :: rest)) :=
  va_putF (ci := 3) (C := RX3) (T := TX3) (N := 1) hx hb ht uw_X3 tyX3 tyX3_ok nmX3 hown hK.1 hP.1 hP.2 hS q0 he rfl k hk (ht _ hli) hsame hfin hin2 hdecl hd hn hfit hl hdg (fun H1 locs1 h1 h2 h3 => kk H1 locs1 ⟨h1, h2⟩ h3)
theorem nX3 (hx : p.tables.exec = Jvm.exec) (hb : c.code = cc) (ht : ∀ w ∈ tblG, w.before args s = true) (hown : s.vm.findClass own = some m.cls) (hK : KK D cI cB cS s) (hP : PD D A ws H) (hS : va_S A s.heap H locs) (hA : ∀ q, s.heap.size ≤ q → A q) {index : Nat} (hcl : Cond.classLink own index RX3 ∈ tblG) (fs : List Value) (hfs : ∀ j, j < 1 → defaultValue (tyX3 j) = vp_V fs j) (hcells : cells + 1 ≤ R.cells) (hslots : slots + 1 ≤ R.slots) (hdg : decode cc pc = .ok (.new index, 3)) (kk : ∀ (q : Nat) (H1 : Heap), PD D A (ws ++ [oc q 3 fs]) H1 → va_S A s.heap H1 locs → W p l e R s m args below meth c H1 locs (cells + 1) (slots + 1) Q (F0 m (pc + 3) ls (.ref q :: rest))) : W p l e R s m args below meth c H locs cells slots Q (F0 m pc ls rest) :=
  va_new (ci := 3) (C := RX3) (T := TX3) (N := 1) hx hb ht uw_X3 tyX3 tyX3_ok hown (ht _ hcl) (ht _ it_X3) (ht _ in_X3) hK.1 hP.1 hP.2 hS hA rfl hfs hcells hslots hdg (fun q H1 h1 h2 h3 => kk q H1 ⟨h1, h2⟩ h3)
theorem gX4 (hx : p.tables.exec = Jvm.exec) (hb : c.code = cc) (ht : ∀ w ∈ tblG, w.before args s = true) (hown : s.vm.findClass own = some m.cls) (hK : KK D cI cB cS s) (hP : PD D A ws H) (q0 : Nat) {fs : List Value} (he : ws[q0]? = some (a, .inr (4, fs))) (k : Nat) (hk : k < 5) {index : Nat} (hli : Cond.fieldLink own index RX4 (TX4 k).2.1 (TX4 k).2.2.1 ∈ tblG) (hsame : ∀ x, s.fieldFound? (TX4 k).1 (TX4 k).2.1 (TX4 k).2.2.1 = some x → s.fieldFound? RX4 (TX4 k).2.1 (TX4 k).2.2.1 = some x) {v : Value} (hv : fs[k]? = some v) (hdg : decode cc pc = .ok (.getfield index, 3)) (kk : W p l e R s m args below meth c H locs cells slots Q (F0 m (pc + 3) ls (v :: rest))) : W p l e R s m args below meth c H locs cells slots Q (F0 m pc ls (.ref a :: rest)) :=
  va_get (ci := 4) (C := RX4) (T := TX4) (N := 5) hx hb ht uw_X4 hown hK.1 hP.1 q0 he rfl k hk (ht _ hli) hsame hv hdg kk
theorem pX4 (hx : p.tables.exec = Jvm.exec) (hb : c.code = cc) (ht : ∀ w ∈ tblG, w.before args s = true) (hown : s.vm.findClass own = some m.cls) (hK : KK D cI cB cS s) (hP : PD D A ws H) (hS : va_S A s.heap H locs) (q0 : Nat) {fs : List Value} (he : ws[q0]? = some (a, .inr (4, fs))) (k : Nat) (hk : k < 5) {index : Nat} (hli : Cond.fieldLink own index RX4 (TX4 k).2.1 (TX4 k).2.2.1 ∈ tblG) (hsame : ∀ x, s.fieldFound? (TX4 k).1 (TX4 k).2.1 (TX4 k).2.2.1 = some x → s.fieldFound? RX4 (TX4 k).2.1 (TX4 k).2.2.1 = some x) (hfin : (TX4 k).2.2.2 = false) {ty : FieldType} {v : Value} (hd : parseFieldDescriptor (TX4 k).2.2.1 = some ty) (hn : narrow ty v = v) (hfit : fits ty v = true) (hl : k < fs.length) (hdg : decode cc pc = .ok (.putfield index, 3)) (kk : ∀ (H1 : Heap) (locs1 : List Loc), PD D A (ws.set q0 (a, .inr (4, fs.set k v))) H1 → va_S A s.heap H1 locs1 → W p l e R s m args below meth c H1 locs1 cells slots Q (F0 m (pc + 3) ls rest)) : W p l e R s m args below meth c H locs cells slots Q (F0 m pc ls (v :: .ref a :: rest)) :=
  va_put (ci := 4) (C := RX4) (T := TX4) (N := 5) hx hb ht uw_X4 tyX4 tyX4_ok nmX4 hown hK.1 hP.1 hP.2 hS q0 he rfl k hk (ht _ hli) hsame hfin hd hn hfit hl hdg (fun H1 locs1 h1 h2 h3 => kk H1 locs1 ⟨h1, h2⟩ h3)
theorem qX4 (hx : p.tables.exec = Jvm.exec) (hb : c.code = cc) (ht : ∀ w ∈ tblG, w.before args s = true) (hown : s.vm.findClass own = some m.cls) (hK : KK D cI cB cS s) (hP : PD D A ws H) (hS : va_S A s.heap H locs) (q0 : Nat) {fs : List Value} (he : ws[q0]? = some (a, .inr (4, fs))) (k : Nat) (hk : k < 5) {index : Nat} (hli : Cond.fieldLink own index RX4 (TX4 k).2.1 (TX4 k).2.2.1 ∈ tblG) (hsame : ∀ x, s.fieldFound? (TX4 k).1 (TX4 k).2.1 (TX4 k).2.2.1 = some x → s.fieldFound? RX4 (TX4 k).2.1 (TX4 k).2.2.1 = some x) (hfin : (TX4 k).2.2.2 = true) (hin2 : meth.name = "<init>") (hdecl : (TX4 k).1 = own) {ty : FieldType} {v : Value} (hd : parseFieldDescriptor (TX4 k).2.2.1 = some ty) (hn : narrow ty v = v) (hfit : fits ty v = true) (hl : k < fs.length) (hdg : decode cc pc = .ok (.putfield index, 3)) (kk : ∀ (H1 : Heap) (locs1 : List Loc), PD D A (ws.set q0 (a, .inr (4, fs.set k v))) H1 → va_S A s.heap H1 locs1 → W p l e R s m args below meth c H1 locs1 cells slots Q (F0 m (pc + 3) ls rest)) : W p l e R s m args below meth c H locs cells slots Q (F0 m pc ls (v :: .ref a :: rest)) :=
  va_putF (ci := 4) (C := RX4) (T := TX4) (N := 5) hx hb ht uw_X4 tyX4 tyX4_ok nmX4 hown hK.1 hP.1 hP.2 hS q0 he rfl k hk (ht _ hli) hsame hfin hin2 hdecl hd hn hfit hl hdg (fun H1 locs1 h1 h2 h3 => kk H1 locs1 ⟨h1, h2⟩ h3)
theorem nX4 (hx : p.tables.exec = Jvm.exec) (hb : c.code = cc) (ht : ∀ w ∈ tblG, w.before args s = true) (hown : s.vm.findClass own = some m.cls) (hK : KK D cI cB cS s) (hP : PD D A ws H) (hS : va_S A s.heap H locs) (hA : ∀ q, s.heap.size ≤ q → A q) {index : Nat} (hcl : Cond.classLink own index RX4 ∈ tblG) (fs : List Value) (hfs : ∀ j, j < 5 → defaultValue (tyX4 j) = vp_V fs j) (hcells : cells + 1 ≤ R.cells) (hslots : slots + 5 ≤ R.slots) (hdg : decode cc pc = .ok (.new index, 3)) (kk : ∀ (q : Nat) (H1 : Heap), PD D A (ws ++ [oc q 4 fs]) H1 → va_S A s.heap H1 locs → W p l e R s m args below meth c H1 locs (cells + 1) (slots + 5) Q (F0 m (pc + 3) ls (.ref q :: rest))) : W p l e R s m args below meth c H locs cells slots Q (F0 m pc ls rest) :=
  va_new (ci := 4) (C := RX4) (T := TX4) (N := 5) hx hb ht uw_X4 tyX4 tyX4_ok hown (ht _ hcl) (ht _ it_X4) (ht _ in_X4) hK.1 hP.1 hP.2 hS hA rfl hfs hcells hslots hdg (fun q H1 h1 h2 h3 => kk q H1 ⟨h1, h2⟩ h3)
theorem gX5 (hx : p.tables.exec = Jvm.exec) (hb : c.code = cc) (ht : ∀ w ∈ tblG, w.before args s = true) (hown : s.vm.findClass own = some m.cls) (hK : KK D cI cB cS s) (hP : PD D A ws H) (q0 : Nat) {fs : List Value} (he : ws[q0]? = some (a, .inr (5, fs))) (k : Nat) (hk : k < 8) {index : Nat} (hli : Cond.fieldLink own index RX5 (TX5 k).2.1 (TX5 k).2.2.1 ∈ tblG) (hsame : ∀ x, s.fieldFound? (TX5 k).1 (TX5 k).2.1 (TX5 k).2.2.1 = some x → s.fieldFound? RX5 (TX5 k).2.1 (TX5 k).2.2.1 = some x) {v : Value} (hv : fs[k]? = some v) (hdg : decode cc pc = .ok (.getfield index, 3)) (kk : W p l e R s m args below meth c H locs cells slots Q (F0 m (pc + 3) ls (v :: rest))) : W p l e R s m args below meth c H locs cells slots Q (F0 m pc ls (.ref a :: rest)) :=
  va_get (ci := 5) (C := RX5) (T := TX5) (N := 8) hx hb ht uw_X5 hown hK.1 hP.1 q0 he rfl k hk (ht _ hli) hsame hv hdg kk
theorem pX5 (hx : p.tables.exec = Jvm.exec) (hb : c.code = cc) (ht : ∀ w ∈ tblG, w.before args s = true) (hown : s.vm.findClass own = some m.cls) (hK : KK D cI cB cS s) (hP : PD D A ws H) (hS : va_S A s.heap H locs) (q0 : Nat) {fs : List Value} (he : ws[q0]? = some (a, .inr (5, fs))) (k : Nat) (hk : k < 8) {index : Nat} (hli : Cond.fieldLink own index RX5 (TX5 k).2.1 (TX5 k).2.2.1 ∈ tblG) (hsame : ∀ x, s.fieldFound? (TX5 k).1 (TX5 k).2.1 (TX5 k).2.2.1 = some x → s.fieldFound? RX5 (TX5 k).2.1 (TX5 k).2.2.1 = some x) (hfin : (TX5 k).2.2.2 = false) {ty : FieldType} {v : Value} (hd : parseFieldDescriptor (TX5 k).2.2.1 = some ty) (hn : narrow ty v = v) (hfit : fits ty v = true) (hl : k < fs.length) (hdg : decode cc pc = .ok (.putfield index, 3)) (kk : ∀ (H1 : Heap) (locs1 : List Loc), PD D A (ws.set q0 (a, .inr (5, fs.set k v))) H1 → va_S A s.heap H1 locs1 → W p l e R s m args below meth c H1 locs1 cells slots Q (F0 m (pc + 3) ls rest)) : W p l e R s m args below meth c H locs cells slots Q (F0 m pc ls (v :: .ref a :: rest)) :=
  va_put (ci := 5) (C := RX5) (T := TX5) (N := 8) hx hb ht uw_X5 tyX5 tyX5_ok nmX5 hown hK.1 hP.1 hP.2 hS q0 he rfl k hk (ht _ hli) hsame hfin hd hn hfit hl hdg (fun H1 locs1 h1 h2 h3 => kk H1 locs1 ⟨h1, h2⟩ h3)
theorem qX5 (hx : p.tables.exec = Jvm.exec) (hb : c.code = cc) (ht : ∀ w ∈ tblG, w.before args s = true) (hown : s.vm.findClass own = some m.cls) (hK : KK D cI cB cS s) (hP : PD D A ws H) (hS : va_S A s.heap H locs) (q0 : Nat) {fs : List Value} (he : ws[q0]? = some (a, .inr (5, fs))) (k : Nat) (hk : k < 8) {index : Nat} (hli : Cond.fieldLink own index RX5 (TX5 k).2.1 (TX5 k).2.2.1 ∈ tblG) (hsame : ∀ x, s.fieldFound? (TX5 k).1 (TX5 k).2.1 (TX5 k).2.2.1 = some x → s.fieldFound? RX5 (TX5 k).2.1 (TX5 k).2.2.1 = some x) (hfin : (TX5 k).2.2.2 = true) (hin2 : meth.name = "<init>") (hdecl : (TX5 k).1 = own) {ty : FieldType} {v : Value} (hd : parseFieldDescriptor (TX5 k).2.2.1 = some ty) (hn : narrow ty v = v) (hfit : fits ty v = true) (hl : k < fs.length) (hdg : decode cc pc = .ok (.putfield index, 3)) (kk : ∀ (H1 : Heap) (locs1 : List Loc), PD D A (ws.set q0 (a, .inr (5, fs.set k v))) H1 → va_S A s.heap H1 locs1 → W p l e R s m args below meth c H1 locs1 cells slots Q (F0 m (pc + 3) ls rest)) : W p l e R s m args below meth c H locs cells slots Q (F0 m pc ls (v :: .ref a :: rest)) :=
  va_putF (ci := 5) (C := RX5) (T := TX5) (N := 8) hx hb ht uw_X5 tyX5 tyX5_ok nmX5 hown hK.1 hP.1 hP.2 hS q0 he rfl k hk (ht _ hli) hsame hfin hin2 hdecl hd hn hfit hl hdg (fun H1 locs1 h1 h2 h3 => kk H1 locs1 ⟨h1, h2⟩ h3)
theorem nX5 (hx : p.tables.exec = Jvm.exec) (hb : c.code = cc) (ht : ∀ w ∈ tblG, w.before args s = true) (hown : s.vm.findClass own = some m.cls) (hK : KK D cI cB cS s) (hP : PD D A ws H) (hS : va_S A s.heap H locs) (hA : ∀ q, s.heap.size ≤ q → A q) {index : Nat} (hcl : Cond.classLink own index RX5 ∈ tblG) (fs : List Value) (hfs : ∀ j, j < 8 → defaultValue (tyX5 j) = vp_V fs j) (hcells : cells + 1 ≤ R.cells) (hslots : slots + 8 ≤ R.slots) (hdg : decode cc pc = .ok (.new index, 3)) (kk : ∀ (q : Nat) (H1 : Heap), PD D A (ws ++ [oc q 5 fs]) H1 → va_S A s.heap H1 locs → W p l e R s m args below meth c H1 locs (cells + 1) (slots + 8) Q (F0 m (pc + 3) ls (.ref q :: rest))) : W p l e R s m args below meth c H locs cells slots Q (F0 m pc ls rest) :=
  va_new (ci := 5) (C := RX5) (T := TX5) (N := 8) hx hb ht uw_X5 tyX5 tyX5_ok hown (ht _ hcl) (ht _ it_X5) (ht _ in_X5) hK.1 hP.1 hP.2 hS hA rfl hfs hcells hslots hdg (fun q H1 h1 h2 h3 => kk q H1 ⟨h1, h2⟩ h3)
theorem gX7 (hx : p.tables.exec = Jvm.exec) (hb : c.code = cc) (ht : ∀ w ∈ tblG, w.before args s = true) (hown : s.vm.findClass own = some m.cls) (hK : KK D cI cB cS s) (hP : PD D A ws H) (q0 : Nat) {fs : List Value} (he : ws[q0]? = some (a, .inr (6, fs))) (k : Nat) (hk : k < 4) {index : Nat} (hli : Cond.fieldLink own index RX7 (TX7 k).2.1 (TX7 k).2.2.1 ∈ tblG) (hsame : ∀ x, s.fieldFound? (TX7 k).1 (TX7 k).2.1 (TX7 k).2.2.1 = some x → s.fieldFound? RX7 (TX7 k).2.1 (TX7 k).2.2.1 = some x) {v : Value} (hv : fs[k]? = some v) (hdg : decode cc pc = .ok (.getfield index, 3)) (kk : W p l e R s m args below meth c H locs cells slots Q (F0 m (pc + 3) ls (v :: rest))) : W p l e R s m args below meth c H locs cells slots Q (F0 m pc ls (.ref a :: rest)) :=
  va_get (ci := 6) (C := RX7) (T := TX7) (N := 4) hx hb ht uw_X7 hown hK.1 hP.1 q0 he rfl k hk (ht _ hli) hsame hv hdg kk
theorem pX7 (hx : p.tables.exec = Jvm.exec) (hb : c.code = cc) (ht : ∀ w ∈ tblG, w.before args s = true) (hown : s.vm.findClass own = some m.cls) (hK : KK D cI cB cS s) (hP : PD D A ws H) (hS : va_S A s.heap H locs) (q0 : Nat) {fs : List Value} (he : ws[q0]? = some (a, .inr (6, fs))) (k : Nat) (hk : k < 4) {index : Nat} (hli : Cond.fieldLink own index RX7 (TX7 k).2.1 (TX7 k).2.2.1 ∈ tblG) (hsame : ∀ x, s.fieldFound? (TX7 k).1 (TX7 k).2.1 (TX7 k).2.2.1 = some x → s.fieldFound? RX7 (TX7 k).2.1 (TX7 k).2.2.1 = some x) (hfin : (TX7 k).2.2.2 = false) {ty : FieldType} {v : Value} (hd : parseFieldDescriptor (TX7 k).2.2.1 = some ty) (hn : narrow ty v = v) (hfit : fits ty v = true) (hl : k < fs.length) (hdg : decode cc pc = .ok (.putfield index, 3)) (kk : ∀ (H1 : Heap) (locs1 : List Loc), PD D A (ws.set q0 (a, .inr (6, fs.set k v))) H1 → va_S A s.heap H1 locs1 → W p l e R s m args below meth c H1 locs1 cells slots Q (F0 m (pc + 3) ls rest)) : W p l e R s m args below meth c H locs cells slots Q (F0 m pc ls (v :: .ref a :: rest)) :=
  va_put (ci := 6) (C := RX7) (T := TX7) (N := 4) hx hb ht uw_X7 tyX7 tyX7_ok nmX7 hown hK.1 hP.1 hP.2 hS q0 he rfl k hk (ht _ hli) hsame hfin hd hn hfit hl hdg (fun H1 locs1 h1 h2 h3 => kk H1 locs1 ⟨h1, h2⟩ h3)
theorem qX7 (hx : p.tables.exec = Jvm.exec) (hb : c.code = cc) (ht : ∀ w ∈ tblG, w.before args s = true) (hown : s.vm.findClass own = some m.cls) (hK : KK D cI cB cS s) (hP : PD D A ws H) (hS : va_S A s.heap H locs) (q0 : Nat) {fs : List Value} (he : ws[q0]? = some (a, .inr (6, fs))) (k : Nat) (hk : k < 4) {index : Nat} (hli : Cond.fieldLink own index RX7 (TX7 k).2.1 (TX7 k).2.2.1 ∈ tblG) (hsame : ∀ x, s.fieldFound? (TX7 k).1 (TX7 k).2.1 (TX7 k).2.2.1 = some x → s.fieldFound? RX7 (TX7 k).2.1 (TX7 k).2.2.1 = some x) (hfin : (TX7 k).2.2.2 = true) (hin2 : meth.name = "<init>") (hdecl : (TX7 k).1 = own) {ty : FieldType} {v : Value} (hd : parseFieldDescriptor (TX7 k).2.2.1 = some ty) (hn : narrow ty v = v) (hfit : fits ty v = true) (hl : k < fs.length) (hdg : decode cc pc = .ok (.putfield index, 3)) (kk : ∀ (H1 : Heap) (locs1 : List Loc), PD D A (ws.set q0 (a, .inr (6, fs.set k v))) H1 → va_S A s.heap H1 locs1 → W p l e R s m args below meth c H1 locs1 cells slots Q (F0 m (pc + 3) ls rest)) : W p l e R s m args below meth c H locs cells slots Q (F0 m pc ls (v :: .ref a :: rest)) :=
  va_putF (ci := 6) (C := RX7) (T := TX7) (N := 4) hx hb ht uw_X7 tyX7 tyX7_ok nmX7 hown hK.1 hP.1 hP.2 hS q0 he rfl k hk (ht _ hli) hsame hfin hin2 hdecl hd hn hfit hl hdg (fun H1 locs1 h1 h2 h3 => kk H1 locs1 ⟨h1, h2⟩ h3)
theorem nX7 (hx : p.tables.exec = Jvm.exec) (hb : c.code = cc) (ht : ∀ w ∈ tblG, w.before args s = true) (hown : s.vm.findClass own = some m.cls) (hK : KK D cI cB cS s) (hP : PD D A ws H) (hS : va_S A s.heap H locs) (hA : ∀ q, s.heap.size ≤ q → A q) {index : Nat} (hcl : Cond.classLink own index RX7 ∈ tblG) (fs : List Value) (hfs : ∀ j, j < 4 → defaultValue (tyX7 j) = vp_V fs j) (hcells : cells + 1 ≤ R.cells) (hslots : slots + 4 ≤ R.slots) (hdg : decode cc pc = .ok (.new index, 3)) (kk : ∀ (q : Nat) (H1 : Heap), PD D A (ws ++ [oc q 6 fs]) H1 → va_S A s.heap H1 locs → W p l e R s m args below meth c H1 locs (cells + 1) (slots + 4) Q (F0 m (pc + 3) ls (.ref q :: rest))) : W p l e R s m args below meth c H locs cells slots Q (F0 m pc ls rest) :=
  va_new (ci := 6) (C := RX7) (T := TX7) (N := 4) hx hb ht uw_X7 tyX7 tyX7_ok hown (ht _ hcl) (ht _ it_X7) (ht _ in_X7) hK.1 hP.1 hP.2 hS hA rfl hfs hcells hslots hdg (fun q H1 h1 h2 h3 => kk q H1 ⟨h1, h2⟩ h3)
theorem gX8 (hx : p.tables.exec = Jvm.exec) (hb : c.code = cc) (ht : ∀ w ∈ tblG, w.before args s = true) (hown : s.vm.findClass own = some m.cls) (hK : KK D cI cB cS s) (hP : PD D A ws H) (q0 : Nat) {fs : List Value} (he : ws[q0]? = some (a, .inr (7, fs))) (k : Nat) (hk : k < 6) {index : Nat} (hli : Cond.fieldLink own index RX8 (TX8 k).2.1 (TX8 k).2.2.1 ∈ tblG) (hsame : ∀ x, s.fieldFound? (TX8 k).1 (TX8 k).2.1 (TX8 k).2.2.1 = some x → s.fieldFound? RX8 (TX8 k).2.1 (TX8 k).2.2.1 = some x) {v : Value} (hv : fs[k]? = some v) (hdg : decode cc pc = .ok (.getfield index, 3)) (kk : W p l e R s m args below meth c H locs cells slots Q (F0 m (pc + 3) ls (v :: rest))) : W p l e R s m args below meth c H locs cells slots Q (F0 m pc ls (.ref a :: rest)) :=
  va_get (ci := 7) (C := RX8) (T := TX8) (N := 6) hx hb ht uw_X8 hown hK.1 hP.1 q0 he rfl k hk (ht _ hli) hsame hv hdg kk
theorem pX8 (hx : p.tables.exec = Jvm.exec) (hb : c.code = cc) (ht : ∀ w ∈ tblG, w.before args s = true) (hown : s.vm.findClass own = some m.cls) (hK : KK D cI cB cS s) (hP : PD D A ws H) (hS : va_S A s.heap H locs) (q0 : Nat) {fs : List Value} (he : ws[q0]? = some (a, .inr (7, fs))) (k : Nat) (hk : k < 6) {index : Nat} (hli : Cond.fieldLink own index RX8 (TX8 k).2.1 (TX8 k).2.2.1 ∈ tblG) (hsame : ∀ x, s.fieldFound? (TX8 k).1 (TX8 k).2.1 (TX8 k).2.2.1 = some x → s.fieldFound? RX8 (TX8 k).2.1 (TX8 k).2.2.1 = some x) (hfin : (TX8 k).2.2.2 = false) {ty : FieldType} {v : Value} (hd : parseFieldDescriptor (TX8 k).2.2.1 = some ty) (hn : narrow ty v = v) (hfit : fits ty v = true) (hl : k < fs.length) (hdg : decode cc pc = .ok (.putfield index, 3)) (kk : ∀ (H1 : Heap) (locs1 : List Loc), PD D A (ws.set q0 (a, .inr (7, fs.set k v))) H1 → va_S A s.heap H1 locs1 → W p l e R s m args below meth c H1 locs1 cells slots Q (F0 m (pc + 3) ls rest)) : W p l e R s m args below meth c H locs cells slots Q (F0 m pc ls (v :: .ref a :: rest)) :=
  va_put (ci := 7) (C := RX8) (T := TX8) (N := 6) hx hb ht uw_X8 tyX8 tyX8_ok nmX8 hown hK.1 hP.1 hP.2 hS q0 he rfl k hk (ht _ hli) hsame hfin hd hn hfit hl hdg (fun H1 locs1 h1 h2 h3 => kk H1 locs1 ⟨h1, h2⟩ h3)
theorem qX8 (hx : p.tables.exec = Jvm.exec) (hb : c.code = cc) (ht : ∀ w ∈ tblG, w.before args s = true) (hown : s.vm.findClass own = some m.cls) (hK : KK D cI cB cS s) (hP : PD D A ws H) (hS : va_S A s.heap H locs) (q0 : Nat) {fs : List Value} (he : ws[q0]? = some (a, .inr (7, fs))) (k : Nat) (hk : k < 6) {index : Nat} (hli : Cond.fieldLink own index RX8 (TX8 k).2.1 (TX8 k).2.2.1 ∈ tblG) (hsame : ∀ x, s.fieldFound? (TX8 k).1 (TX8 k).2.1 (TX8 k).2.2.1 = some x → s.fieldFound? RX8 (TX8 k).2.1 (TX8 k).2.2.1 = some x) (hfin : (TX8 k).2.2.2 = true) (hin2 : meth.name = "<init>") (hdecl : (TX8 k).1 = own) {ty : FieldType} {v : Value} (hd : parseFieldDescriptor (TX8 k).2.2.1 = some ty) (hn : narrow ty v = v) (hfit : fits ty v = true) (hl : k < fs.length) (hdg : decode cc pc = .ok (.putfield index, 3)) (kk : ∀ (H1 : Heap) (locs1 : List Loc), PD D A (ws.set q0 (a, .inr (7, fs.set k v))) H1 → va_S A s.heap H1 locs1 → W p l e R s m args below meth c H1 locs1 cells slots Q (F0 m (pc + 3) ls rest)) : W p l e R s m args below meth c H locs cells slots Q (F0 m pc ls (v :: .ref a :: rest)) :=
  va_putF (ci := 7) (C := RX8) (T := TX8) (N := 6) hx hb ht uw_X8 tyX8 tyX8_ok nmX8 hown hK.1 hP.1 hP.2 hS q0 he rfl k hk (ht _ hli) hsame hfin hin2 hdecl hd hn hfit hl hdg (fun H1 locs1 h1 h2 h3 => kk H1 locs1 ⟨h1, h2⟩ h3)
theorem nX8 (hx : p.tables.exec = Jvm.exec) (hb : c.code = cc) (ht : ∀ w ∈ tblG, w.before args s = true) (hown : s.vm.findClass own = some m.cls) (hK : KK D cI cB cS s) (hP : PD D A ws H) (hS : va_S A s.heap H locs) (hA : ∀ q, s.heap.size ≤ q → A q) {index : Nat} (hcl : Cond.classLink own index RX8 ∈ tblG) (fs : List Value) (hfs : ∀ j, j < 6 → defaultValue (tyX8 j) = vp_V fs j) (hcells : cells + 1 ≤ R.cells) (hslots : slots + 6 ≤ R.slots) (hdg : decode cc pc = .ok (.new index, 3)) (kk : ∀ (q : Nat) (H1 : Heap), PD D A (ws ++ [oc q 7 fs]) H1 → va_S A s.heap H1 locs → W p l e R s m args below meth c H1 locs (cells + 1) (slots + 6) Q (F0 m (pc + 3) ls (.ref q :: rest))) : W p l e R s m args below meth c H locs cells slots Q (F0 m pc ls rest) :=
  va_new (ci := 7) (C := RX8) (T := TX8) (N := 6) hx hb ht uw_X8 tyX8 tyX8_ok hown (ht _ hcl) (ht _ it_X8) (ht _ in_X8) hK.1 hP.1 hP.2 hS hA rfl hfs hcells hslots hdg (fun q H1 h1 h2 h3 => kk q H1 ⟨h1, h2⟩ h3)
theorem gX9 (hx : p.tables.exec = Jvm.exec) (hb : c.code = cc) (ht : ∀ w ∈ tblG, w.before args s = true) (hown : s.vm.findClass own = some m.cls) (hK : KK D cI cB cS s) (hP : PD D A ws H) (q0 : Nat) {fs : List Value} (he : ws[q0]? = some (a, .inr (8, fs))) (k : Nat) (hk : k < 4) {index : Nat} (hli : Cond.fieldLink own index RX9 (TX9 k).2.1 (TX9 k).2.2.1 ∈ tblG) (hsame : ∀ x, s.fieldFound? (TX9 k).1 (TX9 k).2.1 (TX9 k).2.2.1 = some x → s.fieldFound? RX9 (TX9 k).2.1 (TX9 k).2.2.1 = some x) {v : Value} (hv : fs[k]? = some v) (hdg : decode cc pc = .ok (.getfield index, 3)) (kk : W p l e R s m args below meth c H locs cells slots Q (F0 m (pc + 3) ls (v :: rest))) : W p l e R s m args below meth c H locs cells slots Q (F0 m pc ls (.ref a :: rest)) :=
  va_get (ci := 8) (C := RX9) (T := TX9) (N := 4) hx hb ht uw_X9 hown hK.1 hP.1 q0 he rfl k hk (ht _ hli) hsame hv hdg kk
theorem pX9 (hx : p.tables.exec = Jvm.exec) (hb : c.code = cc) (ht : ∀ w ∈ tblG, w.before args s = true) (hown : s.vm.findClass own = some m.cls) (hK : KK D cI cB cS s) (hP : PD D A ws H) (hS : va_S A s.heap H locs) (q0 : Nat) {fs : List Value} (he : ws[q0]? = some (a, .inr (8, fs))) (k : Nat) (hk : k < 4) {index : Nat} (hli : Cond.fieldLink own index RX9 (TX9 k).2.1 (TX9 k).2.2.1 ∈ tblG) (hsame : ∀ x, s.fieldFound? (TX9 k).1 (TX9 k).2.1 (TX9 k).2.2.1 = some x → s.fieldFound? RX9 (TX9 k).2.1 (TX9 k).2.2.1 = some x) (hfin : (TX9 k).2.2.2 = false) {ty : FieldType} {v : Value} (hd : parseFieldDescriptor (TX9 k).2.2.1 = some ty) (hn : narrow ty v = v) (hfit : fits ty v = true) (hl : k < fs.length) (hdg : decode cc pc = .ok (.putfield index, 3)) (kk : ∀ (H1 : Heap) (locs1 : List Loc), PD D A (ws.set q0 (a, .inr (8, fs.set k v))) H1 → va_S A s.heap H1 locs1 → W p l e R s m args below meth c H1 locs1 cells slots Q (F0 m (pc + 3) ls rest)) : W p l e R s m args below meth c H locs cells slots Q (F0 m pc ls (v :: .ref a :: rest)) :=
  va_put (ci := 8) (C := RX9) (T := TX9) (N := 4) hx hb ht uw_X9 tyX9 tyX9_ok nmX9 hown hK.1 hP.1 hP.2 hS q0 he rfl k hk (ht _ hli) hsame hfin hd hn hfit hl hdg (fun H1 locs1 h1 h2 h3 => kk H1 locs1 ⟨h1, h2⟩ h3)
theorem qX9 (hx : p.tables.exec = Jvm.exec) (hb : c.code = cc) (ht : ∀ w ∈ tblG, w.before args s = true) (hown : s.vm.findClass own = some m.cls) (hK : KK D cI cB cS s) (hP : PD D A ws H) (hS : va_S A s.heap H locs) (q0 : Nat) {fs : List Value} (he : ws[q0]? = some (a, .inr (8, fs))) (k : Nat) (hk : k < 4) {index : Nat} (hli : Cond.fieldLink own index RX9 (TX9 k).2.1 (TX9 k).2.2.1 ∈ tblG) (hsame : ∀ x, s.fieldFound? (TX9 k).1 (TX9 k).2.1 (TX9 k).2.2.1 = some x → s.fieldFound? RX9 (TX9 k).2.1 (TX9 k).2.2.1 = some x) (hfin : (TX9 k).2.2.2 = true) (hin2 : meth.name = "<init>") (hdecl : (TX9 k).1 = own) {ty : FieldType} {v : Value} (hd : parseFieldDescriptor (TX9 k).2.2.1 = some ty) (hn : narrow ty v = v) (hfit : fits ty v = true) (hl : k < fs.length) (hdg : decode cc pc = .ok (.putfield index, 3)) (kk : ∀ (H1 : Heap) (locs1 : List Loc), PD D A (ws.set q0 (a, .inr (8, fs.set k v))) H1 → va_S A s.heap H1 locs1 → W p l e R s m args below meth c H1 locs1 cells slots Q (F0 m (pc + 3) ls rest)) : W p l e R s m args below meth c H locs cells slots Q (F0 m pc ls (v :: .ref a :: rest)) :=
  va_putF (ci := 8) (C := RX9) (T := TX9) (N := 4) hx hb ht uw_X9 tyX9 tyX9_ok nmX9 hown hK.1 hP.1 hP.2 hS q0 he rfl k hk (ht _ hli) hsame hfin hin2 hdecl hd hn hfit hl hdg (fun H1 locs1 h1 h2 h3 => kk H1 locs1 ⟨h1, h2⟩ h3)
theorem nX9 (hx : p.tables.exec = Jvm.exec) (hb : c.code = cc) (ht : ∀ w ∈ tblG, w.before args s = true) (hown : s.vm.findClass own = some m.cls) (hK : KK D cI cB cS s) (hP : PD D A ws H) (hS : va_S A s.heap H locs) (hA : ∀ q, s.heap.size ≤ q → A q) {index : Nat} (hcl : Cond.classLink own index RX9 ∈ tblG) (fs : List Value) (hfs : ∀ j, j < 4 → defaultValue (tyX9 j) = vp_V fs j) (hcells : cells + 1 ≤ R.cells) (hslots : slots + 4 ≤ R.slots) (hdg : decode cc pc = .ok (.new index, 3)) (kk : ∀ (q : Nat) (H1 : Heap), PD D A (ws ++ [oc q 8 fs]) H1 → va_S A s.heap H1 locs → W p l e R s m args below meth c H1 locs (cells + 1) (slots + 4) Q (F0 m (pc + 3) ls (.ref q :: rest))) : W p l e R s m args below meth c H locs cells slots Q (F0 m pc ls rest) :=
  va_new (ci := 8) (C := RX9) (T := TX9) (N := 4) hx hb ht uw_X9 tyX9 tyX9_ok hown (ht _ hcl) (ht _ it_X9) (ht _ in_X9) hK.1 hP.1 hP.2 hS hA rfl hfs hcells hslots hdg (fun q H1 h1 h2 h3 => kk q H1 ⟨h1, h2⟩ h3)
theorem gX10 (hx : p.tables.exec = Jvm.exec) (hb : c.code = cc) (ht : ∀ w ∈ tblG, w.before args s = true) (hown : s.vm.findClass own = some m.cls) (hK : KK D cI cB cS s) (hP : PD D A ws H) (q0 : Nat) {fs : List Value} (he : ws[q0]? = some (a, .inr (9, fs))) (k : Nat) (hk : k < 8) {index : Nat} (hli : Cond.fieldLink own index RX10 (TX10 k).2.1 (TX10 k).2.2.1 ∈ tblG) (hsame : ∀ x, s.fieldFound? (TX10 k).1 (TX10 k).2.1 (TX10 k).2.2.1 = some x → s.fieldFound? RX10 (TX10 k).2.1 (TX10 k).2.2.1 = some x) {v : Value} (hv : fs[k]? = some v) (hdg : decode cc pc = .ok (.getfield index, 3)) (kk : W p l e R s m args below meth c H locs cells slots Q (F0 m (pc + 3) ls (v :: rest))) : W p l e R s m args below meth c H locs cells slots Q (F0 m pc ls (.ref a :: rest)) :=
  va_get (ci := 9) (C := RX10) (T := TX10) (N := 8) hx hb ht uw_X10 hown hK.1 hP.1 q0 he rfl k hk (ht _ hli) hsame hv hdg kk
theorem pX10 (hx : p.tables.exec = Jvm.exec) (hb : c.code = cc) (ht : ∀ w ∈ tblG, w.before args s = true) (hown : s.vm.findClass own = some m.cls) (hK : KK D cI cB cS s) (hP : PD D A ws H) (hS : va_S A s.heap H locs) (q0 : Nat) {fs : List Value} (he : ws[q0]? = some (a, .inr (9, fs))) (k : Nat) (hk : k < 8) {index : Nat} (hli : Cond.fieldLink own index RX10 (TX10 k).2.1 (TX10 k).2.2.1 ∈ tblG) (hsame : ∀ x, s.fieldFound? (TX10 k).1 (TX10 k).2.1 (TX10 k).2.2.1 = some x → s.fieldFound? RX10 (TX10 k).2.1 (TX10 k).2.2.1 = some x) (hfin : (TX10 k).2.2.2 = false) {ty : FieldType} {v : Value} (hd : parseFieldDescriptor (TX10 k).2.2.1 = some ty) (hn : narrow ty v = v) (hfit : fits ty v = true) (hl : k < fs.length) (hdg : decode cc pc = .ok (.putfield index, 3)) (kk : ∀ (H1 : Heap) (locs1 : List Loc), PD D A (ws.set q0 (a, .inr (9, fs.set k v))) H1 → va_S A s.heap H1 locs1 → W p l e R s m args below meth c H1 locs1 cells slots Q (F0 m (pc + 3) ls rest)) : W p l e R s m args below meth c H locs cells slots Q (F0 m pc ls (v :: .ref a :: rest)) :=
  va_put (ci := 9) (C := RX10) (T := TX10) (N := 8) hx hb ht uw_X10 tyX10 tyX10_ok nmX10 hown hK.1 hP.1 hP.2 hS q0 he rfl k hk (ht _ hli) hsame hfin hd hn hfit hl hdg (fun H1 locs1 h1 h2 h3 => kk H1 locs1 ⟨h1, h2⟩ h3)
theorem qX10 (hx : p.tables.exec = Jvm.exec) (hb : c.code = cc) (ht : ∀ w ∈ tblG, w.before args s = true) (hown : s.vm.findClass own = some m.cls) (hK : KK D cI cB cS s) (hP : PD D A ws H) (hS : va_S A s.heap H locs) (q0 : Nat) {fs : List Value} (he : ws[q0]? = some (a, .inr (9, fs))) (k : Nat) (hk : k < 8) {index : Nat} (hli : Cond.fieldLink own index RX10 (TX10 k).2.1 (TX10 k).2.2.1 ∈ tblG) (hsame : ∀ x, s.fieldFound? (TX10 k).1 (TX10 k).2.1 (TX10 k).2.2.1 = some x → s.fieldFound? RX10 (TX10 k).2.1 (TX10 k).2.2.1 = some x) (hfin : (TX10 k).2.2.2 = true) (hin2 : meth.name = "<init>") (hdecl : (TX10 k).1 = own) {ty : FieldType} {v : Value} (hd : parseFieldDescriptor (TX10 k).2.2.1 = some ty) (hn : narrow ty v = v) (hfit : fits ty v = true) (hl : k < fs.length) (hdg : decode cc pc = .ok (.putfield index, 3)) (kk : ∀ (H1 : Heap) (locs1 : List Loc), PD D A (ws.set q0 (a, .inr (9, fs.set k v))) H1 → va_S A s.heap H1 locs1 → W p l e R s m args below meth c H1 locs1 cells slots Q (F0 m (pc + 3) ls rest)) : W p l e R s m args below meth c H locs cells slots Q (F0 m pc ls (v :: .ref a :: rest)) :=
  va_putF (ci := 9) (C := RX10) (T := TX10) (N := 8) hx hb ht uw_X10 tyX10 tyX10_ok nmX10 hown hK.1 hP.1 hP.2 hS q0 he rfl k hk (ht _ hli) hsame hfin hin2 hdecl hd hn hfit hl hdg (fun H1 locs1 h1 h2 h3 => kk H1 locs1 ⟨h1, h2⟩ h3)
theorem nX10 (hx : p.tables.exec = Jvm.exec) (hb : c.code = cc) (ht : ∀ w ∈ tblG, w.before args s = true) (hown : s.vm.findClass own = some m.cls) (hK : KK D cI cB cS s) (hP : PD D A ws H) (hS : va_S A s.heap H locs) (hA : ∀ q, s.heap.size ≤ q → A q) {index : Nat} (hcl : Cond.classLink own index RX10 ∈ tblG) (fs : List Value) (hfs : ∀ j, j < 8 → defaultValue (tyX10 j) = vp_V fs j) (hcells : cells + 1 ≤ R.cells) (hslots : slots + 8 ≤ R.slots) (hdg : decode cc pc = .ok (.new index, 3)) (kk : ∀ (q : Nat) (H1 : Heap), PD D A (ws ++ [oc q 9 fs]) H1 → va_S A s.heap H1 locs → W p l e R s m args below meth c H1 locs (cells + 1) (slots + 8) Q (F0 m (pc + 3) ls (.ref q :: rest))) : W p l e R s m args below meth c H locs cells slots Q (F0 m pc ls rest) :=
  va_new (ci := 9) (C := RX10) (T := TX10) (N := 8) hx hb ht uw_X10 tyX10 tyX10_ok hown (ht _ hcl) (ht _ it_X10) (ht _ in_X10) hK.1 hP.1 hP.2 hS hA rfl hfs hcells hslots hdg (fun q H1 h1 h2 h3 => kk q H1 ⟨h1, h2⟩ h3)
end FIELDS
end
