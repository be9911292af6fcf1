section
-- ===== PART A: goes FIRST, ahead of the names: the tables' words, and 'selects' of the private methods out of them =====
/-- a private method of a class that the tables say can be made, by its rows of tables_1 -/
def lw_okq (q : MethodName × Nat) : Prop := (q.1.cls ≠ "java/lang/invoke/MethodHandle" ∧ q.1.cls ≠ "java/lang/invoke/VarHandle") ∧ Cond.instantiable q.1.cls q.2 ∈ tables_1 ∧ Cond.privateMethod q.1 ∈ tables_1 ∧ Cond.instanceMethod q.1 ∈ tables_1
theorem lw_p0 : lw_okq (⟨"MomentDesk$Big", "trim", "()V"⟩, 3) := ⟨⟨by decide +kernel, by decide +kernel⟩, List.mem_of_getElem? (i := 34) (by decide +kernel), List.mem_of_getElem? (i := 126) (by decide +kernel), List.mem_of_getElem? (i := 127) (by decide +kernel)⟩
theorem lw_p1 : lw_okq (⟨"MomentDesk", "addMomentTimes", "(IJ)V"⟩, 10) := ⟨⟨by decide +kernel, by decide +kernel⟩, List.mem_of_getElem? (i := 13) (by decide +kernel), List.mem_of_getElem? (i := 255) (by decide +kernel), List.mem_of_getElem? (i := 256) (by decide +kernel)⟩
theorem lw_p2 : lw_okq (⟨"MomentDesk$Big", "makeRoom", "(I)V"⟩, 3) := ⟨⟨by decide +kernel, by decide +kernel⟩, List.mem_of_getElem? (i := 34) (by decide +kernel), List.mem_of_getElem? (i := 267) (by decide +kernel), List.mem_of_getElem? (i := 268) (by decide +kernel)⟩
theorem lw_p3 : lw_okq (⟨"MomentDesk$Big", "addSize", "(LMomentDesk$Big;)V"⟩, 3) := ⟨⟨by decide +kernel, by decide +kernel⟩, List.mem_of_getElem? (i := 34) (by decide +kernel), List.mem_of_getElem? (i := 303) (by decide +kernel), List.mem_of_getElem? (i := 304) (by decide +kernel)⟩
theorem lw_p4 : lw_okq (⟨"MomentDesk$Big", "takeSizeFrom", "(LMomentDesk$Big;)V"⟩, 3) := ⟨⟨by decide +kernel, by decide +kernel⟩, List.mem_of_getElem? (i := 34) (by decide +kernel), List.mem_of_getElem? (i := 318) (by decide +kernel), List.mem_of_getElem? (i := 319) (by decide +kernel)⟩
theorem lw_p5 : lw_okq (⟨"MomentDesk", "takesSumAsMoment", "(I)Z"⟩, 10) := ⟨⟨by decide +kernel, by decide +kernel⟩, List.mem_of_getElem? (i := 13) (by decide +kernel), List.mem_of_getElem? (i := 322) (by decide +kernel), List.mem_of_getElem? (i := 323) (by decide +kernel)⟩
theorem lw_p6 : lw_okq (⟨"MomentDesk$Polys", "setMinor", "(I)V"⟩, 6) := ⟨⟨by decide +kernel, by decide +kernel⟩, List.mem_of_getElem? (i := 27) (by decide +kernel), List.mem_of_getElem? (i := 377) (by decide +kernel), List.mem_of_getElem? (i := 378) (by decide +kernel)⟩
theorem lw_p7 : lw_okq (⟨"MomentDesk", "layRuleA", "(LMomentDesk$Polys;I)I"⟩, 10) := ⟨⟨by decide +kernel, by decide +kernel⟩, List.mem_of_getElem? (i := 13) (by decide +kernel), List.mem_of_getElem? (i := 423) (by decide +kernel), List.mem_of_getElem? (i := 424) (by decide +kernel)⟩
theorem lw_p8 : lw_okq (⟨"MomentDesk", "layRuleB", "(LMomentDesk$Polys;I)I"⟩, 10) := ⟨⟨by decide +kernel, by decide +kernel⟩, List.mem_of_getElem? (i := 13) (by decide +kernel), List.mem_of_getElem? (i := 432) (by decide +kernel), List.mem_of_getElem? (i := 433) (by decide +kernel)⟩
theorem lw_p9 : lw_okq (⟨"MomentDesk", "setQuotient", "(LMomentDesk$Polys;II)V"⟩, 10) := ⟨⟨by decide +kernel, by decide +kernel⟩, List.mem_of_getElem? (i := 13) (by decide +kernel), List.mem_of_getElem? (i := 509) (by decide +kernel), List.mem_of_getElem? (i := 510) (by decide +kernel)⟩
theorem lw_p10 : lw_okq (⟨"MomentDesk$Hand", "bringToLowest", "()V"⟩, 5) := ⟨⟨by decide +kernel, by decide +kernel⟩, List.mem_of_getElem? (i := 114) (by decide +kernel), List.mem_of_getElem? (i := 528) (by decide +kernel), List.mem_of_getElem? (i := 529) (by decide +kernel)⟩
theorem lw_p11 : lw_okq (⟨"MomentDesk", "rootsBelow", "(LMomentDesk$Polys;III)I"⟩, 10) := ⟨⟨by decide +kernel, by decide +kernel⟩, List.mem_of_getElem? (i := 13) (by decide +kernel), List.mem_of_getElem? (i := 570) (by decide +kernel), List.mem_of_getElem? (i := 571) (by decide +kernel)⟩
theorem lw_p12 : lw_okq (⟨"MomentDesk", "isKeptAt", "(I)Z"⟩, 10) := ⟨⟨by decide +kernel, by decide +kernel⟩, List.mem_of_getElem? (i := 13) (by decide +kernel), List.mem_of_getElem? (i := 606) (by decide +kernel), List.mem_of_getElem? (i := 607) (by decide +kernel)⟩
theorem lw_p13 : lw_okq (⟨"MomentDesk", "isSamePoly", "(LMomentDesk$Polys;LMomentDesk$Polys;I)Z"⟩, 10) := ⟨⟨by decide +kernel, by decide +kernel⟩, List.mem_of_getElem? (i := 13) (by decide +kernel), List.mem_of_getElem? (i := 614) (by decide +kernel), List.mem_of_getElem? (i := 615) (by decide +kernel)⟩
theorem lw_p14 : lw_okq (⟨"MomentDeskModel", "set", "(IJ)V"⟩, 17) := ⟨⟨by decide +kernel, by decide +kernel⟩, List.mem_of_getElem? (i := 618) (by decide +kernel), List.mem_of_getElem? (i := 624) (by decide +kernel), List.mem_of_getElem? (i := 625) (by decide +kernel)⟩
theorem lw_p15 : lw_okq (⟨"MomentDeskModel", "begin", "(I)V"⟩, 17) := ⟨⟨by decide +kernel, by decide +kernel⟩, List.mem_of_getElem? (i := 618) (by decide +kernel), List.mem_of_getElem? (i := 685) (by decide +kernel), List.mem_of_getElem? (i := 686) (by decide +kernel)⟩
def lw_privs_1 : List (MethodName × Nat) := [(⟨"MomentDesk$Big", "trim", "()V"⟩, 3), (⟨"MomentDesk", "addMomentTimes", "(IJ)V"⟩, 10), (⟨"MomentDesk$Big", "makeRoom", "(I)V"⟩, 3), (⟨"MomentDesk$Big", "addSize", "(LMomentDesk$Big;)V"⟩, 3), (⟨"MomentDesk$Big", "takeSizeFrom", "(LMomentDesk$Big;)V"⟩, 3), (⟨"MomentDesk", "takesSumAsMoment", "(I)Z"⟩, 10), (⟨"MomentDesk$Polys", "setMinor", "(I)V"⟩, 6), (⟨"MomentDesk", "layRuleA", "(LMomentDesk$Polys;I)I"⟩, 10), (⟨"MomentDesk", "layRuleB", "(LMomentDesk$Polys;I)I"⟩, 10), (⟨"MomentDesk", "setQuotient", "(LMomentDesk$Polys;II)V"⟩, 10), (⟨"MomentDesk$Hand", "bringToLowest", "()V"⟩, 5), (⟨"MomentDesk", "rootsBelow", "(LMomentDesk$Polys;III)I"⟩, 10), (⟨"MomentDesk", "isKeptAt", "(I)Z"⟩, 10), (⟨"MomentDesk", "isSamePoly", "(LMomentDesk$Polys;LMomentDesk$Polys;I)Z"⟩, 10), (⟨"MomentDeskModel", "set", "(IJ)V"⟩, 17), (⟨"MomentDeskModel", "begin", "(I)V"⟩, 17)]
theorem lw_r1 : ∀ q ∈ lw_privs_1, lw_okq q := List.forall_mem_cons.mpr ⟨lw_p0, List.forall_mem_cons.mpr ⟨lw_p1, List.forall_mem_cons.mpr ⟨lw_p2, List.forall_mem_cons.mpr ⟨lw_p3, List.forall_mem_cons.mpr ⟨lw_p4, List.forall_mem_cons.mpr ⟨lw_p5, List.forall_mem_cons.mpr ⟨lw_p6, List.forall_mem_cons.mpr ⟨lw_p7, List.forall_mem_cons.mpr ⟨lw_p8, List.forall_mem_cons.mpr ⟨lw_p9, List.forall_mem_cons.mpr ⟨lw_p10, List.forall_mem_cons.mpr ⟨lw_p11, List.forall_mem_cons.mpr ⟨lw_p12, List.forall_mem_cons.mpr ⟨lw_p13, List.forall_mem_cons.mpr ⟨lw_p14, List.forall_mem_cons.mpr ⟨lw_p15, fun _ h => absurd h List.not_mem_nil⟩⟩⟩⟩⟩⟩⟩⟩⟩⟩⟩⟩⟩⟩⟩⟩
theorem lw_p16 : lw_okq (⟨"MomentDeskModel", "addWeight", "(IJ)V"⟩, 17) := ⟨⟨by decide +kernel, by decide +kernel⟩, List.mem_of_getElem? (i := 618) (by decide +kernel), List.mem_of_getElem? (i := 700) (by decide +kernel), List.mem_of_getElem? (i := 701) (by decide +kernel)⟩
theorem lw_p17 : lw_okq (⟨"MomentDeskModel", "times", "(IJ)V"⟩, 17) := ⟨⟨by decide +kernel, by decide +kernel⟩, List.mem_of_getElem? (i := 618) (by decide +kernel), List.mem_of_getElem? (i := 732) (by decide +kernel), List.mem_of_getElem? (i := 733) (by decide +kernel)⟩
theorem lw_p18 : lw_okq (⟨"MomentDeskModel", "multiply", "(III)V"⟩, 17) := ⟨⟨by decide +kernel, by decide +kernel⟩, List.mem_of_getElem? (i := 618) (by decide +kernel), List.mem_of_getElem? (i := 736) (by decide +kernel), List.mem_of_getElem? (i := 737) (by decide +kernel)⟩
theorem lw_p19 : lw_okq (⟨"MomentDeskModel", "cut", "(I)V"⟩, 17) := ⟨⟨by decide +kernel, by decide +kernel⟩, List.mem_of_getElem? (i := 618) (by decide +kernel), List.mem_of_getElem? (i := 740) (by decide +kernel), List.mem_of_getElem? (i := 741) (by decide +kernel)⟩
theorem lw_p20 : lw_okq (⟨"MomentDeskModel", "copy", "(II)V"⟩, 17) := ⟨⟨by decide +kernel, by decide +kernel⟩, List.mem_of_getElem? (i := 618) (by decide +kernel), List.mem_of_getElem? (i := 744) (by decide +kernel), List.mem_of_getElem? (i := 745) (by decide +kernel)⟩
theorem lw_p21 : lw_okq (⟨"MomentDeskModel", "add", "(IIII)V"⟩, 17) := ⟨⟨by decide +kernel, by decide +kernel⟩, List.mem_of_getElem? (i := 618) (by decide +kernel), List.mem_of_getElem? (i := 748) (by decide +kernel), List.mem_of_getElem? (i := 749) (by decide +kernel)⟩
theorem lw_p22 : lw_okq (⟨"MomentDeskModel", "join", "(III)V"⟩, 17) := ⟨⟨by decide +kernel, by decide +kernel⟩, List.mem_of_getElem? (i := 618) (by decide +kernel), List.mem_of_getElem? (i := 752) (by decide +kernel), List.mem_of_getElem? (i := 753) (by decide +kernel)⟩
theorem lw_p23 : lw_okq (⟨"MomentDeskModel", "limb", "(II)I"⟩, 17) := ⟨⟨by decide +kernel, by decide +kernel⟩, List.mem_of_getElem? (i := 618) (by decide +kernel), List.mem_of_getElem? (i := 756) (by decide +kernel), List.mem_of_getElem? (i := 757) (by decide +kernel)⟩
theorem lw_p24 : lw_okq (⟨"MomentDeskModel", "compare", "(II)I"⟩, 17) := ⟨⟨by decide +kernel, by decide +kernel⟩, List.mem_of_getElem? (i := 618) (by decide +kernel), List.mem_of_getElem? (i := 761) (by decide +kernel), List.mem_of_getElem? (i := 762) (by decide +kernel)⟩
theorem lw_p25 : lw_okq (⟨"MomentDeskModel", "less", "(III)V"⟩, 17) := ⟨⟨by decide +kernel, by decide +kernel⟩, List.mem_of_getElem? (i := 618) (by decide +kernel), List.mem_of_getElem? (i := 765) (by decide +kernel), List.mem_of_getElem? (i := 766) (by decide +kernel)⟩
theorem lw_p26 : lw_okq (⟨"MomentDeskModel", "isMoment", "(II)Z"⟩, 17) := ⟨⟨by decide +kernel, by decide +kernel⟩, List.mem_of_getElem? (i := 618) (by decide +kernel), List.mem_of_getElem? (i := 770) (by decide +kernel), List.mem_of_getElem? (i := 771) (by decide +kernel)⟩
theorem lw_p27 : lw_okq (⟨"MomentDeskModel", "bitsOf", "(I)I"⟩, 17) := ⟨⟨by decide +kernel, by decide +kernel⟩, List.mem_of_getElem? (i := 618) (by decide +kernel), List.mem_of_getElem? (i := 774) (by decide +kernel), List.mem_of_getElem? (i := 775) (by decide +kernel)⟩
theorem lw_p28 : lw_okq (⟨"MomentDeskModel", "changeTo", "(I)V"⟩, 17) := ⟨⟨by decide +kernel, by decide +kernel⟩, List.mem_of_getElem? (i := 618) (by decide +kernel), List.mem_of_getElem? (i := 778) (by decide +kernel), List.mem_of_getElem? (i := 779) (by decide +kernel)⟩
theorem lw_p29 : lw_okq (⟨"MomentDeskModel", "lay", "(II)I"⟩, 17) := ⟨⟨by decide +kernel, by decide +kernel⟩, List.mem_of_getElem? (i := 618) (by decide +kernel), List.mem_of_getElem? (i := 790) (by decide +kernel), List.mem_of_getElem? (i := 791) (by decide +kernel)⟩
theorem lw_p30 : lw_okq (⟨"MomentDeskModel", "shorten", "(II)V"⟩, 17) := ⟨⟨by decide +kernel, by decide +kernel⟩, List.mem_of_getElem? (i := 618) (by decide +kernel), List.mem_of_getElem? (i := 794) (by decide +kernel), List.mem_of_getElem? (i := 795) (by decide +kernel)⟩
theorem lw_p31 : lw_okq (⟨"MomentDeskModel", "findCommon", "(II)V"⟩, 17) := ⟨⟨by decide +kernel, by decide +kernel⟩, List.mem_of_getElem? (i := 618) (by decide +kernel), List.mem_of_getElem? (i := 798) (by decide +kernel), List.mem_of_getElem? (i := 799) (by decide +kernel)⟩
def lw_privs_2 : List (MethodName × Nat) := [(⟨"MomentDeskModel", "addWeight", "(IJ)V"⟩, 17), (⟨"MomentDeskModel", "times", "(IJ)V"⟩, 17), (⟨"MomentDeskModel", "multiply", "(III)V"⟩, 17), (⟨"MomentDeskModel", "cut", "(I)V"⟩, 17), (⟨"MomentDeskModel", "copy", "(II)V"⟩, 17), (⟨"MomentDeskModel", "add", "(IIII)V"⟩, 17), (⟨"MomentDeskModel", "join", "(III)V"⟩, 17), (⟨"MomentDeskModel", "limb", "(II)I"⟩, 17), (⟨"MomentDeskModel", "compare", "(II)I"⟩, 17), (⟨"MomentDeskModel", "less", "(III)V"⟩, 17), (⟨"MomentDeskModel", "isMoment", "(II)Z"⟩, 17), (⟨"MomentDeskModel", "bitsOf", "(I)I"⟩, 17), (⟨"MomentDeskModel", "changeTo", "(I)V"⟩, 17), (⟨"MomentDeskModel", "lay", "(II)I"⟩, 17), (⟨"MomentDeskModel", "shorten", "(II)V"⟩, 17), (⟨"MomentDeskModel", "findCommon", "(II)V"⟩, 17)]
theorem lw_r2 : ∀ q ∈ lw_privs_2, lw_okq q := List.forall_mem_cons.mpr ⟨lw_p16, List.forall_mem_cons.mpr ⟨lw_p17, List.forall_mem_cons.mpr ⟨lw_p18, List.forall_mem_cons.mpr ⟨lw_p19, List.forall_mem_cons.mpr ⟨lw_p20, List.forall_mem_cons.mpr ⟨lw_p21, List.forall_mem_cons.mpr ⟨lw_p22, List.forall_mem_cons.mpr ⟨lw_p23, List.forall_mem_cons.mpr ⟨lw_p24, List.forall_mem_cons.mpr ⟨lw_p25, List.forall_mem_cons.mpr ⟨lw_p26, List.forall_mem_cons.mpr ⟨lw_p27, List.forall_mem_cons.mpr ⟨lw_p28, List.forall_mem_cons.mpr ⟨lw_p29, List.forall_mem_cons.mpr ⟨lw_p30, List.forall_mem_cons.mpr ⟨lw_p31, fun _ h => absurd h List.not_mem_nil⟩⟩⟩⟩⟩⟩⟩⟩⟩⟩⟩⟩⟩⟩⟩⟩
theorem lw_p32 : lw_okq (⟨"MomentDeskModel", "isEven", "(I)Z"⟩, 17) := ⟨⟨by decide +kernel, by decide +kernel⟩, List.mem_of_getElem? (i := 618) (by decide +kernel), List.mem_of_getElem? (i := 802) (by decide +kernel), List.mem_of_getElem? (i := 803) (by decide +kernel)⟩
theorem lw_p33 : lw_okq (⟨"MomentDeskModel", "halve", "(I)V"⟩, 17) := ⟨⟨by decide +kernel, by decide +kernel⟩, List.mem_of_getElem? (i := 618) (by decide +kernel), List.mem_of_getElem? (i := 806) (by decide +kernel), List.mem_of_getElem? (i := 807) (by decide +kernel)⟩
theorem lw_p34 : lw_okq (⟨"MomentDeskModel", "twice", "(II)V"⟩, 17) := ⟨⟨by decide +kernel, by decide +kernel⟩, List.mem_of_getElem? (i := 618) (by decide +kernel), List.mem_of_getElem? (i := 810) (by decide +kernel), List.mem_of_getElem? (i := 811) (by decide +kernel)⟩
theorem lw_p35 : lw_okq (⟨"MomentDeskModel", "divide", "(I)V"⟩, 17) := ⟨⟨by decide +kernel, by decide +kernel⟩, List.mem_of_getElem? (i := 618) (by decide +kernel), List.mem_of_getElem? (i := 814) (by decide +kernel), List.mem_of_getElem? (i := 815) (by decide +kernel)⟩
theorem lw_p36 : lw_okq (⟨"MomentDeskModel", "hasWorth", "(I)Z"⟩, 17) := ⟨⟨by decide +kernel, by decide +kernel⟩, List.mem_of_getElem? (i := 618) (by decide +kernel), List.mem_of_getElem? (i := 826) (by decide +kernel), List.mem_of_getElem? (i := 827) (by decide +kernel)⟩
theorem lw_p37 : lw_okq (⟨"MomentDeskModel", "hasPolynomial", "(I)Z"⟩, 17) := ⟨⟨by decide +kernel, by decide +kernel⟩, List.mem_of_getElem? (i := 618) (by decide +kernel), List.mem_of_getElem? (i := 830) (by decide +kernel), List.mem_of_getElem? (i := 831) (by decide +kernel)⟩
theorem lw_p38 : lw_okq (⟨"MomentDeskModel", "top", "()I"⟩, 17) := ⟨⟨by decide +kernel, by decide +kernel⟩, List.mem_of_getElem? (i := 618) (by decide +kernel), List.mem_of_getElem? (i := 835) (by decide +kernel), List.mem_of_getElem? (i := 836) (by decide +kernel)⟩
theorem lw_p39 : lw_okq (⟨"MomentDeskModel", "worthOf", "(II)V"⟩, 17) := ⟨⟨by decide +kernel, by decide +kernel⟩, List.mem_of_getElem? (i := 618) (by decide +kernel), List.mem_of_getElem? (i := 839) (by decide +kernel), List.mem_of_getElem? (i := 840) (by decide +kernel)⟩
theorem lw_p40 : lw_okq (⟨"MomentDeskModel", "determinant", "(III)V"⟩, 17) := ⟨⟨by decide +kernel, by decide +kernel⟩, List.mem_of_getElem? (i := 618) (by decide +kernel), List.mem_of_getElem? (i := 843) (by decide +kernel), List.mem_of_getElem? (i := 844) (by decide +kernel)⟩
theorem lw_p41 : lw_okq (⟨"MomentDeskModel", "parity", "(I)I"⟩, 17) := ⟨⟨by decide +kernel, by decide +kernel⟩, List.mem_of_getElem? (i := 618) (by decide +kernel), List.mem_of_getElem? (i := 847) (by decide +kernel), List.mem_of_getElem? (i := 848) (by decide +kernel)⟩
theorem lw_p42 : lw_okq (⟨"MomentDeskModel", "nextOrder", "(I)Z"⟩, 17) := ⟨⟨by decide +kernel, by decide +kernel⟩, List.mem_of_getElem? (i := 618) (by decide +kernel), List.mem_of_getElem? (i := 851) (by decide +kernel), List.mem_of_getElem? (i := 852) (by decide +kernel)⟩
theorem lw_p43 : lw_okq (⟨"MomentDeskModel", "swap", "(II)V"⟩, 17) := ⟨⟨by decide +kernel, by decide +kernel⟩, List.mem_of_getElem? (i := 618) (by decide +kernel), List.mem_of_getElem? (i := 855) (by decide +kernel), List.mem_of_getElem? (i := 856) (by decide +kernel)⟩
theorem lw_p44 : lw_okq (⟨"MomentDeskModel", "number", "(III)V"⟩, 17) := ⟨⟨by decide +kernel, by decide +kernel⟩, List.mem_of_getElem? (i := 618) (by decide +kernel), List.mem_of_getElem? (i := 867) (by decide +kernel), List.mem_of_getElem? (i := 868) (by decide +kernel)⟩
theorem lw_p45 : lw_okq (⟨"MomentDeskModel", "value", "(IJJI)V"⟩, 17) := ⟨⟨by decide +kernel, by decide +kernel⟩, List.mem_of_getElem? (i := 618) (by decide +kernel), List.mem_of_getElem? (i := 882) (by decide +kernel), List.mem_of_getElem? (i := 883) (by decide +kernel)⟩
theorem lw_p46 : lw_okq (⟨"MomentDeskModel", "of", "(III)V"⟩, 17) := ⟨⟨by decide +kernel, by decide +kernel⟩, List.mem_of_getElem? (i := 618) (by decide +kernel), List.mem_of_getElem? (i := 890) (by decide +kernel), List.mem_of_getElem? (i := 891) (by decide +kernel)⟩
theorem lw_p47 : lw_okq (⟨"MomentDeskModel", "worthSign", "(I)I"⟩, 17) := ⟨⟨by decide +kernel, by decide +kernel⟩, List.mem_of_getElem? (i := 618) (by decide +kernel), List.mem_of_getElem? (i := 898) (by decide +kernel), List.mem_of_getElem? (i := 899) (by decide +kernel)⟩
def lw_privs_3 : List (MethodName × Nat) := [(⟨"MomentDeskModel", "isEven", "(I)Z"⟩, 17), (⟨"MomentDeskModel", "halve", "(I)V"⟩, 17), (⟨"MomentDeskModel", "twice", "(II)V"⟩, 17), (⟨"MomentDeskModel", "divide", "(I)V"⟩, 17), (⟨"MomentDeskModel", "hasWorth", "(I)Z"⟩, 17), (⟨"MomentDeskModel", "hasPolynomial", "(I)Z"⟩, 17), (⟨"MomentDeskModel", "top", "()I"⟩, 17), (⟨"MomentDeskModel", "worthOf", "(II)V"⟩, 17), (⟨"MomentDeskModel", "determinant", "(III)V"⟩, 17), (⟨"MomentDeskModel", "parity", "(I)I"⟩, 17), (⟨"MomentDeskModel", "nextOrder", "(I)Z"⟩, 17), (⟨"MomentDeskModel", "swap", "(II)V"⟩, 17), (⟨"MomentDeskModel", "number", "(III)V"⟩, 17), (⟨"MomentDeskModel", "value", "(IJJI)V"⟩, 17), (⟨"MomentDeskModel", "of", "(III)V"⟩, 17), (⟨"MomentDeskModel", "worthSign", "(I)I"⟩, 17)]
theorem lw_r3 : ∀ q ∈ lw_privs_3, lw_okq q := List.forall_mem_cons.mpr ⟨lw_p32, List.forall_mem_cons.mpr ⟨lw_p33, List.forall_mem_cons.mpr ⟨lw_p34, List.forall_mem_cons.mpr ⟨lw_p35, List.forall_mem_cons.mpr ⟨lw_p36, List.forall_mem_cons.mpr ⟨lw_p37, List.forall_mem_cons.mpr ⟨lw_p38, List.forall_mem_cons.mpr ⟨lw_p39, List.forall_mem_cons.mpr ⟨lw_p40, List.forall_mem_cons.mpr ⟨lw_p41, List.forall_mem_cons.mpr ⟨lw_p42, List.forall_mem_cons.mpr ⟨lw_p43, List.forall_mem_cons.mpr ⟨lw_p44, List.forall_mem_cons.mpr ⟨lw_p45, List.forall_mem_cons.mpr ⟨lw_p46, List.forall_mem_cons.mpr ⟨lw_p47, fun _ h => absurd h List.not_mem_nil⟩⟩⟩⟩⟩⟩⟩⟩⟩⟩⟩⟩⟩⟩⟩⟩
theorem lw_p48 : lw_okq (⟨"MomentDeskModel", "leftOnce", "(I)V"⟩, 17) := ⟨⟨by decide +kernel, by decide +kernel⟩, List.mem_of_getElem? (i := 618) (by decide +kernel), List.mem_of_getElem? (i := 912) (by decide +kernel), List.mem_of_getElem? (i := 913) (by decide +kernel)⟩
theorem lw_p49 : lw_okq (⟨"MomentDeskModel", "areAbove", "(I)Z"⟩, 17) := ⟨⟨by decide +kernel, by decide +kernel⟩, List.mem_of_getElem? (i := 618) (by decide +kernel), List.mem_of_getElem? (i := 935) (by decide +kernel), List.mem_of_getElem? (i := 936) (by decide +kernel)⟩
theorem lw_p50 : lw_okq (⟨"MomentDeskModel", "rootsBelow", "(IJJ)I"⟩, 17) := ⟨⟨by decide +kernel, by decide +kernel⟩, List.mem_of_getElem? (i := 618) (by decide +kernel), List.mem_of_getElem? (i := 939) (by decide +kernel), List.mem_of_getElem? (i := 940) (by decide +kernel)⟩
theorem lw_p51 : lw_okq (⟨"MomentDeskModel", "isKept", "(I)Z"⟩, 17) := ⟨⟨by decide +kernel, by decide +kernel⟩, List.mem_of_getElem? (i := 618) (by decide +kernel), List.mem_of_getElem? (i := 975) (by decide +kernel), List.mem_of_getElem? (i := 976) (by decide +kernel)⟩
theorem lw_p52 : lw_okq (⟨"MomentDeskModel", "take", "(I)V"⟩, 17) := ⟨⟨by decide +kernel, by decide +kernel⟩, List.mem_of_getElem? (i := 618) (by decide +kernel), List.mem_of_getElem? (i := 979) (by decide +kernel), List.mem_of_getElem? (i := 980) (by decide +kernel)⟩
theorem lw_p53 : lw_okq (⟨"MomentDeskModel", "isOther", "(II)Z"⟩, 17) := ⟨⟨by decide +kernel, by decide +kernel⟩, List.mem_of_getElem? (i := 618) (by decide +kernel), List.mem_of_getElem? (i := 987) (by decide +kernel), List.mem_of_getElem? (i := 988) (by decide +kernel)⟩
def lw_privs_4 : List (MethodName × Nat) := [(⟨"MomentDeskModel", "leftOnce", "(I)V"⟩, 17), (⟨"MomentDeskModel", "areAbove", "(I)Z"⟩, 17), (⟨"MomentDeskModel", "rootsBelow", "(IJJ)I"⟩, 17), (⟨"MomentDeskModel", "isKept", "(I)Z"⟩, 17), (⟨"MomentDeskModel", "take", "(I)V"⟩, 17), (⟨"MomentDeskModel", "isOther", "(II)Z"⟩, 17)]
theorem lw_r4 : ∀ q ∈ lw_privs_4, lw_okq q := List.forall_mem_cons.mpr ⟨lw_p48, List.forall_mem_cons.mpr ⟨lw_p49, List.forall_mem_cons.mpr ⟨lw_p50, List.forall_mem_cons.mpr ⟨lw_p51, List.forall_mem_cons.mpr ⟨lw_p52, List.forall_mem_cons.mpr ⟨lw_p53, fun _ h => absurd h List.not_mem_nil⟩⟩⟩⟩⟩⟩
def lw_privs : List (MethodName × Nat) := lw_privs_1 ++ (lw_privs_2 ++ (lw_privs_3 ++ (lw_privs_4)))
def lw_tbl : List Cond := k2_sels lw_privs ++ tables_1
theorem lw_privs_ok : ∀ q ∈ lw_privs, lw_okq q := by
  show ∀ q ∈ lw_privs_1 ++ (lw_privs_2 ++ (lw_privs_3 ++ (lw_privs_4))), lw_okq q
  exact List.forall_mem_append.mpr ⟨lw_r1, List.forall_mem_append.mpr ⟨lw_r2, List.forall_mem_append.mpr ⟨lw_r3, lw_r4⟩⟩⟩
end
section
def RX0 : String := "MomentDesk$Big"
def TX0 : u_T := fun k => match k with
  | 0 => ("MomentDesk$Big", "parts", "[I", false)
  | 1 => ("MomentDesk$Big", "size", "I", false)
  | _ => ("MomentDesk$Big", "negative", "Z", false)
def tyX0 : Nat → FieldType := fun k => match k with
  | 0 => .array .int
  | 1 => .int
  | _ => .boolean
abbrev wsX00 : List Cond := u_ws RX0 TX0 3
theorem nmX0 : ∀ a, a < 3 → ∀ b, b < 3 → a ≠ b → (TX0 a).2.1 ≠ (TX0 b).2.1 := by decide +kernel
theorem tyX0_ok : ∀ k, k < 3 → parseFieldDescriptor (TX0 k).2.2.1 = some (tyX0 k) := by decide +kernel
abbrev cX0_init : ByteArray := prog_2_method_1_code
def yX0_init : MethodName := ⟨RX0, "<init>", "(I)V"⟩
abbrev cX0_setLong : ByteArray := prog_2_method_2_code
def yX0_setLong : MethodName := ⟨RX0, "setLong", "(J)V"⟩
abbrev cX0_setBig : ByteArray := prog_2_method_3_code
def yX0_setBig : MethodName := ⟨RX0, "setBig", "(LMomentDesk$Big;)V"⟩
abbrev cX0_toLong : ByteArray := prog_2_method_4_code
def yX0_toLong : MethodName := ⟨RX0, "toLong", "()J"⟩
abbrev cX0_signum : ByteArray := prog_2_method_5_code
def yX0_signum : MethodName := ⟨RX0, "signum", "()I"⟩
abbrev cX0_negate : ByteArray := prog_2_method_6_code
def yX0_negate : MethodName := ⟨RX0, "negate", "()V"⟩
abbrev cX0_dropSign : ByteArray := prog_2_method_7_code
def yX0_dropSign : MethodName := ⟨RX0, "dropSign", "()V"⟩
abbrev cX0_bitLength : ByteArray := prog_2_method_8_code
def yX0_bitLength : MethodName := ⟨RX0, "bitLength", "()I"⟩
abbrev cX0_sixteenBits : ByteArray := prog_2_method_9_code
def yX0_sixteenBits : MethodName := ⟨RX0, "sixteenBits", "(I)I"⟩
abbrev cX0_twos : ByteArray := prog_2_method_10_code
def yX0_twos : MethodName := ⟨RX0, "twos", "()I"⟩
abbrev cX0_compareSize : ByteArray := prog_2_method_11_code
def yX0_compareSize : MethodName := ⟨RX0, "compareSize", "(LMomentDesk$Big;)I"⟩
abbrev cX0_take : ByteArray := prog_2_method_12_code
def yX0_take : MethodName := ⟨RX0, "take", "(LMomentDesk$Big;)V"⟩
abbrev cX0_addProduct : ByteArray := prog_2_method_13_code
def yX0_addProduct : MethodName := ⟨RX0, "addProduct", "(LMomentDesk$Big;LMomentDesk$Big;LMomentDesk$Big;)V"⟩
abbrev cX0_addSigned : ByteArray := prog_2_method_14_code
def yX0_addSigned : MethodName := ⟨RX0, "addSigned", "(LMomentDesk$Big;Z)V"⟩
abbrev cX0_addSize : ByteArray := prog_2_method_15_code
def yX0_addSize : MethodName := ⟨RX0, "addSize", "(LMomentDesk$Big;)V"⟩
abbrev cX0_takeSize : ByteArray := prog_2_method_16_code
def yX0_takeSize : MethodName := ⟨RX0, "takeSize", "(LMomentDesk$Big;)V"⟩
abbrev cX0_takeSizeFrom : ByteArray := prog_2_method_17_code
def yX0_takeSizeFrom : MethodName := ⟨RX0, "takeSizeFrom", "(LMomentDesk$Big;)V"⟩
abbrev cX0_setProduct : ByteArray := prog_2_method_18_code
def yX0_setProduct : MethodName := ⟨RX0, "setProduct", "(LMomentDesk$Big;LMomentDesk$Big;)V"⟩
abbrev cX0_times : ByteArray := prog_2_method_19_code
def yX0_times : MethodName := ⟨RX0, "times", "(LMomentDesk$Big;LMomentDesk$Big;)V"⟩
abbrev cX0_timesInt : ByteArray := prog_2_method_20_code
def yX0_timesInt : MethodName := ⟨RX0, "timesInt", "(I)V"⟩
abbrev cX0_shiftRight : ByteArray := prog_2_method_21_code
def yX0_shiftRight : MethodName := ⟨RX0, "shiftRight", "(I)V"⟩
abbrev cX0_divideWhole : ByteArray := prog_2_method_22_code
def yX0_divideWhole : MethodName := ⟨RX0, "divideWhole", "(LMomentDesk$Big;LMomentDesk$Big;)V"⟩
abbrev cX0_divideByOdd : ByteArray := prog_2_method_23_code
def yX0_divideByOdd : MethodName := ⟨RX0, "divideByOdd", "(LMomentDesk$Big;)V"⟩
abbrev cX0_inverseOf : ByteArray := prog_2_method_24_code
def yX0_inverseOf : MethodName := ⟨RX0, "inverseOf", "(I)I"⟩
abbrev cX0_trim : ByteArray := prog_2_method_25_code
def yX0_trim : MethodName := ⟨RX0, "trim", "()V"⟩
abbrev cX0_makeRoom : ByteArray := prog_2_method_26_code
def yX0_makeRoom : MethodName := ⟨RX0, "makeRoom", "(I)V"⟩
def RX1 : String := "MomentDesk$Hand"
def TX1 : u_T := fun k => match k with
  | 0 => ("MomentDesk$Hand", "upper", "LMomentDesk$Big;", true)
  | 1 => ("MomentDesk$Hand", "lower", "LMomentDesk$Big;", true)
  | 2 => ("MomentDesk$Hand", "left", "LMomentDesk$Big;", true)
  | 3 => ("MomentDesk$Hand", "right", "LMomentDesk$Big;", true)
  | _ => ("MomentDesk$Hand", "isLowest", "Z", false)
def tyX1 : Nat → FieldType := fun k => match k with
  | 0 => .object "MomentDesk$Big"
  | 1 => .object "MomentDesk$Big"
  | 2 => .object "MomentDesk$Big"
  | 3 => .object "MomentDesk$Big"
  | _ => .boolean
abbrev wsX10 : List Cond := u_ws RX1 TX1 5
theorem nmX1 : ∀ a, a < 5 → ∀ b, b < 5 → a ≠ b → (TX1 a).2.1 ≠ (TX1 b).2.1 := by decide +kernel
theorem tyX1_ok : ∀ k, k < 5 → parseFieldDescriptor (TX1 k).2.2.1 = some (tyX1 k) := by decide +kernel
abbrev cX1_init : ByteArray := prog_3_method_1_code
def yX1_init : MethodName := ⟨RX1, "<init>", "()V"⟩
abbrev cX1_layWhole : ByteArray := prog_3_method_2_code
def yX1_layWhole : MethodName := ⟨RX1, "layWhole", "(J)I"⟩
abbrev cX1_lay : ByteArray := prog_3_method_3_code
def yX1_lay : MethodName := ⟨RX1, "lay", "(LMomentDesk$Big;LMomentDesk$Big;)I"⟩
abbrev cX1_signAnswer : ByteArray := prog_3_method_4_code
def yX1_signAnswer : MethodName := ⟨RX1, "signAnswer", "()I"⟩
abbrev cX1_lowestPart : ByteArray := prog_3_method_5_code
def yX1_lowestPart : MethodName := ⟨RX1, "lowestPart", "(I)LMomentDesk$Big;"⟩
abbrev cX1_bringToLowest : ByteArray := prog_3_method_6_code
def yX1_bringToLowest : MethodName := ⟨RX1, "bringToLowest", "()V"⟩
abbrev cX1_greatestOfOdd : ByteArray := prog_3_method_7_code
def yX1_greatestOfOdd : MethodName := ⟨RX1, "greatestOfOdd", "(LMomentDesk$Big;LMomentDesk$Big;)LMomentDesk$Big;"⟩
def RX2 : String := "MomentDesk$Polys"
def TX2 : u_T := fun k => match k with
  | 0 => ("MomentDesk$Polys", "minors", "[LMomentDesk$Big;", true)
  | 1 => ("MomentDesk$Polys", "moments", "[LMomentDesk$Big;", true)
  | 2 => ("MomentDesk$Polys", "spare", "LMomentDesk$Big;", true)
  | 3 => ("MomentDesk$Polys", "part", "LMomentDesk$Big;", true)
  | 4 => ("MomentDesk$Polys", "last", "I", false)
  | _ => ("MomentDesk$Polys", "top", "I", false)
def tyX2 : Nat → FieldType := fun k => match k with
  | 0 => .array (.object "MomentDesk$Big")
  | 1 => .array (.object "MomentDesk$Big")
  | 2 => .object "MomentDesk$Big"
  | 3 => .object "MomentDesk$Big"
  | 4 => .int
  | _ => .int
abbrev wsX20 : List Cond := u_ws RX2 TX2 6
theorem nmX2 : ∀ a, a < 6 → ∀ b, b < 6 → a ≠ b → (TX2 a).2.1 ≠ (TX2 b).2.1 := by decide +kernel
theorem tyX2_ok : ∀ k, k < 6 → parseFieldDescriptor (TX2 k).2.2.1 = some (tyX2 k) := by decide +kernel
abbrev cX2_init : ByteArray := prog_4_method_1_code
def yX2_init : MethodName := ⟨RX2, "<init>", "()V"⟩
abbrev cX2_take : ByteArray := prog_4_method_2_code
def yX2_take : MethodName := ⟨RX2, "take", "([JI)V"⟩
abbrev cX2_setMinor : ByteArray := prog_4_method_3_code
def yX2_setMinor : MethodName := ⟨RX2, "setMinor", "(I)V"⟩
abbrev cX2_has : ByteArray := prog_4_method_4_code
def yX2_has : MethodName := ⟨RX2, "has", "(I)Z"⟩
abbrev cX2_hasWorth : ByteArray := prog_4_method_5_code
def yX2_hasWorth : MethodName := ⟨RX2, "hasWorth", "(I)Z"⟩
abbrev cX2_determinant : ByteArray := prog_4_method_6_code
def yX2_determinant : MethodName := ⟨RX2, "determinant", "(I)LMomentDesk$Big;"⟩
abbrev cX2_number : ByteArray := prog_4_method_7_code
def yX2_number : MethodName := ⟨RX2, "number", "(II)LMomentDesk$Big;"⟩
abbrev cX2_worthSign : ByteArray := prog_4_method_8_code
def yX2_worthSign : MethodName := ⟨RX2, "worthSign", "(I)I"⟩
abbrev cX2_goodWorths : ByteArray := prog_4_method_9_code
def yX2_goodWorths : MethodName := ⟨RX2, "goodWorths", "()I"⟩
abbrev cX2_setOf : ByteArray := prog_4_method_10_code
def yX2_setOf : MethodName := ⟨RX2, "setOf", "(LMomentDesk$Big;II)V"⟩
abbrev cX2_evaluate : ByteArray := prog_4_method_11_code
def yX2_evaluate : MethodName := ⟨RX2, "evaluate", "(LMomentDesk$Big;III)V"⟩
def RX3 : String := "MomentDesk$Weights"
def TX3 : u_T := fun k => match k with
  | 0 => ("MomentDesk$Weights", "kind", "I", false)
  | 1 => ("MomentDesk$Weights", "last", "I", false)
  | 2 => ("MomentDesk$Weights", "points", "I", false)
  | 3 => ("MomentDesk$Weights", "changed", "Z", false)
  | 4 => ("MomentDesk$Weights", "weightAt", "[I", true)
  | 5 => ("MomentDesk$Weights", "moments", "[J", true)
  | 6 => ("MomentDesk$Weights", "polys", "LMomentDesk$Polys;", true)
  | _ => ("MomentDesk$Weights", "polysAreOld", "Z", false)
def tyX3 : Nat → FieldType := fun k => match k with
  | 0 => .int
  | 1 => .int
  | 2 => .int
  | 3 => .boolean
  | 4 => .array .int
  | 5 => .array .long
  | 6 => .object "MomentDesk$Polys"
  | _ => .boolean
abbrev wsX30 : List Cond := u_ws RX3 TX3 8
theorem nmX3 : ∀ a, a < 8 → ∀ b, b < 8 → a ≠ b → (TX3 a).2.1 ≠ (TX3 b).2.1 := by decide +kernel
theorem tyX3_ok : ∀ k, k < 8 → parseFieldDescriptor (TX3 k).2.2.1 = some (tyX3 k) := by decide +kernel
abbrev cX3_init : ByteArray := prog_5_method_1_code
def yX3_init : MethodName := ⟨RX3, "<init>", "()V"⟩
abbrev cX3_begin : ByteArray := prog_5_method_2_code
def yX3_begin : MethodName := ⟨RX3, "begin", "(I)V"⟩
abbrev cX3_addPoint : ByteArray := prog_5_method_3_code
def yX3_addPoint : MethodName := ⟨RX3, "addPoint", "(II)V"⟩
abbrev cX3_addToMoments : ByteArray := prog_5_method_4_code
def yX3_addToMoments : MethodName := ⟨RX3, "addToMoments", "(IJ)V"⟩
abbrev cX3_tellMoment : ByteArray := prog_5_method_5_code
def yX3_tellMoment : MethodName := ⟨RX3, "tellMoment", "(II)V"⟩
abbrev cX3_momentsNotZero : ByteArray := prog_5_method_6_code
def yX3_momentsNotZero : MethodName := ⟨RX3, "momentsNotZero", "()I"⟩
abbrev cX3_spread : ByteArray := prog_5_method_7_code
def yX3_spread : MethodName := ⟨RX3, "spread", "(II)V"⟩
abbrev cX3_change : ByteArray := prog_5_method_8_code
def yX3_change : MethodName := ⟨RX3, "change", "([JI)V"⟩
abbrev cX3_copyFrom : ByteArray := prog_5_method_9_code
def yX3_copyFrom : MethodName := ⟨RX3, "copyFrom", "(LMomentDesk$Weights;)V"⟩
abbrev cX3_polys : ByteArray := prog_5_method_10_code
def yX3_polys : MethodName := ⟨RX3, "polys", "()LMomentDesk$Polys;"⟩
def RX4 : String := "MomentDesk"
def TX4 : u_T := fun k => match k with
  | 0 => ("MomentDesk", "weights", "LMomentDesk$Weights;", true)
  | 1 => ("MomentDesk", "kept", "[LMomentDesk$Weights;", true)
  | 2 => ("MomentDesk", "isKept", "[Z", true)
  | 3 => ("MomentDesk", "hand", "LMomentDesk$Hand;", true)
  | 4 => ("MomentDesk", "changedMoments", "[J", true)
  | 5 => ("MomentDesk", "quotient", "[LMomentDesk$Big;", true)
  | 6 => ("MomentDesk", "sum", "LMomentDesk$Big;", true)
  | 7 => ("MomentDesk", "one", "LMomentDesk$Big;", true)
  | 8 => ("MomentDesk", "other", "LMomentDesk$Big;", true)
  | _ => ("MomentDesk", "spare", "LMomentDesk$Big;", true)
def tyX4 : Nat → FieldType := fun k => match k with
  | 0 => .object "MomentDesk$Weights"
  | 1 => .array (.object "MomentDesk$Weights")
  | 2 => .array .boolean
  | 3 => .object "MomentDesk$Hand"
  | 4 => .array .long
  | 5 => .array (.object "MomentDesk$Big")
  | 6 => .object "MomentDesk$Big"
  | 7 => .object "MomentDesk$Big"
  | 8 => .object "MomentDesk$Big"
  | _ => .object "MomentDesk$Big"
abbrev wsX40 : List Cond := u_ws RX4 TX4 10
theorem nmX4 : ∀ a, a < 10 → ∀ b, b < 10 → a ≠ b → (TX4 a).2.1 ≠ (TX4 b).2.1 := by decide +kernel
theorem tyX4_ok : ∀ k, k < 10 → parseFieldDescriptor (TX4 k).2.2.1 = some (tyX4 k) := by decide +kernel
abbrev cX4_init : ByteArray := prog_1_method_1_code
def yX4_init : MethodName := ⟨RX4, "<init>", "()V"⟩
abbrev cX4_clear : ByteArray := prog_1_method_2_code
def yX4_clear : MethodName := ⟨RX4, "clear", "()I"⟩
abbrev cX4_point : ByteArray := prog_1_method_3_code
def yX4_point : MethodName := ⟨RX4, "point", "(II)I"⟩
abbrev cX4_moment : ByteArray := prog_1_method_4_code
def yX4_moment : MethodName := ⟨RX4, "moment", "(II)I"⟩
abbrev cX4_span : ByteArray := prog_1_method_5_code
def yX4_span : MethodName := ⟨RX4, "span", "(II)I"⟩
abbrev cX4_counted : ByteArray := prog_1_method_6_code
def yX4_counted : MethodName := ⟨RX4, "counted", "(IIII)I"⟩
abbrev cX4_by : ByteArray := prog_1_method_7_code
def yX4_by : MethodName := ⟨RX4, "by", "(I)I"⟩
abbrev cX4_mirror : ByteArray := prog_1_method_8_code
def yX4_mirror : MethodName := ⟨RX4, "mirror", "(I)I"⟩
abbrev cX4_layMoment : ByteArray := prog_1_method_9_code
def yX4_layMoment : MethodName := ⟨RX4, "layMoment", "(I)I"⟩
abbrev cX4_layWorth : ByteArray := prog_1_method_10_code
def yX4_layWorth : MethodName := ⟨RX4, "layWorth", "(I)I"⟩
abbrev cX4_layDeterminant : ByteArray := prog_1_method_11_code
def yX4_layDeterminant : MethodName := ⟨RX4, "layDeterminant", "(I)I"⟩
abbrev cX4_layNumber : ByteArray := prog_1_method_12_code
def yX4_layNumber : MethodName := ⟨RX4, "layNumber", "(II)I"⟩
abbrev cX4_layRule : ByteArray := prog_1_method_13_code
def yX4_layRule : MethodName := ⟨RX4, "layRule", "(II)I"⟩
abbrev cX4_layValue : ByteArray := prog_1_method_14_code
def yX4_layValue : MethodName := ⟨RX4, "layValue", "(III)I"⟩
abbrev cX4_layProduct : ByteArray := prog_1_method_15_code
def yX4_layProduct : MethodName := ⟨RX4, "layProduct", "(II)I"⟩
abbrev cX4_layShare : ByteArray := prog_1_method_16_code
def yX4_layShare : MethodName := ⟨RX4, "layShare", "(II)I"⟩
abbrev cX4_layKernel : ByteArray := prog_1_method_17_code
def yX4_layKernel : MethodName := ⟨RX4, "layKernel", "(III)I"⟩
abbrev cX4_layLeft : ByteArray := prog_1_method_18_code
def yX4_layLeft : MethodName := ⟨RX4, "layLeft", "(II)I"⟩
abbrev cX4_sign : ByteArray := prog_1_method_19_code
def yX4_sign : MethodName := ⟨RX4, "sign", "()I"⟩
abbrev cX4_bits : ByteArray := prog_1_method_20_code
def yX4_bits : MethodName := ⟨RX4, "bits", "(I)I"⟩
abbrev cX4_word : ByteArray := prog_1_method_21_code
def yX4_word : MethodName := ⟨RX4, "word", "(II)I"⟩
abbrev cX4_against : ByteArray := prog_1_method_22_code
def yX4_against : MethodName := ⟨RX4, "against", "(II)I"⟩
abbrev cX4_below : ByteArray := prog_1_method_23_code
def yX4_below : MethodName := ⟨RX4, "below", "(III)I"⟩
abbrev cX4_shut : ByteArray := prog_1_method_24_code
def yX4_shut : MethodName := ⟨RX4, "shut", "(III)I"⟩
abbrev cX4_good : ByteArray := prog_1_method_25_code
def yX4_good : MethodName := ⟨RX4, "good", "()I"⟩
abbrev cX4_few : ByteArray := prog_1_method_26_code
def yX4_few : MethodName := ⟨RX4, "few", "()I"⟩
abbrev cX4_told : ByteArray := prog_1_method_27_code
def yX4_told : MethodName := ⟨RX4, "told", "(I)I"⟩
abbrev cX4_keep : ByteArray := prog_1_method_28_code
def yX4_keep : MethodName := ⟨RX4, "keep", "(I)I"⟩
abbrev cX4_back : ByteArray := prog_1_method_29_code
def yX4_back : MethodName := ⟨RX4, "back", "(I)I"⟩
abbrev cX4_differs : ByteArray := prog_1_method_30_code
def yX4_differs : MethodName := ⟨RX4, "differs", "(I)I"⟩
abbrev cX4_isWithin : ByteArray := prog_1_method_31_code
def yX4_isWithin : MethodName := ⟨RX4, "isWithin", "(II)Z"⟩
abbrev cX4_isFraction : ByteArray := prog_1_method_32_code
def yX4_isFraction : MethodName := ⟨RX4, "isFraction", "(II)Z"⟩
abbrev cX4_isKeptAt : ByteArray := prog_1_method_33_code
def yX4_isKeptAt : MethodName := ⟨RX4, "isKeptAt", "(I)Z"⟩
abbrev cX4_isCountable : ByteArray := prog_1_method_34_code
def yX4_isCountable : MethodName := ⟨RX4, "isCountable", "(IIII)Z"⟩
abbrev cX4_countedWeight : ByteArray := prog_1_method_35_code
def yX4_countedWeight : MethodName := ⟨RX4, "countedWeight", "(IIIII)J"⟩
abbrev cX4_ways : ByteArray := prog_1_method_36_code
def yX4_ways : MethodName := ⟨RX4, "ways", "(II)J"⟩
abbrev cX4_power : ByteArray := prog_1_method_37_code
def yX4_power : MethodName := ⟨RX4, "power", "(II)J"⟩
abbrev cX4_addMomentTimes : ByteArray := prog_1_method_38_code
def yX4_addMomentTimes : MethodName := ⟨RX4, "addMomentTimes", "(IJ)V"⟩
abbrev cX4_takesSumAsMoment : ByteArray := prog_1_method_39_code
def yX4_takesSumAsMoment : MethodName := ⟨RX4, "takesSumAsMoment", "(I)Z"⟩
abbrev cX4_layRuleA : ByteArray := prog_1_method_40_code
def yX4_layRuleA : MethodName := ⟨RX4, "layRuleA", "(LMomentDesk$Polys;I)I"⟩
abbrev cX4_layRuleB : ByteArray := prog_1_method_41_code
def yX4_layRuleB : MethodName := ⟨RX4, "layRuleB", "(LMomentDesk$Polys;I)I"⟩
abbrev cX4_setQuotient : ByteArray := prog_1_method_42_code
def yX4_setQuotient : MethodName := ⟨RX4, "setQuotient", "(LMomentDesk$Polys;II)V"⟩
abbrev cX4_rootsBelow : ByteArray := prog_1_method_43_code
def yX4_rootsBelow : MethodName := ⟨RX4, "rootsBelow", "(LMomentDesk$Polys;III)I"⟩
abbrev cX4_isSamePoly : ByteArray := prog_1_method_44_code
def yX4_isSamePoly : MethodName := ⟨RX4, "isSamePoly", "(LMomentDesk$Polys;LMomentDesk$Polys;I)Z"⟩
def RX5 : String := "MomentDeskModel"
def TX5 : u_T := fun k => match k with
  | 0 => ("MomentDeskModel", "z", "[I", true)
  | 1 => ("MomentDeskModel", "long0", "[I", true)
  | 2 => ("MomentDeskModel", "sign", "[I", true)
  | 3 => ("MomentDeskModel", "moments", "[J", true)
  | 4 => ("MomentDeskModel", "kind", "I", false)
  | 5 => ("MomentDeskModel", "last", "I", false)
  | 6 => ("MomentDeskModel", "isChanged", "Z", false)
  | 7 => ("MomentDeskModel", "points", "I", false)
  | 8 => ("MomentDeskModel", "place", "[I", true)
  | 9 => ("MomentDeskModel", "weight", "[I", true)
  | 10 => ("MomentDeskModel", "fresh", "[J", true)
  | 11 => ("MomentDeskModel", "order", "[I", true)
  | 12 => ("MomentDeskModel", "keptMoments", "[J", true)
  | 13 => ("MomentDeskModel", "keptPlace", "[I", true)
  | 14 => ("MomentDeskModel", "keptWeight", "[I", true)
  | 15 => ("MomentDeskModel", "keptRest", "[I", true)
  | _ => ("MomentDeskModel", "heldMoments", "[J", true)
def tyX5 : Nat → FieldType := fun k => match k with
  | 0 => .array .int
  | 1 => .array .int
  | 2 => .array .int
  | 3 => .array .long
  | 4 => .int
  | 5 => .int
  | 6 => .boolean
  | 7 => .int
  | 8 => .array .int
  | 9 => .array .int
  | 10 => .array .long
  | 11 => .array .int
  | 12 => .array .long
  | 13 => .array .int
  | 14 => .array .int
  | 15 => .array .int
  | _ => .array .long
abbrev wsX50 : List Cond := u_ws RX5 TX5 17
theorem nmX5 : ∀ a, a < 17 → ∀ b, b < 17 → a ≠ b → (TX5 a).2.1 ≠ (TX5 b).2.1 := by decide +kernel
theorem tyX5_ok : ∀ k, k < 17 → parseFieldDescriptor (TX5 k).2.2.1 = some (tyX5 k) := by decide +kernel
abbrev cX5_init : ByteArray := prog_7_method_1_code
def yX5_init : MethodName := ⟨RX5, "<init>", "()V"⟩
abbrev cX5_in : ByteArray := prog_7_method_3_code
def yX5_in : MethodName := ⟨RX5, "in", "(JJJ)Z"⟩
abbrev cX5_set : ByteArray := prog_7_method_4_code
def yX5_set : MethodName := ⟨RX5, "set", "(IJ)V"⟩
abbrev cX5_copy : ByteArray := prog_7_method_5_code
def yX5_copy : MethodName := ⟨RX5, "copy", "(II)V"⟩
abbrev cX5_cut : ByteArray := prog_7_method_6_code
def yX5_cut : MethodName := ⟨RX5, "cut", "(I)V"⟩
abbrev cX5_compare : ByteArray := prog_7_method_7_code
def yX5_compare : MethodName := ⟨RX5, "compare", "(II)I"⟩
abbrev cX5_limb : ByteArray := prog_7_method_8_code
def yX5_limb : MethodName := ⟨RX5, "limb", "(II)I"⟩
abbrev cX5_join : ByteArray := prog_7_method_9_code
def yX5_join : MethodName := ⟨RX5, "join", "(III)V"⟩
abbrev cX5_less : ByteArray := prog_7_method_10_code
def yX5_less : MethodName := ⟨RX5, "less", "(III)V"⟩
abbrev cX5_add : ByteArray := prog_7_method_11_code
def yX5_add : MethodName := ⟨RX5, "add", "(IIII)V"⟩
abbrev cX5_multiply : ByteArray := prog_7_method_12_code
def yX5_multiply : MethodName := ⟨RX5, "multiply", "(III)V"⟩
abbrev cX5_times : ByteArray := prog_7_method_13_code
def yX5_times : MethodName := ⟨RX5, "times", "(IJ)V"⟩
abbrev cX5_bitsOf : ByteArray := prog_7_method_14_code
def yX5_bitsOf : MethodName := ⟨RX5, "bitsOf", "(I)I"⟩
abbrev cX5_halve : ByteArray := prog_7_method_15_code
def yX5_halve : MethodName := ⟨RX5, "halve", "(I)V"⟩
abbrev cX5_twice : ByteArray := prog_7_method_16_code
def yX5_twice : MethodName := ⟨RX5, "twice", "(II)V"⟩
abbrev cX5_isEven : ByteArray := prog_7_method_17_code
def yX5_isEven : MethodName := ⟨RX5, "isEven", "(I)Z"⟩
abbrev cX5_findCommon : ByteArray := prog_7_method_18_code
def yX5_findCommon : MethodName := ⟨RX5, "findCommon", "(II)V"⟩
abbrev cX5_divide : ByteArray := prog_7_method_19_code
def yX5_divide : MethodName := ⟨RX5, "divide", "(I)V"⟩
abbrev cX5_shorten : ByteArray := prog_7_method_20_code
def yX5_shorten : MethodName := ⟨RX5, "shorten", "(II)V"⟩
abbrev cX5_lay : ByteArray := prog_7_method_21_code
def yX5_lay : MethodName := ⟨RX5, "lay", "(II)I"⟩
abbrev cX5_power : ByteArray := prog_7_method_22_code
def yX5_power : MethodName := ⟨RX5, "power", "(JI)J"⟩
abbrev cX5_begin : ByteArray := prog_7_method_23_code
def yX5_begin : MethodName := ⟨RX5, "begin", "(I)V"⟩
abbrev cX5_addWeight : ByteArray := prog_7_method_24_code
def yX5_addWeight : MethodName := ⟨RX5, "addWeight", "(IJ)V"⟩
abbrev cX5_clear : ByteArray := prog_7_method_25_code
def yX5_clear : MethodName := ⟨RX5, "clear", "()I"⟩
abbrev cX5_point : ByteArray := prog_7_method_26_code
def yX5_point : MethodName := ⟨RX5, "point", "(II)I"⟩
abbrev cX5_moment : ByteArray := prog_7_method_27_code
def yX5_moment : MethodName := ⟨RX5, "moment", "(II)I"⟩
abbrev cX5_span : ByteArray := prog_7_method_28_code
def yX5_span : MethodName := ⟨RX5, "span", "(II)I"⟩
abbrev cX5_over : ByteArray := prog_7_method_29_code
def yX5_over : MethodName := ⟨RX5, "over", "(II)J"⟩
abbrev cX5_counted : ByteArray := prog_7_method_30_code
def yX5_counted : MethodName := ⟨RX5, "counted", "(IIII)I"⟩
abbrev cX5_isMoment : ByteArray := prog_7_method_31_code
def yX5_isMoment : MethodName := ⟨RX5, "isMoment", "(II)Z"⟩
abbrev cX5_changeTo : ByteArray := prog_7_method_32_code
def yX5_changeTo : MethodName := ⟨RX5, "changeTo", "(I)V"⟩
abbrev cX5_by : ByteArray := prog_7_method_33_code
def yX5_by : MethodName := ⟨RX5, "by", "(I)I"⟩
abbrev cX5_mirror : ByteArray := prog_7_method_34_code
def yX5_mirror : MethodName := ⟨RX5, "mirror", "(I)I"⟩
abbrev cX5_nextOrder : ByteArray := prog_7_method_35_code
def yX5_nextOrder : MethodName := ⟨RX5, "nextOrder", "(I)Z"⟩
abbrev cX5_swap : ByteArray := prog_7_method_36_code
def yX5_swap : MethodName := ⟨RX5, "swap", "(II)V"⟩
abbrev cX5_parity : ByteArray := prog_7_method_37_code
def yX5_parity : MethodName := ⟨RX5, "parity", "(I)I"⟩
abbrev cX5_determinant : ByteArray := prog_7_method_38_code
def yX5_determinant : MethodName := ⟨RX5, "determinant", "(III)V"⟩
abbrev cX5_worthOf : ByteArray := prog_7_method_39_code
def yX5_worthOf : MethodName := ⟨RX5, "worthOf", "(II)V"⟩
abbrev cX5_number : ByteArray := prog_7_method_40_code
def yX5_number : MethodName := ⟨RX5, "number", "(III)V"⟩
abbrev cX5_top : ByteArray := prog_7_method_41_code
def yX5_top : MethodName := ⟨RX5, "top", "()I"⟩
abbrev cX5_hasPolynomial : ByteArray := prog_7_method_42_code
def yX5_hasPolynomial : MethodName := ⟨RX5, "hasPolynomial", "(I)Z"⟩
abbrev cX5_hasWorth : ByteArray := prog_7_method_43_code
def yX5_hasWorth : MethodName := ⟨RX5, "hasWorth", "(I)Z"⟩
abbrev cX5_worthSign : ByteArray := prog_7_method_44_code
def yX5_worthSign : MethodName := ⟨RX5, "worthSign", "(I)I"⟩
abbrev cX5_layMoment : ByteArray := prog_7_method_45_code
def yX5_layMoment : MethodName := ⟨RX5, "layMoment", "(I)I"⟩
abbrev cX5_layWorth : ByteArray := prog_7_method_46_code
def yX5_layWorth : MethodName := ⟨RX5, "layWorth", "(I)I"⟩
abbrev cX5_layDeterminant : ByteArray := prog_7_method_47_code
def yX5_layDeterminant : MethodName := ⟨RX5, "layDeterminant", "(I)I"⟩
abbrev cX5_layNumber : ByteArray := prog_7_method_48_code
def yX5_layNumber : MethodName := ⟨RX5, "layNumber", "(II)I"⟩
abbrev cX5_layRule : ByteArray := prog_7_method_49_code
def yX5_layRule : MethodName := ⟨RX5, "layRule", "(II)I"⟩
abbrev cX5_isFraction : ByteArray := prog_7_method_50_code
def yX5_isFraction : MethodName := ⟨RX5, "isFraction", "(II)Z"⟩
abbrev cX5_value : ByteArray := prog_7_method_51_code
def yX5_value : MethodName := ⟨RX5, "value", "(IJJI)V"⟩
abbrev cX5_layValue : ByteArray := prog_7_method_52_code
def yX5_layValue : MethodName := ⟨RX5, "layValue", "(III)I"⟩
abbrev cX5_of : ByteArray := prog_7_method_53_code
def yX5_of : MethodName := ⟨RX5, "of", "(III)V"⟩
abbrev cX5_layProduct : ByteArray := prog_7_method_54_code
def yX5_layProduct : MethodName := ⟨RX5, "layProduct", "(II)I"⟩
abbrev cX5_layShare : ByteArray := prog_7_method_55_code
def yX5_layShare : MethodName := ⟨RX5, "layShare", "(II)I"⟩
abbrev cX5_layKernel : ByteArray := prog_7_method_56_code
def yX5_layKernel : MethodName := ⟨RX5, "layKernel", "(III)I"⟩
abbrev cX5_layLeft : ByteArray := prog_7_method_57_code
def yX5_layLeft : MethodName := ⟨RX5, "layLeft", "(II)I"⟩
abbrev cX5_leftOnce : ByteArray := prog_7_method_58_code
def yX5_leftOnce : MethodName := ⟨RX5, "leftOnce", "(I)V"⟩
abbrev cX5_sign : ByteArray := prog_7_method_59_code
def yX5_sign : MethodName := ⟨RX5, "sign", "()I"⟩
abbrev cX5_bits : ByteArray := prog_7_method_60_code
def yX5_bits : MethodName := ⟨RX5, "bits", "(I)I"⟩
abbrev cX5_word : ByteArray := prog_7_method_61_code
def yX5_word : MethodName := ⟨RX5, "word", "(II)I"⟩
abbrev cX5_against : ByteArray := prog_7_method_62_code
def yX5_against : MethodName := ⟨RX5, "against", "(II)I"⟩
abbrev cX5_areAbove : ByteArray := prog_7_method_63_code
def yX5_areAbove : MethodName := ⟨RX5, "areAbove", "(I)Z"⟩
abbrev cX5_rootsBelow : ByteArray := prog_7_method_64_code
def yX5_rootsBelow : MethodName := ⟨RX5, "rootsBelow", "(IJJ)I"⟩
abbrev cX5_below : ByteArray := prog_7_method_65_code
def yX5_below : MethodName := ⟨RX5, "below", "(III)I"⟩
abbrev cX5_shut : ByteArray := prog_7_method_66_code
def yX5_shut : MethodName := ⟨RX5, "shut", "(III)I"⟩
abbrev cX5_good : ByteArray := prog_7_method_67_code
def yX5_good : MethodName := ⟨RX5, "good", "()I"⟩
abbrev cX5_few : ByteArray := prog_7_method_68_code
def yX5_few : MethodName := ⟨RX5, "few", "()I"⟩
abbrev cX5_told : ByteArray := prog_7_method_69_code
def yX5_told : MethodName := ⟨RX5, "told", "(I)I"⟩
abbrev cX5_keep : ByteArray := prog_7_method_70_code
def yX5_keep : MethodName := ⟨RX5, "keep", "(I)I"⟩
abbrev cX5_isKept : ByteArray := prog_7_method_71_code
def yX5_isKept : MethodName := ⟨RX5, "isKept", "(I)Z"⟩
abbrev cX5_take : ByteArray := prog_7_method_72_code
def yX5_take : MethodName := ⟨RX5, "take", "(I)V"⟩
abbrev cX5_back : ByteArray := prog_7_method_73_code
def yX5_back : MethodName := ⟨RX5, "back", "(I)I"⟩
abbrev cX5_differs : ByteArray := prog_7_method_74_code
def yX5_differs : MethodName := ⟨RX5, "differs", "(I)I"⟩
abbrev cX5_isOther : ByteArray := prog_7_method_75_code
def yX5_isOther : MethodName := ⟨RX5, "isOther", "(II)Z"⟩
def RJx8e188 : String := "java/lang/Cloneable"
def TJx8e188 : u_T := fun k => match k with
  | _ => ("", "", "", false)
def tyJx8e188 : Nat → FieldType := fun k => match k with
  | _ => .int
abbrev wsJx8e1880 : List Cond := u_ws RJx8e188 TJx8e188 0
theorem nmJx8e188 : ∀ a, a < 0 → ∀ b, b < 0 → a ≠ b → (TJx8e188 a).2.1 ≠ (TJx8e188 b).2.1 := by decide +kernel
theorem tyJx8e188_ok : ∀ k, k < 0 → parseFieldDescriptor (TJx8e188 k).2.2.1 = some (tyJx8e188 k) := by decide +kernel
def RJ6 : String := "java/lang/Integer"
def TJ6 : u_T := fun k => match k with
  | _ => ("", "", "", false)
def tyJ6 : Nat → FieldType := fun k => match k with
  | _ => .int
abbrev wsJ60 : List Cond := u_ws RJ6 TJ6 0
theorem nmJ6 : ∀ a, a < 0 → ∀ b, b < 0 → a ≠ b → (TJ6 a).2.1 ≠ (TJ6 b).2.1 := by decide +kernel
theorem tyJ6_ok : ∀ k, k < 0 → parseFieldDescriptor (TJ6 k).2.2.1 = some (tyJ6 k) := by decide +kernel
abbrev cJ6_numberOfLeadingZeros_0f7a4 : ByteArray := prog_9_method_47_code
def yJ6_numberOfLeadingZeros_0f7a4 : MethodName := ⟨RJ6, "numberOfLeadingZeros", "(I)I"⟩
abbrev cJ6_numberOfTrailingZeros_0f7a4 : ByteArray := prog_9_method_48_code
def yJ6_numberOfTrailingZeros_0f7a4 : MethodName := ⟨RJ6, "numberOfTrailingZeros", "(I)I"⟩
abbrev cJ6_bitCount_0f7a4 : ByteArray := prog_9_method_49_code
def yJ6_bitCount_0f7a4 : MethodName := ⟨RJ6, "bitCount", "(I)I"⟩
def RJ13 : String := "java/lang/Long"
def TJ13 : u_T := fun k => match k with
  | _ => ("", "", "", false)
def tyJ13 : Nat → FieldType := fun k => match k with
  | _ => .int
abbrev wsJ130 : List Cond := u_ws RJ13 TJ13 0
theorem nmJ13 : ∀ a, a < 0 → ∀ b, b < 0 → a ≠ b → (TJ13 a).2.1 ≠ (TJ13 b).2.1 := by decide +kernel
theorem tyJ13_ok : ∀ k, k < 0 → parseFieldDescriptor (TJ13 k).2.2.1 = some (tyJ13 k) := by decide +kernel
abbrev cJ13_compare_74951 : ByteArray := prog_10_method_42_code
def yJ13_compare_74951 : MethodName := ⟨RJ13, "compare", "(JJ)I"⟩
def RJ9 : String := "java/lang/Math"
def TJ9 : u_T := fun k => match k with
  | _ => ("", "", "", false)
def tyJ9 : Nat → FieldType := fun k => match k with
  | _ => .int
abbrev wsJ90 : List Cond := u_ws RJ9 TJ9 0
theorem nmJ9 : ∀ a, a < 0 → ∀ b, b < 0 → a ≠ b → (TJ9 a).2.1 ≠ (TJ9 b).2.1 := by decide +kernel
theorem tyJ9_ok : ∀ k, k < 0 → parseFieldDescriptor (TJ9 k).2.2.1 = some (tyJ9 k) := by decide +kernel
abbrev cJ9_abs_067f4 : ByteArray := prog_11_method_61_code
def yJ9_abs_067f4 : MethodName := ⟨RJ9, "abs", "(J)J"⟩
abbrev cJ9_max_7cf53 : ByteArray := prog_11_method_65_code
def yJ9_max_7cf53 : MethodName := ⟨RJ9, "max", "(II)I"⟩
abbrev cJ9_min_7cf53 : ByteArray := prog_11_method_69_code
def yJ9_min_7cf53 : MethodName := ⟨RJ9, "min", "(II)I"⟩
def RJ10 : String := "java/lang/System"
def TJ10 : u_T := fun k => match k with
  | _ => ("", "", "", false)
def tyJ10 : Nat → FieldType := fun k => match k with
  | _ => .int
abbrev wsJ100 : List Cond := u_ws RJ10 TJ10 0
theorem nmJ10 : ∀ a, a < 0 → ∀ b, b < 0 → a ≠ b → (TJ10 a).2.1 ≠ (TJ10 b).2.1 := by decide +kernel
theorem tyJ10_ok : ∀ k, k < 0 → parseFieldDescriptor (TJ10 k).2.2.1 = some (tyJ10 k) := by decide +kernel
def RJ7 : String := "java/util/Arrays"
def TJ7 : u_T := fun k => match k with
  | _ => ("", "", "", false)
def tyJ7 : Nat → FieldType := fun k => match k with
  | _ => .int
abbrev wsJ70 : List Cond := u_ws RJ7 TJ7 0
theorem nmJ7 : ∀ a, a < 0 → ∀ b, b < 0 → a ≠ b → (TJ7 a).2.1 ≠ (TJ7 b).2.1 := by decide +kernel
theorem tyJ7_ok : ∀ k, k < 0 → parseFieldDescriptor (TJ7 k).2.2.1 = some (tyJ7 k) := by decide +kernel
abbrev cJ7_rangeCheck_23922 : ByteArray := prog_13_method_30_code
def yJ7_rangeCheck_23922 : MethodName := ⟨RJ7, "rangeCheck", "(III)V"⟩
abbrev cJ7_fill_d0a16 : ByteArray := prog_13_method_101_code
def yJ7_fill_d0a16 : MethodName := ⟨RJ7, "fill", "([JJ)V"⟩
abbrev cJ7_fill_53178 : ByteArray := prog_13_method_103_code
def yJ7_fill_53178 : MethodName := ⟨RJ7, "fill", "([II)V"⟩
abbrev cJ7_fill_fda19 : ByteArray := prog_13_method_104_code
def yJ7_fill_fda19 : MethodName := ⟨RJ7, "fill", "([IIII)V"⟩
abbrev cJ7_copyOf_59c91 : ByteArray := prog_13_method_123_code
def yJ7_copyOf_59c91 : MethodName := ⟨RJ7, "copyOf", "([II)[I"⟩
def RL : String := "MomentDeskLaw"
abbrev cL_law : ByteArray := code
def yL_law : MethodName := ⟨RL, "law", "([I)Z"⟩
end
section
/-! ===== a pure machine over NAMED worlds: a world is N cells, named 0 .. N-1; name i lies at address ad i; what a cell is is told by sh (shape) and rf (references, fixed), its numbers by I (ints, booleans) and J (longs) ===== -/
abbrev mPV : Type := Int32 ⊕ (Int64 ⊕ Nat)
abbrev mPI : Type := Nat → Nat → Int32
abbrev mPJ : Type := Nat → Nat → Int64
abbrev mSH : Type := Nat → (Nat ⊕ (Nat × Nat))
abbrev mRF : Type := Nat → Nat → Nat
abbrev mLV : Type := List (Nat × mPV)
abbrev mKT : Type := Option mPV → mPI → mPJ → Prop
abbrev mPT : Type := List mPV → mPI → mPJ → mKT → Prop
/-- an instruction of a method's list: pc, instruction, length, jump targets, its constant -/
abbrev mIN : Type := Nat × Instr × Nat × List Nat × Int32
def m_ev (ad : Nat → Nat) : mPV → Value
  | .inl x => .int x
  | .inr (.inl x) => .long x
  | .inr (.inr i) => .ref (ad i)
def m_cat : mPV → Nat
  | .inr (.inl _) => 2
  | _ => 1
theorem m_cat_ev (ad : Nat → Nat) (v : mPV) : (m_ev ad v).category = m_cat v := by
  rcases v with x | x | x <;> rfl
def m_ft : Nat → List Nat
  | 0 => [2, 0, 1]
  | 1 => [2, 2, 2, 2, 1]
  | 2 => [2, 2, 2, 2, 0, 0]
  | 3 => [0, 0, 0, 1, 2, 2, 2, 1]
  | 4 => [2, 2, 2, 2, 2, 2, 2, 2, 2, 2]
  | 5 => [2, 2, 2, 2, 0, 0, 1, 0, 2, 2, 2, 2, 2, 2, 2, 2, 2]
  | _ => []
def m_fv (ad : Nat → Nat) (rf : mRF) (I : mPI) (i kd k : Nat) : Value := if kd = 2 then .ref (ad (rf i k)) else .int (I i k)
def m_fs (ad : Nat → Nat) (rf : mRF) (I : mPI) (i : Nat) : List Nat → Nat → List Value
  | [], _ => []
  | kd :: l, k => m_fv ad rf I i kd k :: m_fs ad rf I i l (k + 1)
theorem m_fs_get (ad : Nat → Nat) (rf : mRF) (I : mPI) (i : Nat) : ∀ (l : List Nat) (k0 j kd : Nat), l[j]? = some kd → (m_fs ad rf I i l k0)[j]? = some (m_fv ad rf I i kd (k0 + j))
  | [], _, j, kd, h => by simp at h
  | a :: l, k0, 0, kd, h => by
    have : a = kd := by simpa using h
    subst this
    rfl
  | a :: l, k0, j + 1, kd, h => by
    have h' : l[j]? = some kd := by simpa using h
    have := m_fs_get ad rf I i l (k0 + 1) j kd h'
    rw [show k0 + 1 + j = k0 + (j + 1) by omega] at this
    simpa [m_fs] using this
theorem m_fs_len (ad : Nat → Nat) (rf : mRF) (I : mPI) (i : Nat) : ∀ (l : List Nat) (k0 : Nat), (m_fs ad rf I i l k0).length = l.length
  | [], _ => rfl
  | _ :: l, k0 => by simp [m_fs, m_fs_len ad rf I i l (k0 + 1)]
def m_uI (I : mPI) (i k : Nat) (v : Int32) : mPI := fun a b => if a = i ∧ b = k then v else I a b
def m_uJ (J : mPJ) (i k : Nat) (v : Int64) : mPJ := fun a b => if a = i ∧ b = k then v else J a b
theorem m_fs_out (ad : Nat → Nat) (rf : mRF) (I : mPI) (i k : Nat) (v : Int32) : ∀ (l : List Nat) (k0 : Nat), k < k0 → m_fs ad rf (m_uI I i k v) i l k0 = m_fs ad rf I i l k0
  | [], _, _ => rfl
  | kd :: l, k0, h => by
    have h1 := m_fs_out ad rf I i k v l (k0 + 1) (by omega)
    have h2 : m_fv ad rf (m_uI I i k v) i kd k0 = m_fv ad rf I i kd k0 := by
      unfold m_fv m_uI
      rw [if_neg (show ¬ (i = i ∧ k0 = k) by omega)]
    simp only [m_fs, h1, h2]
theorem m_fs_set (ad : Nat → Nat) (rf : mRF) (I : mPI) (i : Nat) (v : Int32) : ∀ (l : List Nat) (k0 j kd : Nat), l[j]? = some kd → kd ≠ 2 → (m_fs ad rf I i l k0).set j (.int v) = m_fs ad rf (m_uI I i (k0 + j) v) i l k0
  | [], _, j, kd, h, _ => by simp at h
  | a :: l, k0, 0, kd, h, h2 => by
    have : a = kd := by simpa using h
    subst this
    have h1 := m_fs_out ad rf I i k0 v l (k0 + 1) (by omega)
    simp only [m_fs, List.set_cons_zero, Nat.add_zero, h1]
    congr 1
    unfold m_fv m_uI
    rw [if_neg h2, if_pos (show i = i ∧ k0 = k0 from ⟨rfl, rfl⟩)]
  | a :: l, k0, j + 1, kd, h, h2 => by
    have h' : l[j]? = some kd := by simpa using h
    have h3 := m_fs_set ad rf I i v l (k0 + 1) j kd h' h2
    rw [show k0 + 1 + j = k0 + (j + 1) by omega] at h3
    simp only [m_fs, List.set_cons_succ, h3]
    congr 1
    unfold m_fv m_uI
    rw [if_neg (show ¬ (i = i ∧ k0 = k0 + (j + 1)) by omega)]
def m_ar (ad : Nat → Nat) (rf : mRF) (I : mPI) (J : mPJ) (i t n : Nat) : vp_A := (n, if t = 1 then .inr (.inl (J i)) else if t < 3 then .inl (I i) else .inr (.inr (.inr (.inr (fun k => some (ad (rf i k)))))))
def m_ce (cs : Nat → ClassId) (ad : Nat → Nat) (sh : mSH) (rf : mRF) (I : mPI) (J : mPJ) (i : Nat) : va_E := match sh i with
  | .inl ci => .inr (ci, m_fs ad rf I i (m_ft ci) 0)
  | .inr (t, n) => .inl (cs t, m_ar ad rf I J i t n)
def m_wl (cs : Nat → ClassId) (ad : Nat → Nat) (sh : mSH) (rf : mRF) (N : Nat) (I : mPI) (J : mPJ) : va_W := (List.range N).map (fun i => (ad i, m_ce cs ad sh rf I J i))
def m_cl : List vw_C := [(RX0, TX0, 3), (RX1, TX1, 5), (RX2, TX2, 6), (RX3, TX3, 8), (RX4, TX4, 10), (RX5, TX5, 17)]
def m_tyf : Nat → Nat → FieldType
  | 0 => tyX0 | 1 => tyX1 | 2 => tyX2 | 3 => tyX3 | 4 => tyX4 | _ => tyX5
def m_ty (cs : Nat → ClassId) : List (ClassId × FieldType) := [(cs 0, .int), (cs 1, .long), (cs 2, .boolean), (cs 3, .object "MomentDesk$Big"), (cs 4, .object "MomentDesk$Weights")]
def m_A (ad : Nat → Nat) (N : Nat) : Nat → Prop := fun q => ∃ i, i < N ∧ q = ad i
theorem m_wl_at (cs : Nat → ClassId) (ad : Nat → Nat) (sh : mSH) (rf : mRF) (N : Nat) (I : mPI) (J : mPJ) {i : Nat} (h : i < N) : (m_wl cs ad sh rf N I J)[i]? = some (ad i, m_ce cs ad sh rf I J i) := by
  simp [m_wl, h]
theorem m_wl_len (cs : Nat → ClassId) (ad : Nat → Nat) (sh : mSH) (rf : mRF) (N : Nat) (I : mPI) (J : mPJ) : (m_wl cs ad sh rf N I J).length = N := by simp [m_wl]
theorem m_wl_set {cs : Nat → ClassId} {ad : Nat → Nat} {sh : mSH} {rf : mRF} {N : Nat} {I I' : mPI} {J J' : mPJ} {i : Nat} {e : va_E} (he : m_ce cs ad sh rf I' J' i = e) (ho : ∀ j, j ≠ i → m_ce cs ad sh rf I' J' j = m_ce cs ad sh rf I J j) :
    (m_wl cs ad sh rf N I J).set i (ad i, e) = m_wl cs ad sh rf N I' J' := by
  apply List.ext_getElem?
  intro k
  by_cases hk : k < N
  · rw [m_wl_at _ _ _ _ _ _ _ hk]
    by_cases hki : k = i
    · subst hki
      rw [List.getElem?_set_self (by rw [m_wl_len]; exact hk), he]
    · rw [List.getElem?_set_ne (Ne.symm hki), m_wl_at _ _ _ _ _ _ _ hk, ho k hki]
  · rw [List.getElem?_eq_none (by rw [List.length_set, m_wl_len]; omega), List.getElem?_eq_none (by rw [m_wl_len]; omega)]
theorem m_wl_D {ad : Nat → Nat} {N : Nat} (hi : ∀ i j, i < N → j < N → ad i = ad j → i = j) (cs : Nat → ClassId) (sh : mSH) (rf : mRF) (I : mPI) (J : mPJ) : va_D (m_A ad N) (m_wl cs ad sh rf N I J) := by
  have key : ∀ (k : Nat) (q : Nat × va_E), (m_wl cs ad sh rf N I J)[k]? = some q → k < N ∧ q.1 = ad k := by
    intro k q h
    have hk : k < N := by
      have := (List.getElem?_eq_some_iff.mp h).1
      rwa [m_wl_len] at this
    rw [m_wl_at _ _ _ _ _ _ _ hk] at h
    exact ⟨hk, by rw [← Option.some.inj h]⟩
  refine ⟨fun i j x y h1 h2 h3 => ?_, fun k q h => ?_⟩
  · obtain ⟨a1, a2⟩ := key i x h1
    obtain ⟨b1, b2⟩ := key j y h2
    exact hi i j a1 b1 (by rw [← a2, ← b2]; exact h3)
  · obtain ⟨a1, a2⟩ := key k q h
    exact ⟨k, a1, a2⟩
theorem m_ce_I {cs : Nat → ClassId} {ad : Nat → Nat} {sh : mSH} {rf : mRF} {I I' : mPI} {J J' : mPJ} {j : Nat} (h1 : ∀ b, I' j b = I j b) (h2 : ∀ b, J' j b = J j b) : m_ce cs ad sh rf I' J' j = m_ce cs ad sh rf I J j := by
  have e1 : I' j = I j := funext h1
  have e2 : J' j = J j := funext h2
  have e3 : ∀ l k, m_fs ad rf I' j l k = m_fs ad rf I j l k := by
    intro l
    induction l with
    | nil => intro k; rfl
    | cons a l ih => intro k; simp only [m_fs, m_fv, ih, e1]
  unfold m_ce m_ar
  simp only [e1, e2, e3]
theorem m_hty (ci : Nat) (q : vw_C) (h : m_cl[ci]? = some q) : ∀ k, k < q.2.2 → parseFieldDescriptor (q.2.1 k).2.2.1 = some (m_tyf ci k) := by
  match ci, h with
  | 0, h => cases h; exact tyX0_ok
  | 1, h => cases h; exact tyX1_ok
  | 2, h => cases h; exact tyX2_ok
  | 3, h => cases h; exact tyX3_ok
  | 4, h => cases h; exact tyX4_ok
  | 5, h => cases h; exact tyX5_ok
  | k + 6, h => simp [m_cl] at h
theorem m_hnm (ci : Nat) (q : vw_C) (h : m_cl[ci]? = some q) : ∀ a, a < q.2.2 → ∀ b, b < q.2.2 → a ≠ b → (q.2.1 a).2.1 ≠ (q.2.1 b).2.1 := by
  match ci, h with
  | 0, h => cases h; exact nmX0
  | 1, h => cases h; exact nmX1
  | 2, h => cases h; exact nmX2
  | 3, h => cases h; exact nmX3
  | 4, h => cases h; exact nmX4
  | 5, h => cases h; exact nmX5
  | k + 6, h => simp [m_cl] at h
/-! locals -/
def m_lk : mLV → Nat → Option mPV
  | [], _ => none
  | (q, v) :: l, k => match Nat.beq q k with
    | true => some v
    | false => m_lk l k
def m_s1 (lv : mLV) (i : Nat) (v : mPV) : mLV := (i, v) :: lv.filter (fun q => !(q.1 == i) && !(q.1 + 1 == i && m_cat q.2 == 2))
def m_s2 (lv : mLV) (i : Nat) (v : mPV) : mLV := (i, v) :: lv.filter (fun q => !(q.1 == i) && (!(q.1 == i + 1) && !(q.1 + 1 == i && m_cat q.2 == 2)))
def m_el (ad : Nat → Nat) (lv : mLV) : List (Nat × Value) := lv.map (fun q => (q.1, m_ev ad q.2))
theorem m_lk_get : ∀ {lv : mLV} {k : Nat} {v : mPV}, m_lk lv k = some v → ∃ j : Nat, lv[j]? = some (k, v)
  | [], _, _, h => by simp [m_lk] at h
  | (q, v0) :: l, k, v, h => by
    unfold m_lk at h
    split at h
    · rename_i hb
      have hk := Nat.eq_of_beq_eq_true hb
      exact ⟨0, by simp at h; simp [← h, ← hk]⟩
    · obtain ⟨j, hj⟩ := m_lk_get h
      exact ⟨j + 1, by simpa using hj⟩
theorem m_el_get {ad : Nat → Nat} {lv : mLV} {j k : Nat} {v : mPV} (h : lv[j]? = some (k, v)) : (m_el ad lv)[j]? = some (k, m_ev ad v) := by
  simp [m_el, h]
theorem m_at {ad : Nat → Nat} {ls : Array Slot} {nL : Nat} {lv : mLV} {k : Nat} {v : mPV} (hl : lv_has ls nL (m_el ad lv)) (h : m_lk lv k = some v) : ls[k]? = some (.val (m_ev ad v)) := by
  obtain ⟨j, hj⟩ := m_lk_get h
  exact lv_at hl j (m_el_get hj)
theorem m_el_s1 {ad : Nat → Nat} {lv : mLV} {i : Nat} {v : mPV} : (i, m_ev ad v) :: (m_el ad lv).filter (fun q => !(q.1 == i) && !(q.1 + 1 == i && q.2.category == 2)) = m_el ad (m_s1 lv i v) := by
  simp only [m_el, m_s1, List.map_cons, List.filter_map]
  congr 2
  apply List.filter_congr
  intro q _
  simp only [Function.comp, m_cat_ev]
theorem m_el_s2 {ad : Nat → Nat} {lv : mLV} {i : Nat} {v : mPV} : (i, m_ev ad v) :: (m_el ad lv).filter (fun q => !(q.1 == i) && (!(q.1 == i + 1) && !(q.1 + 1 == i && q.2.category == 2))) = m_el ad (m_s2 lv i v) := by
  simp only [m_el, m_s2, List.map_cons, List.filter_map]
  congr 2
  apply List.filter_congr
  intro q _
  simp only [Function.comp, m_cat_ev]
/-- the words that methods carry; the two of nest mates go with the world -/
def m_tb : List Cond := lw_tbl.filter goodWord
def m_nws : List Cond := [Cond.fieldLinkNest RX2 68 "MomentDesk$Big" "negative" "Z" "MomentDesk", Cond.methodLinkNest RX3 56 yX4_power "MomentDesk"]
def m_tw : List Cond := m_nws ++ m_tb
theorem m_tb_pos {w : Cond} {pos : Nat} (h : lw_tbl[pos]? = some w) (h2 : goodWord w = true) : w ∈ m_tb := List.mem_filter.mpr ⟨List.mem_of_getElem? h, h2⟩
theorem m_tb_w {w : Cond} (h : w ∈ m_tb) : w ∈ m_tw := List.mem_append_right _ h
/-! a row of tables: fields (index, class, place, kind, nest, place of its word), constants -/
abbrev mFL : Type := Nat × Nat × Nat × Nat × Nat × Nat
def m_lf : List mFL → Nat → Option (Nat × Nat × Nat)
  | [], _ => none
  | (q, ci, f, kd, _, _) :: l, k => match Nat.beq q k with
    | true => some (ci, f, kd)
    | false => m_lf l k
def m_lc {α : Type} : List (Nat × α × Nat) → Nat → Option α
  | [], _ => none
  | (q, v, _) :: l, k => match Nat.beq q k with
    | true => some v
    | false => m_lc l k
theorem m_in (ci : Nat) (q : vw_C) (h : m_cl[ci]? = some q) : ∀ w ∈ u_ws q.1 q.2.1 q.2.2, w ∈ m_tw := by
  intro w hw
  refine m_tb_w (List.mem_filter.mpr ?_)
  have key : ∀ w ∈ u_ws q.1 q.2.1 q.2.2, w ∈ lw_tbl ∧ goodWord w = true := by
    match ci, h with
    | 0, h => cases h; decide +kernel
    | 1, h => cases h; decide +kernel
    | 2, h => cases h; decide +kernel
    | 3, h => cases h; decide +kernel
    | 4, h => cases h; decide +kernel
    | 5, h => cases h; decide +kernel
    | k + 6, h => simp [m_cl] at h
  exact key w hw
def m_fck (own : String) (q : mFL) : Bool := match m_cl[q.2.1]? with
  | some r => Nat.blt q.2.2.1 r.2.2 && decide ((m_ft q.2.1)[q.2.2.1]? = some q.2.2.2.1) && (Nat.beq q.2.2.2.1 2 || !(r.2.1 q.2.2.1).2.2.2) && decide (m_tyf q.2.1 q.2.2.1 = (if q.2.2.2.1 = 0 then .int else if q.2.2.2.1 = 1 then .boolean else m_tyf q.2.1 q.2.2.1)) && (match q.2.2.2.2.1 with
    | 0 => decide (lw_tbl[q.2.2.2.2.2]? = some (Cond.fieldLink own q.1 (r.2.1 q.2.2.1).1 (r.2.1 q.2.2.1).2.1 (r.2.1 q.2.2.1).2.2.1)) && goodWord (Cond.fieldLink own q.1 (r.2.1 q.2.2.1).1 (r.2.1 q.2.2.1).2.1 (r.2.1 q.2.2.1).2.2.1)
    | _ => decide (Cond.fieldLinkNest own q.1 (r.2.1 q.2.2.1).1 (r.2.1 q.2.2.1).2.1 (r.2.1 q.2.2.1).2.2.1 "MomentDesk" ∈ m_nws))
  | none => false
def m_kck (own : String) (q : Nat × Int32 × Nat) : Bool := decide (lw_tbl[q.2.2]? = some (Cond.constant own q.1 q.2.1)) && goodWord (Cond.constant own q.1 q.2.1)
def m_kckL (own : String) (q : Nat × Int64 × Nat) : Bool := decide (lw_tbl[q.2.2]? = some (Cond.constantLong own q.1 q.2.1)) && goodWord (Cond.constantLong own q.1 q.2.1)
theorem m_lf_mem : ∀ {l : List mFL} {k : Nat} {r : Nat × Nat × Nat}, m_lf l k = some r → ∃ h pos, (k, r.1, r.2.1, r.2.2, h, pos) ∈ l
  | [], _, _, h => by simp [m_lf] at h
  | (q, ci, f, kd, h9, p9) :: l, k, r, h => by
    unfold m_lf at h
    split at h
    · rename_i hb
      have hk := Nat.eq_of_beq_eq_true hb
      have hr := Option.some.inj h
      refine ⟨h9, p9, ?_⟩
      rw [← hr, ← hk]
      exact List.mem_cons_self
    · obtain ⟨a, b, hj⟩ := m_lf_mem h
      exact ⟨a, b, List.mem_cons_of_mem _ hj⟩
theorem m_lc_mem {α : Type} : ∀ {l : List (Nat × α × Nat)} {k : Nat} {r : α}, m_lc l k = some r → ∃ pos, (k, r, pos) ∈ l
  | [], _, _, h => by simp [m_lc] at h
  | (q, v9, p9) :: l, k, r, h => by
    unfold m_lc at h
    split at h
    · rename_i hb
      have hk := Nat.eq_of_beq_eq_true hb
      have hr := Option.some.inj h
      refine ⟨p9, ?_⟩
      rw [← hr, ← hk]
      exact List.mem_cons_self
    · obtain ⟨a, hj⟩ := m_lc_mem h
      exact ⟨a, List.mem_cons_of_mem _ hj⟩
/-! what an instruction asks -/
def m_inb (sh : mSH) (i t : Nat) (j : Int32) : Prop := match sh i with
  | .inr (t', n) => t' = t ∧ vp_in j n
  | _ => False
def m_inr (sh : mSH) (i : Nat) (j : Int32) : Prop := match sh i with
  | .inr (t', n) => (t' = 3 ∨ t' = 4) ∧ vp_in j n
  | _ => False
def m_isa (sh : mSH) (i : Nat) : Prop := match sh i with
  | .inr (t', _) => t' < 5
  | _ => False
def m_len (sh : mSH) (i : Nat) : Int32 := match sh i with
  | .inr (_, n) => Int32.ofNat n
  | _ => 0
def m_gv (rf : mRF) (I : mPI) (i f kd : Nat) : mPV := match kd with
  | 2 => .inr (.inr (rf i f))
  | _ => .inl (I i f)
def m_ol : Option mPV → List mPV
  | none => []
  | some v => [v]
def m_ilen : Instr → Nat
  | .bipush _ | .iload _ | .istore _ | .lload _ | .lstore _ | .aload _ | .astore _ | .ldc _ => 2
  | .sipush _ | .iinc _ _ | .ldc_w _ | .ldc2_w _ | .getfield _ | .putfield _ | .invokevirtual _ | .invokestatic _ | .goto _ | .ifCond _ _ | .if_icmp _ _ | .new _ | .invokespecial _ | .anewarray _ => 3
  | .newarray _ => 2
  | _ => 1
def m_isw : Instr → Bool
  | .tableswitch _ _ _ _ | .lookupswitch _ _ => true
  | _ => false
def m_jck (pc : Nat) (ts : List Nat) : Instr → Bool
  | .goto off => match ts with | [t] => decide ((pc : Int) + off = (t : Int)) | _ => false
  | .ifCond _ off => match ts with | [t] => decide ((pc : Int) + off = (t : Int)) | _ => false
  | .if_icmp _ off => match ts with | [t] => decide ((pc : Int) + off = (t : Int)) | _ => false
  | .tableswitch dflt lo hi offs => match ts with
    | t :: l => decide ((pc : Int) + dflt = (t : Int)) && decide (l.length = offs.size) && decide (lo = 0) && decide (hi + 1 = (offs.size : Int)) && (List.range offs.size).all (fun j => decide (((pc : Int) + (offs.getD j 0)) = ((l.getD j 0 : Nat) : Int)))
    | _ => false
  | .lookupswitch d ps => match ps.toList, ts with
    | [a, b], [t, t1, t2] => decide (a.1 = 1) && decide (b.1 = 2) && decide ((pc : Int) + d = (t : Int)) && decide ((pc : Int) + a.2 = (t1 : Int)) && decide ((pc : Int) + b.2 = (t2 : Int))
    | _, _ => false
  | _ => true
def m_vck (v : Int32) : Instr → Bool
  | .iconst n => decide (Int32.ofInt n = v)
  | .bipush n => decide ((Int8.ofInt n).toInt32 = v)
  | .sipush n => decide ((Int16.ofInt n).toInt32 = v)
  | .iinc _ n => decide (Int32.ofInt n = v)
  | _ => true
def m_ick (cc : ByteArray) (q : mIN) : Bool := decide (decode cc q.1 = .ok (q.2.1, q.2.2.1)) && (Nat.beq (m_ilen q.2.1) q.2.2.1 || m_isw q.2.1) && m_jck q.1 q.2.2.2.1 q.2.1 && m_vck q.2.2.2.2 q.2.1

/-- one instruction: ft goes on behind it, jp at a target -/
def m_sp (nL : Nat) (fl : List mFL) (kI : List (Nat × Int32 × Nat)) (kJ : List (Nat × Int64 × Nat)) (ct : Nat → Option (Nat × Bool × mPT)) (sh : mSH) (rf : mRF) (rk : Nat) (Q : mKT) (ft : mLV → List mPV → mPI → mPJ → Prop) (jp : Nat → mLV → List mPV → mPI → mPJ → Prop) (ins : Instr) (ts : List Nat) (v : Int32) (lv : mLV) (st : List mPV) (I : mPI) (J : mPJ) : Prop :=
  match ins with
  | .iload_n k => match m_lk lv k.val with
    | some (.inl x) => ft lv (.inl x :: st) I J
    | _ => False
  | .iload k => match m_lk lv k with
    | some (.inl x) => ft lv (.inl x :: st) I J
    | _ => False
  | .lload_n k => match m_lk lv k.val with
    | some (.inr (.inl x)) => ft lv (.inr (.inl x) :: st) I J
    | _ => False
  | .lload k => match m_lk lv k with
    | some (.inr (.inl x)) => ft lv (.inr (.inl x) :: st) I J
    | _ => False
  | .aload_n k => match m_lk lv k.val with
    | some (.inr (.inr x)) => ft lv (.inr (.inr x) :: st) I J
    | _ => False
  | .aload k => match m_lk lv k with
    | some (.inr (.inr x)) => ft lv (.inr (.inr x) :: st) I J
    | _ => False
  | .istore_n k => match st with
    | .inl x :: r => match Nat.blt k.val nL with
      | true => ft (m_s1 lv k.val (.inl x)) r I J
      | false => False
    | _ => False
  | .istore k => match st with
    | .inl x :: r => match Nat.blt k nL with
      | true => ft (m_s1 lv k (.inl x)) r I J
      | false => False
    | _ => False
  | .lstore_n k => match st with
    | .inr (.inl x) :: r => match Nat.blt (k.val + 1) nL with
      | true => ft (m_s2 lv k.val (.inr (.inl x))) r I J
      | false => False
    | _ => False
  | .lstore k => match st with
    | .inr (.inl x) :: r => match Nat.blt (k + 1) nL with
      | true => ft (m_s2 lv k (.inr (.inl x))) r I J
      | false => False
    | _ => False
  | .astore_n k => match st with
    | .inr (.inr x) :: r => match Nat.blt k.val nL with
      | true => ft (m_s1 lv k.val (.inr (.inr x))) r I J
      | false => False
    | _ => False
  | .astore k => match st with
    | .inr (.inr x) :: r => match Nat.blt k nL with
      | true => ft (m_s1 lv k (.inr (.inr x))) r I J
      | false => False
    | _ => False
  | .iconst _ => ft lv (.inl v :: st) I J
  | .bipush _ => ft lv (.inl v :: st) I J
  | .sipush _ => ft lv (.inl v :: st) I J
  | .lconst n => ft lv (.inr (.inl (match n.val with | 0 => 0 | _ => 1)) :: st) I J
  | .ldc k => match m_lc kI k with
    | some x => ft lv (.inl x :: st) I J
    | none => False
  | .ldc_w k => match m_lc kI k with
    | some x => ft lv (.inl x :: st) I J
    | none => False
  | .ldc2_w k => match m_lc kJ k with
    | some x => ft lv (.inr (.inl x) :: st) I J
    | none => False
  | .iinc k _ => match m_lk lv k with
    | some (.inl x) => match Nat.blt k nL with
      | true => ft (m_s1 lv k (.inl (x + v))) st I J
      | false => False
    | _ => False
  | .iadd => match st with
    | .inl y :: .inl x :: r => ft lv (.inl (x + y) :: r) I J
    | _ => False
  | .isub => match st with
    | .inl y :: .inl x :: r => ft lv (.inl (x - y) :: r) I J
    | _ => False
  | .imul => match st with
    | .inl y :: .inl x :: r => ft lv (.inl (x * y) :: r) I J
    | _ => False
  | .iand => match st with
    | .inl y :: .inl x :: r => ft lv (.inl (x &&& y) :: r) I J
    | _ => False
  | .ior => match st with
    | .inl y :: .inl x :: r => ft lv (.inl (x ||| y) :: r) I J
    | _ => False
  | .ixor => match st with
    | .inl y :: .inl x :: r => ft lv (.inl (x ^^^ y) :: r) I J
    | _ => False
  | .ishl => match st with
    | .inl y :: .inl x :: r => ft lv (.inl (x <<< (y &&& 31)) :: r) I J
    | _ => False
  | .ishr => match st with
    | .inl y :: .inl x :: r => ft lv (.inl (x >>> (y &&& 31)) :: r) I J
    | _ => False
  | .iushr => match st with
    | .inl y :: .inl x :: r => ft lv (.inl ((x.toUInt32 >>> (y.toUInt32 &&& Int32.toUInt32 31)).toInt32) :: r) I J
    | _ => False
  | .ladd => match st with
    | .inr (.inl y) :: .inr (.inl x) :: r => ft lv (.inr (.inl (x + y)) :: r) I J
    | _ => False
  | .lsub => match st with
    | .inr (.inl y) :: .inr (.inl x) :: r => ft lv (.inr (.inl (x - y)) :: r) I J
    | _ => False
  | .lmul => match st with
    | .inr (.inl y) :: .inr (.inl x) :: r => ft lv (.inr (.inl (x * y)) :: r) I J
    | _ => False
  | .land => match st with
    | .inr (.inl y) :: .inr (.inl x) :: r => ft lv (.inr (.inl (x &&& y)) :: r) I J
    | _ => False
  | .lor => match st with
    | .inr (.inl y) :: .inr (.inl x) :: r => ft lv (.inr (.inl (x ||| y)) :: r) I J
    | _ => False
  | .lshl => match st with
    | .inl y :: .inr (.inl x) :: r => ft lv (.inr (.inl (x <<< (y.toInt64 &&& 63))) :: r) I J
    | _ => False
  | .lshr => match st with
    | .inl y :: .inr (.inl x) :: r => ft lv (.inr (.inl (x >>> (y.toInt64 &&& 63))) :: r) I J
    | _ => False
  | .lushr => match st with
    | .inl y :: .inr (.inl x) :: r => ft lv (.inr (.inl ((x.toUInt64 >>> (y.toInt64.toUInt64 &&& Int64.toUInt64 63)).toInt64)) :: r) I J
    | _ => False
  | .idiv => match st with
    | .inl y :: .inl x :: r => ¬ y = 0 ∧ ft lv (.inl (x / y) :: r) I J
    | _ => False
  | .irem => match st with
    | .inl y :: .inl x :: r => ¬ y = 0 ∧ ft lv (.inl (x - x / y * y) :: r) I J
    | _ => False
  | .ldiv => match st with
    | .inr (.inl y) :: .inr (.inl x) :: r => ¬ y = 0 ∧ ft lv (.inr (.inl (x / y)) :: r) I J
    | _ => False
  | .lrem => match st with
    | .inr (.inl y) :: .inr (.inl x) :: r => ¬ y = 0 ∧ ft lv (.inr (.inl (x - x / y * y)) :: r) I J
    | _ => False
  | .i2l => match st with
    | .inl x :: r => ft lv (.inr (.inl x.toInt64) :: r) I J
    | _ => False
  | .l2i => match st with
    | .inr (.inl x) :: r => ft lv (.inl x.toInt32 :: r) I J
    | _ => False
  | .lcmp => match st with
    | .inr (.inl y) :: .inr (.inl x) :: r => ft lv (.inl (lg_cmp x y) :: r) I J
    | _ => False
  | .ineg => match st with
    | .inl x :: r => ft lv (.inl (-x) :: r) I J
    | _ => False
  | .lneg => match st with
    | .inr (.inl x) :: r => ft lv (.inr (.inl (-x)) :: r) I J
    | _ => False
  | .dup => match st with
    | .inl x :: r => ft lv (.inl x :: .inl x :: r) I J
    | .inr (.inr x) :: r => ft lv (.inr (.inr x) :: .inr (.inr x) :: r) I J
    | _ => False
  | .dup2 => match st with
    | .inl y :: .inr (.inr x) :: r => ft lv (.inl y :: .inr (.inr x) :: .inl y :: .inr (.inr x) :: r) I J
    | _ => False
  | .goto _ => match ts with
    | [t] => jp t lv st I J
    | _ => False
  | .ifCond .eq _ => match ts, st with
    | [t], .inl x :: r => (x = 0 → jp t lv r I J) ∧ (¬ x = 0 → ft lv r I J)
    | _, _ => False
  | .ifCond .ne _ => match ts, st with
    | [t], .inl x :: r => (¬ x = 0 → jp t lv r I J) ∧ (x = 0 → ft lv r I J)
    | _, _ => False
  | .ifCond .lt _ => match ts, st with
    | [t], .inl x :: r => (x < 0 → jp t lv r I J) ∧ (¬ x < 0 → ft lv r I J)
    | _, _ => False
  | .ifCond .ge _ => match ts, st with
    | [t], .inl x :: r => (0 ≤ x → jp t lv r I J) ∧ (¬ 0 ≤ x → ft lv r I J)
    | _, _ => False
  | .ifCond .gt _ => match ts, st with
    | [t], .inl x :: r => (0 < x → jp t lv r I J) ∧ (¬ 0 < x → ft lv r I J)
    | _, _ => False
  | .ifCond .le _ => match ts, st with
    | [t], .inl x :: r => (x ≤ 0 → jp t lv r I J) ∧ (¬ x ≤ 0 → ft lv r I J)
    | _, _ => False
  | .if_icmp .eq _ => match ts, st with
    | [t], .inl y :: .inl x :: r => (x = y → jp t lv r I J) ∧ (¬ x = y → ft lv r I J)
    | _, _ => False
  | .if_icmp .ne _ => match ts, st with
    | [t], .inl y :: .inl x :: r => (¬ x = y → jp t lv r I J) ∧ (x = y → ft lv r I J)
    | _, _ => False
  | .if_icmp .lt _ => match ts, st with
    | [t], .inl y :: .inl x :: r => (x < y → jp t lv r I J) ∧ (¬ x < y → ft lv r I J)
    | _, _ => False
  | .if_icmp .ge _ => match ts, st with
    | [t], .inl y :: .inl x :: r => (y ≤ x → jp t lv r I J) ∧ (¬ y ≤ x → ft lv r I J)
    | _, _ => False
  | .if_icmp .gt _ => match ts, st with
    | [t], .inl y :: .inl x :: r => (y < x → jp t lv r I J) ∧ (¬ y < x → ft lv r I J)
    | _, _ => False
  | .if_icmp .le _ => match ts, st with
    | [t], .inl y :: .inl x :: r => (x ≤ y → jp t lv r I J) ∧ (¬ x ≤ y → ft lv r I J)
    | _, _ => False
  | .tableswitch _ _ hi _ => match ts, st with
    | t :: l, .inl x :: r => (∀ j, j < l.length → x = Int32.ofNat j → jp (l.getD j 0) lv r I J) ∧ ((x < 0 ∨ Int32.ofNat l.length ≤ x) → jp t lv r I J)
    | _, _ => False
  | .lookupswitch _ _ => match ts, st with
    | [t, t1, t2], .inl x :: r => (x = 1 → jp t1 lv r I J) ∧ (x = 2 → jp t2 lv r I J) ∧ ((¬ x = 1 ∧ ¬ x = 2) → jp t lv r I J)
    | _, _ => False
  | .getfield k => match m_lf fl k, st with
    | some (ci, f, kd), .inr (.inr i) :: r => sh i = .inl ci ∧ ft lv (m_gv rf I i f kd :: r) I J
    | _, _ => False
  | .putfield k => match m_lf fl k, st with
    | some (ci, f, 0), .inl x :: .inr (.inr i) :: r => sh i = .inl ci ∧ ft lv r (m_uI I i f x) J
    | some (ci, f, 1), .inl x :: .inr (.inr i) :: r => sh i = .inl ci ∧ (x = 0 ∨ x = 1) ∧ ft lv r (m_uI I i f x) J
    | _, _ => False
  | .iaload => match st with
    | .inl j :: .inr (.inr i) :: r => m_inb sh i 0 j ∧ ft lv (.inl (I i j.toNatClampNeg) :: r) I J
    | _ => False
  | .laload => match st with
    | .inl j :: .inr (.inr i) :: r => m_inb sh i 1 j ∧ ft lv (.inr (.inl (J i j.toNatClampNeg)) :: r) I J
    | _ => False
  | .baload => match st with
    | .inl j :: .inr (.inr i) :: r => m_inb sh i 2 j ∧ ft lv (.inl (I i j.toNatClampNeg) :: r) I J
    | _ => False
  | .aaload => match st with
    | .inl j :: .inr (.inr i) :: r => m_inr sh i j ∧ ft lv (.inr (.inr (rf i j.toNatClampNeg)) :: r) I J
    | _ => False
  | .arraylength => match st with
    | .inr (.inr i) :: r => m_isa sh i ∧ ft lv (.inl (m_len sh i) :: r) I J
    | _ => False
  | .iastore => match st with
    | .inl x :: .inl j :: .inr (.inr i) :: r => m_inb sh i 0 j ∧ ft lv r (m_uI I i j.toNatClampNeg x) J
    | _ => False
  | .bastore => match st with
    | .inl x :: .inl j :: .inr (.inr i) :: r => m_inb sh i 2 j ∧ (x = 0 ∨ x = 1) ∧ ft lv r (m_uI I i j.toNatClampNeg x) J
    | _ => False
  | .lastore => match st with
    | .inr (.inl x) :: .inl j :: .inr (.inr i) :: r => m_inb sh i 1 j ∧ ft lv r I (m_uJ J i j.toNatClampNeg x)
    | _ => False
  | .invokevirtual k => match ct k with
    | some (n, true, pt) => match Nat.ble n st.length && Nat.ble ((st.drop n).map m_cat).sum 8 with
      | true => pt (st.take n).reverse I J (fun r I1 J1 => ft lv (m_ol r ++ st.drop n) I1 J1)
      | false => False
    | _ => False
  | .invokestatic k => match ct k with
    | some (n, false, pt) => match Nat.ble n st.length && Nat.ble ((st.drop n).map m_cat).sum 8 with
      | true => pt (st.take n).reverse I J (fun r I1 J1 => ft lv (m_ol r ++ st.drop n) I1 J1)
      | false => False
    | _ => False
  | .ireturn => match rk, st with
    | 1, [.inl x] => Q (some (.inl x)) I J
    | 3, [.inl x] => (x = 0 ∨ x = 1) ∧ Q (some (.inl x)) I J
    | _, _ => False
  | .lreturn => match rk, st with
    | 2, [.inr (.inl x)] => Q (some (.inr (.inl x))) I J
    | _, _ => False
  | .areturn => match rk, st with
    | 4, [.inr (.inr x)] => Q (some (.inr (.inr x))) I J
    | _, _ => False
  | .return_ => match rk, st with
    | 0, [] => Q none I J
    | _, _ => False
  | _ => False
end
section
/-! ===== soundness of the pure machine ===== -/
theorem m_blt {a b : Nat} (h : Nat.blt a b = true) : a < b := Nat.le_of_ble_eq_true h
theorem m_ble2 {a b c d : Nat} (h : (Nat.ble a b && Nat.ble c d) = true) : a ≤ b ∧ c ≤ d := by
  rw [Bool.and_eq_true] at h
  exact ⟨Nat.le_of_ble_eq_true h.1, Nat.le_of_ble_eq_true h.2⟩
theorem m_inb_e {sh : mSH} {i t : Nat} {j : Int32} (h : m_inb sh i t j) : ∃ n, sh i = .inr (t, n) ∧ vp_in j n := by
  unfold m_inb at h
  split at h
  · rename_i t' n e
    obtain ⟨rfl, h2⟩ := h
    exact ⟨n, e, h2⟩
  · exact h.elim
theorem m_inr_e {sh : mSH} {i : Nat} {j : Int32} (h : m_inr sh i j) : ∃ t n, sh i = .inr (t, n) ∧ (t = 3 ∨ t = 4) ∧ vp_in j n := by
  unfold m_inr at h
  split at h
  · rename_i t' n e
    exact ⟨t', n, e, h.1, h.2⟩
  · exact h.elim
theorem m_isa_e {sh : mSH} {i : Nat} (h : m_isa sh i) : ∃ t n, sh i = .inr (t, n) ∧ t < 5 := by
  unfold m_isa at h
  split at h
  · rename_i t' n e
    exact ⟨t', n, e, h⟩
  · exact h.elim
theorem m_inb_i {sh : mSH} {i t n : Nat} {j : Int32} (h1 : sh i = .inr (t, n)) (h2 : vp_in j n) : m_inb sh i t j := by
  unfold m_inb
  rw [h1]
  exact ⟨rfl, h2⟩
theorem m_inr_i {sh : mSH} {i t n : Nat} {j : Int32} (h1 : sh i = .inr (t, n)) (h3 : t = 3 ∨ t = 4) (h2 : vp_in j n) : m_inr sh i j := by
  unfold m_inr
  rw [h1]
  exact ⟨h3, h2⟩
theorem m_isa_i {sh : mSH} {i t n : Nat} (h1 : sh i = .inr (t, n)) (h2 : t < 5) : m_isa sh i := by
  unfold m_isa
  rw [h1]
  exact h2
theorem m_len_i {sh : mSH} {i t n : Nat} (h1 : sh i = .inr (t, n)) : m_len sh i = nI n := by
  unfold m_len
  rw [h1]
  rfl
theorem m_ty_at (cs : Nat → ClassId) {t : Nat} (h : t < 5) : ∃ ty, (m_ty cs)[t]? = some (cs t, ty) := by
  match t, h with
  | 0, _ => exact ⟨_, rfl⟩
  | 1, _ => exact ⟨_, rfl⟩
  | 2, _ => exact ⟨_, rfl⟩
  | 3, _ => exact ⟨_, rfl⟩
  | 4, _ => exact ⟨_, rfl⟩
section MW
variable {cs : Nat → ClassId} {ad : Nat → Nat} {sh : mSH} {rf : mRF} {N : Nat} {I : mPI} {J : mPJ}
theorem m_wA {i t n : Nat} (h : sh i = .inr (t, n)) (hi : i < N) : (m_wl cs ad sh rf N I J)[i]? = some (ad i, .inl (cs t, m_ar ad rf I J i t n)) := by
  rw [m_wl_at _ _ _ _ _ _ _ hi]
  unfold m_ce
  rw [h]
theorem m_w0 {i n : Nat} (h : sh i = .inr (0, n)) (hi : i < N) : (m_wl cs ad sh rf N I J)[i]? = some (ad i, .inl (cs 0, n, .inl (I i))) := m_wA h hi
theorem m_w1 {i n : Nat} (h : sh i = .inr (1, n)) (hi : i < N) : (m_wl cs ad sh rf N I J)[i]? = some (ad i, .inl (cs 1, n, .inr (.inl (J i)))) := m_wA h hi
theorem m_w2 {i n : Nat} (h : sh i = .inr (2, n)) (hi : i < N) : (m_wl cs ad sh rf N I J)[i]? = some (ad i, .inl (cs 2, n, .inl (I i))) := m_wA h hi
theorem m_w3 {i t n : Nat} (h : sh i = .inr (t, n)) (h1 : ¬ t = 1) (h2 : ¬ t < 3) (hi : i < N) : (m_wl cs ad sh rf N I J)[i]? = some (ad i, .inl (cs t, n, .inr (.inr (.inr (.inr (fun k => some (ad (rf i k)))))))) := by
  rw [m_wA h hi]
  unfold m_ar
  rw [if_neg h1, if_neg h2]
theorem m_wO {i ci : Nat} (h : sh i = .inl ci) (hi : i < N) : (m_wl cs ad sh rf N I J)[i]? = some (ad i, .inr (ci, m_fs ad rf I i (m_ft ci) 0)) := by
  rw [m_wl_at _ _ _ _ _ _ _ hi]
  unfold m_ce
  rw [h]
theorem m_uI_o (I : mPI) {i k a : Nat} (v : Int32) (h : a ≠ i) (b : Nat) : m_uI I i k v a b = I a b := by
  unfold m_uI
  rw [if_neg (fun q => h q.1)]
theorem m_uJ_o (J : mPJ) {i k a : Nat} (v : Int64) (h : a ≠ i) (b : Nat) : m_uJ J i k v a b = J a b := by
  unfold m_uJ
  rw [if_neg (fun q => h q.1)]
theorem m_uI_f (I : mPI) (i k : Nat) (v : Int32) : m_uI I i k v i = upd (I i) k v := by
  funext b
  unfold m_uI upd
  by_cases hb : b = k
  · rw [if_pos ⟨rfl, hb⟩, if_pos hb]
  · rw [if_neg (fun q => hb q.2), if_neg hb]
theorem m_uJ_f (J : mPJ) (i k : Nat) (v : Int64) : m_uJ J i k v i = vp_updL (J i) k v := by
  funext b
  unfold m_uJ vp_updL
  by_cases hb : b = k
  · rw [if_pos ⟨rfl, hb⟩, if_pos hb]
  · rw [if_neg (fun q => hb q.2), if_neg hb]
theorem m_set0 {i n k : Nat} {x : Int32} (h : sh i = .inr (0, n)) : (m_wl cs ad sh rf N I J).set i (ad i, .inl (cs 0, n, .inl (upd (I i) k x))) = m_wl cs ad sh rf N (m_uI I i k x) J := by
  refine m_wl_set ?_ (fun j hj => m_ce_I (fun b => m_uI_o I x hj b) (fun _ => rfl))
  unfold m_ce m_ar
  rw [h, m_uI_f]
  rfl
theorem m_set2 {i n k : Nat} {x : Int32} (h : sh i = .inr (2, n)) : (m_wl cs ad sh rf N I J).set i (ad i, .inl (cs 2, n, .inl (upd (I i) k x))) = m_wl cs ad sh rf N (m_uI I i k x) J := by
  refine m_wl_set ?_ (fun j hj => m_ce_I (fun b => m_uI_o I x hj b) (fun _ => rfl))
  unfold m_ce m_ar
  rw [h, m_uI_f]
  rfl
theorem m_set1 {i n k : Nat} {x : Int64} (h : sh i = .inr (1, n)) : (m_wl cs ad sh rf N I J).set i (ad i, .inl (cs 1, n, .inr (.inl (vp_updL (J i) k x)))) = m_wl cs ad sh rf N I (m_uJ J i k x) := by
  refine m_wl_set ?_ (fun j hj => m_ce_I (fun _ => rfl) (fun b => m_uJ_o J x hj b))
  unfold m_ce m_ar
  rw [h, m_uJ_f]
  rfl
theorem m_setO {i ci k kd : Nat} {x : Int32} (h : sh i = .inl ci) (hk : (m_ft ci)[k]? = some kd) (h2 : kd ≠ 2) : (m_wl cs ad sh rf N I J).set i (ad i, .inr (ci, (m_fs ad rf I i (m_ft ci) 0).set k (.int x))) = m_wl cs ad sh rf N (m_uI I i k x) J := by
  refine m_wl_set ?_ (fun j hj => m_ce_I (fun b => m_uI_o I x hj b) (fun _ => rfl))
  unfold m_ce
  rw [h, m_fs_set ad rf I i x (m_ft ci) 0 k kd hk h2, Nat.zero_add]
end MW
section MS
variable {p : Program} {l : Launch} {e : Env} {R : Room} {s : State} {m : MethodId} {args : Array Value} {below : List Frame} {meth : Method} {c : Code} {Q : State → Prop} {cc : ByteArray} {own : String}
variable {D : va_G} {cs : Nat → ClassId} {ad : Nat → Nat} {sh : mSH} {rf : mRF} {N : Nat} {nL : Nat}
theorem m_cgW {H : Heap} {locs : List Loc} {cells slots : Nat} {g g2 : JFrame} (h : g = g2) (k : W p l e R s m args below meth c H locs cells slots Q g2) : W p l e R s m args below meth c H locs cells slots Q g := h ▸ k
/-- from here the machine comes to Q, whatever heap holds the named world -/
def m_G (p : Program) (l : Launch) (e : Env) (R : Room) (s : State) (m : MethodId) (args : Array Value) (below : List Frame) (meth : Method) (c : Code) (Q : State → Prop) (D : va_G) (cs : Nat → ClassId) (ad : Nat → Nat) (sh : mSH) (rf : mRF) (N nL pc : Nat) (lv : mLV) (st : List mPV) (I : mPI) (J : mPJ) : Prop :=
  ∀ (H : Heap) (locs : List Loc) (ls : Array Slot), va_P D m_cl (m_wl cs ad sh rf N I J) H → va_S (m_A ad N) s.heap H locs → lv_has ls nL (m_el ad lv) → W p l e R s m args below meth c H locs 0 0 Q (F0 m pc ls (st.map (m_ev ad)))
theorem m_kI_ok (hts : ∀ w ∈ m_tw, w.before args s = true) {kI : List (Nat × Int32 × Nat)} (hk : kI.all (m_kck own) = true) {k : Nat} {x : Int32} (h : m_lc kI k = some x) : (Cond.constant own k x).before args s = true := by
  obtain ⟨pos, hm⟩ := m_lc_mem h
  have h1 := List.all_eq_true.mp hk _ hm
  simp only [m_kck, m_kckL, Bool.and_eq_true, decide_eq_true_eq] at h1
  exact hts _ (m_tb_w (m_tb_pos h1.1 h1.2))
theorem m_kJ_ok (hts : ∀ w ∈ m_tw, w.before args s = true) {kJ : List (Nat × Int64 × Nat)} (hk : kJ.all (m_kckL own) = true) {k : Nat} {x : Int64} (h : m_lc kJ k = some x) : (Cond.constantLong own k x).before args s = true := by
  obtain ⟨pos, hm⟩ := m_lc_mem h
  have h1 := List.all_eq_true.mp hk _ hm
  simp only [m_kck, m_kckL, Bool.and_eq_true, decide_eq_true_eq] at h1
  exact hts _ (m_tb_w (m_tb_pos h1.1 h1.2))
theorem m_fck_e {q : mFL} (h : m_fck own q = true) : ∃ r : vw_C, m_cl[q.2.1]? = some r ∧ q.2.2.1 < r.2.2 ∧ (m_ft q.2.1)[q.2.2.1]? = some q.2.2.2.1 ∧ (q.2.2.2.1 ≠ 2 → (r.2.1 q.2.2.1).2.2.2 = false) ∧ (q.2.2.2.1 = 0 → m_tyf q.2.1 q.2.2.1 = .int) ∧ (q.2.2.2.1 = 1 → m_tyf q.2.1 q.2.2.1 = .boolean) ∧
    (Cond.fieldLink own q.1 (r.2.1 q.2.2.1).1 (r.2.1 q.2.2.1).2.1 (r.2.1 q.2.2.1).2.2.1 ∈ m_tw ∨ Cond.fieldLinkNest own q.1 (r.2.1 q.2.2.1).1 (r.2.1 q.2.2.1).2.1 (r.2.1 q.2.2.1).2.2.1 "MomentDesk" ∈ m_tw) := by
  unfold m_fck at h
  split at h
  · rename_i r hr
    simp only [Bool.and_eq_true, decide_eq_true_eq, Bool.or_eq_true, Bool.not_eq_true'] at h
    obtain ⟨⟨⟨⟨h1, h2⟩, h3⟩, h4⟩, h5⟩ := h
    refine ⟨r, hr, m_blt h1, h2, fun hne => ?_, fun h0 => ?_, fun h0 => ?_, ?_⟩
    · rcases h3 with h3 | h3
      · exact absurd (Nat.eq_of_beq_eq_true h3) hne
      · exact h3
    · rw [h4, if_pos h0]
    · rw [h4, if_neg (by omega), if_pos h0]
    · split at h5
      · simp only [Bool.and_eq_true, decide_eq_true_eq] at h5
        exact Or.inl (m_tb_w (m_tb_pos h5.1 h5.2))
      · exact Or.inr (List.mem_append_left _ (of_decide_eq_true h5))
  · cases h
theorem m_getf (hx : p.tables.exec = Jvm.exec) (hb : c.code = cc) (hown : s.vm.findClass own = some m.cls) (hts : ∀ w ∈ m_tw, w.before args s = true) (hK : va_K D m_cl (m_ty cs) s) (hN : ∀ i, sh i ≠ .inr (9, 0) → i < N) {fl : List mFL} (hfl : fl.all (m_fck own) = true) {k ci f kd i pc : Nat} (hf : m_lf fl k = some (ci, f, kd)) (hd : decode cc pc = .ok (.getfield k, 3))
    {H : Heap} {locs : List Loc} {I : mPI} {J : mPJ} {ls : Array Slot} {r : List mPV} (hP : va_P D m_cl (m_wl cs ad sh rf N I J) H) (hsh : sh i = .inl ci)
    (kk : W p l e R s m args below meth c H locs 0 0 Q (F0 m (pc + 3) ls (List.map (m_ev ad) ((m_gv rf I i f kd) :: r)))) : W p l e R s m args below meth c H locs 0 0 Q (F0 m pc ls (.ref (ad i) :: List.map (m_ev ad) r)) := by
  obtain ⟨h9, pos, hm⟩ := m_lf_mem hf
  obtain ⟨q, e1, e2, e3, -, -, -, e4⟩ := m_fck_e (own := own) (List.all_eq_true.mp hfl _ hm)
  have hiN : i < N := hN i (by rw [hsh]; simp)
  have hv : (m_fs ad rf I i (m_ft ci) 0)[f]? = some (m_ev ad (m_gv rf I i f kd)) := by
    have := m_fs_get ad rf I i (m_ft ci) 0 f kd e3
    rw [this, Nat.zero_add]
    unfold m_fv m_gv
    split
    · rename_i h2; subst h2; rfl
    · rename_i h2
      split
      · exact absurd rfl h2
      · rfl
  obtain ⟨C, T, n⟩ := q
  rcases e4 with e4 | e4
  · exact va_get hx hb hts (m_in ci _ e1) hown hK hP i (m_wO hsh hiN) e1 f e2 (hts _ e4) (fun _ h => h) hv hd kk
  · exact va_getN hx hb hts (m_in ci _ e1) hown hK hP i (m_wO hsh hiN) e1 f e2 (hts _ e4) (fun _ h => h) hv hd kk
theorem m_putf (hx : p.tables.exec = Jvm.exec) (hb : c.code = cc) (hown : s.vm.findClass own = some m.cls) (hts : ∀ w ∈ m_tw, w.before args s = true) (hK : va_K D m_cl (m_ty cs) s) (hi : ∀ i j, i < N → j < N → ad i = ad j → i = j) (hN : ∀ i, sh i ≠ .inr (9, 0) → i < N) {fl : List mFL} (hfl : fl.all (m_fck own) = true) {k ci f kd i pc : Nat} (hf : m_lf fl k = some (ci, f, kd)) (hd : decode cc pc = .ok (.putfield k, 3))
    {H : Heap} {locs : List Loc} {I : mPI} {J : mPJ} {ls : Array Slot} {r : List mPV} {x : Int32} (hP : va_P D m_cl (m_wl cs ad sh rf N I J) H) (hS : va_S (m_A ad N) s.heap H locs) (hsh : sh i = .inl ci) (hkd : kd = 0 ∨ (kd = 1 ∧ (x = 0 ∨ x = 1)))
    (kk : ∀ (H1 : Heap) (locs1 : List Loc), va_P D m_cl (m_wl cs ad sh rf N (m_uI I i f x) J) H1 → va_S (m_A ad N) s.heap H1 locs1 → W p l e R s m args below meth c H1 locs1 0 0 Q (F0 m (pc + 3) ls (List.map (m_ev ad) r))) : W p l e R s m args below meth c H locs 0 0 Q (F0 m pc ls (.int x :: .ref (ad i) :: List.map (m_ev ad) r)) := by
  obtain ⟨h9, pos, hm⟩ := m_lf_mem hf
  obtain ⟨q, e1, e2, e3, e5, e6, e7, e4⟩ := m_fck_e (own := own) (List.all_eq_true.mp hfl _ hm)
  have hiN : i < N := hN i (by rw [hsh]; simp)
  have hne : kd ≠ 2 := by omega
  have hty := m_hty ci q e1 f e2
  have hlt : f < (m_fs ad rf I i (m_ft ci) 0).length := by rw [m_fs_len]; exact (List.getElem?_eq_some_iff.mp e3).1
  have hnar : narrow (m_tyf ci f) (.int x) = .int x := by
    rcases hkd with h | ⟨h, h2⟩
    · rw [show m_tyf ci f = .int from e6 h]; rfl
    · rw [show m_tyf ci f = .boolean from e7 h]; rcases h2 with rfl | rfl <;> decide +kernel
  have hfit : fits (m_tyf ci f) (.int x) = true := by
    rcases hkd with h | ⟨h, h2⟩
    · rw [show m_tyf ci f = .int from e6 h]; rfl
    · rw [show m_tyf ci f = .boolean from e7 h]; rcases h2 with rfl | rfl <;> decide +kernel
  obtain ⟨C, T, n⟩ := q
  have kk' : ∀ (H1 : Heap) (locs1 : List Loc), va_P D m_cl ((m_wl cs ad sh rf N I J).set i (ad i, .inr (ci, (m_fs ad rf I i (m_ft ci) 0).set f (.int x)))) H1 → va_D (m_A ad N) ((m_wl cs ad sh rf N I J).set i (ad i, .inr (ci, (m_fs ad rf I i (m_ft ci) 0).set f (.int x)))) → va_S (m_A ad N) s.heap H1 locs1 → W p l e R s m args below meth c H1 locs1 0 0 Q (F0 m (pc + 3) ls (List.map (m_ev ad) r)) := by
    intro H1 locs1 hP1 _ hS1
    rw [m_setO hsh e3 hne] at hP1
    exact kk H1 locs1 hP1 hS1
  rcases e4 with e4 | e4
  · exact va_put hx hb hts (m_in ci _ e1) (m_tyf ci) (m_hty ci _ e1) (m_hnm ci _ e1) hown hK hP (m_wl_D hi cs sh rf I J) hS i (m_wO hsh hiN) e1 f e2 (hts _ e4) (fun _ h => h) (e5 hne) hty hnar hfit hlt hd kk'
  · exact va_putN hx hb hts (m_in ci _ e1) (m_tyf ci) (m_hty ci _ e1) (m_hnm ci _ e1) hown hK hP (m_wl_D hi cs sh rf I J) hS i (m_wO hsh hiN) e1 f e2 (hts _ e4) (fun _ h => h) (e5 hne) hty hnar hfit hlt hd kk'
/-- a call of what stands at index k: from pt's words it goes on -/
def m_CG (p : Program) (l : Launch) (e : Env) (R : Room) (s : State) (m : MethodId) (args : Array Value) (below : List Frame) (meth : Method) (c : Code) (Q : State → Prop) (D : va_G) (cs : Nat → ClassId) (ad : Nat → Nat) (sh : mSH) (rf : mRF) (N nL : Nat) (cc : ByteArray) (k n : Nat) (vf : Bool) (pt : mPT) : Prop :=
  ∀ (pc : Nat), decode cc pc = .ok ((match vf with | true => Instr.invokevirtual k | false => Instr.invokestatic k), 3) → ∀ (As rest : List mPV) (lv : mLV) (I : mPI) (J : mPJ) (K : mKT), As.length = n → (rest.map m_cat).sum ≤ 8 → pt As I J K →
    (∀ r I1 J1, K r I1 J1 → m_G p l e R s m args below meth c Q D cs ad sh rf N nL (pc + 3) lv (m_ol r ++ rest) I1 J1) → m_G p l e R s m args below meth c Q D cs ad sh rf N nL pc lv (As.reverse ++ rest) I J
/-- the ends of a method -/
def m_E (p : Program) (l : Launch) (e : Env) (R : Room) (s : State) (m : MethodId) (args : Array Value) (below : List Frame) (meth : Method) (c : Code) (Q : State → Prop) (D : va_G) (cs : Nat → ClassId) (ad : Nat → Nat) (sh : mSH) (rf : mRF) (N nL : Nat) (cc : ByteArray) (rk : Nat) (QP : mKT) : Prop :=
  ∀ (pc : Nat) (lv : mLV) (I : mPI) (J : mPJ),
    (∀ x : Int32, decode cc pc = .ok (.ireturn, 1) → (rk = 1 ∨ (rk = 3 ∧ (x = 0 ∨ x = 1))) → QP (some (.inl x)) I J → m_G p l e R s m args below meth c Q D cs ad sh rf N nL pc lv [.inl x] I J) ∧
    (∀ x : Int64, decode cc pc = .ok (.lreturn, 1) → rk = 2 → QP (some (.inr (.inl x))) I J → m_G p l e R s m args below meth c Q D cs ad sh rf N nL pc lv [.inr (.inl x)] I J) ∧
    (∀ x : Nat, decode cc pc = .ok (.areturn, 1) → rk = 4 → QP (some (.inr (.inr x))) I J → m_G p l e R s m args below meth c Q D cs ad sh rf N nL pc lv [.inr (.inr x)] I J) ∧
    (decode cc pc = .ok (.return_, 1) → rk = 0 → QP none I J → m_G p l e R s m args below meth c Q D cs ad sh rf N nL pc lv [] I J)
set_option maxHeartbeats 4000000 in
set_option maxRecDepth 100000 in
theorem m_sp_ok (hx : p.tables.exec = Jvm.exec) (hb : c.code = cc) (hown : s.vm.findClass own = some m.cls) (hts : ∀ w ∈ m_tw, w.before args s = true) (hK : va_K D m_cl (m_ty cs) s) (hi : ∀ i j, i < N → j < N → ad i = ad j → i = j) (hN : ∀ i, sh i ≠ .inr (9, 0) → i < N)
    {fl : List mFL} (hfl : fl.all (m_fck own) = true) {kI : List (Nat × Int32 × Nat)} (hkI : kI.all (m_kck own) = true) {kJ : List (Nat × Int64 × Nat)} (hkJ : kJ.all (m_kckL own) = true) {ct : Nat → Option (Nat × Bool × mPT)} (hct : ∀ k n vf pt, ct k = some (n, vf, pt) → m_CG p l e R s m args below meth c Q D cs ad sh rf N nL cc k n vf pt)
    {rk : Nat} {QP : mKT} (hE : m_E p l e R s m args below meth c Q D cs ad sh rf N nL cc rk QP) {pc len : Nat} {ins : Instr} {ts : List Nat} {v : Int32} (hq : m_ick cc (pc, ins, len, ts, v) = true)
    {ft : mLV → List mPV → mPI → mPJ → Prop} {jp : Nat → mLV → List mPV → mPI → mPJ → Prop} (hft : ∀ lv st I J, ft lv st I J → m_G p l e R s m args below meth c Q D cs ad sh rf N nL (pc + len) lv st I J) (hjp : ∀ t lv st I J, jp t lv st I J → m_G p l e R s m args below meth c Q D cs ad sh rf N nL t lv st I J)
    {lv : mLV} {st : List mPV} {I : mPI} {J : mPJ} (h : m_sp nL fl kI kJ ct sh rf rk QP ft jp ins ts v lv st I J) : m_G p l e R s m args below meth c Q D cs ad sh rf N nL pc lv st I J := by
  unfold m_ick at hq
  simp only [Bool.and_eq_true, decide_eq_true_eq, Bool.or_eq_true] at hq
  obtain ⟨⟨⟨hd, hlen⟩, hj⟩, hv⟩ := hq
  unfold m_sp at h
  split at h
  · rename_i k
    have hlen := Nat.eq_of_beq_eq_true (hlen.resolve_right (by simp [m_isw]))
    simp only [m_ilen] at hlen
    subst hlen
    split at h
    · rename_i x hx9
      intro H locs ls hP hS hl
      exact lv_iload_n hx hb hd rfl (m_at hl hx9) (hft _ _ _ _ h H locs ls hP hS hl)
    · exact h.elim
  · rename_i k
    have hlen := Nat.eq_of_beq_eq_true (hlen.resolve_right (by simp [m_isw]))
    simp only [m_ilen] at hlen
    subst hlen
    split at h
    · rename_i x hx9
      intro H locs ls hP hS hl
      exact lv_iload hx hb hd (m_at hl hx9) (hft _ _ _ _ h H locs ls hP hS hl)
    · exact h.elim
  · rename_i k
    have hlen := Nat.eq_of_beq_eq_true (hlen.resolve_right (by simp [m_isw]))
    simp only [m_ilen] at hlen
    subst hlen
    split at h
    · rename_i x hx9
      intro H locs ls hP hS hl
      exact lv_lload_n hx hb hd rfl (m_at hl hx9) (hft _ _ _ _ h H locs ls hP hS hl)
    · exact h.elim
  · rename_i k
    have hlen := Nat.eq_of_beq_eq_true (hlen.resolve_right (by simp [m_isw]))
    simp only [m_ilen] at hlen
    subst hlen
    split at h
    · rename_i x hx9
      intro H locs ls hP hS hl
      exact lv_lload hx hb hd (m_at hl hx9) (hft _ _ _ _ h H locs ls hP hS hl)
    · exact h.elim
  · rename_i k
    have hlen := Nat.eq_of_beq_eq_true (hlen.resolve_right (by simp [m_isw]))
    simp only [m_ilen] at hlen
    subst hlen
    split at h
    · rename_i x hx9
      intro H locs ls hP hS hl
      exact lv_aload_n hx hb hd rfl (m_at hl hx9) (hft _ _ _ _ h H locs ls hP hS hl)
    · exact h.elim
  · rename_i k
    have hlen := Nat.eq_of_beq_eq_true (hlen.resolve_right (by simp [m_isw]))
    simp only [m_ilen] at hlen
    subst hlen
    split at h
    · rename_i x hx9
      intro H locs ls hP hS hl
      exact lv_aload hx hb hd (m_at hl hx9) (hft _ _ _ _ h H locs ls hP hS hl)
    · exact h.elim
  · rename_i k
    have hlen := Nat.eq_of_beq_eq_true (hlen.resolve_right (by simp [m_isw]))
    simp only [m_ilen] at hlen
    subst hlen
    split at h
    · rename_i x r
      split at h
      · rename_i hb9
        intro H locs ls hP hS hl
        exact lv_istore_n hx hb hd rfl hl (m_blt hb9) (m_el_s1 (v := .inl x)) (fun ls' hl' => hft _ _ _ _ h H locs ls' hP hS hl')
      · exact h.elim
    · exact h.elim
  · rename_i k
    have hlen := Nat.eq_of_beq_eq_true (hlen.resolve_right (by simp [m_isw]))
    simp only [m_ilen] at hlen
    subst hlen
    split at h
    · rename_i x r
      split at h
      · rename_i hb9
        intro H locs ls hP hS hl
        exact lv_istore hx hb hd hl (m_blt hb9) (m_el_s1 (v := .inl x)) (fun ls' hl' => hft _ _ _ _ h H locs ls' hP hS hl')
      · exact h.elim
    · exact h.elim
  · rename_i k
    have hlen := Nat.eq_of_beq_eq_true (hlen.resolve_right (by simp [m_isw]))
    simp only [m_ilen] at hlen
    subst hlen
    split at h
    · rename_i x r
      split at h
      · rename_i hb9
        intro H locs ls hP hS hl
        exact lv_lstore_n hx hb hd rfl hl (m_blt hb9) (m_el_s2 (v := .inr (.inl x))) (fun ls' hl' => hft _ _ _ _ h H locs ls' hP hS hl')
      · exact h.elim
    · exact h.elim
  · rename_i k
    have hlen := Nat.eq_of_beq_eq_true (hlen.resolve_right (by simp [m_isw]))
    simp only [m_ilen] at hlen
    subst hlen
    split at h
    · rename_i x r
      split at h
      · rename_i hb9
        intro H locs ls hP hS hl
        exact lv_lstore hx hb hd hl (m_blt hb9) (m_el_s2 (v := .inr (.inl x))) (fun ls' hl' => hft _ _ _ _ h H locs ls' hP hS hl')
      · exact h.elim
    · exact h.elim
  · rename_i k
    have hlen := Nat.eq_of_beq_eq_true (hlen.resolve_right (by simp [m_isw]))
    simp only [m_ilen] at hlen
    subst hlen
    split at h
    · rename_i x r
      split at h
      · rename_i hb9
        intro H locs ls hP hS hl
        exact lv_astore_n hx hb hd rfl hl (m_blt hb9) (m_el_s1 (v := .inr (.inr x))) (fun ls' hl' => hft _ _ _ _ h H locs ls' hP hS hl')
      · exact h.elim
    · exact h.elim
  · rename_i k
    have hlen := Nat.eq_of_beq_eq_true (hlen.resolve_right (by simp [m_isw]))
    simp only [m_ilen] at hlen
    subst hlen
    split at h
    · rename_i x r
      split at h
      · rename_i hb9
        intro H locs ls hP hS hl
        exact lv_astore hx hb hd hl (m_blt hb9) (m_el_s1 (v := .inr (.inr x))) (fun ls' hl' => hft _ _ _ _ h H locs ls' hP hS hl')
      · exact h.elim
    · exact h.elim
  · rename_i z9
    have hlen := Nat.eq_of_beq_eq_true (hlen.resolve_right (by simp [m_isw]))
    simp only [m_ilen] at hlen
    subst hlen
    simp only [m_vck] at hv
    intro H locs ls hP hS hl
    exact lv_iconst hx hb hd (of_decide_eq_true hv) (hft _ _ _ _ h H locs ls hP hS hl)
  · rename_i z9
    have hlen := Nat.eq_of_beq_eq_true (hlen.resolve_right (by simp [m_isw]))
    simp only [m_ilen] at hlen
    subst hlen
    simp only [m_vck] at hv
    intro H locs ls hP hS hl
    exact lv_bipush hx hb hd (of_decide_eq_true hv) (hft _ _ _ _ h H locs ls hP hS hl)
  · rename_i z9
    have hlen := Nat.eq_of_beq_eq_true (hlen.resolve_right (by simp [m_isw]))
    simp only [m_ilen] at hlen
    subst hlen
    simp only [m_vck] at hv
    intro H locs ls hP hS hl
    exact lv_sipush hx hb hd (of_decide_eq_true hv) (hft _ _ _ _ h H locs ls hP hS hl)
  · rename_i n
    have hlen := Nat.eq_of_beq_eq_true (hlen.resolve_right (by simp [m_isw]))
    simp only [m_ilen] at hlen
    subst hlen
    intro H locs ls hP hS hl
    refine lv_lconst hx hb hd ?_ (hft _ _ _ _ h H locs ls hP hS hl)
    match n with
    | 0 => rfl
    | 1 => rfl
  · rename_i k
    have hlen := Nat.eq_of_beq_eq_true (hlen.resolve_right (by simp [m_isw]))
    simp only [m_ilen] at hlen
    subst hlen
    split at h
    · rename_i x hx9
      intro H locs ls hP hS hl
      exact lv_ldc hx hb hown (m_kI_ok hts hkI hx9) hd (hft _ _ _ _ h H locs ls hP hS hl)
    · exact h.elim
  · rename_i k
    have hlen := Nat.eq_of_beq_eq_true (hlen.resolve_right (by simp [m_isw]))
    simp only [m_ilen] at hlen
    subst hlen
    split at h
    · rename_i x hx9
      intro H locs ls hP hS hl
      exact lv_ldcw hx hb hown (m_kI_ok hts hkI hx9) hd (hft _ _ _ _ h H locs ls hP hS hl)
    · exact h.elim
  · rename_i k
    have hlen := Nat.eq_of_beq_eq_true (hlen.resolve_right (by simp [m_isw]))
    simp only [m_ilen] at hlen
    subst hlen
    split at h
    · rename_i x hx9
      intro H locs ls hP hS hl
      exact lv_ldc2 hx hb hown (m_kJ_ok hts hkJ hx9) hd (hft _ _ _ _ h H locs ls hP hS hl)
    · exact h.elim
  · rename_i k z9
    have hlen := Nat.eq_of_beq_eq_true (hlen.resolve_right (by simp [m_isw]))
    simp only [m_ilen] at hlen
    subst hlen
    simp only [m_vck] at hv
    split at h
    · rename_i x hx9
      split at h
      · rename_i hb9
        intro H locs ls hP hS hl
        obtain ⟨j, hj⟩ := m_lk_get hx9
        exact lv_iinc hx hb hd hl (m_el_get hj) (by rw [of_decide_eq_true hv]) (m_blt hb9) (m_el_s1 (v := .inl (x + v))) (fun ls' hl' => hft _ _ _ _ h H locs ls' hP hS hl')
      · exact h.elim
    · exact h.elim
  · have hlen := Nat.eq_of_beq_eq_true (hlen.resolve_right (by simp [m_isw]))
    simp only [m_ilen] at hlen
    subst hlen
    split at h
    · rename_i y x r
      intro H locs ls hP hS hl
      exact lv_iadd hx hb hd (hft _ _ _ _ h H locs ls hP hS hl)
    · exact h.elim
  · have hlen := Nat.eq_of_beq_eq_true (hlen.resolve_right (by simp [m_isw]))
    simp only [m_ilen] at hlen
    subst hlen
    split at h
    · rename_i y x r
      intro H locs ls hP hS hl
      exact lv_isub hx hb hd (hft _ _ _ _ h H locs ls hP hS hl)
    · exact h.elim
  · have hlen := Nat.eq_of_beq_eq_true (hlen.resolve_right (by simp [m_isw]))
    simp only [m_ilen] at hlen
    subst hlen
    split at h
    · rename_i y x r
      intro H locs ls hP hS hl
      exact lv_imul hx hb hd (hft _ _ _ _ h H locs ls hP hS hl)
    · exact h.elim
  · have hlen := Nat.eq_of_beq_eq_true (hlen.resolve_right (by simp [m_isw]))
    simp only [m_ilen] at hlen
    subst hlen
    split at h
    · rename_i y x r
      intro H locs ls hP hS hl
      exact lv_iand hx hb hd (hft _ _ _ _ h H locs ls hP hS hl)
    · exact h.elim
  · have hlen := Nat.eq_of_beq_eq_true (hlen.resolve_right (by simp [m_isw]))
    simp only [m_ilen] at hlen
    subst hlen
    split at h
    · rename_i y x r
      intro H locs ls hP hS hl
      exact lv_ior hx hb hd (hft _ _ _ _ h H locs ls hP hS hl)
    · exact h.elim
  · have hlen := Nat.eq_of_beq_eq_true (hlen.resolve_right (by simp [m_isw]))
    simp only [m_ilen] at hlen
    subst hlen
    split at h
    · rename_i y x r
      intro H locs ls hP hS hl
      exact lv_ixor hx hb hd (hft _ _ _ _ h H locs ls hP hS hl)
    · exact h.elim
  · have hlen := Nat.eq_of_beq_eq_true (hlen.resolve_right (by simp [m_isw]))
    simp only [m_ilen] at hlen
    subst hlen
    split at h
    · rename_i y x r
      intro H locs ls hP hS hl
      exact lv_ishl hx hb hd (hft _ _ _ _ h H locs ls hP hS hl)
    · exact h.elim
  · have hlen := Nat.eq_of_beq_eq_true (hlen.resolve_right (by simp [m_isw]))
    simp only [m_ilen] at hlen
    subst hlen
    split at h
    · rename_i y x r
      intro H locs ls hP hS hl
      exact lv_ishr hx hb hd (hft _ _ _ _ h H locs ls hP hS hl)
    · exact h.elim
  · have hlen := Nat.eq_of_beq_eq_true (hlen.resolve_right (by simp [m_isw]))
    simp only [m_ilen] at hlen
    subst hlen
    split at h
    · rename_i y x r
      intro H locs ls hP hS hl
      exact lv_iushr hx hb hd rfl (hft _ _ _ _ h H locs ls hP hS hl)
    · exact h.elim
  · have hlen := Nat.eq_of_beq_eq_true (hlen.resolve_right (by simp [m_isw]))
    simp only [m_ilen] at hlen
    subst hlen
    split at h
    · rename_i y x r
      intro H locs ls hP hS hl
      exact lv_ladd hx hb hd (hft _ _ _ _ h H locs ls hP hS hl)
    · exact h.elim
  · have hlen := Nat.eq_of_beq_eq_true (hlen.resolve_right (by simp [m_isw]))
    simp only [m_ilen] at hlen
    subst hlen
    split at h
    · rename_i y x r
      intro H locs ls hP hS hl
      exact lv_lsub hx hb hd (hft _ _ _ _ h H locs ls hP hS hl)
    · exact h.elim
  · have hlen := Nat.eq_of_beq_eq_true (hlen.resolve_right (by simp [m_isw]))
    simp only [m_ilen] at hlen
    subst hlen
    split at h
    · rename_i y x r
      intro H locs ls hP hS hl
      exact lv_lmul hx hb hd (hft _ _ _ _ h H locs ls hP hS hl)
    · exact h.elim
  · have hlen := Nat.eq_of_beq_eq_true (hlen.resolve_right (by simp [m_isw]))
    simp only [m_ilen] at hlen
    subst hlen
    split at h
    · rename_i y x r
      intro H locs ls hP hS hl
      exact lv_land hx hb hd (hft _ _ _ _ h H locs ls hP hS hl)
    · exact h.elim
  · have hlen := Nat.eq_of_beq_eq_true (hlen.resolve_right (by simp [m_isw]))
    simp only [m_ilen] at hlen
    subst hlen
    split at h
    · rename_i y x r
      intro H locs ls hP hS hl
      exact lv_lor hx hb hd (hft _ _ _ _ h H locs ls hP hS hl)
    · exact h.elim
  · have hlen := Nat.eq_of_beq_eq_true (hlen.resolve_right (by simp [m_isw]))
    simp only [m_ilen] at hlen
    subst hlen
    split at h
    · rename_i y x r
      intro H locs ls hP hS hl
      exact lv_lshl hx hb hd rfl (hft _ _ _ _ h H locs ls hP hS hl)
    · exact h.elim
  · have hlen := Nat.eq_of_beq_eq_true (hlen.resolve_right (by simp [m_isw]))
    simp only [m_ilen] at hlen
    subst hlen
    split at h
    · rename_i y x r
      intro H locs ls hP hS hl
      exact lv_lshr hx hb hd rfl (hft _ _ _ _ h H locs ls hP hS hl)
    · exact h.elim
  · have hlen := Nat.eq_of_beq_eq_true (hlen.resolve_right (by simp [m_isw]))
    simp only [m_ilen] at hlen
    subst hlen
    split at h
    · rename_i y x r
      intro H locs ls hP hS hl
      exact lv_lushr hx hb hd rfl (hft _ _ _ _ h H locs ls hP hS hl)
    · exact h.elim
  · have hlen := Nat.eq_of_beq_eq_true (hlen.resolve_right (by simp [m_isw]))
    simp only [m_ilen] at hlen
    subst hlen
    split at h
    · rename_i y x r
      intro H locs ls hP hS hl
      exact lv_idiv hx hb hd h.1 (hft _ _ _ _ h.2 H locs ls hP hS hl)
    · exact h.elim
  · have hlen := Nat.eq_of_beq_eq_true (hlen.resolve_right (by simp [m_isw]))
    simp only [m_ilen] at hlen
    subst hlen
    split at h
    · rename_i y x r
      intro H locs ls hP hS hl
      exact lv_irem hx hb hd h.1 (hft _ _ _ _ h.2 H locs ls hP hS hl)
    · exact h.elim
  · have hlen := Nat.eq_of_beq_eq_true (hlen.resolve_right (by simp [m_isw]))
    simp only [m_ilen] at hlen
    subst hlen
    split at h
    · rename_i y x r
      intro H locs ls hP hS hl
      exact lv_ldiv hx hb hd h.1 (hft _ _ _ _ h.2 H locs ls hP hS hl)
    · exact h.elim
  · have hlen := Nat.eq_of_beq_eq_true (hlen.resolve_right (by simp [m_isw]))
    simp only [m_ilen] at hlen
    subst hlen
    split at h
    · rename_i y x r
      intro H locs ls hP hS hl
      exact lv_lrem hx hb hd h.1 (hft _ _ _ _ h.2 H locs ls hP hS hl)
    · exact h.elim
  · have hlen := Nat.eq_of_beq_eq_true (hlen.resolve_right (by simp [m_isw]))
    simp only [m_ilen] at hlen
    subst hlen
    split at h
    · rename_i x r
      intro H locs ls hP hS hl
      exact lv_i2l hx hb hd rfl (hft _ _ _ _ h H locs ls hP hS hl)
    · exact h.elim
  · have hlen := Nat.eq_of_beq_eq_true (hlen.resolve_right (by simp [m_isw]))
    simp only [m_ilen] at hlen
    subst hlen
    split at h
    · rename_i x r
      intro H locs ls hP hS hl
      exact lv_l2i hx hb hd rfl (hft _ _ _ _ h H locs ls hP hS hl)
    · exact h.elim
  · have hlen := Nat.eq_of_beq_eq_true (hlen.resolve_right (by simp [m_isw]))
    simp only [m_ilen] at hlen
    subst hlen
    split at h
    · rename_i y x r
      intro H locs ls hP hS hl
      exact W.lcmp hx hb hd (hft _ _ _ _ h H locs ls hP hS hl)
    · exact h.elim
  · have hlen := Nat.eq_of_beq_eq_true (hlen.resolve_right (by simp [m_isw]))
    simp only [m_ilen] at hlen
    subst hlen
    split at h
    · rename_i x r
      intro H locs ls hP hS hl
      exact lv_ineg hx hb hd (hft _ _ _ _ h H locs ls hP hS hl)
    · exact h.elim
  · have hlen := Nat.eq_of_beq_eq_true (hlen.resolve_right (by simp [m_isw]))
    simp only [m_ilen] at hlen
    subst hlen
    split at h
    · rename_i x r
      intro H locs ls hP hS hl
      exact lv_lneg hx hb hd (hft _ _ _ _ h H locs ls hP hS hl)
    · exact h.elim
  · have hlen := Nat.eq_of_beq_eq_true (hlen.resolve_right (by simp [m_isw]))
    simp only [m_ilen] at hlen
    subst hlen
    split at h
    · rename_i x r
      intro H locs ls hP hS hl
      exact lv_dup hx hb hd rfl (hft _ _ _ _ h H locs ls hP hS hl)
    · rename_i x r
      intro H locs ls hP hS hl
      exact lv_dup hx hb hd rfl (hft _ _ _ _ h H locs ls hP hS hl)
    · exact h.elim
  · have hlen := Nat.eq_of_beq_eq_true (hlen.resolve_right (by simp [m_isw]))
    simp only [m_ilen] at hlen
    subst hlen
    split at h
    · rename_i y x r
      intro H locs ls hP hS hl
      exact lv_dup2_11 hx hb hd rfl rfl (hft _ _ _ _ h H locs ls hP hS hl)
    · exact h.elim
  · rename_i z9
    have hlen := Nat.eq_of_beq_eq_true (hlen.resolve_right (by simp [m_isw]))
    simp only [m_ilen] at hlen
    subst hlen
    simp only [m_jck] at hj
    split at h
    · rename_i t
      intro H locs ls hP hS hl
      exact lv_goto hx hb hd (of_decide_eq_true hj) (hjp _ _ _ _ _ h H locs ls hP hS hl)
    · exact h.elim
  · rename_i z9
    have hlen := Nat.eq_of_beq_eq_true (hlen.resolve_right (by simp [m_isw]))
    simp only [m_ilen] at hlen
    subst hlen
    simp only [m_jck] at hj
    split at h
    · rename_i t x r
      intro H locs ls hP hS hl
      exact lv_if_eq hx hb hd (of_decide_eq_true hj) (fun c9 => hjp _ _ _ _ _ (h.1 c9) H locs ls hP hS hl) (fun c9 => hft _ _ _ _ (h.2 c9) H locs ls hP hS hl)
    · exact h.elim
  · rename_i z9
    have hlen := Nat.eq_of_beq_eq_true (hlen.resolve_right (by simp [m_isw]))
    simp only [m_ilen] at hlen
    subst hlen
    simp only [m_jck] at hj
    split at h
    · rename_i t x r
      intro H locs ls hP hS hl
      exact lv_if_ne hx hb hd (of_decide_eq_true hj) (fun c9 => hjp _ _ _ _ _ (h.1 c9) H locs ls hP hS hl) (fun c9 => hft _ _ _ _ (h.2 c9) H locs ls hP hS hl)
    · exact h.elim
  · rename_i z9
    have hlen := Nat.eq_of_beq_eq_true (hlen.resolve_right (by simp [m_isw]))
    simp only [m_ilen] at hlen
    subst hlen
    simp only [m_jck] at hj
    split at h
    · rename_i t x r
      intro H locs ls hP hS hl
      exact lv_if_lt hx hb hd (of_decide_eq_true hj) (fun c9 => hjp _ _ _ _ _ (h.1 c9) H locs ls hP hS hl) (fun c9 => hft _ _ _ _ (h.2 c9) H locs ls hP hS hl)
    · exact h.elim
  · rename_i z9
    have hlen := Nat.eq_of_beq_eq_true (hlen.resolve_right (by simp [m_isw]))
    simp only [m_ilen] at hlen
    subst hlen
    simp only [m_jck] at hj
    split at h
    · rename_i t x r
      intro H locs ls hP hS hl
      exact lv_if_ge hx hb hd (of_decide_eq_true hj) (fun c9 => hjp _ _ _ _ _ (h.1 c9) H locs ls hP hS hl) (fun c9 => hft _ _ _ _ (h.2 c9) H locs ls hP hS hl)
    · exact h.elim
  · rename_i z9
    have hlen := Nat.eq_of_beq_eq_true (hlen.resolve_right (by simp [m_isw]))
    simp only [m_ilen] at hlen
    subst hlen
    simp only [m_jck] at hj
    split at h
    · rename_i t x r
      intro H locs ls hP hS hl
      exact lv_if_gt hx hb hd (of_decide_eq_true hj) (fun c9 => hjp _ _ _ _ _ (h.1 c9) H locs ls hP hS hl) (fun c9 => hft _ _ _ _ (h.2 c9) H locs ls hP hS hl)
    · exact h.elim
  · rename_i z9
    have hlen := Nat.eq_of_beq_eq_true (hlen.resolve_right (by simp [m_isw]))
    simp only [m_ilen] at hlen
    subst hlen
    simp only [m_jck] at hj
    split at h
    · rename_i t x r
      intro H locs ls hP hS hl
      exact lv_if_le hx hb hd (of_decide_eq_true hj) (fun c9 => hjp _ _ _ _ _ (h.1 c9) H locs ls hP hS hl) (fun c9 => hft _ _ _ _ (h.2 c9) H locs ls hP hS hl)
    · exact h.elim
  · rename_i z9
    have hlen := Nat.eq_of_beq_eq_true (hlen.resolve_right (by simp [m_isw]))
    simp only [m_ilen] at hlen
    subst hlen
    simp only [m_jck] at hj
    split at h
    · rename_i t y x r
      intro H locs ls hP hS hl
      exact lv_icmp_eq hx hb hd (of_decide_eq_true hj) (fun c9 => hjp _ _ _ _ _ (h.1 c9) H locs ls hP hS hl) (fun c9 => hft _ _ _ _ (h.2 c9) H locs ls hP hS hl)
    · exact h.elim
  · rename_i z9
    have hlen := Nat.eq_of_beq_eq_true (hlen.resolve_right (by simp [m_isw]))
    simp only [m_ilen] at hlen
    subst hlen
    simp only [m_jck] at hj
    split at h
    · rename_i t y x r
      intro H locs ls hP hS hl
      exact lv_icmp_ne hx hb hd (of_decide_eq_true hj) (fun c9 => hjp _ _ _ _ _ (h.1 c9) H locs ls hP hS hl) (fun c9 => hft _ _ _ _ (h.2 c9) H locs ls hP hS hl)
    · exact h.elim
  · rename_i z9
    have hlen := Nat.eq_of_beq_eq_true (hlen.resolve_right (by simp [m_isw]))
    simp only [m_ilen] at hlen
    subst hlen
    simp only [m_jck] at hj
    split at h
    · rename_i t y x r
      intro H locs ls hP hS hl
      exact lv_icmp_lt hx hb hd (of_decide_eq_true hj) (fun c9 => hjp _ _ _ _ _ (h.1 c9) H locs ls hP hS hl) (fun c9 => hft _ _ _ _ (h.2 c9) H locs ls hP hS hl)
    · exact h.elim
  · rename_i z9
    have hlen := Nat.eq_of_beq_eq_true (hlen.resolve_right (by simp [m_isw]))
    simp only [m_ilen] at hlen
    subst hlen
    simp only [m_jck] at hj
    split at h
    · rename_i t y x r
      intro H locs ls hP hS hl
      exact lv_icmp_ge hx hb hd (of_decide_eq_true hj) (fun c9 => hjp _ _ _ _ _ (h.1 c9) H locs ls hP hS hl) (fun c9 => hft _ _ _ _ (h.2 c9) H locs ls hP hS hl)
    · exact h.elim
  · rename_i z9
    have hlen := Nat.eq_of_beq_eq_true (hlen.resolve_right (by simp [m_isw]))
    simp only [m_ilen] at hlen
    subst hlen
    simp only [m_jck] at hj
    split at h
    · rename_i t y x r
      intro H locs ls hP hS hl
      exact lv_icmp_gt hx hb hd (of_decide_eq_true hj) (fun c9 => hjp _ _ _ _ _ (h.1 c9) H locs ls hP hS hl) (fun c9 => hft _ _ _ _ (h.2 c9) H locs ls hP hS hl)
    · exact h.elim
  · rename_i z9
    have hlen := Nat.eq_of_beq_eq_true (hlen.resolve_right (by simp [m_isw]))
    simp only [m_ilen] at hlen
    subst hlen
    simp only [m_jck] at hj
    split at h
    · rename_i t y x r
      intro H locs ls hP hS hl
      exact lv_icmp_le hx hb hd (of_decide_eq_true hj) (fun c9 => hjp _ _ _ _ _ (h.1 c9) H locs ls hP hS hl) (fun c9 => hft _ _ _ _ (h.2 c9) H locs ls hP hS hl)
    · exact h.elim
  · rename_i dflt lo hi offs
    simp only [m_jck] at hj
    split at h
    · rename_i t l x r
      simp only [Bool.and_eq_true, decide_eq_true_eq] at hj
      obtain ⟨⟨⟨⟨j1, j2⟩, j3⟩, j4⟩, j5⟩ := hj
      intro H locs ls hP hS hl
      subst j3
      by_cases hr : 0 ≤ x.toInt ∧ x.toInt ≤ hi
      · have hk : x.toInt.toNat < offs.size := by omega
        have h5 := List.all_eq_true.mp j5 x.toInt.toNat (List.mem_range.mpr hk)
        have h5 := of_decide_eq_true h5
        have hxe : x = Int32.ofNat x.toInt.toNat := by
          apply Int32.toInt_inj.mp
          rw [Int32.toInt_ofNat_of_lt (by have := x.toInt_lt; omega)]
          omega
        refine lv_tableIn (off := offs.getD x.toInt.toNat 0) (tgt := l.getD x.toInt.toNat 0) hx hb hd (by omega) (by omega) ?_ h5 (hjp _ _ _ _ _ (h.1 x.toInt.toNat (by rw [j2]; exact hk) hxe) H locs ls hP hS hl)
        rw [show (x.toInt - 0).toNat = x.toInt.toNat by omega, Array.getElem?_eq_getElem hk, Array.getD_eq_getD_getElem?, Array.getElem?_eq_getElem hk]
        rfl
      · refine lv_tableOut hx hb hd (by omega) j1 (hjp _ _ _ _ _ (h.2 ?_) H locs ls hP hS hl)
        rcases Int.lt_or_le x.toInt 0 with h0 | h0
        · exact Or.inl (by rw [Int32.lt_iff_toInt_lt]; simpa using h0)
        · refine Or.inr ?_
          rw [Int32.le_iff_toInt_le, Int32.toInt_ofNat_of_lt (by have := x.toInt_lt; omega)]
          omega
    · exact h.elim
  · rename_i dflt ps
    simp only [m_jck] at hj
    split at h
    · rename_i t t1 t2 x r
      split at hj
      · rename_i a b t' t1' t2' hps hts9
        cases hts9
        simp only [Bool.and_eq_true, decide_eq_true_eq] at hj
        obtain ⟨⟨⟨⟨j1, j2⟩, j3⟩, j4⟩, j5⟩ := hj
        obtain ⟨a1, a2⟩ := a
        obtain ⟨b1, b2⟩ := b
        simp only at j1 j2 j4 j5
        subst j1
        subst j2
        intro H locs ls hP hS hl
        have hp : (ps.toList.zip (ps.toList.drop 1)).all (fun (a, next) => a.1 < next.1) = true := by rw [hps]; rfl
        by_cases h1 : x = 1
        · refine lv_lookup (off := a2) hx hb hd hp ?_ j4 (hjp _ _ _ _ _ (h.1 h1) H locs ls hP hS hl)
          rw [hps, h1]
          rfl
        · by_cases h2 : x = 2
          · refine lv_lookup (off := b2) hx hb hd hp ?_ j5 (hjp _ _ _ _ _ (h.2.1 h2) H locs ls hP hS hl)
            rw [hps, h2]
            rfl
          · refine lv_lookup (off := dflt) hx hb hd hp ?_ j3 (hjp _ _ _ _ _ (h.2.2 ⟨h1, h2⟩) H locs ls hP hS hl)
            rw [hps, lv_osw (k := 1) (a := 1) h1 (by decide), lv_osw (k := 2) (a := 2) h2 (by decide)]
            rfl
      · cases hj
    · exact h.elim
  · rename_i k
    have hlen := Nat.eq_of_beq_eq_true (hlen.resolve_right (by simp [m_isw]))
    simp only [m_ilen] at hlen
    subst hlen
    split at h
    · rename_i ci f kd i r hx9
      intro H locs ls hP hS hl
      exact m_getf hx hb hown hts hK hN hfl hx9 hd hP h.1 (hft _ _ _ _ h.2 H locs ls hP hS hl)
    · exact h.elim
  · rename_i k
    have hlen := Nat.eq_of_beq_eq_true (hlen.resolve_right (by simp [m_isw]))
    simp only [m_ilen] at hlen
    subst hlen
    split at h
    · rename_i ci f x i r hx9
      intro H locs ls hP hS hl
      exact m_putf hx hb hown hts hK hi hN hfl hx9 hd hP hS h.1 (Or.inl rfl) (fun H1 locs1 hP1 hS1 => hft _ _ _ _ h.2 H1 locs1 ls hP1 hS1 hl)
    · rename_i ci f x i r hx9
      intro H locs ls hP hS hl
      exact m_putf hx hb hown hts hK hi hN hfl hx9 hd hP hS h.1 (Or.inr ⟨rfl, h.2.1⟩) (fun H1 locs1 hP1 hS1 => hft _ _ _ _ h.2.2 H1 locs1 ls hP1 hS1 hl)
    · exact h.elim
  · have hlen := Nat.eq_of_beq_eq_true (hlen.resolve_right (by simp [m_isw]))
    simp only [m_ilen] at hlen
    subst hlen
    split at h
    · rename_i j i r
      intro H locs ls hP hS hl
      obtain ⟨n, e1, e2⟩ := m_inb_e h.1
      have hiN : i < N := hN i (by rw [e1]; simp)
      exact va_iald hx hb hK hP i 0 (m_w0 e1 hiN) rfl e2 hd (hft _ _ _ _ h.2 H locs ls hP hS hl)
    · exact h.elim
  · have hlen := Nat.eq_of_beq_eq_true (hlen.resolve_right (by simp [m_isw]))
    simp only [m_ilen] at hlen
    subst hlen
    split at h
    · rename_i j i r
      intro H locs ls hP hS hl
      obtain ⟨n, e1, e2⟩ := m_inb_e h.1
      have hiN : i < N := hN i (by rw [e1]; simp)
      exact va_lald hx hb hK hP i 1 (m_w1 e1 hiN) rfl e2 hd (hft _ _ _ _ h.2 H locs ls hP hS hl)
    · exact h.elim
  · have hlen := Nat.eq_of_beq_eq_true (hlen.resolve_right (by simp [m_isw]))
    simp only [m_ilen] at hlen
    subst hlen
    split at h
    · rename_i j i r
      intro H locs ls hP hS hl
      obtain ⟨n, e1, e2⟩ := m_inb_e h.1
      have hiN : i < N := hN i (by rw [e1]; simp)
      exact va_zald hx hb hK hP i 2 (m_w2 e1 hiN) rfl e2 hd (hft _ _ _ _ h.2 H locs ls hP hS hl)
    · exact h.elim
  · have hlen := Nat.eq_of_beq_eq_true (hlen.resolve_right (by simp [m_isw]))
    simp only [m_ilen] at hlen
    subst hlen
    split at h
    · rename_i j i r
      intro H locs ls hP hS hl
      obtain ⟨t, n, e1, e3, e2⟩ := m_inr_e h.1
      have hiN : i < N := hN i (by rw [e1]; rcases e3 with rfl | rfl <;> simp)
      rcases e3 with rfl | rfl
      · exact va_aldq hx hb hK hP i 3 (m_w3 e1 (by decide) (by decide) hiN) rfl e2 hd (hft _ _ _ _ h.2 H locs ls hP hS hl)
      · exact va_aldq hx hb hK hP i 4 (m_w3 e1 (by decide) (by decide) hiN) rfl e2 hd (hft _ _ _ _ h.2 H locs ls hP hS hl)
    · exact h.elim
  · have hlen := Nat.eq_of_beq_eq_true (hlen.resolve_right (by simp [m_isw]))
    simp only [m_ilen] at hlen
    subst hlen
    split at h
    · rename_i i r
      intro H locs ls hP hS hl
      obtain ⟨t, n, e1, e2⟩ := m_isa_e h.1
      have hiN : i < N := hN i (by rw [e1]; intro q; cases q; omega)
      obtain ⟨ty, e3⟩ := m_ty_at cs e2
      exact va_alen hx hb hK hP i t (m_wA e1 hiN) e3 (by unfold m_len; rw [e1]; rfl) hd (hft _ _ _ _ h.2 H locs ls hP hS hl)
    · exact h.elim
  · have hlen := Nat.eq_of_beq_eq_true (hlen.resolve_right (by simp [m_isw]))
    simp only [m_ilen] at hlen
    subst hlen
    split at h
    · rename_i x j i r
      intro H locs ls hP hS hl
      obtain ⟨n, e1, e2⟩ := m_inb_e h.1
      have hiN : i < N := hN i (by rw [e1]; simp)
      refine va_iast hx hb hK hP (m_wl_D hi cs sh rf I J) hS i 0 (m_w0 e1 hiN) rfl e2 hd (fun H1 locs1 hP1 _ hS1 => hft _ _ _ _ h.2 H1 locs1 ls ?_ hS1 hl)
      rw [m_set0 e1] at hP1
      exact hP1
    · exact h.elim
  · have hlen := Nat.eq_of_beq_eq_true (hlen.resolve_right (by simp [m_isw]))
    simp only [m_ilen] at hlen
    subst hlen
    split at h
    · rename_i x j i r
      intro H locs ls hP hS hl
      obtain ⟨n, e1, e2⟩ := m_inb_e h.1
      have hiN : i < N := hN i (by rw [e1]; simp)
      refine va_zast hx hb hK hP (m_wl_D hi cs sh rf I J) hS i 2 (m_w2 e1 hiN) rfl e2 hd (fun H1 locs1 hP1 _ hS1 => hft _ _ _ _ h.2.2 H1 locs1 ls ?_ hS1 hl)
      have hx2 : vp_nar .boolean x = x := by rcases h.2.1 with rfl | rfl <;> decide +kernel
      rw [hx2, m_set2 e1] at hP1
      exact hP1
    · exact h.elim
  · have hlen := Nat.eq_of_beq_eq_true (hlen.resolve_right (by simp [m_isw]))
    simp only [m_ilen] at hlen
    subst hlen
    split at h
    · rename_i x j i r
      intro H locs ls hP hS hl
      obtain ⟨n, e1, e2⟩ := m_inb_e h.1
      have hiN : i < N := hN i (by rw [e1]; simp)
      refine va_last hx hb hK hP (m_wl_D hi cs sh rf I J) hS i 1 (m_w1 e1 hiN) rfl e2 hd (fun H1 locs1 hP1 _ hS1 => hft _ _ _ _ h.2 H1 locs1 ls ?_ hS1 hl)
      rw [m_set1 e1] at hP1
      exact hP1
    · exact h.elim
  · rename_i k
    have hlen := Nat.eq_of_beq_eq_true (hlen.resolve_right (by simp [m_isw]))
    simp only [m_ilen] at hlen
    subst hlen
    split at h
    · rename_i n pt hx9
      split at h
      · rename_i hb9
        obtain ⟨h1, h2⟩ := m_ble2 hb9
        have h3 := hct k n true pt hx9 pc hd (st.take n).reverse (st.drop n) lv I J _ (by rw [List.length_reverse, List.length_take]; omega) h2 h (fun r I1 J1 h4 => hft _ _ _ _ h4)
        rw [List.reverse_reverse, List.take_append_drop] at h3
        exact h3
      · exact h.elim
    · exact h.elim
  · rename_i k
    have hlen := Nat.eq_of_beq_eq_true (hlen.resolve_right (by simp [m_isw]))
    simp only [m_ilen] at hlen
    subst hlen
    split at h
    · rename_i n pt hx9
      split at h
      · rename_i hb9
        obtain ⟨h1, h2⟩ := m_ble2 hb9
        have h3 := hct k n false pt hx9 pc hd (st.take n).reverse (st.drop n) lv I J _ (by rw [List.length_reverse, List.length_take]; omega) h2 h (fun r I1 J1 h4 => hft _ _ _ _ h4)
        rw [List.reverse_reverse, List.take_append_drop] at h3
        exact h3
      · exact h.elim
    · exact h.elim
  · have hlen := Nat.eq_of_beq_eq_true (hlen.resolve_right (by simp [m_isw]))
    simp only [m_ilen] at hlen
    subst hlen
    split at h
    · rename_i x
      exact (hE pc lv I J).1 x hd (Or.inl rfl) h
    · rename_i x
      exact (hE pc lv I J).1 x hd (Or.inr ⟨rfl, h.1⟩) h.2
    · exact h.elim
  · have hlen := Nat.eq_of_beq_eq_true (hlen.resolve_right (by simp [m_isw]))
    simp only [m_ilen] at hlen
    subst hlen
    split at h
    · rename_i x
      exact (hE pc lv I J).2.1 x hd rfl h
    · exact h.elim
  · have hlen := Nat.eq_of_beq_eq_true (hlen.resolve_right (by simp [m_isw]))
    simp only [m_ilen] at hlen
    subst hlen
    split at h
    · rename_i x
      exact (hE pc lv I J).2.2.1 x hd rfl h
    · exact h.elim
  · have hlen := Nat.eq_of_beq_eq_true (hlen.resolve_right (by simp [m_isw]))
    simp only [m_ilen] at hlen
    subst hlen
    split at h
    · exact (hE pc lv I J).2.2.2 hd rfl h
    · exact h.elim
  · exact h.elim
end MS
end
section
/-! ===== walks of a whole method: at a cut its invariant ===== -/
def m_jmp (cd : List mIN) (t : Nat) : List mIN := cd.dropWhile (fun q => !(Nat.beq q.1 t))
def m_lks (lv : mLV) : List Nat → Option (List mPV)
  | [] => some []
  | k :: ks => match m_lk lv k, m_lks lv ks with
    | some v, some vs => some (v :: vs)
    | _, _ => none
def m_cu : List (Nat × List Nat) → Nat → Option (List Nat)
  | [], _ => none
  | (q, ks) :: l, k => match Nat.beq q k with
    | true => some ks
    | false => m_cu l k
abbrev mCV : Type := Nat → List mPV → List mPV → mPI → mPJ → Prop
def m_go (cut : List (Nat × List Nat)) (Cv : mCV) (w : List mIN → mLV → List mPV → mPI → mPJ → Prop) (cs : List mIN) (lv : mLV) (st : List mPV) (I : mPI) (J : mPJ) : Prop :=
  match cs with
  | [] => False
  | (pc, q) :: tl => match m_cu cut pc with
    | some ks => match m_lks lv ks with
      | some vs => Cv pc vs st I J
      | none => False
    | none => w ((pc, q) :: tl) lv st I J
def m_wp (nL : Nat) (fl : List mFL) (kI : List (Nat × Int32 × Nat)) (kJ : List (Nat × Int64 × Nat)) (ct : Nat → Option (Nat × Bool × mPT)) (sh : mSH) (rf : mRF) (rk : Nat) (QP : mKT) (cd : List mIN) (cut : List (Nat × List Nat)) (Cv : mCV) : Nat → List mIN → mLV → List mPV → mPI → mPJ → Prop
  | 0, _, _, _, _, _ => False
  | n + 1, cs, lv, st, I, J => match cs with
    | [] => False
    | (_, ins, _, ts, v) :: tl => m_sp nL fl kI kJ ct sh rf rk QP (m_go cut Cv (m_wp nL fl kI kJ ct sh rf rk QP cd cut Cv n) tl) (fun t => m_go cut Cv (m_wp nL fl kI kJ ct sh rf rk QP cd cut Cv n) (m_jmp cd t)) ins ts v lv st I J
def m_ch : List mIN → Bool
  | a :: b :: l => Nat.beq b.1 (a.1 + a.2.2.1) && m_ch (b :: l)
  | _ => true
theorem m_ch_tl {a : mIN} {l : List mIN} (h : m_ch (a :: l) = true) : m_ch l = true := by
  cases l with
  | nil => rfl
  | cons b l =>
    unfold m_ch at h
    rw [Bool.and_eq_true] at h
    exact h.2
theorem m_ch_suf {cd : List mIN} : ∀ (t : List mIN) {cs : List mIN}, t ++ cs = cd → m_ch cd = true → m_ch cs = true := by
  intro t
  induction t generalizing cd with
  | nil => intro cs h hc; rw [← h] at hc; exact hc
  | cons a t ih => intro cs h hc; rw [← h] at hc; exact ih rfl (m_ch_tl hc)
theorem m_jmp_suf (cd : List mIN) (t : Nat) : ∃ u, u ++ m_jmp cd t = cd := by
  unfold m_jmp
  exact ⟨cd.takeWhile (fun q => !(Nat.beq q.1 t)), List.takeWhile_append_dropWhile⟩
theorem m_jmp_hd : ∀ (cd : List mIN) (t : Nat) {q : mIN} {tl : List mIN}, m_jmp cd t = q :: tl → q.1 = t
  | [], t, q, tl, h => by simp [m_jmp] at h
  | a :: l, t, q, tl, h => by
    unfold m_jmp at h
    rw [List.dropWhile_cons] at h
    split at h
    · exact m_jmp_hd l t h
    · rename_i hb
      have e := List.cons.inj h
      rw [← e.1]
      cases hb2 : Nat.beq a.1 t
      · rw [hb2] at hb; exact absurd rfl hb
      · exact Nat.eq_of_beq_eq_true hb2
theorem m_lks_mem {lv : mLV} : ∀ {ks : List Nat} {vs : List mPV}, m_lks lv ks = some vs → ∀ q ∈ ks.zip vs, m_lk lv q.1 = some q.2
  | [], vs, h, q, hq => by simp at hq
  | k :: ks, vs, h, q, hq => by
    unfold m_lks at h
    split at h
    · rename_i v vs' h1 h2
      cases h
      rw [List.zip_cons_cons] at hq
      rcases List.mem_cons.mp hq with rfl | hq
      · exact h1
      · exact m_lks_mem h2 q hq
    · cases h
theorem m_weak {ad : Nat → Nat} {ls : Array Slot} {nL : Nat} {lv : mLV} {ks : List Nat} {vs : List mPV} (hl : lv_has ls nL (m_el ad lv)) (h : m_lks lv ks = some vs) : lv_has ls nL (m_el ad (ks.zip vs)) := by
  refine ⟨hl.1, hl.2.1, fun q hq => ?_⟩
  obtain ⟨r, hr, rfl⟩ := List.mem_map.mp hq
  exact m_at hl (m_lks_mem h r hr)
section MS
variable {p : Program} {l : Launch} {e : Env} {R : Room} {s : State} {m : MethodId} {args : Array Value} {below : List Frame} {meth : Method} {c : Code} {Q : State → Prop} {cc : ByteArray} {own : String}
variable {D : va_G} {cs : Nat → ClassId} {ad : Nat → Nat} {sh : mSH} {rf : mRF} {N : Nat} {nL : Nat}
set_option maxHeartbeats 1000000 in
theorem m_wp_ok (hx : p.tables.exec = Jvm.exec) (hb : c.code = cc) (hown : s.vm.findClass own = some m.cls) (hts : ∀ w ∈ m_tw, w.before args s = true) (hK : va_K D m_cl (m_ty cs) s) (hi : ∀ i j, i < N → j < N → ad i = ad j → i = j) (hN : ∀ i, sh i ≠ .inr (9, 0) → i < N)
    {fl : List mFL} (hfl : fl.all (m_fck own) = true) {kI : List (Nat × Int32 × Nat)} (hkI : kI.all (m_kck own) = true) {kJ : List (Nat × Int64 × Nat)} (hkJ : kJ.all (m_kckL own) = true) {ct : Nat → Option (Nat × Bool × mPT)} (hct : ∀ k n vf pt, ct k = some (n, vf, pt) → m_CG p l e R s m args below meth c Q D cs ad sh rf N nL cc k n vf pt)
    {rk : Nat} {QP : mKT} (hE : m_E p l e R s m args below meth c Q D cs ad sh rf N nL cc rk QP) {cd : List mIN} (hcd : cd.all (m_ick cc) = true) (hch : m_ch cd = true) {cut : List (Nat × List Nat)} {Cv : mCV}
    (hcut : ∀ pc ks vs st I J, m_cu cut pc = some ks → Cv pc vs st I J → m_G p l e R s m args below meth c Q D cs ad sh rf N nL pc (ks.zip vs) st I J) :
    ∀ (n : Nat) (q : mIN) (tl : List mIN) (lv : mLV) (st : List mPV) (I : mPI) (J : mPJ), (∃ u, u ++ (q :: tl) = cd) → m_wp nL fl kI kJ ct sh rf rk QP cd cut Cv n (q :: tl) lv st I J → m_G p l e R s m args below meth c Q D cs ad sh rf N nL q.1 lv st I J := by
  intro n
  induction n with
  | zero => intro q tl lv st I J _ h; exact h.elim
  | succ n ih =>
    intro q tl lv st I J hsuf h
    obtain ⟨pc, ins, len, ts, v⟩ := q
    have hmem : (pc, ins, len, ts, v) ∈ cd := by
      obtain ⟨u, hu⟩ := hsuf
      rw [← hu]
      exact List.mem_append_right _ List.mem_cons_self
    have hgo : ∀ (cs1 : List mIN), (∃ u, u ++ cs1 = cd) → ∀ (q1 : mIN) (tl1 : List mIN), cs1 = q1 :: tl1 → ∀ lv st I J, m_go cut Cv (m_wp nL fl kI kJ ct sh rf rk QP cd cut Cv n) cs1 lv st I J → m_G p l e R s m args below meth c Q D cs ad sh rf N nL q1.1 lv st I J := by
      intro cs1 hs1 q1 tl1 e1 lv st I J h1
      subst e1
      obtain ⟨pc1, q1⟩ := q1
      unfold m_go at h1
      simp only at h1
      split at h1
      · rename_i ks hks
        split at h1
        · rename_i vs hvs
          have h2 := hcut pc1 ks vs st I J hks h1
          exact fun H locs ls hP hS hl => h2 H locs ls hP hS (m_weak hl hvs)
        · exact h1.elim
      · exact ih (pc1, q1) tl1 lv st I J hs1 h1
    refine m_sp_ok hx hb hown hts hK hi hN hfl hkI hkJ hct hE (List.all_eq_true.mp hcd _ hmem) (fun lv st I J h1 => ?_) (fun t lv st I J h1 => ?_) h
    · cases tl with
      | nil => exact h1.elim
      | cons q1 tl1 =>
        obtain ⟨u, hu⟩ := hsuf
        have hc := m_ch_suf u hu hch
        unfold m_ch at hc
        rw [Bool.and_eq_true] at hc
        have e2 : q1.1 = pc + len := Nat.eq_of_beq_eq_true hc.1
        rw [← e2]
        exact hgo (q1 :: tl1) ⟨u ++ [(pc, ins, len, ts, v)], by rw [← hu]; simp⟩ q1 tl1 rfl lv st I J h1
    · have h2 := m_jmp_suf cd t
      cases hj : m_jmp cd t with
      | nil => rw [hj] at h1; exact h1.elim
      | cons q1 tl1 =>
        rw [← m_jmp_hd cd t hj]
        exact hgo (m_jmp cd t) h2 q1 tl1 hj lv st I J h1
/-- with invariants that fall in (a, b) -/
theorem m_wp_inv (hx : p.tables.exec = Jvm.exec) (hb : c.code = cc) (hown : s.vm.findClass own = some m.cls) (hts : ∀ w ∈ m_tw, w.before args s = true) (hK : va_K D m_cl (m_ty cs) s) (hi : ∀ i j, i < N → j < N → ad i = ad j → i = j) (hN : ∀ i, sh i ≠ .inr (9, 0) → i < N)
    {fl : List mFL} (hfl : fl.all (m_fck own) = true) {kI : List (Nat × Int32 × Nat)} (hkI : kI.all (m_kck own) = true) {kJ : List (Nat × Int64 × Nat)} (hkJ : kJ.all (m_kckL own) = true) {ct : Nat → Option (Nat × Bool × mPT)} (hct : ∀ k n vf pt, ct k = some (n, vf, pt) → m_CG p l e R s m args below meth c Q D cs ad sh rf N nL cc k n vf pt)
    {rk : Nat} {QP : mKT} (hE : m_E p l e R s m args below meth c Q D cs ad sh rf N nL cc rk QP) {cd : List mIN} (hcd : cd.all (m_ick cc) = true) (hch : m_ch cd = true) {cut : List (Nat × List Nat)} {Inv : Nat → Nat → mCV} {fu : Nat}
    (hstep : ∀ pc ks a b vs st I J, m_cu cut pc = some ks → Inv a b pc vs st I J → m_wp nL fl kI kJ ct sh rf rk QP cd cut (fun pc1 vs1 st1 I1 J1 => ∃ a1 b1, (a1 < a ∨ (a1 = a ∧ b1 < b)) ∧ Inv a1 b1 pc1 vs1 st1 I1 J1) fu (m_jmp cd pc) (ks.zip vs) st I J) :
    ∀ (a b pc : Nat) (ks : List Nat) (vs st : List mPV) (I : mPI) (J : mPJ), m_cu cut pc = some ks → Inv a b pc vs st I J → m_G p l e R s m args below meth c Q D cs ad sh rf N nL pc (ks.zip vs) st I J := by
  intro a
  induction a using Nat.strongRecOn with
  | ind a iha =>
    intro b
    induction b using Nat.strongRecOn with
    | ind b ihb =>
      intro pc ks vs st I J hks hI
      have h1 := hstep pc ks a b vs st I J hks hI
      cases hj : m_jmp cd pc with
      | nil =>
        rw [hj] at h1
        cases fu <;> exact h1.elim
      | cons q1 tl1 =>
        rw [hj] at h1
        rw [← m_jmp_hd cd pc hj]
        refine m_wp_ok hx hb hown hts hK hi hN hfl hkI hkJ hct hE hcd hch ?_ fu q1 tl1 _ st I J (by rw [← hj]; exact m_jmp_suf cd pc) h1
        rintro pc1 ks1 vs1 st1 I1 J1 hks1 ⟨a1, b1, hlt, hI1⟩
        rcases hlt with hlt | ⟨rfl, hlt⟩
        · exact iha a1 hlt b1 pc1 ks1 vs1 st1 I1 J1 hks1 hI1
        · exact ihb b1 hlt pc1 ks1 vs1 st1 I1 J1 hks1 hI1
end MS
/-! ===== a method's contract over named worlds ===== -/
def m_nw (U : State) : Prop := va_Nw (Cond.fieldLinkNest RX2 68 "MomentDesk$Big" "negative" "Z" "MomentDesk") U ∧ va_Nw (Cond.methodLinkNest RX3 56 yX4_power "MomentDesk") U
theorem m_nw.warm {s U : State} (hW : s.WarmedH U.vm) (h : m_nw s) : m_nw U := ⟨h.1.warmF hW, h.2.warmM hW⟩
theorem m_nw.of {s : State} {args : Array Value} (hts : ∀ w ∈ m_tw, w.before args s = true) : m_nw s := ⟨va_Nw.of rfl (hts _ (List.mem_append_left _ List.mem_cons_self)), va_Nw.of rfl (hts _ (List.mem_append_left _ (List.mem_cons_of_mem _ List.mem_cons_self)))⟩
def m_W (D : va_G) (cs : Nat → ClassId) (ad : Nat → Nat) (sh : mSH) (rf : mRF) (N : Nat) (I : mPI) (J : mPJ) (U : State) : Prop := va_P D m_cl (m_wl cs ad sh rf N I J) U.heap ∧ va_K D m_cl (m_ty cs) U ∧ m_nw U
def m_Q (D : va_G) (cs : Nat → ClassId) (ad : Nat → Nat) (sh : mSH) (rf : mRF) (N : Nat) (K : mKT) : Array Value → State → Outcome → State → Prop := fun _ st oc t => (∃ r I1 J1, oc = .returned (Option.map (m_ev ad) r) ∧ K r I1 J1 ∧ m_W D cs ad sh rf N I1 J1 t) ∧ va_F (m_A ad N) st t
def m_rm (fr lc : Nat) : Room := { frames := fr, cells := 0, slots := 0, locals := lc }
def m_ws (y : MethodName) (bytes : ByteArray) (maxL : Nat) (ret : Option FieldType) : List Cond := Cond.code y bytes maxL ret :: m_tb
def m_Mt (y : MethodName) (bytes : ByteArray) (maxL : Nat) (ret : Option FieldType) (fr lc : Nat) (PT : mSH → mRF → mPT) : Prop :=
  ∀ (l : Launch) (D : va_G) (cs : Nat → ClassId) (ad : Nat → Nat) (sh : mSH) (rf : mRF) (N : Nat) (As : List mPV) (I : mPI) (J : mPJ) (K : mKT), (∀ i j, i < N → j < N → ad i = ad j → i = j) → (∀ i, sh i ≠ .inr (9, 0) → i < N) → PT sh rf As I J K →
    Met l y (m_ws y bytes maxL ret) (m_rm fr lc) (va_Pc (As.map (m_ev ad)) (m_W D cs ad sh rf N I J)) (m_Q D cs ad sh rf N K) 0 0 (m_A ad N)
def m_rkok (rk : Nat) (ret : Option FieldType) : Prop := match rk with
  | 0 => ret = none
  | 1 => ret = some .int
  | 2 => ret = some .long
  | 3 => ret = some .boolean
  | 4 => ∃ rt, ret = some rt ∧ ((∃ n, rt = .object n) ∨ ∃ t, rt = .array t)
  | _ => False
theorem m_goodIn {ws : List Cond} (h : ∀ w ∈ ws, w ∈ m_tb) : GoodIn m_tw ws := fun w hw => ⟨m_tb_w (h w hw), good_of_word (List.mem_filter.mp (h w hw)).2⟩
section MC
variable {p : Program} {l : Launch} {e : Env} {R : Room} {s : State} {m : MethodId} {args : Array Value} {below : List Frame} {meth : Method} {c : Code} {Q : State → Prop} {cc : ByteArray} {own : String}
variable {D : va_G} {cs : Nat → ClassId} {ad : Nat → Nat} {sh : mSH} {rf : mRF} {N : Nat} {nL : Nat}
theorem m_call {H : Heap} {locs : List Loc} {pc : Nat} {ls : Array Slot} {st0 rest : List Value} {K : mKT} {a : Array Value} (hr : va_Run p l e R s m args below meth c H locs 0 0 0 0 (F0 m pc ls st0) rest (m_Q D cs ad sh rf N K a) (m_A ad N)) (hS : va_S (m_A ad N) s.heap H locs)
    (kk : ∀ r I1 J1 (H1 : Heap) (locs1 : List Loc), K r I1 J1 → va_P D m_cl (m_wl cs ad sh rf N I1 J1) H1 → va_S (m_A ad N) s.heap H1 locs1 → W p l e R s m args below meth c H1 locs1 0 0 Q (F0 m (pc + 3) ls ((m_ol r).map (m_ev ad) ++ rest))) : W p l e R s m args below meth c H locs 0 0 Q (F0 m pc ls st0) := by
  intro T hT X
  obtain ⟨v, st₀, t, T', L, h0, X', hL, e1, e2, ⟨⟨r, I1, J1, hv, hp, hw⟩, hz, hk⟩, st⟩ := hr T hT X
  cases hv
  rw [h0] at hz hk
  obtain ⟨t2, a1, b1⟩ := kk r I1 J1 T'.heap (locs ++ L) hp (by rw [e1]; exact hw.1)
    ⟨Nat.le_trans hS.1 (by rw [e1]; exact hz), fun q h1 h2 => by rw [e1, hk q (Nat.lt_of_lt_of_le h1 hS.1) h2]; exact hS.2.1 q h1 h2, fun q hq => by
      rcases List.mem_append.mp hq with h | h
      · exact hS.2.2 q h
      · exact hL q h⟩ T' rfl X'
  refine ⟨t2, st t2 ?_, b1⟩
  cases r <;> exact a1
theorem m_blind {As : List mPV} {I : mPI} {J : mPJ} : FrameBlind (va_Pc (As.map (m_ev ad)) (m_W D cs ad sh rf N I J)) := fun a U g mk q => by
  obtain ⟨q0, qP, qK, qN⟩ := q
  exact ⟨q0, qP, va_K.moved (u := U) (U := U.calling g mk a) (Vm.Alike.refl U.vm) qK, qN.1.same rfl rfl, qN.2.same rfl rfl⟩
theorem m_CG_V {y : MethodName} {bytes : ByteArray} {maxL : Nat} {ret : Option FieldType} {fr lc : Nat} {PT : mSH → mRF → mPT} (hM : m_Mt y bytes maxL ret fr lc PT) (hx : p.tables.exec = Jvm.exec) (hb : c.code = cc) (hml : c.maxLocals = nL) (hown : s.vm.findClass own = some m.cls) (hts : ∀ w ∈ m_tw, w.before args s = true) (hK : va_K D m_cl (m_ty cs) s) (hi : ∀ i j, i < N → j < N → ad i = ad j → i = j) (hN : ∀ i, sh i ≠ .inr (9, 0) → i < N)
    {k n ci : Nat} {q : vw_C} (hrec : ∀ As I J K, PT sh rf As I J K → ∃ i As1, As = Sum.inr (.inr i) :: As1 ∧ sh i = .inl ci) (hcl : m_cl[ci]? = some q) (hq : q.1 = y.cls)
    (hw : ∀ w ∈ [Cond.methodLink own k y, Cond.instanceMethod y, Cond.selects y.cls y y, Cond.initialized y.cls, Cond.code y bytes maxL ret], w ∈ m_tb)
    (hd : y.cls = y.cls ∧ y.cls ≠ "java/lang/invoke/MethodHandle" ∧ y.cls ≠ "java/lang/invoke/VarHandle" ∧ (parseMethodDescriptor y.desc).map (fun d => d.parameters.length) = some n) (hR : fr + 1 ≤ R.frames ∧ 8 + (maxL + 11) + lc ≤ R.locals) :
    m_CG p l e R s m args below meth c Q D cs ad sh rf N nL cc k (n + 1) true (PT sh rf) := by
  intro pc hdec As rest lv I J K hlen hcat hpt hk H locs ls hP hS hl
  obtain ⟨i, As1, rfl, hsh⟩ := hrec As I J K hpt
  have hiN : i < N := hN i (by rw [hsh]; simp)
  have hg : GoodIn m_tw (wsV own k y.cls y (m_ws y bytes maxL ret)) := m_goodIn (fun w hw1 => by
    rcases List.mem_append.mp hw1 with h | h
    · exact hw w (by simp at h ⊢; rcases h with h | h | h | h <;> simp [h])
    · rcases List.mem_cons.mp h with h | h
      · exact hw w (by simp [h])
      · exact h)
  have hrv : ∃ cell : Cell, H[ad i]? = some cell ∧ cell.vm.isStatics = false ∧ s.vm.findClass y.cls = some cell.cls := by
    rw [← hq]
    exact va_recv hK hP hcl (m_wO hsh hiN)
  have hrun := va_runV (b := ad i) (As := As1.map (m_ev ad)) (rest := rest.map (m_ev ad)) (g := F0 m pc ls (List.map (m_ev ad) ((Sum.inr (Sum.inr i) :: As1).reverse ++ rest))) (locs := locs) (cells := 0) (slots := 0) (below := below) (meth := meth) (e := e) ⟨hx, hb, hml, hown, hts⟩ (hM l D cs ad sh rf N _ I J K hi hN hpt) (cwV n hts hg rfl rfl rfl hd hR) ⟨m_blind, hrv, fun U hU hW => ⟨rfl, by rw [hU]; exact hP, va_K.moved hW.alike hK, (m_nw.of hts).warm hW⟩⟩ rfl (by simp at hlen ⊢; exact hlen) hl.1 (by simp [m_ev]) (lv_room (by
      rw [List.map_map]
      rw [show ((fun v : Value => v.category) ∘ m_ev ad) = m_cat from funext (fun v => m_cat_ev ad v)]
      exact hcat)) hdec ⟨Nat.zero_le _, Nat.zero_le _⟩
  refine m_call hrun hS (fun r I1 J1 H1 locs1 h1 hP1 hS1 => ?_)
  have h2 := hk r I1 J1 h1 H1 locs1 ls hP1 hS1 hl
  rw [List.map_append] at h2
  exact h2
theorem m_CG_S {y : MethodName} {bytes : ByteArray} {maxL : Nat} {ret : Option FieldType} {fr lc : Nat} {PT : mSH → mRF → mPT} (hM : m_Mt y bytes maxL ret fr lc PT) (hx : p.tables.exec = Jvm.exec) (hb : c.code = cc) (hml : c.maxLocals = nL) (hown : s.vm.findClass own = some m.cls) (hts : ∀ w ∈ m_tw, w.before args s = true) (hK : va_K D m_cl (m_ty cs) s) (hi : ∀ i j, i < N → j < N → ad i = ad j → i = j) (hN : ∀ i, sh i ≠ .inr (9, 0) → i < N)
    {k n : Nat} (hw : ∀ w ∈ [Cond.methodLink own k y, Cond.static y, Cond.initialized y.cls, Cond.code y bytes maxL ret], w ∈ m_tb)
    (hd : y.cls ≠ "java/lang/invoke/MethodHandle" ∧ y.cls ≠ "java/lang/invoke/VarHandle" ∧ (parseMethodDescriptor y.desc).map (fun d => d.parameters.length) = some n) (hR : fr + 1 ≤ R.frames ∧ 8 + (maxL + 11) + lc ≤ R.locals) :
    m_CG p l e R s m args below meth c Q D cs ad sh rf N nL cc k n false (PT sh rf) := by
  intro pc hdec As rest lv I J K hlen hcat hpt hk H locs ls hP hS hl
  have hg : GoodIn m_tw (m_ws y bytes maxL ret) := m_goodIn (fun w h => by
    rcases List.mem_cons.mp h with h | h
    · exact hw w (by simp [h])
    · exact h)
  have hB : CallB R s args own k y bytes maxL ret (m_ws y bytes maxL ret) (m_rm fr lc) 0 0 n := callB_of n hts hg rfl rfl rfl (hts _ (m_tb_w (hw _ (by simp)))) (hts _ (m_tb_w (hw _ (by simp)))) hd hR
  have hrun := va_runS (As := As.map (m_ev ad)) (rest := rest.map (m_ev ad)) (g := F0 m pc ls (List.map (m_ev ad) (As.reverse ++ rest))) (locs := locs) (cells := 0) (slots := 0) (below := below) (meth := meth) (e := e) (H := H) ⟨hx, hb, hml, hown, hts⟩ (hM l D cs ad sh rf N _ I J K hi hN hpt) ⟨hB, hts _ (m_tb_w (hw _ (by simp)))⟩ ⟨m_blind, fun U hU hW => ⟨rfl, by rw [hU]; exact hP, va_K.moved hW.alike hK, (m_nw.of hts).warm hW⟩⟩ rfl (by simp; exact hlen) hl.1 (by simp) (lv_room (by
      rw [List.map_map]
      rw [show ((fun v : Value => v.category) ∘ m_ev ad) = m_cat from funext (fun v => m_cat_ev ad v)]
      exact hcat)) hdec ⟨Nat.zero_le _, Nat.zero_le _⟩
  refine m_call hrun hS (fun r I1 J1 H1 locs1 h1 hP1 hS1 => ?_)
  have h2 := hk r I1 J1 h1 H1 locs1 ls hP1 hS1 hl
  rw [List.map_append] at h2
  exact h2
theorem m_CG_SN {y : MethodName} {bytes : ByteArray} {maxL : Nat} {ret : Option FieldType} {fr lc : Nat} {PT : mSH → mRF → mPT} {host : String} (hM : m_Mt y bytes maxL ret fr lc PT) (hx : p.tables.exec = Jvm.exec) (hb : c.code = cc) (hml : c.maxLocals = nL) (hown : s.vm.findClass own = some m.cls) (hts : ∀ w ∈ m_tw, w.before args s = true) (hK : va_K D m_cl (m_ty cs) s) (hi : ∀ i j, i < N → j < N → ad i = ad j → i = j) (hN : ∀ i, sh i ≠ .inr (9, 0) → i < N)
    {k n : Nat} (hw0 : Cond.methodLinkNest own k y host ∈ m_nws) (hw : ∀ w ∈ [Cond.static y, Cond.initialized y.cls, Cond.code y bytes maxL ret], w ∈ m_tb)
    (hd : y.cls ≠ "java/lang/invoke/MethodHandle" ∧ y.cls ≠ "java/lang/invoke/VarHandle" ∧ (parseMethodDescriptor y.desc).map (fun d => d.parameters.length) = some n) (hR : fr + 1 ≤ R.frames ∧ 8 + (maxL + 11) + lc ≤ R.locals) :
    m_CG p l e R s m args below meth c Q D cs ad sh rf N nL cc k n false (PT sh rf) := by
  intro pc hdec As rest lv I J K hlen hcat hpt hk H locs ls hP hS hl
  have hg : GoodIn m_tw (m_ws y bytes maxL ret) := m_goodIn (fun w h => by
    rcases List.mem_cons.mp h with h | h
    · exact hw w (by simp [h])
    · exact h)
  have hB : va_CN R s args own k y host bytes maxL ret (m_ws y bytes maxL ret) (m_rm fr lc) 0 0 n := va_cnB n hts hg rfl rfl rfl (va_Nw.of rfl (hts (Cond.methodLinkNest own k y host) (List.mem_append_left _ hw0))) (hts _ (m_tb_w (hw _ (by simp)))) hd hR
  have hrun := va_runSN (As := As.map (m_ev ad)) (rest := rest.map (m_ev ad)) (g := F0 m pc ls (List.map (m_ev ad) (As.reverse ++ rest))) (locs := locs) (cells := 0) (slots := 0) (below := below) (meth := meth) (e := e) (H := H) ⟨hx, hb, hml, hown, hts⟩ (hM l D cs ad sh rf N _ I J K hi hN hpt) ⟨hB, hts _ (m_tb_w (hw _ (by simp))), trivial⟩ ⟨m_blind, fun U hU hW => ⟨rfl, by rw [hU]; exact hP, va_K.moved hW.alike hK, (m_nw.of hts).warm hW⟩⟩ rfl (by simp; exact hlen) hl.1 (by simp) (lv_room (by
      rw [List.map_map]
      rw [show ((fun v : Value => v.category) ∘ m_ev ad) = m_cat from funext (fun v => m_cat_ev ad v)]
      exact hcat)) hdec ⟨Nat.zero_le _, Nat.zero_le _⟩
  refine m_call hrun hS (fun r I1 J1 H1 locs1 h1 hP1 hS1 => ?_)
  have h2 := hk r I1 J1 h1 H1 locs1 ls hP1 hS1 hl
  rw [List.map_append] at h2
  exact h2
theorem m_E_of (hx : p.tables.exec = Jvm.exec) (hb : c.code = cc) {ret : Option FieldType} (hr : meth.sig.returnType = ret) (hlocks : meth.locks = false) (hK : va_K D m_cl (m_ty cs) s) (hnw : m_nw s) {rk : Nat} (hrk : m_rkok rk ret) (K : mKT) : m_E p l e R s m args below meth c (MQ below (m_Q D cs ad sh rf N K) args s 0 0 (m_A ad N)) D cs ad sh rf N nL cc rk K := by
  intro pc lv I J
  refine ⟨fun x hd hk hq H locs ls hP hS hl => ?_, fun x hd hk hq H locs ls hP hS hl => ?_, fun x hd hk hq H locs ls hP hS hl => ?_, fun hd hk hq H locs ls hP hS hl => ?_⟩
  · rcases hk with rfl | ⟨rfl, hz⟩
    · exact W.iret hx hb (hr.trans hrk) (fun t ht hW => ⟨⟨some (.inl x), I, J, rfl, hq, by rw [ht]; exact hP, va_K.moved hW.alike hK, hnw.warm hW⟩, hS.F ht⟩) hS.2.2 hd
    · exact W.zret (ty := .boolean) hx hb (hr.trans hrk) (by rcases hz with rfl | rfl <;> decide +kernel) (fun t ht hW => ⟨⟨some (.inl x), I, J, rfl, hq, by rw [ht]; exact hP, va_K.moved hW.alike hK, hnw.warm hW⟩, hS.F ht⟩) hS.2.2 hd
  · subst hk
    exact W.lret hx hb (hr.trans hrk) (fun t ht hW => ⟨⟨some (.inr (.inl x)), I, J, rfl, hq, by rw [ht]; exact hP, va_K.moved hW.alike hK, hnw.warm hW⟩, hS.F ht⟩) hS.2.2 hd
  · subst hk
    obtain ⟨rt, h1, h2⟩ := hrk
    exact W.aret hx hb (hr.trans h1) h2 (Or.inr ⟨ad x, rfl⟩) (fun t ht hW => ⟨⟨some (.inr (.inr x)), I, J, rfl, hq, by rw [ht]; exact hP, va_K.moved hW.alike hK, hnw.warm hW⟩, hS.F ht⟩) hS.2.2 hd
  · subst hk
    exact W.vret hx hb (hr.trans hrk) (fun t ht hW => ⟨⟨none, I, J, rfl, hq, by rw [ht]; exact hP, va_K.moved hW.alike hK, hnw.warm hW⟩, hS.F ht⟩) hS.2.2 hd
end MC
def m_args : Nat → List mPV → mLV
  | _, [] => []
  | i, v :: vs => (i, v) :: m_args (match m_cat v with | 2 => i + 2 | _ => i + 1) vs
theorem m_args_el (ad : Nat → Nat) : ∀ (vs : List mPV) (i : Nat), lv_args i (vs.map (m_ev ad)) = m_el ad (m_args i vs)
  | [], _ => rfl
  | v :: vs, i => by
    simp only [List.map_cons, lv_args, m_args, m_el, m_cat_ev]
    congr 1
    rcases v with x | x | x
    · exact m_args_el ad vs (i + 1)
    · exact m_args_el ad vs (i + 2)
    · exact m_args_el ad vs (i + 1)
theorem m_args_len (ad : Nat → Nat) : ∀ (vs : List mPV), (lg_sl (vs.map (m_ev ad))).length = (vs.map m_cat).sum
  | [] => rfl
  | v :: vs => by
    have := m_args_len ad vs
    unfold lg_sl at this ⊢
    simp only [List.map_cons, List.flatMap_cons, List.length_append, List.sum_cons, this]
    rcases v with x | x | x <;> rfl
/-- the environment of a method's calls, as a caller has it -/
def m_CE (own : String) (fr lc : Nat) (cc : ByteArray) (nL : Nat) (ct : mSH → mRF → Nat → Option (Nat × Bool × mPT)) : Prop :=
  ∀ (p : Program) (l : Launch) (e : Env) (s : State) (m : MethodId) (args : Array Value) (below : List Frame) (meth : Method) (c : Code) (Q : State → Prop) (D : va_G) (cs : Nat → ClassId) (ad : Nat → Nat) (sh : mSH) (rf : mRF) (N : Nat),
    p.tables.exec = Jvm.exec → c.code = cc → c.maxLocals = nL → s.vm.findClass own = some m.cls → (∀ w ∈ m_tw, w.before args s = true) → va_K D m_cl (m_ty cs) s → (∀ i j, i < N → j < N → ad i = ad j → i = j) → (∀ i, sh i ≠ .inr (9, 0) → i < N) →
    ∀ k n vf pt, ct sh rf k = some (n, vf, pt) → m_CG p l e (m_rm fr lc) s m args below meth c Q D cs ad sh rf N nL cc k n vf pt
/-- THE METHOD RULE: entry and every cut -/
theorem m_method {y : MethodName} {bytes : ByteArray} {maxL : Nat} {ret : Option FieldType} {fr lc rk fu : Nat} {PT : mSH → mRF → mPT} {fl : List mFL} {kI : List (Nat × Int32 × Nat)} {kJ : List (Nat × Int64 × Nat)} {ct : mSH → mRF → Nat → Option (Nat × Bool × mPT)} {cd : List mIN} {cut : List (Nat × List Nat)}
    (hy : plainName y.cls = true) (hfl : fl.all (m_fck y.cls) = true) (hkI : kI.all (m_kck y.cls) = true) (hkJ : kJ.all (m_kckL y.cls) = true) (hct : m_CE y.cls fr lc bytes maxL ct) (hrk : m_rkok rk ret) (hcd : cd.all (m_ick bytes) = true) (hch : m_ch cd = true) (hcd0 : ∃ q tl, cd = q :: tl ∧ q.1 = 0)
    (hvc : ∀ sh rf As I J K, PT sh rf As I J K → (As.map m_cat).sum ≤ maxL ∧ ∃ Inv : Nat → Nat → mCV,
      m_wp maxL fl kI kJ (ct sh rf) sh rf rk K cd cut (fun pc1 vs1 st1 I1 J1 => ∃ a1 b1, Inv a1 b1 pc1 vs1 st1 I1 J1) fu cd (m_args 0 As) [] I J ∧
      ∀ pc ks a b vs st I J, m_cu cut pc = some ks → Inv a b pc vs st I J → m_wp maxL fl kI kJ (ct sh rf) sh rf rk K cd cut (fun pc1 vs1 st1 I1 J1 => ∃ a1 b1, (a1 < a ∨ (a1 = a ∧ b1 < b)) ∧ Inv a1 b1 pc1 vs1 st1 I1 J1) fu (m_jmp cd pc) (ks.zip vs) st I J) :
    m_Mt y bytes maxL ret fr lc PT := by
  intro l D cs ad sh rf N As I J K hi hN hpt
  obtain ⟨hsz, Inv, h0, hstep⟩ := hvc sh rf As I J K hpt
  refine Met.ofW (cc := bytes) (maxL := maxL) (ret := ret) hy rfl ?_
  intro p e s m args below meth c s₁ B hml hv
  obtain ⟨rfl, hP, hK, hnw⟩ := hv
  have hx := B.exec
  have hb := B.bytes
  have hr := B.returns
  have hts : ∀ w ∈ m_tw, w.before (As.map (m_ev ad)).toArray s = true := fun w hw => by
    rcases List.mem_append.mp hw with h | h
    · rcases List.mem_cons.mp h with rfl | h
      · exact hnw.1.use rfl
      · rcases List.mem_cons.mp h with rfl | h
        · exact hnw.2.use rfl
        · cases h
    · exact atoms_spec (ws := m_ws y bytes maxL ret) B.pre w (List.mem_cons_of_mem _ h)
  have hown : s.vm.findClass y.cls = some m.cls := findClass_of_methodNamed B.named
  have hlocks := B.notSynchronized
  have hl := lv_entry (As.map (m_ev ad)) (n := maxL) (by rw [m_args_len]; exact hsz)
  rw [lg_entry_eq]
  rw [m_args_el] at hl
  have hE := m_E_of (p := p) (l := l) (e := e) (R := m_rm fr lc) (below := below) (args := (As.map (m_ev ad)).toArray) (m := m) (nL := maxL) (ad := ad) (sh := sh) (rf := rf) (N := N) hx hb hr hlocks hK hnw hrk K
  have hc := hct p l e s m (As.map (m_ev ad)).toArray below meth c (MQ below (m_Q D cs ad sh rf N K) (As.map (m_ev ad)).toArray s 0 0 (m_A ad N)) D cs ad sh rf N hx hb hml hown hts hK hi hN
  obtain ⟨q, tl, rfl, hq0⟩ := hcd0
  have hG := m_wp_ok hx hb hown hts hK hi hN hfl hkI hkJ hc hE hcd hch (cut := cut) (Cv := fun pc1 vs1 st1 I1 J1 => ∃ a1 b1, Inv a1 b1 pc1 vs1 st1 I1 J1) (fun pc ks vs st I1 J1 hks hex => by
    obtain ⟨a1, b1, h1⟩ := hex
    exact m_wp_inv hx hb hown hts hK hi hN hfl hkI hkJ hc hE hcd hch hstep a1 b1 pc ks vs st I1 J1 hks h1) fu q tl (m_args 0 As) [] I J ⟨[], rfl⟩ h0
  rw [hq0] at hG
  exact hG s.heap [] _ hP va_S.rf hl
end
section
/-! ===== the methods as lists of instructions, the tables of fields and constants (by program out of the printed names) ===== -/
theorem m_wck_ok {l : List (Cond × Nat)} (h : l.all (fun q => decide (lw_tbl[q.2]? = some q.1) && goodWord q.1) = true) : ∀ w ∈ l.map Prod.fst, w ∈ m_tb := by
  intro w hw
  obtain ⟨q, hq, rfl⟩ := List.mem_map.mp hw
  have h1 := List.all_eq_true.mp h q hq
  simp only [Bool.and_eq_true, decide_eq_true_eq] at h1
  exact m_tb_pos h1.1 h1.2
def fl_X0 : List mFL := [(13, 0, 0, 2, 0, 96), (19, 0, 1, 0, 0, 97), (23, 0, 2, 1, 0, 98)]
def kI_X0 : List (Nat × Int32 × Nat) := [(48, 65535, 607)]
def kJ_X0 : List (Nat × Int64 × Nat) := [(40, 4294967295, 346)]
theorem fl_X0_ok : fl_X0.all (m_fck RX0) = true := by decide +kernel
theorem kI_X0_ok : kI_X0.all (m_kck RX0) = true := by decide +kernel
theorem kJ_X0_ok : kJ_X0.all (m_kckL RX0) = true := by decide +kernel
def fl_X1 : List mFL := [(14, 1, 0, 2, 0, 183), (20, 1, 1, 2, 0, 185), (23, 1, 2, 2, 0, 187), (26, 1, 3, 2, 0, 188), (29, 1, 4, 1, 0, 189)]
def kI_X1 : List (Nat × Int32 × Nat) := [(76, 1000000, 591)]
def kJ_X1 : List (Nat × Int64 × Nat) := []
theorem fl_X1_ok : fl_X1.all (m_fck RX1) = true := by decide +kernel
theorem kI_X1_ok : kI_X1.all (m_kck RX1) = true := by decide +kernel
theorem kJ_X1_ok : kJ_X1.all (m_kckL RX1) = true := by decide +kernel
def fl_X2 : List mFL := [(68, 0, 2, 1, 1, 99), (11, 2, 0, 2, 0, 115), (17, 2, 1, 2, 0, 116), (23, 2, 2, 2, 0, 117), (27, 2, 3, 2, 0, 118), (30, 2, 4, 0, 0, 119), (53, 2, 5, 0, 0, 120)]
def kI_X2 : List (Nat × Int32 × Nat) := []
def kJ_X2 : List (Nat × Int64 × Nat) := []
theorem fl_X2_ok : fl_X2.all (m_fck RX2) = true := by decide +kernel
theorem kI_X2_ok : kI_X2.all (m_kck RX2) = true := by decide +kernel
theorem kJ_X2_ok : kJ_X2.all (m_kckL RX2) = true := by decide +kernel
def fl_X3 : List mFL := [(9, 3, 0, 0, 0, 135), (15, 3, 1, 0, 0, 137), (37, 3, 2, 0, 0, 139), (40, 3, 3, 1, 0, 141), (18, 3, 4, 2, 0, 143), (22, 3, 5, 2, 0, 145), (29, 3, 6, 2, 0, 147), (33, 3, 7, 1, 0, 148)]
def kI_X3 : List (Nat × Int32 × Nat) := []
def kJ_X3 : List (Nat × Int64 × Nat) := []
theorem fl_X3_ok : fl_X3.all (m_fck RX3) = true := by decide +kernel
theorem kI_X3_ok : kI_X3.all (m_kck RX3) = true := by decide +kernel
theorem kJ_X3_ok : kJ_X3.all (m_kckL RX3) = true := by decide +kernel
def fl_X4 : List mFL := [(162, 2, 5, 0, 0, 121), (68, 3, 0, 0, 0, 136), (57, 3, 1, 0, 0, 138), (79, 3, 2, 0, 0, 140), (71, 3, 3, 1, 0, 142), (75, 3, 4, 2, 0, 144), (109, 3, 5, 2, 0, 146), (221, 1, 0, 2, 0, 184), (224, 1, 1, 2, 0, 186), (10, 4, 0, 2, 0, 204), (16, 4, 1, 2, 0, 205), (20, 4, 2, 2, 0, 206), (27, 4, 3, 2, 0, 207), (31, 4, 4, 2, 0, 208), (37, 4, 5, 2, 0, 209), (44, 4, 6, 2, 0, 210), (48, 4, 7, 2, 0, 211), (51, 4, 8, 2, 0, 212), (54, 4, 9, 2, 0, 213)]
def kI_X4 : List (Nat × Int32 × Nat) := [(86, 1000000, 268), (240, -3000001, 631), (241, -3000002, 632), (242, -3000005, 633), (243, -2000001, 634)]
def kJ_X4 : List (Nat × Int64 × Nat) := []
theorem fl_X4_ok : fl_X4.all (m_fck RX4) = true := by decide +kernel
theorem kI_X4_ok : kI_X4.all (m_kck RX4) = true := by decide +kernel
theorem kJ_X4_ok : kJ_X4.all (m_kckL RX4) = true := by decide +kernel
def fl_X5 : List mFL := [(7, 5, 0, 2, 0, 682), (13, 5, 1, 2, 0, 683), (16, 5, 2, 2, 0, 684), (19, 5, 3, 2, 0, 685), (113, 5, 4, 0, 0, 686), (54, 5, 5, 0, 0, 687), (116, 5, 6, 1, 0, 688), (120, 5, 7, 0, 0, 689), (23, 5, 8, 2, 0, 690), (26, 5, 9, 2, 0, 691), (29, 5, 10, 2, 0, 692), (32, 5, 11, 2, 0, 693), (35, 5, 12, 2, 0, 694), (38, 5, 13, 2, 0, 695), (41, 5, 14, 2, 0, 696), (44, 5, 15, 2, 0, 697), (47, 5, 16, 2, 0, 698)]
def kI_X5 : List (Nat × Int32 × Nat) := [(64, 16777215, 813), (65, 16777216, 822), (238, -3000001, 1000), (241, -3000002, 1002), (242, -3000005, 1003), (247, -2000001, 1006)]
def kJ_X5 : List (Nat × Int64 × Nat) := [(58, 16777215, 681), (130, -9, 746), (132, 9, 747), (138, -99, 751), (140, 99, 752), (145, 11, 764), (147, -1000000, 765), (149, 1000000, 766), (151, 27720, 771), (153, 6, 776), (155, 3, 777), (190, 5, 887), (220, -1000, 959), (222, 1000, 960), (227, 16, 978), (229, 24, 979), (239, 10, 1001), (243, -512, 1004), (245, 512, 1005)]
theorem fl_X5_ok : fl_X5.all (m_fck RX5) = true := by decide +kernel
theorem kI_X5_ok : kI_X5.all (m_kck RX5) = true := by decide +kernel
theorem kJ_X5_ok : kJ_X5.all (m_kckL RX5) = true := by decide +kernel
def fl_J6 : List mFL := []
def kI_J6 : List (Nat × Int32 × Nat) := [(265, 1431655765, 112), (266, 858993459, 113), (267, 252645135, 114), (264, 65536, 386)]
def kJ_J6 : List (Nat × Int64 × Nat) := []
theorem fl_J6_ok : fl_J6.all (m_fck RJ6) = true := by decide +kernel
theorem kI_J6_ok : kI_J6.all (m_kck RJ6) = true := by decide +kernel
theorem kJ_J6_ok : kJ_J6.all (m_kckL RJ6) = true := by decide +kernel
def fl_J13 : List mFL := []
def kI_J13 : List (Nat × Int32 × Nat) := []
def kJ_J13 : List (Nat × Int64 × Nat) := []
theorem fl_J13_ok : fl_J13.all (m_fck RJ13) = true := by decide +kernel
theorem kI_J13_ok : kI_J13.all (m_kck RJ13) = true := by decide +kernel
theorem kJ_J13_ok : kJ_J13.all (m_kckL RJ13) = true := by decide +kernel
def fl_J9 : List mFL := []
def kI_J9 : List (Nat × Int32 × Nat) := []
def kJ_J9 : List (Nat × Int64 × Nat) := []
theorem fl_J9_ok : fl_J9.all (m_fck RJ9) = true := by decide +kernel
theorem kI_J9_ok : kI_J9.all (m_kck RJ9) = true := by decide +kernel
theorem kJ_J9_ok : kJ_J9.all (m_kckL RJ9) = true := by decide +kernel
def fl_J7 : List mFL := []
def kI_J7 : List (Nat × Int32 × Nat) := []
def kJ_J7 : List (Nat × Int64 × Nat) := []
theorem fl_J7_ok : fl_J7.all (m_fck RJ7) = true := by decide +kernel
theorem kI_J7_ok : kI_J7.all (m_kck RJ7) = true := by decide +kernel
theorem kJ_J7_ok : kJ_J7.all (m_kckL RJ7) = true := by decide +kernel
def fl_J10 : List mFL := []
def kI_J10 : List (Nat × Int32 × Nat) := []
def kJ_J10 : List (Nat × Int64 × Nat) := []
theorem fl_J10_ok : fl_J10.all (m_fck RJ10) = true := by decide +kernel
theorem kI_J10_ok : kI_J10.all (m_kck RJ10) = true := by decide +kernel
theorem kJ_J10_ok : kJ_J10.all (m_kckL RJ10) = true := by decide +kernel
def cd_X0_setLong : List mIN := [(0, .lload_n 1, 1, [], 0), (1, .lconst 0, 1, [], 0), (2, .lcmp, 1, [], 0), (3, .ifCond .ge 8, 3, [11], 0), (6, .lload_n 1, 1, [], 0), (7, .lneg, 1, [], 0), (8, .goto 4, 3, [12], 0), (11, .lload_n 1, 1, [], 0), (12, .lstore_n 3, 1, [], 0), (13, .aload_n 0, 1, [], 0), (14, .getfield 13, 3, [], 0), (17, .iconst 0, 1, [], 0), (18, .lload_n 3, 1, [], 0), (19, .l2i, 1, [], 0), (20, .iastore, 1, [], 0), (21, .aload_n 0, 1, [], 0), (22, .getfield 13, 3, [], 0), (25, .iconst 1, 1, [], 1), (26, .lload_n 3, 1, [], 0), (27, .bipush 32, 2, [], 32), (29, .lushr, 1, [], 0), (30, .l2i, 1, [], 0), (31, .iastore, 1, [], 0), (32, .aload_n 0, 1, [], 0), (33, .iconst 2, 1, [], 2), (34, .putfield 19, 3, [], 0), (37, .aload_n 0, 1, [], 0), (38, .lload_n 1, 1, [], 0), (39, .lconst 0, 1, [], 0), (40, .lcmp, 1, [], 0), (41, .ifCond .ge 7, 3, [48], 0), (44, .iconst 1, 1, [], 1), (45, .goto 4, 3, [49], 0), (48, .iconst 0, 1, [], 0), (49, .putfield 23, 3, [], 0), (52, .aload_n 0, 1, [], 0), (53, .invokevirtual 27, 3, [], 0), (56, .return_, 1, [], 0)]
theorem ck_X0_setLong : cd_X0_setLong.all (m_ick cX0_setLong) = true ∧ m_ch cd_X0_setLong = true := by decide +kernel
def cd_X0_setBig : List mIN := [(0, .aload_n 0, 1, [], 0), (1, .aload_n 1, 1, [], 0), (2, .getfield 19, 3, [], 0), (5, .invokevirtual 30, 3, [], 0), (8, .aload_n 1, 1, [], 0), (9, .getfield 13, 3, [], 0), (12, .iconst 0, 1, [], 0), (13, .aload_n 0, 1, [], 0), (14, .getfield 13, 3, [], 0), (17, .iconst 0, 1, [], 0), (18, .aload_n 1, 1, [], 0), (19, .getfield 19, 3, [], 0), (22, .invokestatic 34, 3, [], 0), (25, .aload_n 0, 1, [], 0), (26, .aload_n 1, 1, [], 0), (27, .getfield 19, 3, [], 0), (30, .putfield 19, 3, [], 0), (33, .aload_n 0, 1, [], 0), (34, .aload_n 1, 1, [], 0), (35, .getfield 23, 3, [], 0), (38, .putfield 23, 3, [], 0), (41, .return_, 1, [], 0)]
theorem ck_X0_setBig : cd_X0_setBig.all (m_ick cX0_setBig) = true ∧ m_ch cd_X0_setBig = true := by decide +kernel
def cd_X0_toLong : List mIN := [(0, .aload_n 0, 1, [], 0), (1, .getfield 19, 3, [], 0), (4, .ifCond .le 17, 3, [21], 0), (7, .aload_n 0, 1, [], 0), (8, .getfield 13, 3, [], 0), (11, .iconst 0, 1, [], 0), (12, .iaload, 1, [], 0), (13, .i2l, 1, [], 0), (14, .ldc2_w 40, 3, [], 0), (17, .land, 1, [], 0), (18, .goto 4, 3, [22], 0), (21, .lconst 0, 1, [], 0), (22, .lstore_n 1, 1, [], 0), (23, .aload_n 0, 1, [], 0), (24, .getfield 19, 3, [], 0), (27, .iconst 1, 1, [], 1), (28, .if_icmp .le 17, 3, [45], 0), (31, .aload_n 0, 1, [], 0), (32, .getfield 13, 3, [], 0), (35, .iconst 1, 1, [], 1), (36, .iaload, 1, [], 0), (37, .i2l, 1, [], 0), (38, .ldc2_w 40, 3, [], 0), (41, .land, 1, [], 0), (42, .goto 4, 3, [46], 0), (45, .lconst 0, 1, [], 0), (46, .lstore_n 3, 1, [], 0), (47, .lload_n 3, 1, [], 0), (48, .bipush 32, 2, [], 32), (50, .lshl, 1, [], 0), (51, .lload_n 1, 1, [], 0), (52, .lor, 1, [], 0), (53, .lstore 5, 2, [], 0), (55, .aload_n 0, 1, [], 0), (56, .getfield 23, 3, [], 0), (59, .ifCond .eq 9, 3, [68], 0), (62, .lload 5, 2, [], 0), (64, .lneg, 1, [], 0), (65, .goto 5, 3, [70], 0), (68, .lload 5, 2, [], 0), (70, .lreturn, 1, [], 0)]
theorem ck_X0_toLong : cd_X0_toLong.all (m_ick cX0_toLong) = true ∧ m_ch cd_X0_toLong = true := by decide +kernel
def cd_X0_signum : List mIN := [(0, .aload_n 0, 1, [], 0), (1, .getfield 19, 3, [], 0), (4, .ifCond .ne 7, 3, [11], 0), (7, .iconst 0, 1, [], 0), (8, .goto 15, 3, [23], 0), (11, .aload_n 0, 1, [], 0), (12, .getfield 23, 3, [], 0), (15, .ifCond .eq 7, 3, [22], 0), (18, .iconst (-1), 1, [], -1), (19, .goto 4, 3, [23], 0), (22, .iconst 1, 1, [], 1), (23, .ireturn, 1, [], 0)]
theorem ck_X0_signum : cd_X0_signum.all (m_ick cX0_signum) = true ∧ m_ch cd_X0_signum = true := by decide +kernel
def cd_X0_negate : List mIN := [(0, .aload_n 0, 1, [], 0), (1, .aload_n 0, 1, [], 0), (2, .getfield 19, 3, [], 0), (5, .ifCond .eq 14, 3, [19], 0), (8, .aload_n 0, 1, [], 0), (9, .getfield 23, 3, [], 0), (12, .ifCond .ne 7, 3, [19], 0), (15, .iconst 1, 1, [], 1), (16, .goto 4, 3, [20], 0), (19, .iconst 0, 1, [], 0), (20, .putfield 23, 3, [], 0), (23, .return_, 1, [], 0)]
theorem ck_X0_negate : cd_X0_negate.all (m_ick cX0_negate) = true ∧ m_ch cd_X0_negate = true := by decide +kernel
def cd_X0_dropSign : List mIN := [(0, .aload_n 0, 1, [], 0), (1, .iconst 0, 1, [], 0), (2, .putfield 23, 3, [], 0), (5, .return_, 1, [], 0)]
theorem ck_X0_dropSign : cd_X0_dropSign.all (m_ick cX0_dropSign) = true ∧ m_ch cd_X0_dropSign = true := by decide +kernel
def cd_X0_bitLength : List mIN := [(0, .aload_n 0, 1, [], 0), (1, .getfield 19, 3, [], 0), (4, .ifCond .ne 7, 3, [11], 0), (7, .iconst 0, 1, [], 0), (8, .goto 25, 3, [33], 0), (11, .bipush 32, 2, [], 32), (13, .aload_n 0, 1, [], 0), (14, .getfield 19, 3, [], 0), (17, .imul, 1, [], 0), (18, .aload_n 0, 1, [], 0), (19, .getfield 13, 3, [], 0), (22, .aload_n 0, 1, [], 0), (23, .getfield 19, 3, [], 0), (26, .iconst 1, 1, [], 1), (27, .isub, 1, [], 0), (28, .iaload, 1, [], 0), (29, .invokestatic 42, 3, [], 0), (32, .isub, 1, [], 0), (33, .ireturn, 1, [], 0)]
theorem ck_X0_bitLength : cd_X0_bitLength.all (m_ick cX0_bitLength) = true ∧ m_ch cd_X0_bitLength = true := by decide +kernel
def cd_X0_sixteenBits : List mIN := [(0, .iload_n 1, 1, [], 0), (1, .iconst 1, 1, [], 1), (2, .ishr, 1, [], 0), (3, .istore_n 2, 1, [], 0), (4, .iload_n 2, 1, [], 0), (5, .ifCond .lt 11, 3, [16], 0), (8, .iload_n 2, 1, [], 0), (9, .aload_n 0, 1, [], 0), (10, .getfield 19, 3, [], 0), (13, .if_icmp .lt 7, 3, [20], 0), (16, .iconst 0, 1, [], 0), (17, .goto 18, 3, [35], 0), (20, .aload_n 0, 1, [], 0), (21, .getfield 13, 3, [], 0), (24, .iload_n 2, 1, [], 0), (25, .iaload, 1, [], 0), (26, .iload_n 1, 1, [], 0), (27, .iconst 1, 1, [], 1), (28, .iand, 1, [], 0), (29, .iconst 4, 1, [], 4), (30, .ishl, 1, [], 0), (31, .iushr, 1, [], 0), (32, .ldc 48, 2, [], 0), (34, .iand, 1, [], 0), (35, .ireturn, 1, [], 0)]
theorem ck_X0_sixteenBits : cd_X0_sixteenBits.all (m_ick cX0_sixteenBits) = true ∧ m_ch cd_X0_sixteenBits = true := by decide +kernel
def cd_X0_twos : List mIN := [(0, .iconst 0, 1, [], 0), (1, .istore_n 1, 1, [], 0), (2, .iload_n 1, 1, [], 0), (3, .aload_n 0, 1, [], 0), (4, .getfield 19, 3, [], 0), (7, .if_icmp .ge 33, 3, [40], 0), (10, .aload_n 0, 1, [], 0), (11, .getfield 13, 3, [], 0), (14, .iload_n 1, 1, [], 0), (15, .iaload, 1, [], 0), (16, .ifCond .eq 18, 3, [34], 0), (19, .bipush 32, 2, [], 32), (21, .iload_n 1, 1, [], 0), (22, .imul, 1, [], 0), (23, .aload_n 0, 1, [], 0), (24, .getfield 13, 3, [], 0), (27, .iload_n 1, 1, [], 0), (28, .iaload, 1, [], 0), (29, .invokestatic 49, 3, [], 0), (32, .iadd, 1, [], 0), (33, .ireturn, 1, [], 0), (34, .iinc 1 1, 3, [], 1), (37, .goto (-35), 3, [2], 0), (40, .iconst 0, 1, [], 0), (41, .ireturn, 1, [], 0)]
theorem ck_X0_twos : cd_X0_twos.all (m_ick cX0_twos) = true ∧ m_ch cd_X0_twos = true := by decide +kernel
def cd_X0_compareSize : List mIN := [(0, .aload_n 0, 1, [], 0), (1, .getfield 19, 3, [], 0), (4, .aload_n 1, 1, [], 0), (5, .getfield 19, 3, [], 0), (8, .if_icmp .eq 20, 3, [28], 0), (11, .aload_n 0, 1, [], 0), (12, .getfield 19, 3, [], 0), (15, .aload_n 1, 1, [], 0), (16, .getfield 19, 3, [], 0), (19, .if_icmp .ge 7, 3, [26], 0), (22, .iconst (-1), 1, [], -1), (23, .goto 4, 3, [27], 0), (26, .iconst 1, 1, [], 1), (27, .ireturn, 1, [], 0), (28, .aload_n 0, 1, [], 0), (29, .getfield 19, 3, [], 0), (32, .iconst 1, 1, [], 1), (33, .isub, 1, [], 0), (34, .istore_n 2, 1, [], 0), (35, .iload_n 2, 1, [], 0), (36, .ifCond .lt 50, 3, [86], 0), (39, .aload_n 0, 1, [], 0), (40, .getfield 13, 3, [], 0), (43, .iload_n 2, 1, [], 0), (44, .iaload, 1, [], 0), (45, .aload_n 1, 1, [], 0), (46, .getfield 13, 3, [], 0), (49, .iload_n 2, 1, [], 0), (50, .iaload, 1, [], 0), (51, .if_icmp .eq 29, 3, [80], 0), (54, .aload_n 0, 1, [], 0), (55, .getfield 13, 3, [], 0), (58, .iload_n 2, 1, [], 0), (59, .iaload, 1, [], 0), (60, .i2l, 1, [], 0), (61, .ldc2_w 40, 3, [], 0), (64, .land, 1, [], 0), (65, .aload_n 1, 1, [], 0), (66, .getfield 13, 3, [], 0), (69, .iload_n 2, 1, [], 0), (70, .iaload, 1, [], 0), (71, .i2l, 1, [], 0), (72, .ldc2_w 40, 3, [], 0), (75, .land, 1, [], 0), (76, .invokestatic 52, 3, [], 0), (79, .ireturn, 1, [], 0), (80, .iinc 2 (-1), 3, [], -1), (83, .goto (-48), 3, [35], 0), (86, .iconst 0, 1, [], 0), (87, .ireturn, 1, [], 0)]
theorem ck_X0_compareSize : cd_X0_compareSize.all (m_ick cX0_compareSize) = true ∧ m_ch cd_X0_compareSize = true := by decide +kernel
def cd_X0_take : List mIN := [(0, .aload_n 0, 1, [], 0), (1, .aload_n 1, 1, [], 0), (2, .aload_n 1, 1, [], 0), (3, .getfield 23, 3, [], 0), (6, .ifCond .ne 7, 3, [13], 0), (9, .iconst 1, 1, [], 1), (10, .goto 4, 3, [14], 0), (13, .iconst 0, 1, [], 0), (14, .invokevirtual 58, 3, [], 0), (17, .return_, 1, [], 0)]
theorem ck_X0_take : cd_X0_take.all (m_ick cX0_take) = true ∧ m_ch cd_X0_take = true := by decide +kernel
def cd_X0_addProduct : List mIN := [(0, .aload_n 3, 1, [], 0), (1, .aload_n 1, 1, [], 0), (2, .aload_n 2, 1, [], 0), (3, .invokevirtual 62, 3, [], 0), (6, .aload_n 0, 1, [], 0), (7, .aload_n 3, 1, [], 0), (8, .aload_n 3, 1, [], 0), (9, .getfield 23, 3, [], 0), (12, .invokevirtual 58, 3, [], 0), (15, .return_, 1, [], 0)]
theorem ck_X0_addProduct : cd_X0_addProduct.all (m_ick cX0_addProduct) = true ∧ m_ch cd_X0_addProduct = true := by decide +kernel
def cd_X0_addSigned : List mIN := [(0, .aload_n 1, 1, [], 0), (1, .getfield 19, 3, [], 0), (4, .ifCond .ne 4, 3, [8], 0), (7, .return_, 1, [], 0), (8, .aload_n 0, 1, [], 0), (9, .getfield 19, 3, [], 0), (12, .ifCond .ne 16, 3, [28], 0), (15, .aload_n 0, 1, [], 0), (16, .aload_n 1, 1, [], 0), (17, .invokevirtual 66, 3, [], 0), (20, .aload_n 0, 1, [], 0), (21, .iload_n 2, 1, [], 0), (22, .putfield 23, 3, [], 0), (25, .goto 45, 3, [70], 0), (28, .aload_n 0, 1, [], 0), (29, .getfield 23, 3, [], 0), (32, .iload_n 2, 1, [], 0), (33, .if_icmp .ne 11, 3, [44], 0), (36, .aload_n 0, 1, [], 0), (37, .aload_n 1, 1, [], 0), (38, .invokevirtual 70, 3, [], 0), (41, .goto 29, 3, [70], 0), (44, .aload_n 0, 1, [], 0), (45, .aload_n 1, 1, [], 0), (46, .invokevirtual 73, 3, [], 0), (49, .ifCond .lt 11, 3, [60], 0), (52, .aload_n 0, 1, [], 0), (53, .aload_n 1, 1, [], 0), (54, .invokevirtual 77, 3, [], 0), (57, .goto 13, 3, [70], 0), (60, .aload_n 0, 1, [], 0), (61, .aload_n 1, 1, [], 0), (62, .invokevirtual 80, 3, [], 0), (65, .aload_n 0, 1, [], 0), (66, .iload_n 2, 1, [], 0), (67, .putfield 23, 3, [], 0), (70, .return_, 1, [], 0)]
theorem ck_X0_addSigned : cd_X0_addSigned.all (m_ick cX0_addSigned) = true ∧ m_ch cd_X0_addSigned = true := by decide +kernel
def cd_X0_addSize : List mIN := [(0, .aload_n 0, 1, [], 0), (1, .getfield 19, 3, [], 0), (4, .aload_n 1, 1, [], 0), (5, .getfield 19, 3, [], 0), (8, .invokestatic 7, 3, [], 0), (11, .istore_n 2, 1, [], 0), (12, .aload_n 0, 1, [], 0), (13, .iload_n 2, 1, [], 0), (14, .iconst 1, 1, [], 1), (15, .iadd, 1, [], 0), (16, .invokevirtual 30, 3, [], 0), (19, .lconst 0, 1, [], 0), (20, .lstore_n 3, 1, [], 0), (21, .iconst 0, 1, [], 0), (22, .istore 5, 2, [], 0), (24, .iload 5, 2, [], 0), (26, .iload_n 2, 1, [], 0), (27, .if_icmp .ge 77, 3, [104], 0), (30, .lload_n 3, 1, [], 0), (31, .iload 5, 2, [], 0), (33, .aload_n 0, 1, [], 0), (34, .getfield 19, 3, [], 0), (37, .if_icmp .ge 18, 3, [55], 0), (40, .aload_n 0, 1, [], 0), (41, .getfield 13, 3, [], 0), (44, .iload 5, 2, [], 0), (46, .iaload, 1, [], 0), (47, .i2l, 1, [], 0), (48, .ldc2_w 40, 3, [], 0), (51, .land, 1, [], 0), (52, .goto 4, 3, [56], 0), (55, .lconst 0, 1, [], 0), (56, .iload 5, 2, [], 0), (58, .aload_n 1, 1, [], 0), (59, .getfield 19, 3, [], 0), (62, .if_icmp .ge 18, 3, [80], 0), (65, .aload_n 1, 1, [], 0), (66, .getfield 13, 3, [], 0), (69, .iload 5, 2, [], 0), (71, .iaload, 1, [], 0), (72, .i2l, 1, [], 0), (73, .ldc2_w 40, 3, [], 0), (76, .land, 1, [], 0), (77, .goto 4, 3, [81], 0), (80, .lconst 0, 1, [], 0), (81, .ladd, 1, [], 0), (82, .ladd, 1, [], 0), (83, .lstore_n 3, 1, [], 0), (84, .aload_n 0, 1, [], 0), (85, .getfield 13, 3, [], 0), (88, .iload 5, 2, [], 0), (90, .lload_n 3, 1, [], 0), (91, .l2i, 1, [], 0), (92, .iastore, 1, [], 0), (93, .lload_n 3, 1, [], 0), (94, .bipush 32, 2, [], 32), (96, .lushr, 1, [], 0), (97, .lstore_n 3, 1, [], 0), (98, .iinc 5 1, 3, [], 1), (101, .goto (-77), 3, [24], 0), (104, .aload_n 0, 1, [], 0), (105, .getfield 13, 3, [], 0), (108, .iload_n 2, 1, [], 0), (109, .lload_n 3, 1, [], 0), (110, .l2i, 1, [], 0), (111, .iastore, 1, [], 0), (112, .aload_n 0, 1, [], 0), (113, .iload_n 2, 1, [], 0), (114, .iconst 1, 1, [], 1), (115, .iadd, 1, [], 0), (116, .putfield 19, 3, [], 0), (119, .aload_n 0, 1, [], 0), (120, .invokevirtual 27, 3, [], 0), (123, .return_, 1, [], 0)]
theorem ck_X0_addSize : cd_X0_addSize.all (m_ick cX0_addSize) = true ∧ m_ch cd_X0_addSize = true := by decide +kernel
def cd_X0_takeSize : List mIN := [(0, .lconst 0, 1, [], 0), (1, .lstore_n 2, 1, [], 0), (2, .iconst 0, 1, [], 0), (3, .istore 4, 2, [], 0), (5, .iload 4, 2, [], 0), (7, .aload_n 0, 1, [], 0), (8, .getfield 19, 3, [], 0), (11, .if_icmp .ge 64, 3, [75], 0), (14, .lload_n 2, 1, [], 0), (15, .aload_n 0, 1, [], 0), (16, .getfield 13, 3, [], 0), (19, .iload 4, 2, [], 0), (21, .iaload, 1, [], 0), (22, .i2l, 1, [], 0), (23, .ldc2_w 40, 3, [], 0), (26, .land, 1, [], 0), (27, .iload 4, 2, [], 0), (29, .aload_n 1, 1, [], 0), (30, .getfield 19, 3, [], 0), (33, .if_icmp .ge 18, 3, [51], 0), (36, .aload_n 1, 1, [], 0), (37, .getfield 13, 3, [], 0), (40, .iload 4, 2, [], 0), (42, .iaload, 1, [], 0), (43, .i2l, 1, [], 0), (44, .ldc2_w 40, 3, [], 0), (47, .land, 1, [], 0), (48, .goto 4, 3, [52], 0), (51, .lconst 0, 1, [], 0), (52, .lsub, 1, [], 0), (53, .ladd, 1, [], 0), (54, .lstore_n 2, 1, [], 0), (55, .aload_n 0, 1, [], 0), (56, .getfield 13, 3, [], 0), (59, .iload 4, 2, [], 0), (61, .lload_n 2, 1, [], 0), (62, .l2i, 1, [], 0), (63, .iastore, 1, [], 0), (64, .lload_n 2, 1, [], 0), (65, .bipush 32, 2, [], 32), (67, .lshr, 1, [], 0), (68, .lstore_n 2, 1, [], 0), (69, .iinc 4 1, 3, [], 1), (72, .goto (-67), 3, [5], 0), (75, .aload_n 0, 1, [], 0), (76, .invokevirtual 27, 3, [], 0), (79, .return_, 1, [], 0)]
theorem ck_X0_takeSize : cd_X0_takeSize.all (m_ick cX0_takeSize) = true ∧ m_ch cd_X0_takeSize = true := by decide +kernel
def cd_X0_takeSizeFrom : List mIN := [(0, .aload_n 0, 1, [], 0), (1, .aload_n 1, 1, [], 0), (2, .getfield 19, 3, [], 0), (5, .invokevirtual 30, 3, [], 0), (8, .lconst 0, 1, [], 0), (9, .lstore_n 2, 1, [], 0), (10, .iconst 0, 1, [], 0), (11, .istore 4, 2, [], 0), (13, .iload 4, 2, [], 0), (15, .aload_n 1, 1, [], 0), (16, .getfield 19, 3, [], 0), (19, .if_icmp .ge 64, 3, [83], 0), (22, .lload_n 2, 1, [], 0), (23, .aload_n 1, 1, [], 0), (24, .getfield 13, 3, [], 0), (27, .iload 4, 2, [], 0), (29, .iaload, 1, [], 0), (30, .i2l, 1, [], 0), (31, .ldc2_w 40, 3, [], 0), (34, .land, 1, [], 0), (35, .iload 4, 2, [], 0), (37, .aload_n 0, 1, [], 0), (38, .getfield 19, 3, [], 0), (41, .if_icmp .ge 18, 3, [59], 0), (44, .aload_n 0, 1, [], 0), (45, .getfield 13, 3, [], 0), (48, .iload 4, 2, [], 0), (50, .iaload, 1, [], 0), (51, .i2l, 1, [], 0), (52, .ldc2_w 40, 3, [], 0), (55, .land, 1, [], 0), (56, .goto 4, 3, [60], 0), (59, .lconst 0, 1, [], 0), (60, .lsub, 1, [], 0), (61, .ladd, 1, [], 0), (62, .lstore_n 2, 1, [], 0), (63, .aload_n 0, 1, [], 0), (64, .getfield 13, 3, [], 0), (67, .iload 4, 2, [], 0), (69, .lload_n 2, 1, [], 0), (70, .l2i, 1, [], 0), (71, .iastore, 1, [], 0), (72, .lload_n 2, 1, [], 0), (73, .bipush 32, 2, [], 32), (75, .lshr, 1, [], 0), (76, .lstore_n 2, 1, [], 0), (77, .iinc 4 1, 3, [], 1), (80, .goto (-67), 3, [13], 0), (83, .aload_n 0, 1, [], 0), (84, .aload_n 1, 1, [], 0), (85, .getfield 19, 3, [], 0), (88, .putfield 19, 3, [], 0), (91, .aload_n 0, 1, [], 0), (92, .invokevirtual 27, 3, [], 0), (95, .return_, 1, [], 0)]
theorem ck_X0_takeSizeFrom : cd_X0_takeSizeFrom.all (m_ick cX0_takeSizeFrom) = true ∧ m_ch cd_X0_takeSizeFrom = true := by decide +kernel
def cd_X0_setProduct : List mIN := [(0, .aload_n 1, 1, [], 0), (1, .getfield 19, 3, [], 0), (4, .aload_n 2, 1, [], 0), (5, .getfield 19, 3, [], 0), (8, .iadd, 1, [], 0), (9, .istore_n 3, 1, [], 0), (10, .aload_n 0, 1, [], 0), (11, .iload_n 3, 1, [], 0), (12, .invokevirtual 30, 3, [], 0), (15, .aload_n 0, 1, [], 0), (16, .getfield 13, 3, [], 0), (19, .iconst 0, 1, [], 0), (20, .iload_n 3, 1, [], 0), (21, .iconst 0, 1, [], 0), (22, .invokestatic 83, 3, [], 0), (25, .iconst 0, 1, [], 0), (26, .istore 4, 2, [], 0), (28, .iload 4, 2, [], 0), (30, .aload_n 1, 1, [], 0), (31, .getfield 19, 3, [], 0), (34, .if_icmp .ge 115, 3, [149], 0), (37, .aload_n 1, 1, [], 0), (38, .getfield 13, 3, [], 0), (41, .iload 4, 2, [], 0), (43, .iaload, 1, [], 0), (44, .i2l, 1, [], 0), (45, .ldc2_w 40, 3, [], 0), (48, .land, 1, [], 0), (49, .lstore 5, 2, [], 0), (51, .lconst 0, 1, [], 0), (52, .lstore 7, 2, [], 0), (54, .iconst 0, 1, [], 0), (55, .istore 9, 2, [], 0), (57, .iload 9, 2, [], 0), (59, .aload_n 2, 1, [], 0), (60, .getfield 19, 3, [], 0), (63, .if_icmp .ge 65, 3, [128], 0), (66, .lload 7, 2, [], 0), (68, .lload 5, 2, [], 0), (70, .aload_n 2, 1, [], 0), (71, .getfield 13, 3, [], 0), (74, .iload 9, 2, [], 0), (76, .iaload, 1, [], 0), (77, .i2l, 1, [], 0), (78, .ldc2_w 40, 3, [], 0), (81, .land, 1, [], 0), (82, .lmul, 1, [], 0), (83, .aload_n 0, 1, [], 0), (84, .getfield 13, 3, [], 0), (87, .iload 4, 2, [], 0), (89, .iload 9, 2, [], 0), (91, .iadd, 1, [], 0), (92, .iaload, 1, [], 0), (93, .i2l, 1, [], 0), (94, .ldc2_w 40, 3, [], 0), (97, .land, 1, [], 0), (98, .ladd, 1, [], 0), (99, .ladd, 1, [], 0), (100, .lstore 7, 2, [], 0), (102, .aload_n 0, 1, [], 0), (103, .getfield 13, 3, [], 0), (106, .iload 4, 2, [], 0), (108, .iload 9, 2, [], 0), (110, .iadd, 1, [], 0), (111, .lload 7, 2, [], 0), (113, .l2i, 1, [], 0), (114, .iastore, 1, [], 0), (115, .lload 7, 2, [], 0), (117, .bipush 32, 2, [], 32), (119, .lushr, 1, [], 0), (120, .lstore 7, 2, [], 0), (122, .iinc 9 1, 3, [], 1), (125, .goto (-68), 3, [57], 0), (128, .aload_n 0, 1, [], 0), (129, .getfield 13, 3, [], 0), (132, .iload 4, 2, [], 0), (134, .aload_n 2, 1, [], 0), (135, .getfield 19, 3, [], 0), (138, .iadd, 1, [], 0), (139, .lload 7, 2, [], 0), (141, .l2i, 1, [], 0), (142, .iastore, 1, [], 0), (143, .iinc 4 1, 3, [], 1), (146, .goto (-118), 3, [28], 0), (149, .aload_n 0, 1, [], 0), (150, .iload_n 3, 1, [], 0), (151, .putfield 19, 3, [], 0), (154, .aload_n 0, 1, [], 0), (155, .aload_n 1, 1, [], 0), (156, .getfield 23, 3, [], 0), (159, .aload_n 2, 1, [], 0), (160, .getfield 23, 3, [], 0), (163, .if_icmp .eq 7, 3, [170], 0), (166, .iconst 1, 1, [], 1), (167, .goto 4, 3, [171], 0), (170, .iconst 0, 1, [], 0), (171, .putfield 23, 3, [], 0), (174, .aload_n 0, 1, [], 0), (175, .invokevirtual 27, 3, [], 0), (178, .return_, 1, [], 0)]
theorem ck_X0_setProduct : cd_X0_setProduct.all (m_ick cX0_setProduct) = true ∧ m_ch cd_X0_setProduct = true := by decide +kernel
def cd_X0_times : List mIN := [(0, .aload_n 2, 1, [], 0), (1, .aload_n 0, 1, [], 0), (2, .aload_n 1, 1, [], 0), (3, .invokevirtual 62, 3, [], 0), (6, .aload_n 0, 1, [], 0), (7, .aload_n 2, 1, [], 0), (8, .invokevirtual 66, 3, [], 0), (11, .return_, 1, [], 0)]
theorem ck_X0_times : cd_X0_times.all (m_ick cX0_times) = true ∧ m_ch cd_X0_times = true := by decide +kernel
def cd_X0_timesInt : List mIN := [(0, .iload_n 1, 1, [], 0), (1, .i2l, 1, [], 0), (2, .invokestatic 89, 3, [], 0), (5, .lstore_n 2, 1, [], 0), (6, .aload_n 0, 1, [], 0), (7, .aload_n 0, 1, [], 0), (8, .getfield 19, 3, [], 0), (11, .iconst 1, 1, [], 1), (12, .iadd, 1, [], 0), (13, .invokevirtual 30, 3, [], 0), (16, .lconst 0, 1, [], 0), (17, .lstore 4, 2, [], 0), (19, .iconst 0, 1, [], 0), (20, .istore 6, 2, [], 0), (22, .iload 6, 2, [], 0), (24, .aload_n 0, 1, [], 0), (25, .getfield 19, 3, [], 0), (28, .if_icmp .ge 45, 3, [73], 0), (31, .lload 4, 2, [], 0), (33, .lload_n 2, 1, [], 0), (34, .aload_n 0, 1, [], 0), (35, .getfield 13, 3, [], 0), (38, .iload 6, 2, [], 0), (40, .iaload, 1, [], 0), (41, .i2l, 1, [], 0), (42, .ldc2_w 40, 3, [], 0), (45, .land, 1, [], 0), (46, .lmul, 1, [], 0), (47, .ladd, 1, [], 0), (48, .lstore 4, 2, [], 0), (50, .aload_n 0, 1, [], 0), (51, .getfield 13, 3, [], 0), (54, .iload 6, 2, [], 0), (56, .lload 4, 2, [], 0), (58, .l2i, 1, [], 0), (59, .iastore, 1, [], 0), (60, .lload 4, 2, [], 0), (62, .bipush 32, 2, [], 32), (64, .lushr, 1, [], 0), (65, .lstore 4, 2, [], 0), (67, .iinc 6 1, 3, [], 1), (70, .goto (-48), 3, [22], 0), (73, .aload_n 0, 1, [], 0), (74, .getfield 13, 3, [], 0), (77, .aload_n 0, 1, [], 0), (78, .getfield 19, 3, [], 0), (81, .lload 4, 2, [], 0), (83, .l2i, 1, [], 0), (84, .iastore, 1, [], 0), (85, .aload_n 0, 1, [], 0), (86, .dup, 1, [], 0), (87, .getfield 19, 3, [], 0), (90, .iconst 1, 1, [], 1), (91, .iadd, 1, [], 0), (92, .putfield 19, 3, [], 0), (95, .aload_n 0, 1, [], 0), (96, .aload_n 0, 1, [], 0), (97, .getfield 23, 3, [], 0), (100, .iload_n 1, 1, [], 0), (101, .ifCond .ge 7, 3, [108], 0), (104, .iconst 1, 1, [], 1), (105, .goto 4, 3, [109], 0), (108, .iconst 0, 1, [], 0), (109, .if_icmp .eq 7, 3, [116], 0), (112, .iconst 1, 1, [], 1), (113, .goto 4, 3, [117], 0), (116, .iconst 0, 1, [], 0), (117, .putfield 23, 3, [], 0), (120, .aload_n 0, 1, [], 0), (121, .invokevirtual 27, 3, [], 0), (124, .return_, 1, [], 0)]
theorem ck_X0_timesInt : cd_X0_timesInt.all (m_ick cX0_timesInt) = true ∧ m_ch cd_X0_timesInt = true := by decide +kernel
def cd_X0_shiftRight : List mIN := [(0, .iload_n 1, 1, [], 0), (1, .iconst 5, 1, [], 5), (2, .ishr, 1, [], 0), (3, .istore_n 2, 1, [], 0), (4, .iload_n 1, 1, [], 0), (5, .bipush 31, 2, [], 31), (7, .iand, 1, [], 0), (8, .istore_n 3, 1, [], 0), (9, .iconst 0, 1, [], 0), (10, .istore 4, 2, [], 0), (12, .iload 4, 2, [], 0), (14, .iload_n 2, 1, [], 0), (15, .iadd, 1, [], 0), (16, .aload_n 0, 1, [], 0), (17, .getfield 19, 3, [], 0), (20, .if_icmp .ge 74, 3, [94], 0), (23, .iload 4, 2, [], 0), (25, .iload_n 2, 1, [], 0), (26, .iadd, 1, [], 0), (27, .iconst 1, 1, [], 1), (28, .iadd, 1, [], 0), (29, .aload_n 0, 1, [], 0), (30, .getfield 19, 3, [], 0), (33, .if_icmp .ge 17, 3, [50], 0), (36, .aload_n 0, 1, [], 0), (37, .getfield 13, 3, [], 0), (40, .iload 4, 2, [], 0), (42, .iload_n 2, 1, [], 0), (43, .iadd, 1, [], 0), (44, .iconst 1, 1, [], 1), (45, .iadd, 1, [], 0), (46, .iaload, 1, [], 0), (47, .goto 4, 3, [51], 0), (50, .iconst 0, 1, [], 0), (51, .istore 5, 2, [], 0), (53, .iload 5, 2, [], 0), (55, .i2l, 1, [], 0), (56, .bipush 32, 2, [], 32), (58, .lshl, 1, [], 0), (59, .aload_n 0, 1, [], 0), (60, .getfield 13, 3, [], 0), (63, .iload 4, 2, [], 0), (65, .iload_n 2, 1, [], 0), (66, .iadd, 1, [], 0), (67, .iaload, 1, [], 0), (68, .i2l, 1, [], 0), (69, .ldc2_w 40, 3, [], 0), (72, .land, 1, [], 0), (73, .lor, 1, [], 0), (74, .lstore 6, 2, [], 0), (76, .aload_n 0, 1, [], 0), (77, .getfield 13, 3, [], 0), (80, .iload 4, 2, [], 0), (82, .lload 6, 2, [], 0), (84, .iload_n 3, 1, [], 0), (85, .lushr, 1, [], 0), (86, .l2i, 1, [], 0), (87, .iastore, 1, [], 0), (88, .iinc 4 1, 3, [], 1), (91, .goto (-79), 3, [12], 0), (94, .aload_n 0, 1, [], 0), (95, .aload_n 0, 1, [], 0), (96, .getfield 19, 3, [], 0), (99, .iload_n 2, 1, [], 0), (100, .isub, 1, [], 0), (101, .iconst 0, 1, [], 0), (102, .invokestatic 7, 3, [], 0), (105, .putfield 19, 3, [], 0), (108, .aload_n 0, 1, [], 0), (109, .invokevirtual 27, 3, [], 0), (112, .return_, 1, [], 0)]
theorem ck_X0_shiftRight : cd_X0_shiftRight.all (m_ick cX0_shiftRight) = true ∧ m_ch cd_X0_shiftRight = true := by decide +kernel
def cd_X0_divideWhole : List mIN := [(0, .aload_n 1, 1, [], 0), (1, .invokevirtual 93, 3, [], 0), (4, .istore_n 3, 1, [], 0), (5, .aload_n 2, 1, [], 0), (6, .aload_n 1, 1, [], 0), (7, .invokevirtual 66, 3, [], 0), (10, .aload_n 2, 1, [], 0), (11, .iload_n 3, 1, [], 0), (12, .invokevirtual 97, 3, [], 0), (15, .aload_n 0, 1, [], 0), (16, .iload_n 3, 1, [], 0), (17, .invokevirtual 97, 3, [], 0), (20, .aload_n 0, 1, [], 0), (21, .aload_n 2, 1, [], 0), (22, .invokevirtual 100, 3, [], 0), (25, .return_, 1, [], 0)]
theorem ck_X0_divideWhole : cd_X0_divideWhole.all (m_ick cX0_divideWhole) = true ∧ m_ch cd_X0_divideWhole = true := by decide +kernel
def cd_X0_divideByOdd : List mIN := [(0, .aload_n 0, 1, [], 0), (1, .getfield 19, 3, [], 0), (4, .aload_n 1, 1, [], 0), (5, .getfield 19, 3, [], 0), (8, .isub, 1, [], 0), (9, .iconst 1, 1, [], 1), (10, .iadd, 1, [], 0), (11, .iconst 0, 1, [], 0), (12, .invokestatic 7, 3, [], 0), (15, .istore_n 2, 1, [], 0), (16, .aload_n 1, 1, [], 0), (17, .getfield 13, 3, [], 0), (20, .iconst 0, 1, [], 0), (21, .iaload, 1, [], 0), (22, .invokestatic 103, 3, [], 0), (25, .istore_n 3, 1, [], 0), (26, .iconst 0, 1, [], 0), (27, .istore 4, 2, [], 0), (29, .iload 4, 2, [], 0), (31, .iload_n 2, 1, [], 0), (32, .if_icmp .ge 215, 3, [247], 0), (35, .aload_n 0, 1, [], 0), (36, .getfield 13, 3, [], 0), (39, .iload 4, 2, [], 0), (41, .iaload, 1, [], 0), (42, .iload_n 3, 1, [], 0), (43, .imul, 1, [], 0), (44, .istore 5, 2, [], 0), (46, .iload 5, 2, [], 0), (48, .i2l, 1, [], 0), (49, .ldc2_w 40, 3, [], 0), (52, .land, 1, [], 0), (53, .lstore 6, 2, [], 0), (55, .lconst 0, 1, [], 0), (56, .lstore 8, 2, [], 0), (58, .iconst 0, 1, [], 0), (59, .istore 10, 2, [], 0), (61, .iload 10, 2, [], 0), (63, .aload_n 1, 1, [], 0), (64, .getfield 19, 3, [], 0), (67, .if_icmp .ge 96, 3, [163], 0), (70, .iload 4, 2, [], 0), (72, .iload 10, 2, [], 0), (74, .iadd, 1, [], 0), (75, .iload_n 2, 1, [], 0), (76, .if_icmp .ge 87, 3, [163], 0), (79, .lload 8, 2, [], 0), (81, .lload 6, 2, [], 0), (83, .aload_n 1, 1, [], 0), (84, .getfield 13, 3, [], 0), (87, .iload 10, 2, [], 0), (89, .iaload, 1, [], 0), (90, .i2l, 1, [], 0), (91, .ldc2_w 40, 3, [], 0), (94, .land, 1, [], 0), (95, .lmul, 1, [], 0), (96, .ladd, 1, [], 0), (97, .lstore 8, 2, [], 0), (99, .aload_n 0, 1, [], 0), (100, .getfield 13, 3, [], 0), (103, .iload 4, 2, [], 0), (105, .iload 10, 2, [], 0), (107, .iadd, 1, [], 0), (108, .iaload, 1, [], 0), (109, .i2l, 1, [], 0), (110, .ldc2_w 40, 3, [], 0), (113, .land, 1, [], 0), (114, .lload 8, 2, [], 0), (116, .ldc2_w 40, 3, [], 0), (119, .land, 1, [], 0), (120, .lsub, 1, [], 0), (121, .lstore 11, 2, [], 0), (123, .aload_n 0, 1, [], 0), (124, .getfield 13, 3, [], 0), (127, .iload 4, 2, [], 0), (129, .iload 10, 2, [], 0), (131, .iadd, 1, [], 0), (132, .lload 11, 2, [], 0), (134, .l2i, 1, [], 0), (135, .iastore, 1, [], 0), (136, .lload 8, 2, [], 0), (138, .bipush 32, 2, [], 32), (140, .lushr, 1, [], 0), (141, .lload 11, 2, [], 0), (143, .lconst 0, 1, [], 0), (144, .lcmp, 1, [], 0), (145, .ifCond .ge 7, 3, [152], 0), (148, .iconst 1, 1, [], 1), (149, .goto 4, 3, [153], 0), (152, .iconst 0, 1, [], 0), (153, .i2l, 1, [], 0), (154, .ladd, 1, [], 0), (155, .lstore 8, 2, [], 0), (157, .iinc 10 1, 3, [], 1), (160, .goto (-99), 3, [61], 0), (163, .iload 4, 2, [], 0), (165, .aload_n 1, 1, [], 0), (166, .getfield 19, 3, [], 0), (169, .iadd, 1, [], 0), (170, .istore 10, 2, [], 0), (172, .iload 10, 2, [], 0), (174, .iload_n 2, 1, [], 0), (175, .if_icmp .ge 57, 3, [232], 0), (178, .lload 8, 2, [], 0), (180, .lconst 0, 1, [], 0), (181, .lcmp, 1, [], 0), (182, .ifCond .eq 50, 3, [232], 0), (185, .aload_n 0, 1, [], 0), (186, .getfield 13, 3, [], 0), (189, .iload 10, 2, [], 0), (191, .iaload, 1, [], 0), (192, .i2l, 1, [], 0), (193, .ldc2_w 40, 3, [], 0), (196, .land, 1, [], 0), (197, .lload 8, 2, [], 0), (199, .lsub, 1, [], 0), (200, .lstore 11, 2, [], 0), (202, .aload_n 0, 1, [], 0), (203, .getfield 13, 3, [], 0), (206, .iload 10, 2, [], 0), (208, .lload 11, 2, [], 0), (210, .l2i, 1, [], 0), (211, .iastore, 1, [], 0), (212, .lload 11, 2, [], 0), (214, .lconst 0, 1, [], 0), (215, .lcmp, 1, [], 0), (216, .ifCond .ge 7, 3, [223], 0), (219, .lconst 1, 1, [], 0), (220, .goto 4, 3, [224], 0), (223, .lconst 0, 1, [], 0), (224, .lstore 8, 2, [], 0), (226, .iinc 10 1, 3, [], 1), (229, .goto (-57), 3, [172], 0), (232, .aload_n 0, 1, [], 0), (233, .getfield 13, 3, [], 0), (236, .iload 4, 2, [], 0), (238, .iload 5, 2, [], 0), (240, .iastore, 1, [], 0), (241, .iinc 4 1, 3, [], 1), (244, .goto (-215), 3, [29], 0), (247, .aload_n 0, 1, [], 0), (248, .iload_n 2, 1, [], 0), (249, .putfield 19, 3, [], 0), (252, .aload_n 0, 1, [], 0), (253, .aload_n 0, 1, [], 0), (254, .getfield 23, 3, [], 0), (257, .aload_n 1, 1, [], 0), (258, .getfield 23, 3, [], 0), (261, .if_icmp .eq 7, 3, [268], 0), (264, .iconst 1, 1, [], 1), (265, .goto 4, 3, [269], 0), (268, .iconst 0, 1, [], 0), (269, .putfield 23, 3, [], 0), (272, .aload_n 0, 1, [], 0), (273, .invokevirtual 27, 3, [], 0), (276, .return_, 1, [], 0)]
theorem ck_X0_divideByOdd : cd_X0_divideByOdd.all (m_ick cX0_divideByOdd) = true ∧ m_ch cd_X0_divideByOdd = true := by decide +kernel
def cd_X0_inverseOf : List mIN := [(0, .iload_n 0, 1, [], 0), (1, .istore_n 1, 1, [], 0), (2, .iconst 0, 1, [], 0), (3, .istore_n 2, 1, [], 0), (4, .iload_n 2, 1, [], 0), (5, .iconst 4, 1, [], 4), (6, .if_icmp .ge 17, 3, [23], 0), (9, .iload_n 1, 1, [], 0), (10, .iconst 2, 1, [], 2), (11, .iload_n 0, 1, [], 0), (12, .iload_n 1, 1, [], 0), (13, .imul, 1, [], 0), (14, .isub, 1, [], 0), (15, .imul, 1, [], 0), (16, .istore_n 1, 1, [], 0), (17, .iinc 2 1, 3, [], 1), (20, .goto (-16), 3, [4], 0), (23, .iload_n 1, 1, [], 0), (24, .ireturn, 1, [], 0)]
theorem ck_X0_inverseOf : cd_X0_inverseOf.all (m_ick cX0_inverseOf) = true ∧ m_ch cd_X0_inverseOf = true := by decide +kernel
def cd_X0_trim : List mIN := [(0, .aload_n 0, 1, [], 0), (1, .getfield 19, 3, [], 0), (4, .ifCond .le 30, 3, [34], 0), (7, .aload_n 0, 1, [], 0), (8, .getfield 13, 3, [], 0), (11, .aload_n 0, 1, [], 0), (12, .getfield 19, 3, [], 0), (15, .iconst 1, 1, [], 1), (16, .isub, 1, [], 0), (17, .iaload, 1, [], 0), (18, .ifCond .ne 16, 3, [34], 0), (21, .aload_n 0, 1, [], 0), (22, .dup, 1, [], 0), (23, .getfield 19, 3, [], 0), (26, .iconst 1, 1, [], 1), (27, .isub, 1, [], 0), (28, .putfield 19, 3, [], 0), (31, .goto (-31), 3, [0], 0), (34, .aload_n 0, 1, [], 0), (35, .getfield 19, 3, [], 0), (38, .ifCond .ne 8, 3, [46], 0), (41, .aload_n 0, 1, [], 0), (42, .iconst 0, 1, [], 0), (43, .putfield 23, 3, [], 0), (46, .return_, 1, [], 0)]
theorem ck_X0_trim : cd_X0_trim.all (m_ick cX0_trim) = true ∧ m_ch cd_X0_trim = true := by decide +kernel
def cd_X0_makeRoom : List mIN := [(0, .aload_n 0, 1, [], 0), (1, .getfield 13, 3, [], 0), (4, .arraylength, 1, [], 0), (5, .iload_n 1, 1, [], 0), (6, .if_icmp .ge 25, 3, [31], 0), (9, .aload_n 0, 1, [], 0), (10, .aload_n 0, 1, [], 0), (11, .getfield 13, 3, [], 0), (14, .iload_n 1, 1, [], 0), (15, .iconst 2, 1, [], 2), (16, .aload_n 0, 1, [], 0), (17, .getfield 13, 3, [], 0), (20, .arraylength, 1, [], 0), (21, .imul, 1, [], 0), (22, .invokestatic 7, 3, [], 0), (25, .invokestatic 106, 3, [], 0), (28, .putfield 13, 3, [], 0), (31, .return_, 1, [], 0)]
theorem ck_X0_makeRoom : cd_X0_makeRoom.all (m_ick cX0_makeRoom) = true ∧ m_ch cd_X0_makeRoom = true := by decide +kernel
def cd_X1_layWhole : List mIN := [(0, .aload_n 0, 1, [], 0), (1, .getfield 14, 3, [], 0), (4, .lload_n 1, 1, [], 0), (5, .invokevirtual 33, 3, [], 0), (8, .aload_n 0, 1, [], 0), (9, .getfield 20, 3, [], 0), (12, .lconst 1, 1, [], 0), (13, .invokevirtual 33, 3, [], 0), (16, .aload_n 0, 1, [], 0), (17, .iconst 1, 1, [], 1), (18, .putfield 29, 3, [], 0), (21, .aload_n 0, 1, [], 0), (22, .invokevirtual 37, 3, [], 0), (25, .ireturn, 1, [], 0)]
theorem ck_X1_layWhole : cd_X1_layWhole.all (m_ick cX1_layWhole) = true ∧ m_ch cd_X1_layWhole = true := by decide +kernel
def cd_X1_lay : List mIN := [(0, .aload_n 0, 1, [], 0), (1, .getfield 14, 3, [], 0), (4, .aload_n 1, 1, [], 0), (5, .invokevirtual 41, 3, [], 0), (8, .aload_n 0, 1, [], 0), (9, .getfield 20, 3, [], 0), (12, .aload_n 2, 1, [], 0), (13, .invokevirtual 41, 3, [], 0), (16, .aload_n 0, 1, [], 0), (17, .getfield 20, 3, [], 0), (20, .invokevirtual 45, 3, [], 0), (23, .ifCond .ge 17, 3, [40], 0), (26, .aload_n 0, 1, [], 0), (27, .getfield 14, 3, [], 0), (30, .invokevirtual 48, 3, [], 0), (33, .aload_n 0, 1, [], 0), (34, .getfield 20, 3, [], 0), (37, .invokevirtual 48, 3, [], 0), (40, .aload_n 0, 1, [], 0), (41, .iconst 0, 1, [], 0), (42, .putfield 29, 3, [], 0), (45, .aload_n 0, 1, [], 0), (46, .invokevirtual 37, 3, [], 0), (49, .ireturn, 1, [], 0)]
theorem ck_X1_lay : cd_X1_lay.all (m_ick cX1_lay) = true ∧ m_ch cd_X1_lay = true := by decide +kernel
def cd_X1_signAnswer : List mIN := [(0, .aload_n 0, 1, [], 0), (1, .getfield 14, 3, [], 0), (4, .invokevirtual 45, 3, [], 0), (7, .istore_n 1, 1, [], 0), (8, .iload_n 1, 1, [], 0), (9, .ifCond .ge 7, 3, [16], 0), (12, .iconst 2, 1, [], 2), (13, .goto 12, 3, [25], 0), (16, .iload_n 1, 1, [], 0), (17, .ifCond .le 7, 3, [24], 0), (20, .iconst 1, 1, [], 1), (21, .goto 4, 3, [25], 0), (24, .iconst 0, 1, [], 0), (25, .ireturn, 1, [], 0)]
theorem ck_X1_signAnswer : cd_X1_signAnswer.all (m_ick cX1_signAnswer) = true ∧ m_ch cd_X1_signAnswer = true := by decide +kernel
def cd_X1_lowestPart : List mIN := [(0, .aload_n 0, 1, [], 0), (1, .getfield 29, 3, [], 0), (4, .ifCond .ne 12, 3, [16], 0), (7, .aload_n 0, 1, [], 0), (8, .invokevirtual 51, 3, [], 0), (11, .aload_n 0, 1, [], 0), (12, .iconst 1, 1, [], 1), (13, .putfield 29, 3, [], 0), (16, .iload_n 1, 1, [], 0), (17, .ifCond .ne 10, 3, [27], 0), (20, .aload_n 0, 1, [], 0), (21, .getfield 14, 3, [], 0), (24, .goto 7, 3, [31], 0), (27, .aload_n 0, 1, [], 0), (28, .getfield 20, 3, [], 0), (31, .areturn, 1, [], 0)]
theorem ck_X1_lowestPart : cd_X1_lowestPart.all (m_ick cX1_lowestPart) = true ∧ m_ch cd_X1_lowestPart = true := by decide +kernel
def cd_X1_bringToLowest : List mIN := [(0, .aload_n 0, 1, [], 0), (1, .getfield 14, 3, [], 0), (4, .invokevirtual 45, 3, [], 0), (7, .ifCond .ne 12, 3, [19], 0), (10, .aload_n 0, 1, [], 0), (11, .getfield 20, 3, [], 0), (14, .lconst 1, 1, [], 0), (15, .invokevirtual 33, 3, [], 0), (18, .return_, 1, [], 0), (19, .aload_n 0, 1, [], 0), (20, .getfield 14, 3, [], 0), (23, .invokevirtual 54, 3, [], 0), (26, .aload_n 0, 1, [], 0), (27, .getfield 20, 3, [], 0), (30, .invokevirtual 54, 3, [], 0), (33, .invokestatic 57, 3, [], 0), (36, .istore_n 1, 1, [], 0), (37, .aload_n 0, 1, [], 0), (38, .getfield 14, 3, [], 0), (41, .iload_n 1, 1, [], 0), (42, .invokevirtual 63, 3, [], 0), (45, .aload_n 0, 1, [], 0), (46, .getfield 20, 3, [], 0), (49, .iload_n 1, 1, [], 0), (50, .invokevirtual 63, 3, [], 0), (53, .aload_n 0, 1, [], 0), (54, .getfield 23, 3, [], 0), (57, .aload_n 0, 1, [], 0), (58, .getfield 14, 3, [], 0), (61, .invokevirtual 41, 3, [], 0), (64, .aload_n 0, 1, [], 0), (65, .getfield 26, 3, [], 0), (68, .aload_n 0, 1, [], 0), (69, .getfield 20, 3, [], 0), (72, .invokevirtual 41, 3, [], 0), (75, .aload_n 0, 1, [], 0), (76, .getfield 23, 3, [], 0), (79, .aload_n 0, 1, [], 0), (80, .getfield 23, 3, [], 0), (83, .invokevirtual 54, 3, [], 0), (86, .invokevirtual 63, 3, [], 0), (89, .aload_n 0, 1, [], 0), (90, .getfield 26, 3, [], 0), (93, .aload_n 0, 1, [], 0), (94, .getfield 26, 3, [], 0), (97, .invokevirtual 54, 3, [], 0), (100, .invokevirtual 63, 3, [], 0), (103, .aload_n 0, 1, [], 0), (104, .getfield 23, 3, [], 0), (107, .aload_n 0, 1, [], 0), (108, .getfield 26, 3, [], 0), (111, .invokestatic 66, 3, [], 0), (114, .astore_n 2, 1, [], 0), (115, .aload_n 2, 1, [], 0), (116, .invokevirtual 70, 3, [], 0), (119, .aload_n 0, 1, [], 0), (120, .getfield 14, 3, [], 0), (123, .aload_n 2, 1, [], 0), (124, .invokevirtual 73, 3, [], 0), (127, .aload_n 0, 1, [], 0), (128, .getfield 20, 3, [], 0), (131, .aload_n 2, 1, [], 0), (132, .invokevirtual 73, 3, [], 0), (135, .return_, 1, [], 0)]
theorem ck_X1_bringToLowest : cd_X1_bringToLowest.all (m_ick cX1_bringToLowest) = true ∧ m_ch cd_X1_bringToLowest = true := by decide +kernel
def cd_X1_greatestOfOdd : List mIN := [(0, .aload_n 0, 1, [], 0), (1, .astore_n 2, 1, [], 0), (2, .aload_n 1, 1, [], 0), (3, .astore_n 3, 1, [], 0), (4, .iconst 0, 1, [], 0), (5, .istore 4, 2, [], 0), (7, .iload 4, 2, [], 0), (9, .ldc 76, 2, [], 0), (11, .if_icmp .ge 49, 3, [60], 0), (14, .aload_n 2, 1, [], 0), (15, .aload_n 3, 1, [], 0), (16, .invokevirtual 77, 3, [], 0), (19, .istore 5, 2, [], 0), (21, .iload 5, 2, [], 0), (23, .ifCond .ne 5, 3, [28], 0), (26, .aload_n 3, 1, [], 0), (27, .areturn, 1, [], 0), (28, .iload 5, 2, [], 0), (30, .ifCond .ge 11, 3, [41], 0), (33, .aload_n 2, 1, [], 0), (34, .astore 6, 2, [], 0), (36, .aload_n 3, 1, [], 0), (37, .astore_n 2, 1, [], 0), (38, .aload 6, 2, [], 0), (40, .astore_n 3, 1, [], 0), (41, .aload_n 2, 1, [], 0), (42, .aload_n 3, 1, [], 0), (43, .invokevirtual 81, 3, [], 0), (46, .aload_n 2, 1, [], 0), (47, .aload_n 2, 1, [], 0), (48, .invokevirtual 54, 3, [], 0), (51, .invokevirtual 63, 3, [], 0), (54, .iinc 4 1, 3, [], 1), (57, .goto (-50), 3, [7], 0), (60, .aload_n 3, 1, [], 0), (61, .areturn, 1, [], 0)]
theorem ck_X1_greatestOfOdd : cd_X1_greatestOfOdd.all (m_ick cX1_greatestOfOdd) = true ∧ m_ch cd_X1_greatestOfOdd = true := by decide +kernel
def cd_X2_take : List mIN := [(0, .aload_n 0, 1, [], 0), (1, .iload_n 2, 1, [], 0), (2, .putfield 30, 3, [], 0), (5, .iconst 0, 1, [], 0), (6, .istore_n 3, 1, [], 0), (7, .iload_n 3, 1, [], 0), (8, .aload_n 0, 1, [], 0), (9, .getfield 17, 3, [], 0), (12, .arraylength, 1, [], 0), (13, .if_icmp .ge 21, 3, [34], 0), (16, .aload_n 0, 1, [], 0), (17, .getfield 17, 3, [], 0), (20, .iload_n 3, 1, [], 0), (21, .aaload, 1, [], 0), (22, .aload_n 1, 1, [], 0), (23, .iload_n 3, 1, [], 0), (24, .laload, 1, [], 0), (25, .invokevirtual 40, 3, [], 0), (28, .iinc 3 1, 3, [], 1), (31, .goto (-24), 3, [7], 0), (34, .bipush 6, 2, [], 6), (36, .aload_n 0, 1, [], 0), (37, .getfield 30, 3, [], 0), (40, .iconst 1, 1, [], 1), (41, .iadd, 1, [], 0), (42, .iconst 2, 1, [], 2), (43, .idiv, 1, [], 0), (44, .iconst 1, 1, [], 1), (45, .iadd, 1, [], 0), (46, .invokestatic 44, 3, [], 0), (49, .istore_n 3, 1, [], 0), (50, .aload_n 0, 1, [], 0), (51, .getfield 11, 3, [], 0), (54, .iconst 0, 1, [], 0), (55, .aaload, 1, [], 0), (56, .lconst 1, 1, [], 0), (57, .invokevirtual 40, 3, [], 0), (60, .iconst 1, 1, [], 1), (61, .istore 4, 2, [], 0), (63, .iload 4, 2, [], 0), (65, .iconst 1, 1, [], 1), (66, .iload_n 3, 1, [], 0), (67, .ishl, 1, [], 0), (68, .if_icmp .ge 15, 3, [83], 0), (71, .aload_n 0, 1, [], 0), (72, .iload 4, 2, [], 0), (74, .invokevirtual 50, 3, [], 0), (77, .iinc 4 1, 3, [], 1), (80, .goto (-17), 3, [63], 0), (83, .aload_n 0, 1, [], 0), (84, .iconst 0, 1, [], 0), (85, .putfield 53, 3, [], 0), (88, .aload_n 0, 1, [], 0), (89, .getfield 53, 3, [], 0), (92, .iconst 5, 1, [], 5), (93, .if_icmp .ge 47, 3, [140], 0), (96, .iconst 2, 1, [], 2), (97, .aload_n 0, 1, [], 0), (98, .getfield 53, 3, [], 0), (101, .imul, 1, [], 0), (102, .iconst 1, 1, [], 1), (103, .iadd, 1, [], 0), (104, .aload_n 0, 1, [], 0), (105, .getfield 30, 3, [], 0), (108, .if_icmp .gt 32, 3, [140], 0), (111, .aload_n 0, 1, [], 0), (112, .aload_n 0, 1, [], 0), (113, .getfield 53, 3, [], 0), (116, .iconst 1, 1, [], 1), (117, .iadd, 1, [], 0), (118, .invokevirtual 56, 3, [], 0), (121, .invokevirtual 60, 3, [], 0), (124, .ifCond .eq 16, 3, [140], 0), (127, .aload_n 0, 1, [], 0), (128, .dup, 1, [], 0), (129, .getfield 53, 3, [], 0), (132, .iconst 1, 1, [], 1), (133, .iadd, 1, [], 0), (134, .putfield 53, 3, [], 0), (137, .goto (-49), 3, [88], 0), (140, .return_, 1, [], 0)]
theorem ck_X2_take : cd_X2_take.all (m_ick cX2_take) = true ∧ m_ch cd_X2_take = true := by decide +kernel
def cd_X2_setMinor : List mIN := [(0, .aload_n 0, 1, [], 0), (1, .getfield 11, 3, [], 0), (4, .iload_n 1, 1, [], 0), (5, .aaload, 1, [], 0), (6, .astore_n 2, 1, [], 0), (7, .iload_n 1, 1, [], 0), (8, .invokestatic 34, 3, [], 0), (11, .iconst 1, 1, [], 1), (12, .isub, 1, [], 0), (13, .istore_n 3, 1, [], 0), (14, .iconst 0, 1, [], 0), (15, .istore 4, 2, [], 0), (17, .aload_n 2, 1, [], 0), (18, .lconst 0, 1, [], 0), (19, .invokevirtual 40, 3, [], 0), (22, .iconst 0, 1, [], 0), (23, .istore 5, 2, [], 0), (25, .iload 5, 2, [], 0), (27, .bipush 6, 2, [], 6), (29, .if_icmp .ge 102, 3, [131], 0), (32, .iconst 1, 1, [], 1), (33, .iload 5, 2, [], 0), (35, .ishl, 1, [], 0), (36, .istore 6, 2, [], 0), (38, .iload_n 1, 1, [], 0), (39, .iload 6, 2, [], 0), (41, .iand, 1, [], 0), (42, .ifCond .ne 18, 3, [60], 0), (45, .iload 4, 2, [], 0), (47, .ifCond .ne 7, 3, [54], 0), (50, .iconst 1, 1, [], 1), (51, .goto 4, 3, [55], 0), (54, .iconst 0, 1, [], 0), (55, .istore 4, 2, [], 0), (57, .goto 68, 3, [125], 0), (60, .aload_n 0, 1, [], 0), (61, .getfield 17, 3, [], 0), (64, .iload_n 3, 1, [], 0), (65, .iload 5, 2, [], 0), (67, .iadd, 1, [], 0), (68, .aaload, 1, [], 0), (69, .invokevirtual 60, 3, [], 0), (72, .ifCond .eq 53, 3, [125], 0), (75, .aload_n 0, 1, [], 0), (76, .getfield 23, 3, [], 0), (79, .aload_n 0, 1, [], 0), (80, .getfield 11, 3, [], 0), (83, .iload_n 1, 1, [], 0), (84, .iload 6, 2, [], 0), (86, .ixor, 1, [], 0), (87, .aaload, 1, [], 0), (88, .aload_n 0, 1, [], 0), (89, .getfield 17, 3, [], 0), (92, .iload_n 3, 1, [], 0), (93, .iload 5, 2, [], 0), (95, .iadd, 1, [], 0), (96, .aaload, 1, [], 0), (97, .invokevirtual 64, 3, [], 0), (100, .aload_n 2, 1, [], 0), (101, .aload_n 0, 1, [], 0), (102, .getfield 23, 3, [], 0), (105, .aload_n 0, 1, [], 0), (106, .getfield 23, 3, [], 0), (109, .getfield 68, 3, [], 0), (112, .iload 4, 2, [], 0), (114, .if_icmp .eq 7, 3, [121], 0), (117, .iconst 1, 1, [], 1), (118, .goto 4, 3, [122], 0), (121, .iconst 0, 1, [], 0), (122, .invokevirtual 72, 3, [], 0), (125, .iinc 5 1, 3, [], 1), (128, .goto (-103), 3, [25], 0), (131, .return_, 1, [], 0)]
theorem ck_X2_setMinor : cd_X2_setMinor.all (m_ick cX2_setMinor) = true ∧ m_ch cd_X2_setMinor = true := by decide +kernel
def cd_X2_has : List mIN := [(0, .iload_n 1, 1, [], 0), (1, .ifCond .lt 15, 3, [16], 0), (4, .iload_n 1, 1, [], 0), (5, .aload_n 0, 1, [], 0), (6, .getfield 53, 3, [], 0), (9, .if_icmp .gt 7, 3, [16], 0), (12, .iconst 1, 1, [], 1), (13, .goto 4, 3, [17], 0), (16, .iconst 0, 1, [], 0), (17, .ireturn, 1, [], 0)]
theorem ck_X2_has : cd_X2_has.all (m_ick cX2_has) = true ∧ m_ch cd_X2_has = true := by decide +kernel
def cd_X2_hasWorth : List mIN := [(0, .aload_n 0, 1, [], 0), (1, .iload_n 1, 1, [], 0), (2, .invokevirtual 76, 3, [], 0), (5, .ifCond .eq 17, 3, [22], 0), (8, .iconst 2, 1, [], 2), (9, .iload_n 1, 1, [], 0), (10, .imul, 1, [], 0), (11, .aload_n 0, 1, [], 0), (12, .getfield 30, 3, [], 0), (15, .if_icmp .gt 7, 3, [22], 0), (18, .iconst 1, 1, [], 1), (19, .goto 4, 3, [23], 0), (22, .iconst 0, 1, [], 0), (23, .ireturn, 1, [], 0)]
theorem ck_X2_hasWorth : cd_X2_hasWorth.all (m_ick cX2_hasWorth) = true ∧ m_ch cd_X2_hasWorth = true := by decide +kernel
def cd_X2_determinant : List mIN := [(0, .aload_n 0, 1, [], 0), (1, .getfield 11, 3, [], 0), (4, .iconst 1, 1, [], 1), (5, .iload_n 1, 1, [], 0), (6, .ishl, 1, [], 0), (7, .iconst 1, 1, [], 1), (8, .isub, 1, [], 0), (9, .aaload, 1, [], 0), (10, .areturn, 1, [], 0)]
theorem ck_X2_determinant : cd_X2_determinant.all (m_ick cX2_determinant) = true ∧ m_ch cd_X2_determinant = true := by decide +kernel
def cd_X2_number : List mIN := [(0, .aload_n 0, 1, [], 0), (1, .getfield 11, 3, [], 0), (4, .iconst 1, 1, [], 1), (5, .iload_n 1, 1, [], 0), (6, .iconst 1, 1, [], 1), (7, .iadd, 1, [], 0), (8, .ishl, 1, [], 0), (9, .iconst 1, 1, [], 1), (10, .isub, 1, [], 0), (11, .iconst 1, 1, [], 1), (12, .iload_n 2, 1, [], 0), (13, .ishl, 1, [], 0), (14, .ixor, 1, [], 0), (15, .aaload, 1, [], 0), (16, .areturn, 1, [], 0)]
theorem ck_X2_number : cd_X2_number.all (m_ick cX2_number) = true ∧ m_ch cd_X2_number = true := by decide +kernel
def cd_X2_worthSign : List mIN := [(0, .aload_n 0, 1, [], 0), (1, .iload_n 1, 1, [], 0), (2, .iconst 1, 1, [], 1), (3, .iadd, 1, [], 0), (4, .invokevirtual 56, 3, [], 0), (7, .invokevirtual 60, 3, [], 0), (10, .aload_n 0, 1, [], 0), (11, .iload_n 1, 1, [], 0), (12, .invokevirtual 56, 3, [], 0), (15, .invokevirtual 60, 3, [], 0), (18, .imul, 1, [], 0), (19, .ireturn, 1, [], 0)]
theorem ck_X2_worthSign : cd_X2_worthSign.all (m_ick cX2_worthSign) = true ∧ m_ch cd_X2_worthSign = true := by decide +kernel
def cd_X2_goodWorths : List mIN := [(0, .iconst 0, 1, [], 0), (1, .istore_n 1, 1, [], 0), (2, .iload_n 1, 1, [], 0), (3, .iconst 5, 1, [], 5), (4, .if_icmp .gt 25, 3, [29], 0), (7, .aload_n 0, 1, [], 0), (8, .iload_n 1, 1, [], 0), (9, .invokevirtual 80, 3, [], 0), (12, .ifCond .eq 17, 3, [29], 0), (15, .aload_n 0, 1, [], 0), (16, .iload_n 1, 1, [], 0), (17, .invokevirtual 83, 3, [], 0), (20, .ifCond .le 9, 3, [29], 0), (23, .iinc 1 1, 3, [], 1), (26, .goto (-24), 3, [2], 0), (29, .iload_n 1, 1, [], 0), (30, .ireturn, 1, [], 0)]
theorem ck_X2_goodWorths : cd_X2_goodWorths.all (m_ick cX2_goodWorths) = true ∧ m_ch cd_X2_goodWorths = true := by decide +kernel
def cd_X2_setOf : List mIN := [(0, .aload_n 1, 1, [], 0), (1, .lconst 0, 1, [], 0), (2, .invokevirtual 40, 3, [], 0), (5, .iconst 0, 1, [], 0), (6, .istore 4, 2, [], 0), (8, .iload 4, 2, [], 0), (10, .iload_n 2, 1, [], 0), (11, .if_icmp .gt 33, 3, [44], 0), (14, .aload_n 1, 1, [], 0), (15, .aload_n 0, 1, [], 0), (16, .iload_n 2, 1, [], 0), (17, .iload 4, 2, [], 0), (19, .invokevirtual 86, 3, [], 0), (22, .aload_n 0, 1, [], 0), (23, .getfield 17, 3, [], 0), (26, .iload_n 3, 1, [], 0), (27, .iload 4, 2, [], 0), (29, .iadd, 1, [], 0), (30, .aaload, 1, [], 0), (31, .aload_n 0, 1, [], 0), (32, .getfield 23, 3, [], 0), (35, .invokevirtual 90, 3, [], 0), (38, .iinc 4 1, 3, [], 1), (41, .goto (-33), 3, [8], 0), (44, .return_, 1, [], 0)]
theorem ck_X2_setOf : cd_X2_setOf.all (m_ick cX2_setOf) = true ∧ m_ch cd_X2_setOf = true := by decide +kernel
def cd_X2_evaluate : List mIN := [(0, .aload_n 1, 1, [], 0), (1, .aload_n 0, 1, [], 0), (2, .iload_n 2, 1, [], 0), (3, .invokevirtual 56, 3, [], 0), (6, .invokevirtual 94, 3, [], 0), (9, .aload_n 0, 1, [], 0), (10, .getfield 27, 3, [], 0), (13, .lconst 1, 1, [], 0), (14, .invokevirtual 40, 3, [], 0), (17, .iload_n 2, 1, [], 0), (18, .iconst 1, 1, [], 1), (19, .isub, 1, [], 0), (20, .istore 5, 2, [], 0), (22, .iload 5, 2, [], 0), (24, .ifCond .lt 42, 3, [66], 0), (27, .aload_n 1, 1, [], 0), (28, .iload_n 3, 1, [], 0), (29, .invokevirtual 98, 3, [], 0), (32, .aload_n 0, 1, [], 0), (33, .getfield 27, 3, [], 0), (36, .iload 4, 2, [], 0), (38, .invokevirtual 98, 3, [], 0), (41, .aload_n 1, 1, [], 0), (42, .aload_n 0, 1, [], 0), (43, .iload_n 2, 1, [], 0), (44, .iload 5, 2, [], 0), (46, .invokevirtual 86, 3, [], 0), (49, .aload_n 0, 1, [], 0), (50, .getfield 27, 3, [], 0), (53, .aload_n 0, 1, [], 0), (54, .getfield 23, 3, [], 0), (57, .invokevirtual 90, 3, [], 0), (60, .iinc 5 (-1), 3, [], -1), (63, .goto (-41), 3, [22], 0), (66, .return_, 1, [], 0)]
theorem ck_X2_evaluate : cd_X2_evaluate.all (m_ick cX2_evaluate) = true ∧ m_ch cd_X2_evaluate = true := by decide +kernel
def cd_X3_begin : List mIN := [(0, .aload_n 0, 1, [], 0), (1, .iload_n 1, 1, [], 0), (2, .putfield 9, 3, [], 0), (5, .aload_n 0, 1, [], 0), (6, .bipush 11, 2, [], 11), (8, .putfield 15, 3, [], 0), (11, .aload_n 0, 1, [], 0), (12, .iconst 0, 1, [], 0), (13, .putfield 37, 3, [], 0), (16, .aload_n 0, 1, [], 0), (17, .iconst 0, 1, [], 0), (18, .putfield 40, 3, [], 0), (21, .aload_n 0, 1, [], 0), (22, .getfield 18, 3, [], 0), (25, .iconst 0, 1, [], 0), (26, .invokestatic 43, 3, [], 0), (29, .aload_n 0, 1, [], 0), (30, .getfield 22, 3, [], 0), (33, .lconst 0, 1, [], 0), (34, .invokestatic 49, 3, [], 0), (37, .aload_n 0, 1, [], 0), (38, .iconst 1, 1, [], 1), (39, .putfield 33, 3, [], 0), (42, .return_, 1, [], 0)]
theorem ck_X3_begin : cd_X3_begin.all (m_ick cX3_begin) = true ∧ m_ch cd_X3_begin = true := by decide +kernel
def cd_X3_addPoint : List mIN := [(0, .aload_n 0, 1, [], 0), (1, .getfield 18, 3, [], 0), (4, .iload_n 1, 1, [], 0), (5, .bipush 9, 2, [], 9), (7, .iadd, 1, [], 0), (8, .iaload, 1, [], 0), (9, .istore_n 3, 1, [], 0), (10, .iload_n 3, 1, [], 0), (11, .iload_n 2, 1, [], 0), (12, .iadd, 1, [], 0), (13, .istore 4, 2, [], 0), (15, .aload_n 0, 1, [], 0), (16, .getfield 18, 3, [], 0), (19, .iload_n 1, 1, [], 0), (20, .bipush 9, 2, [], 9), (22, .iadd, 1, [], 0), (23, .iload 4, 2, [], 0), (25, .iastore, 1, [], 0), (26, .iload_n 3, 1, [], 0), (27, .ifCond .ne 13, 3, [40], 0), (30, .aload_n 0, 1, [], 0), (31, .dup, 1, [], 0), (32, .getfield 37, 3, [], 0), (35, .iconst 1, 1, [], 1), (36, .iadd, 1, [], 0), (37, .putfield 37, 3, [], 0), (40, .iload 4, 2, [], 0), (42, .ifCond .ne 13, 3, [55], 0), (45, .aload_n 0, 1, [], 0), (46, .dup, 1, [], 0), (47, .getfield 37, 3, [], 0), (50, .iconst 1, 1, [], 1), (51, .isub, 1, [], 0), (52, .putfield 37, 3, [], 0), (55, .aload_n 0, 1, [], 0), (56, .iload_n 1, 1, [], 0), (57, .iload_n 2, 1, [], 0), (58, .i2l, 1, [], 0), (59, .invokevirtual 52, 3, [], 0), (62, .return_, 1, [], 0)]
theorem ck_X3_addPoint : cd_X3_addPoint.all (m_ick cX3_addPoint) = true ∧ m_ch cd_X3_addPoint = true := by decide +kernel
def cd_X3_addToMoments : List mIN := [(0, .lload_n 2, 1, [], 0), (1, .lstore 4, 2, [], 0), (3, .iconst 0, 1, [], 0), (4, .istore 6, 2, [], 0), (6, .iload 6, 2, [], 0), (8, .bipush 11, 2, [], 11), (10, .if_icmp .gt 28, 3, [38], 0), (13, .aload_n 0, 1, [], 0), (14, .getfield 22, 3, [], 0), (17, .iload 6, 2, [], 0), (19, .dup2, 1, [], 0), (20, .laload, 1, [], 0), (21, .lload 4, 2, [], 0), (23, .ladd, 1, [], 0), (24, .lastore, 1, [], 0), (25, .lload 4, 2, [], 0), (27, .iload_n 1, 1, [], 0), (28, .i2l, 1, [], 0), (29, .lmul, 1, [], 0), (30, .lstore 4, 2, [], 0), (32, .iinc 6 1, 3, [], 1), (35, .goto (-29), 3, [6], 0), (38, .aload_n 0, 1, [], 0), (39, .iconst 1, 1, [], 1), (40, .putfield 33, 3, [], 0), (43, .return_, 1, [], 0)]
theorem ck_X3_addToMoments : cd_X3_addToMoments.all (m_ick cX3_addToMoments) = true ∧ m_ch cd_X3_addToMoments = true := by decide +kernel
def cd_X3_tellMoment : List mIN := [(0, .aload_n 0, 1, [], 0), (1, .iconst 1, 1, [], 1), (2, .putfield 9, 3, [], 0), (5, .aload_n 0, 1, [], 0), (6, .getfield 22, 3, [], 0), (9, .iload_n 1, 1, [], 0), (10, .iload_n 2, 1, [], 0), (11, .i2l, 1, [], 0), (12, .lastore, 1, [], 0), (13, .aload_n 0, 1, [], 0), (14, .iconst 1, 1, [], 1), (15, .putfield 33, 3, [], 0), (18, .return_, 1, [], 0)]
theorem ck_X3_tellMoment : cd_X3_tellMoment.all (m_ick cX3_tellMoment) = true ∧ m_ch cd_X3_tellMoment = true := by decide +kernel
def cd_X3_momentsNotZero : List mIN := [(0, .iconst 0, 1, [], 0), (1, .istore_n 1, 1, [], 0), (2, .iconst 0, 1, [], 0), (3, .istore_n 2, 1, [], 0), (4, .iload_n 2, 1, [], 0), (5, .bipush 11, 2, [], 11), (7, .if_icmp .gt 23, 3, [30], 0), (10, .aload_n 0, 1, [], 0), (11, .getfield 22, 3, [], 0), (14, .iload_n 2, 1, [], 0), (15, .laload, 1, [], 0), (16, .lconst 0, 1, [], 0), (17, .lcmp, 1, [], 0), (18, .ifCond .eq 6, 3, [24], 0), (21, .iinc 1 1, 3, [], 1), (24, .iinc 2 1, 3, [], 1), (27, .goto (-23), 3, [4], 0), (30, .iload_n 1, 1, [], 0), (31, .ireturn, 1, [], 0)]
theorem ck_X3_momentsNotZero : cd_X3_momentsNotZero.all (m_ick cX3_momentsNotZero) = true ∧ m_ch cd_X3_momentsNotZero = true := by decide +kernel
def cd_X3_spread : List mIN := [(0, .iconst 0, 1, [], 0), (1, .istore_n 3, 1, [], 0), (2, .iload_n 3, 1, [], 0), (3, .bipush 11, 2, [], 11), (5, .if_icmp .gt 39, 3, [44], 0), (8, .aload_n 0, 1, [], 0), (9, .getfield 22, 3, [], 0), (12, .iload_n 3, 1, [], 0), (13, .sipush 27720, 3, [], 27720), (16, .iload_n 3, 1, [], 0), (17, .iconst 1, 1, [], 1), (18, .iadd, 1, [], 0), (19, .idiv, 1, [], 0), (20, .i2l, 1, [], 0), (21, .iload_n 2, 1, [], 0), (22, .iload_n 3, 1, [], 0), (23, .iconst 1, 1, [], 1), (24, .iadd, 1, [], 0), (25, .invokestatic 56, 3, [], 0), (28, .iload_n 1, 1, [], 0), (29, .iload_n 3, 1, [], 0), (30, .iconst 1, 1, [], 1), (31, .iadd, 1, [], 0), (32, .invokestatic 56, 3, [], 0), (35, .lsub, 1, [], 0), (36, .lmul, 1, [], 0), (37, .lastore, 1, [], 0), (38, .iinc 3 1, 3, [], 1), (41, .goto (-39), 3, [2], 0), (44, .return_, 1, [], 0)]
theorem ck_X3_spread : cd_X3_spread.all (m_ick cX3_spread) = true ∧ m_ch cd_X3_spread = true := by decide +kernel
def cd_X3_change : List mIN := [(0, .aload_n 1, 1, [], 0), (1, .iconst 0, 1, [], 0), (2, .aload_n 0, 1, [], 0), (3, .getfield 22, 3, [], 0), (6, .iconst 0, 1, [], 0), (7, .iload_n 2, 1, [], 0), (8, .iconst 1, 1, [], 1), (9, .iadd, 1, [], 0), (10, .invokestatic 60, 3, [], 0), (13, .aload_n 0, 1, [], 0), (14, .iload_n 2, 1, [], 0), (15, .putfield 15, 3, [], 0), (18, .aload_n 0, 1, [], 0), (19, .iconst 1, 1, [], 1), (20, .putfield 40, 3, [], 0), (23, .aload_n 0, 1, [], 0), (24, .iconst 1, 1, [], 1), (25, .putfield 33, 3, [], 0), (28, .return_, 1, [], 0)]
theorem ck_X3_change : cd_X3_change.all (m_ick cX3_change) = true ∧ m_ch cd_X3_change = true := by decide +kernel
def cd_X3_copyFrom : List mIN := [(0, .aload_n 0, 1, [], 0), (1, .aload_n 1, 1, [], 0), (2, .getfield 9, 3, [], 0), (5, .putfield 9, 3, [], 0), (8, .aload_n 0, 1, [], 0), (9, .aload_n 1, 1, [], 0), (10, .getfield 15, 3, [], 0), (13, .putfield 15, 3, [], 0), (16, .aload_n 0, 1, [], 0), (17, .aload_n 1, 1, [], 0), (18, .getfield 37, 3, [], 0), (21, .putfield 37, 3, [], 0), (24, .aload_n 0, 1, [], 0), (25, .aload_n 1, 1, [], 0), (26, .getfield 40, 3, [], 0), (29, .putfield 40, 3, [], 0), (32, .aload_n 1, 1, [], 0), (33, .getfield 18, 3, [], 0), (36, .iconst 0, 1, [], 0), (37, .aload_n 0, 1, [], 0), (38, .getfield 18, 3, [], 0), (41, .iconst 0, 1, [], 0), (42, .aload_n 0, 1, [], 0), (43, .getfield 18, 3, [], 0), (46, .arraylength, 1, [], 0), (47, .invokestatic 60, 3, [], 0), (50, .aload_n 1, 1, [], 0), (51, .getfield 22, 3, [], 0), (54, .iconst 0, 1, [], 0), (55, .aload_n 0, 1, [], 0), (56, .getfield 22, 3, [], 0), (59, .iconst 0, 1, [], 0), (60, .aload_n 0, 1, [], 0), (61, .getfield 22, 3, [], 0), (64, .arraylength, 1, [], 0), (65, .invokestatic 60, 3, [], 0), (68, .aload_n 0, 1, [], 0), (69, .iconst 1, 1, [], 1), (70, .putfield 33, 3, [], 0), (73, .return_, 1, [], 0)]
theorem ck_X3_copyFrom : cd_X3_copyFrom.all (m_ick cX3_copyFrom) = true ∧ m_ch cd_X3_copyFrom = true := by decide +kernel
def cd_X3_polys : List mIN := [(0, .aload_n 0, 1, [], 0), (1, .getfield 33, 3, [], 0), (4, .ifCond .eq 23, 3, [27], 0), (7, .aload_n 0, 1, [], 0), (8, .getfield 29, 3, [], 0), (11, .aload_n 0, 1, [], 0), (12, .getfield 22, 3, [], 0), (15, .aload_n 0, 1, [], 0), (16, .getfield 15, 3, [], 0), (19, .invokevirtual 66, 3, [], 0), (22, .aload_n 0, 1, [], 0), (23, .iconst 0, 1, [], 0), (24, .putfield 33, 3, [], 0), (27, .aload_n 0, 1, [], 0), (28, .getfield 29, 3, [], 0), (31, .areturn, 1, [], 0)]
theorem ck_X3_polys : cd_X3_polys.all (m_ick cX3_polys) = true ∧ m_ch cd_X3_polys = true := by decide +kernel
def cd_X4_clear : List mIN := [(0, .aload_n 0, 1, [], 0), (1, .getfield 10, 3, [], 0), (4, .getfield 57, 3, [], 0), (7, .istore_n 1, 1, [], 0), (8, .aload_n 0, 1, [], 0), (9, .getfield 10, 3, [], 0), (12, .iconst 0, 1, [], 0), (13, .invokevirtual 61, 3, [], 0), (16, .iload_n 1, 1, [], 0), (17, .ireturn, 1, [], 0)]
theorem ck_X4_clear : cd_X4_clear.all (m_ick cX4_clear) = true ∧ m_ch cd_X4_clear = true := by decide +kernel
def cd_X4_point : List mIN := [(0, .iload_n 1, 1, [], 0), (1, .bipush 9, 2, [], 9), (3, .invokestatic 64, 3, [], 0), (6, .ifCond .eq 16, 3, [22], 0), (9, .iload_n 2, 1, [], 0), (10, .ifCond .eq 12, 3, [22], 0), (13, .iload_n 2, 1, [], 0), (14, .bipush 99, 2, [], 99), (16, .invokestatic 64, 3, [], 0), (19, .ifCond .ne 6, 3, [25], 0), (22, .bipush (-2), 2, [], -2), (24, .ireturn, 1, [], 0), (25, .aload_n 0, 1, [], 0), (26, .getfield 10, 3, [], 0), (29, .getfield 68, 3, [], 0), (32, .ifCond .ne 13, 3, [45], 0), (35, .aload_n 0, 1, [], 0), (36, .getfield 10, 3, [], 0), (39, .getfield 71, 3, [], 0), (42, .ifCond .eq 6, 3, [48], 0), (45, .bipush (-3), 2, [], -3), (47, .ireturn, 1, [], 0), (48, .aload_n 0, 1, [], 0), (49, .getfield 10, 3, [], 0), (52, .getfield 75, 3, [], 0), (55, .iload_n 1, 1, [], 0), (56, .bipush 9, 2, [], 9), (58, .iadd, 1, [], 0), (59, .iaload, 1, [], 0), (60, .istore_n 3, 1, [], 0), (61, .iload_n 3, 1, [], 0), (62, .ifCond .ne 18, 3, [80], 0), (65, .aload_n 0, 1, [], 0), (66, .getfield 10, 3, [], 0), (69, .getfield 79, 3, [], 0), (72, .bipush 10, 2, [], 10), (74, .if_icmp .lt 6, 3, [80], 0), (77, .bipush (-4), 2, [], -4), (79, .ireturn, 1, [], 0), (80, .iload_n 3, 1, [], 0), (81, .iload_n 2, 1, [], 0), (82, .iadd, 1, [], 0), (83, .bipush 99, 2, [], 99), (85, .invokestatic 64, 3, [], 0), (88, .ifCond .ne 6, 3, [94], 0), (91, .bipush (-5), 2, [], -5), (93, .ireturn, 1, [], 0), (94, .aload_n 0, 1, [], 0), (95, .getfield 10, 3, [], 0), (98, .iload_n 1, 1, [], 0), (99, .iload_n 2, 1, [], 0), (100, .invokevirtual 82, 3, [], 0), (103, .aload_n 0, 1, [], 0), (104, .getfield 10, 3, [], 0), (107, .getfield 79, 3, [], 0), (110, .ireturn, 1, [], 0)]
theorem ck_X4_point : cd_X4_point.all (m_ick cX4_point) = true ∧ m_ch cd_X4_point = true := by decide +kernel
def cd_X4_moment : List mIN := [(0, .iload_n 1, 1, [], 0), (1, .ifCond .lt 9, 3, [10], 0), (4, .iload_n 1, 1, [], 0), (5, .bipush 11, 2, [], 11), (7, .if_icmp .le 5, 3, [12], 0), (10, .iconst (-1), 1, [], -1), (11, .ireturn, 1, [], 0), (12, .iload_n 2, 1, [], 0), (13, .ldc 86, 2, [], 0), (15, .invokestatic 64, 3, [], 0), (18, .ifCond .ne 6, 3, [24], 0), (21, .bipush (-2), 2, [], -2), (23, .ireturn, 1, [], 0), (24, .aload_n 0, 1, [], 0), (25, .getfield 10, 3, [], 0), (28, .getfield 68, 3, [], 0), (31, .ifCond .ne 17, 3, [48], 0), (34, .aload_n 0, 1, [], 0), (35, .getfield 10, 3, [], 0), (38, .getfield 79, 3, [], 0), (41, .ifCond .ne 7, 3, [48], 0), (44, .iconst 1, 1, [], 1), (45, .goto 4, 3, [49], 0), (48, .iconst 0, 1, [], 0), (49, .istore_n 3, 1, [], 0), (50, .aload_n 0, 1, [], 0), (51, .getfield 10, 3, [], 0), (54, .getfield 71, 3, [], 0), (57, .ifCond .ne 18, 3, [75], 0), (60, .iload_n 3, 1, [], 0), (61, .ifCond .ne 17, 3, [78], 0), (64, .aload_n 0, 1, [], 0), (65, .getfield 10, 3, [], 0), (68, .getfield 68, 3, [], 0), (71, .iconst 1, 1, [], 1), (72, .if_icmp .eq 6, 3, [78], 0), (75, .bipush (-3), 2, [], -3), (77, .ireturn, 1, [], 0), (78, .aload_n 0, 1, [], 0), (79, .getfield 10, 3, [], 0), (82, .iload_n 1, 1, [], 0), (83, .iload_n 2, 1, [], 0), (84, .invokevirtual 87, 3, [], 0), (87, .aload_n 0, 1, [], 0), (88, .getfield 10, 3, [], 0), (91, .invokevirtual 90, 3, [], 0), (94, .ireturn, 1, [], 0)]
theorem ck_X4_moment : cd_X4_moment.all (m_ick cX4_moment) = true ∧ m_ch cd_X4_moment = true := by decide +kernel
def cd_X4_span : List mIN := [(0, .iload_n 1, 1, [], 0), (1, .bipush (-9), 2, [], -9), (3, .if_icmp .lt 14, 3, [17], 0), (6, .iload_n 1, 1, [], 0), (7, .iload_n 2, 1, [], 0), (8, .if_icmp .ge 9, 3, [17], 0), (11, .iload_n 2, 1, [], 0), (12, .bipush 9, 2, [], 9), (14, .if_icmp .le 6, 3, [20], 0), (17, .bipush (-2), 2, [], -2), (19, .ireturn, 1, [], 0), (20, .aload_n 0, 1, [], 0), (21, .getfield 10, 3, [], 0), (24, .iconst 2, 1, [], 2), (25, .invokevirtual 61, 3, [], 0), (28, .aload_n 0, 1, [], 0), (29, .getfield 10, 3, [], 0), (32, .iload_n 1, 1, [], 0), (33, .iload_n 2, 1, [], 0), (34, .invokevirtual 94, 3, [], 0), (37, .iconst 1, 1, [], 1), (38, .ireturn, 1, [], 0)]
theorem ck_X4_span : cd_X4_span.all (m_ick cX4_span) = true ∧ m_ch cd_X4_span = true := by decide +kernel
def cd_X4_counted : List mIN := [(0, .iload_n 1, 1, [], 0), (1, .iload_n 2, 1, [], 0), (2, .iload_n 3, 1, [], 0), (3, .iload 4, 2, [], 0), (5, .invokestatic 97, 3, [], 0), (8, .ifCond .ne 6, 3, [14], 0), (11, .bipush (-2), 2, [], -2), (13, .ireturn, 1, [], 0), (14, .aload_n 0, 1, [], 0), (15, .getfield 10, 3, [], 0), (18, .iconst 3, 1, [], 3), (19, .invokevirtual 61, 3, [], 0), (22, .iconst 0, 1, [], 0), (23, .istore 5, 2, [], 0), (25, .iconst 0, 1, [], 0), (26, .istore 6, 2, [], 0), (28, .iload 6, 2, [], 0), (30, .iload_n 2, 1, [], 0), (31, .if_icmp .gt 42, 3, [73], 0), (34, .iload_n 1, 1, [], 0), (35, .iload_n 2, 1, [], 0), (36, .iload_n 3, 1, [], 0), (37, .iload 4, 2, [], 0), (39, .iload 6, 2, [], 0), (41, .invokestatic 101, 3, [], 0), (44, .lstore 7, 2, [], 0), (46, .aload_n 0, 1, [], 0), (47, .getfield 10, 3, [], 0), (50, .iload 6, 2, [], 0), (52, .lload 7, 2, [], 0), (54, .invokevirtual 105, 3, [], 0), (57, .lload 7, 2, [], 0), (59, .lconst 0, 1, [], 0), (60, .lcmp, 1, [], 0), (61, .ifCond .eq 6, 3, [67], 0), (64, .iinc 5 1, 3, [], 1), (67, .iinc 6 1, 3, [], 1), (70, .goto (-42), 3, [28], 0), (73, .iload 5, 2, [], 0), (75, .ireturn, 1, [], 0)]
theorem ck_X4_counted : cd_X4_counted.all (m_ick cX4_counted) = true ∧ m_ch cd_X4_counted = true := by decide +kernel
def cd_X4_by : List mIN := [(0, .iload_n 1, 1, [], 0), (1, .bipush 9, 2, [], 9), (3, .invokestatic 64, 3, [], 0), (6, .ifCond .ne 6, 3, [12], 0), (9, .bipush (-2), 2, [], -2), (11, .ireturn, 1, [], 0), (12, .aload_n 0, 1, [], 0), (13, .getfield 10, 3, [], 0), (16, .getfield 57, 3, [], 0), (19, .iconst 3, 1, [], 3), (20, .if_icmp .gt 6, 3, [26], 0), (23, .bipush (-3), 2, [], -3), (25, .ireturn, 1, [], 0), (26, .aload_n 0, 1, [], 0), (27, .getfield 10, 3, [], 0), (30, .getfield 57, 3, [], 0), (33, .iconst 1, 1, [], 1), (34, .isub, 1, [], 0), (35, .istore_n 2, 1, [], 0), (36, .iconst 0, 1, [], 0), (37, .istore_n 3, 1, [], 0), (38, .iload_n 3, 1, [], 0), (39, .iload_n 2, 1, [], 0), (40, .if_icmp .gt 46, 3, [86], 0), (43, .aload_n 0, 1, [], 0), (44, .getfield 44, 3, [], 0), (47, .aload_n 0, 1, [], 0), (48, .getfield 10, 3, [], 0), (51, .getfield 109, 3, [], 0), (54, .iload_n 3, 1, [], 0), (55, .iconst 1, 1, [], 1), (56, .iadd, 1, [], 0), (57, .laload, 1, [], 0), (58, .invokevirtual 112, 3, [], 0), (61, .aload_n 0, 1, [], 0), (62, .iload_n 3, 1, [], 0), (63, .iload_n 1, 1, [], 0), (64, .ineg, 1, [], 0), (65, .i2l, 1, [], 0), (66, .invokevirtual 116, 3, [], 0), (69, .aload_n 0, 1, [], 0), (70, .iload_n 3, 1, [], 0), (71, .invokevirtual 119, 3, [], 0), (74, .ifCond .ne 6, 3, [80], 0), (77, .bipush (-4), 2, [], -4), (79, .ireturn, 1, [], 0), (80, .iinc 3 1, 3, [], 1), (83, .goto (-45), 3, [38], 0), (86, .aload_n 0, 1, [], 0), (87, .getfield 10, 3, [], 0), (90, .aload_n 0, 1, [], 0), (91, .getfield 31, 3, [], 0), (94, .iload_n 2, 1, [], 0), (95, .invokevirtual 123, 3, [], 0), (98, .iload_n 2, 1, [], 0), (99, .ireturn, 1, [], 0)]
theorem ck_X4_by : cd_X4_by.all (m_ick cX4_by) = true ∧ m_ch cd_X4_by = true := by decide +kernel
def cd_X4_mirror : List mIN := [(0, .iload_n 1, 1, [], 0), (1, .bipush 9, 2, [], 9), (3, .invokestatic 64, 3, [], 0), (6, .ifCond .ne 6, 3, [12], 0), (9, .bipush (-2), 2, [], -2), (11, .ireturn, 1, [], 0), (12, .iconst 0, 1, [], 0), (13, .istore_n 2, 1, [], 0), (14, .iload_n 2, 1, [], 0), (15, .aload_n 0, 1, [], 0), (16, .getfield 10, 3, [], 0), (19, .getfield 57, 3, [], 0), (22, .if_icmp .gt 75, 3, [97], 0), (25, .aload_n 0, 1, [], 0), (26, .getfield 44, 3, [], 0), (29, .lconst 0, 1, [], 0), (30, .invokevirtual 112, 3, [], 0), (33, .iconst 0, 1, [], 0), (34, .istore_n 3, 1, [], 0), (35, .iload_n 3, 1, [], 0), (36, .iload_n 2, 1, [], 0), (37, .if_icmp .gt 43, 3, [80], 0), (40, .iload_n 2, 1, [], 0), (41, .iload_n 3, 1, [], 0), (42, .invokestatic 127, 3, [], 0), (45, .iload_n 1, 1, [], 0), (46, .iload_n 2, 1, [], 0), (47, .iload_n 3, 1, [], 0), (48, .isub, 1, [], 0), (49, .invokestatic 131, 3, [], 0), (52, .lmul, 1, [], 0), (53, .lstore 4, 2, [], 0), (55, .aload_n 0, 1, [], 0), (56, .iload_n 3, 1, [], 0), (57, .iload_n 3, 1, [], 0), (58, .iconst 1, 1, [], 1), (59, .iand, 1, [], 0), (60, .ifCond .ne 8, 3, [68], 0), (63, .lload 4, 2, [], 0), (65, .goto 6, 3, [71], 0), (68, .lload 4, 2, [], 0), (70, .lneg, 1, [], 0), (71, .invokevirtual 116, 3, [], 0), (74, .iinc 3 1, 3, [], 1), (77, .goto (-42), 3, [35], 0), (80, .aload_n 0, 1, [], 0), (81, .iload_n 2, 1, [], 0), (82, .invokevirtual 119, 3, [], 0), (85, .ifCond .ne 6, 3, [91], 0), (88, .bipush (-4), 2, [], -4), (90, .ireturn, 1, [], 0), (91, .iinc 2 1, 3, [], 1), (94, .goto (-80), 3, [14], 0), (97, .aload_n 0, 1, [], 0), (98, .getfield 10, 3, [], 0), (101, .aload_n 0, 1, [], 0), (102, .getfield 31, 3, [], 0), (105, .aload_n 0, 1, [], 0), (106, .getfield 10, 3, [], 0), (109, .getfield 57, 3, [], 0), (112, .invokevirtual 123, 3, [], 0), (115, .iconst 1, 1, [], 1), (116, .ireturn, 1, [], 0)]
theorem ck_X4_mirror : cd_X4_mirror.all (m_ick cX4_mirror) = true ∧ m_ch cd_X4_mirror = true := by decide +kernel
def cd_X4_layMoment : List mIN := [(0, .iload_n 1, 1, [], 0), (1, .ifCond .lt 14, 3, [15], 0), (4, .iload_n 1, 1, [], 0), (5, .aload_n 0, 1, [], 0), (6, .getfield 10, 3, [], 0), (9, .getfield 57, 3, [], 0), (12, .if_icmp .le 5, 3, [17], 0), (15, .iconst (-1), 1, [], -1), (16, .ireturn, 1, [], 0), (17, .aload_n 0, 1, [], 0), (18, .getfield 27, 3, [], 0), (21, .aload_n 0, 1, [], 0), (22, .getfield 10, 3, [], 0), (25, .getfield 109, 3, [], 0), (28, .iload_n 1, 1, [], 0), (29, .laload, 1, [], 0), (30, .invokevirtual 134, 3, [], 0), (33, .ireturn, 1, [], 0)]
theorem ck_X4_layMoment : cd_X4_layMoment.all (m_ick cX4_layMoment) = true ∧ m_ch cd_X4_layMoment = true := by decide +kernel
def cd_X4_layWorth : List mIN := [(0, .aload_n 0, 1, [], 0), (1, .getfield 10, 3, [], 0), (4, .invokevirtual 138, 3, [], 0), (7, .astore_n 2, 1, [], 0), (8, .aload_n 2, 1, [], 0), (9, .iload_n 1, 1, [], 0), (10, .invokevirtual 142, 3, [], 0), (13, .ifCond .ne 5, 3, [18], 0), (16, .iconst (-1), 1, [], -1), (17, .ireturn, 1, [], 0), (18, .aload_n 0, 1, [], 0), (19, .getfield 27, 3, [], 0), (22, .aload_n 2, 1, [], 0), (23, .iload_n 1, 1, [], 0), (24, .iconst 1, 1, [], 1), (25, .iadd, 1, [], 0), (26, .invokevirtual 147, 3, [], 0), (29, .aload_n 2, 1, [], 0), (30, .iload_n 1, 1, [], 0), (31, .invokevirtual 147, 3, [], 0), (34, .invokevirtual 151, 3, [], 0), (37, .ireturn, 1, [], 0)]
theorem ck_X4_layWorth : cd_X4_layWorth.all (m_ick cX4_layWorth) = true ∧ m_ch cd_X4_layWorth = true := by decide +kernel
def cd_X4_layDeterminant : List mIN := [(0, .iload_n 1, 1, [], 0), (1, .ifCond .lt 24, 3, [25], 0), (4, .iload_n 1, 1, [], 0), (5, .bipush 6, 2, [], 6), (7, .if_icmp .gt 18, 3, [25], 0), (10, .iconst 2, 1, [], 2), (11, .iload_n 1, 1, [], 0), (12, .imul, 1, [], 0), (13, .iconst 2, 1, [], 2), (14, .isub, 1, [], 0), (15, .aload_n 0, 1, [], 0), (16, .getfield 10, 3, [], 0), (19, .getfield 57, 3, [], 0), (22, .if_icmp .le 5, 3, [27], 0), (25, .iconst (-1), 1, [], -1), (26, .ireturn, 1, [], 0), (27, .aload_n 0, 1, [], 0), (28, .getfield 48, 3, [], 0), (31, .lconst 1, 1, [], 0), (32, .invokevirtual 112, 3, [], 0), (35, .aload_n 0, 1, [], 0), (36, .getfield 27, 3, [], 0), (39, .aload_n 0, 1, [], 0), (40, .getfield 10, 3, [], 0), (43, .invokevirtual 138, 3, [], 0), (46, .iload_n 1, 1, [], 0), (47, .invokevirtual 147, 3, [], 0), (50, .aload_n 0, 1, [], 0), (51, .getfield 48, 3, [], 0), (54, .invokevirtual 151, 3, [], 0), (57, .ireturn, 1, [], 0)]
theorem ck_X4_layDeterminant : cd_X4_layDeterminant.all (m_ick cX4_layDeterminant) = true ∧ m_ch cd_X4_layDeterminant = true := by decide +kernel
def cd_X4_layNumber : List mIN := [(0, .aload_n 0, 1, [], 0), (1, .getfield 10, 3, [], 0), (4, .invokevirtual 138, 3, [], 0), (7, .astore_n 3, 1, [], 0), (8, .aload_n 3, 1, [], 0), (9, .iload_n 1, 1, [], 0), (10, .invokevirtual 155, 3, [], 0), (13, .ifCond .eq 7, 3, [20], 0), (16, .iload_n 2, 1, [], 0), (17, .ifCond .ge 5, 3, [22], 0), (20, .iconst (-1), 1, [], -1), (21, .ireturn, 1, [], 0), (22, .iload_n 2, 1, [], 0), (23, .iload_n 1, 1, [], 0), (24, .if_icmp .le 12, 3, [36], 0), (27, .aload_n 0, 1, [], 0), (28, .getfield 27, 3, [], 0), (31, .lconst 0, 1, [], 0), (32, .invokevirtual 134, 3, [], 0), (35, .ireturn, 1, [], 0), (36, .aload_n 0, 1, [], 0), (37, .getfield 27, 3, [], 0), (40, .aload_n 3, 1, [], 0), (41, .iload_n 1, 1, [], 0), (42, .iload_n 2, 1, [], 0), (43, .invokevirtual 158, 3, [], 0), (46, .aload_n 3, 1, [], 0), (47, .iload_n 1, 1, [], 0), (48, .invokevirtual 147, 3, [], 0), (51, .invokevirtual 151, 3, [], 0), (54, .ireturn, 1, [], 0)]
theorem ck_X4_layNumber : cd_X4_layNumber.all (m_ick cX4_layNumber) = true ∧ m_ch cd_X4_layNumber = true := by decide +kernel
def cd_X4_layRule : List mIN := [(0, .aload_n 0, 1, [], 0), (1, .getfield 10, 3, [], 0), (4, .invokevirtual 138, 3, [], 0), (7, .astore_n 3, 1, [], 0), (8, .iload_n 1, 1, [], 0), (9, .ifCond .lt 11, 3, [20], 0), (12, .iload_n 1, 1, [], 0), (13, .aload_n 3, 1, [], 0), (14, .getfield 162, 3, [], 0), (17, .if_icmp .lt 5, 3, [22], 0), (20, .iconst (-1), 1, [], -1), (21, .ireturn, 1, [], 0), (22, .iload_n 2, 1, [], 0), (23, .ifCond .eq 11, 3, [34], 0), (26, .iload_n 2, 1, [], 0), (27, .iconst 1, 1, [], 1), (28, .if_icmp .eq 6, 3, [34], 0), (31, .bipush (-2), 2, [], -2), (33, .ireturn, 1, [], 0), (34, .iload_n 2, 1, [], 0), (35, .ifCond .ne 12, 3, [47], 0), (38, .aload_n 0, 1, [], 0), (39, .aload_n 3, 1, [], 0), (40, .iload_n 1, 1, [], 0), (41, .invokevirtual 165, 3, [], 0), (44, .goto 9, 3, [53], 0), (47, .aload_n 0, 1, [], 0), (48, .aload_n 3, 1, [], 0), (49, .iload_n 1, 1, [], 0), (50, .invokevirtual 169, 3, [], 0), (53, .ireturn, 1, [], 0)]
theorem ck_X4_layRule : cd_X4_layRule.all (m_ick cX4_layRule) = true ∧ m_ch cd_X4_layRule = true := by decide +kernel
def cd_X4_layValue : List mIN := [(0, .aload_n 0, 1, [], 0), (1, .getfield 10, 3, [], 0), (4, .invokevirtual 138, 3, [], 0), (7, .astore 4, 2, [], 0), (9, .aload 4, 2, [], 0), (11, .iload_n 1, 1, [], 0), (12, .invokevirtual 155, 3, [], 0), (15, .ifCond .ne 5, 3, [20], 0), (18, .iconst (-1), 1, [], -1), (19, .ireturn, 1, [], 0), (20, .iload_n 2, 1, [], 0), (21, .iload_n 3, 1, [], 0), (22, .invokestatic 172, 3, [], 0), (25, .ifCond .ne 6, 3, [31], 0), (28, .bipush (-2), 2, [], -2), (30, .ireturn, 1, [], 0), (31, .aload 4, 2, [], 0), (33, .aload_n 0, 1, [], 0), (34, .getfield 48, 3, [], 0), (37, .iload_n 1, 1, [], 0), (38, .iload_n 2, 1, [], 0), (39, .iload_n 3, 1, [], 0), (40, .invokevirtual 175, 3, [], 0), (43, .aload_n 0, 1, [], 0), (44, .getfield 51, 3, [], 0), (47, .aload 4, 2, [], 0), (49, .iload_n 1, 1, [], 0), (50, .invokevirtual 147, 3, [], 0), (53, .invokevirtual 179, 3, [], 0), (56, .iconst 0, 1, [], 0), (57, .istore 5, 2, [], 0), (59, .iload 5, 2, [], 0), (61, .iload_n 1, 1, [], 0), (62, .if_icmp .ge 17, 3, [79], 0), (65, .aload_n 0, 1, [], 0), (66, .getfield 51, 3, [], 0), (69, .iload_n 3, 1, [], 0), (70, .invokevirtual 183, 3, [], 0), (73, .iinc 5 1, 3, [], 1), (76, .goto (-17), 3, [59], 0), (79, .aload_n 0, 1, [], 0), (80, .getfield 27, 3, [], 0), (83, .aload_n 0, 1, [], 0), (84, .getfield 48, 3, [], 0), (87, .aload_n 0, 1, [], 0), (88, .getfield 51, 3, [], 0), (91, .invokevirtual 151, 3, [], 0), (94, .ireturn, 1, [], 0)]
theorem ck_X4_layValue : cd_X4_layValue.all (m_ick cX4_layValue) = true ∧ m_ch cd_X4_layValue = true := by decide +kernel
def cd_X4_layProduct : List mIN := [(0, .aload_n 0, 1, [], 0), (1, .getfield 10, 3, [], 0), (4, .invokevirtual 138, 3, [], 0), (7, .astore_n 3, 1, [], 0), (8, .aload_n 3, 1, [], 0), (9, .iload_n 1, 1, [], 0), (10, .invokevirtual 155, 3, [], 0), (13, .ifCond .eq 24, 3, [37], 0), (16, .aload_n 3, 1, [], 0), (17, .iload_n 2, 1, [], 0), (18, .invokevirtual 155, 3, [], 0), (21, .ifCond .eq 16, 3, [37], 0), (24, .iload_n 1, 1, [], 0), (25, .iload_n 2, 1, [], 0), (26, .iadd, 1, [], 0), (27, .aload_n 0, 1, [], 0), (28, .getfield 10, 3, [], 0), (31, .getfield 57, 3, [], 0), (34, .if_icmp .le 5, 3, [39], 0), (37, .iconst (-1), 1, [], -1), (38, .ireturn, 1, [], 0), (39, .iload_n 1, 1, [], 0), (40, .iload_n 2, 1, [], 0), (41, .if_icmp .ne 25, 3, [66], 0), (44, .aload_n 0, 1, [], 0), (45, .getfield 27, 3, [], 0), (48, .aload_n 3, 1, [], 0), (49, .iload_n 1, 1, [], 0), (50, .iconst 1, 1, [], 1), (51, .iadd, 1, [], 0), (52, .invokevirtual 147, 3, [], 0), (55, .aload_n 3, 1, [], 0), (56, .iload_n 1, 1, [], 0), (57, .invokevirtual 147, 3, [], 0), (60, .invokevirtual 151, 3, [], 0), (63, .goto 11, 3, [74], 0), (66, .aload_n 0, 1, [], 0), (67, .getfield 27, 3, [], 0), (70, .lconst 0, 1, [], 0), (71, .invokevirtual 134, 3, [], 0), (74, .ireturn, 1, [], 0)]
theorem ck_X4_layProduct : cd_X4_layProduct.all (m_ick cX4_layProduct) = true ∧ m_ch cd_X4_layProduct = true := by decide +kernel
def cd_X4_layShare : List mIN := [(0, .aload_n 0, 1, [], 0), (1, .getfield 10, 3, [], 0), (4, .invokevirtual 138, 3, [], 0), (7, .astore_n 3, 1, [], 0), (8, .aload_n 3, 1, [], 0), (9, .iload_n 2, 1, [], 0), (10, .invokevirtual 142, 3, [], 0), (13, .ifCond .eq 20, 3, [33], 0), (16, .iload_n 1, 1, [], 0), (17, .ifCond .lt 16, 3, [33], 0), (20, .iload_n 1, 1, [], 0), (21, .aload_n 0, 1, [], 0), (22, .getfield 10, 3, [], 0), (25, .getfield 57, 3, [], 0), (28, .iload_n 2, 1, [], 0), (29, .isub, 1, [], 0), (30, .if_icmp .le 5, 3, [35], 0), (33, .iconst (-1), 1, [], -1), (34, .ireturn, 1, [], 0), (35, .aload_n 3, 1, [], 0), (36, .iload_n 2, 1, [], 0), (37, .invokevirtual 186, 3, [], 0), (40, .ifCond .ne 6, 3, [46], 0), (43, .bipush (-5), 2, [], -5), (45, .ireturn, 1, [], 0), (46, .aload_n 3, 1, [], 0), (47, .aload_n 0, 1, [], 0), (48, .getfield 44, 3, [], 0), (51, .iload_n 2, 1, [], 0), (52, .iload_n 1, 1, [], 0), (53, .invokevirtual 190, 3, [], 0), (56, .aload_n 0, 1, [], 0), (57, .getfield 27, 3, [], 0), (60, .aload_n 0, 1, [], 0), (61, .getfield 44, 3, [], 0), (64, .aload_n 3, 1, [], 0), (65, .iload_n 2, 1, [], 0), (66, .iconst 1, 1, [], 1), (67, .iadd, 1, [], 0), (68, .invokevirtual 147, 3, [], 0), (71, .invokevirtual 151, 3, [], 0), (74, .ireturn, 1, [], 0)]
theorem ck_X4_layShare : cd_X4_layShare.all (m_ick cX4_layShare) = true ∧ m_ch cd_X4_layShare = true := by decide +kernel
def cd_X4_layKernel : List mIN := [(0, .aload_n 0, 1, [], 0), (1, .getfield 10, 3, [], 0), (4, .invokevirtual 138, 3, [], 0), (7, .astore 4, 2, [], 0), (9, .aload 4, 2, [], 0), (11, .iload_n 1, 1, [], 0), (12, .invokevirtual 142, 3, [], 0), (15, .ifCond .ne 5, 3, [20], 0), (18, .iconst (-1), 1, [], -1), (19, .ireturn, 1, [], 0), (20, .iload_n 2, 1, [], 0), (21, .sipush 1000, 3, [], 1000), (24, .invokestatic 64, 3, [], 0), (27, .ifCond .eq 13, 3, [40], 0), (30, .iload_n 3, 1, [], 0), (31, .sipush 1000, 3, [], 1000), (34, .invokestatic 64, 3, [], 0), (37, .ifCond .ne 6, 3, [43], 0), (40, .bipush (-2), 2, [], -2), (42, .ireturn, 1, [], 0), (43, .aload 4, 2, [], 0), (45, .iload_n 1, 1, [], 0), (46, .invokevirtual 186, 3, [], 0), (49, .ifCond .ne 6, 3, [55], 0), (52, .bipush (-5), 2, [], -5), (54, .ireturn, 1, [], 0), (55, .aload_n 0, 1, [], 0), (56, .getfield 44, 3, [], 0), (59, .lconst 0, 1, [], 0), (60, .invokevirtual 112, 3, [], 0), (63, .iconst 0, 1, [], 0), (64, .istore 5, 2, [], 0), (66, .iload 5, 2, [], 0), (68, .iload_n 1, 1, [], 0), (69, .if_icmp .gt 92, 3, [161], 0), (72, .aload_n 0, 1, [], 0), (73, .getfield 44, 3, [], 0), (76, .aload 4, 2, [], 0), (78, .iload 5, 2, [], 0), (80, .iconst 1, 1, [], 1), (81, .iadd, 1, [], 0), (82, .invokevirtual 147, 3, [], 0), (85, .aload_n 0, 1, [], 0), (86, .getfield 54, 3, [], 0), (89, .invokevirtual 194, 3, [], 0), (92, .aload 4, 2, [], 0), (94, .aload_n 0, 1, [], 0), (95, .getfield 48, 3, [], 0), (98, .iload 5, 2, [], 0), (100, .iload_n 2, 1, [], 0), (101, .iconst 1, 1, [], 1), (102, .invokevirtual 175, 3, [], 0), (105, .aload 4, 2, [], 0), (107, .aload_n 0, 1, [], 0), (108, .getfield 51, 3, [], 0), (111, .iload 5, 2, [], 0), (113, .iload_n 3, 1, [], 0), (114, .iconst 1, 1, [], 1), (115, .invokevirtual 175, 3, [], 0), (118, .aload_n 0, 1, [], 0), (119, .getfield 44, 3, [], 0), (122, .aload_n 0, 1, [], 0), (123, .getfield 48, 3, [], 0), (126, .aload_n 0, 1, [], 0), (127, .getfield 51, 3, [], 0), (130, .aload_n 0, 1, [], 0), (131, .getfield 54, 3, [], 0), (134, .invokevirtual 198, 3, [], 0), (137, .aload_n 0, 1, [], 0), (138, .getfield 44, 3, [], 0), (141, .aload 4, 2, [], 0), (143, .iload 5, 2, [], 0), (145, .invokevirtual 147, 3, [], 0), (148, .aload_n 0, 1, [], 0), (149, .getfield 54, 3, [], 0), (152, .invokevirtual 202, 3, [], 0), (155, .iinc 5 1, 3, [], 1), (158, .goto (-92), 3, [66], 0), (161, .aload_n 0, 1, [], 0), (162, .getfield 27, 3, [], 0), (165, .aload_n 0, 1, [], 0), (166, .getfield 44, 3, [], 0), (169, .aload 4, 2, [], 0), (171, .iload_n 1, 1, [], 0), (172, .iconst 1, 1, [], 1), (173, .iadd, 1, [], 0), (174, .invokevirtual 147, 3, [], 0), (177, .invokevirtual 151, 3, [], 0), (180, .ireturn, 1, [], 0)]
theorem ck_X4_layKernel : cd_X4_layKernel.all (m_ick cX4_layKernel) = true ∧ m_ch cd_X4_layKernel = true := by decide +kernel
def cd_X4_layLeft : List mIN := [(0, .aload_n 0, 1, [], 0), (1, .getfield 10, 3, [], 0), (4, .invokevirtual 138, 3, [], 0), (7, .astore_n 3, 1, [], 0), (8, .iload_n 1, 1, [], 0), (9, .ifCond .eq 26, 3, [35], 0), (12, .aload_n 3, 1, [], 0), (13, .iload_n 1, 1, [], 0), (14, .invokevirtual 155, 3, [], 0), (17, .ifCond .eq 18, 3, [35], 0), (20, .iload_n 2, 1, [], 0), (21, .ifCond .lt 14, 3, [35], 0), (24, .iload_n 2, 1, [], 0), (25, .aload_n 0, 1, [], 0), (26, .getfield 10, 3, [], 0), (29, .getfield 57, 3, [], 0), (32, .if_icmp .le 5, 3, [37], 0), (35, .iconst (-1), 1, [], -1), (36, .ireturn, 1, [], 0), (37, .iload_n 2, 1, [], 0), (38, .iconst 2, 1, [], 2), (39, .iload_n 1, 1, [], 0), (40, .imul, 1, [], 0), (41, .isub, 1, [], 0), (42, .istore 4, 2, [], 0), (44, .iload 4, 2, [], 0), (46, .ifCond .ge 12, 3, [58], 0), (49, .aload_n 0, 1, [], 0), (50, .getfield 27, 3, [], 0), (53, .lconst 0, 1, [], 0), (54, .invokevirtual 134, 3, [], 0), (57, .ireturn, 1, [], 0), (58, .aload_n 0, 1, [], 0), (59, .aload_n 3, 1, [], 0), (60, .iload_n 1, 1, [], 0), (61, .iload 4, 2, [], 0), (63, .invokevirtual 205, 3, [], 0), (66, .aload_n 3, 1, [], 0), (67, .iload_n 1, 1, [], 0), (68, .invokevirtual 147, 3, [], 0), (71, .astore 5, 2, [], 0), (73, .aload_n 0, 1, [], 0), (74, .getfield 44, 3, [], 0), (77, .lconst 0, 1, [], 0), (78, .invokevirtual 112, 3, [], 0), (81, .aload_n 0, 1, [], 0), (82, .getfield 51, 3, [], 0), (85, .lconst 1, 1, [], 0), (86, .invokevirtual 112, 3, [], 0), (89, .iconst 0, 1, [], 0), (90, .istore 6, 2, [], 0), (92, .iload 6, 2, [], 0), (94, .iload 4, 2, [], 0), (96, .if_icmp .gt 72, 3, [168], 0), (99, .aload_n 0, 1, [], 0), (100, .getfield 44, 3, [], 0), (103, .aload 5, 2, [], 0), (105, .aload_n 0, 1, [], 0), (106, .getfield 54, 3, [], 0), (109, .invokevirtual 194, 3, [], 0), (112, .aload_n 0, 1, [], 0), (113, .getfield 51, 3, [], 0), (116, .aload 5, 2, [], 0), (118, .aload_n 0, 1, [], 0), (119, .getfield 54, 3, [], 0), (122, .invokevirtual 194, 3, [], 0), (125, .aload_n 3, 1, [], 0), (126, .aload_n 0, 1, [], 0), (127, .getfield 48, 3, [], 0), (130, .iload_n 1, 1, [], 0), (131, .iload_n 2, 1, [], 0), (132, .iload_n 1, 1, [], 0), (133, .isub, 1, [], 0), (134, .iload 6, 2, [], 0), (136, .isub, 1, [], 0), (137, .invokevirtual 190, 3, [], 0), (140, .aload_n 0, 1, [], 0), (141, .getfield 44, 3, [], 0), (144, .aload_n 0, 1, [], 0), (145, .getfield 37, 3, [], 0), (148, .iload 6, 2, [], 0), (150, .aaload, 1, [], 0), (151, .aload_n 0, 1, [], 0), (152, .getfield 48, 3, [], 0), (155, .aload_n 0, 1, [], 0), (156, .getfield 54, 3, [], 0), (159, .invokevirtual 198, 3, [], 0), (162, .iinc 6 1, 3, [], 1), (165, .goto (-73), 3, [92], 0), (168, .aload_n 0, 1, [], 0), (169, .getfield 27, 3, [], 0), (172, .aload_n 0, 1, [], 0), (173, .getfield 44, 3, [], 0), (176, .aload_n 0, 1, [], 0), (177, .getfield 51, 3, [], 0), (180, .invokevirtual 151, 3, [], 0), (183, .ireturn, 1, [], 0)]
theorem ck_X4_layLeft : cd_X4_layLeft.all (m_ick cX4_layLeft) = true ∧ m_ch cd_X4_layLeft = true := by decide +kernel
def cd_X4_sign : List mIN := [(0, .aload_n 0, 1, [], 0), (1, .getfield 27, 3, [], 0), (4, .invokevirtual 209, 3, [], 0), (7, .ireturn, 1, [], 0)]
theorem ck_X4_sign : cd_X4_sign.all (m_ick cX4_sign) = true ∧ m_ch cd_X4_sign = true := by decide +kernel
def cd_X4_bits : List mIN := [(0, .iload_n 1, 1, [], 0), (1, .ifCond .eq 11, 3, [12], 0), (4, .iload_n 1, 1, [], 0), (5, .iconst 1, 1, [], 1), (6, .if_icmp .eq 6, 3, [12], 0), (9, .bipush (-2), 2, [], -2), (11, .ireturn, 1, [], 0), (12, .aload_n 0, 1, [], 0), (13, .getfield 27, 3, [], 0), (16, .iload_n 1, 1, [], 0), (17, .invokevirtual 212, 3, [], 0), (20, .invokevirtual 215, 3, [], 0), (23, .ireturn, 1, [], 0)]
theorem ck_X4_bits : cd_X4_bits.all (m_ick cX4_bits) = true ∧ m_ch cd_X4_bits = true := by decide +kernel
def cd_X4_word : List mIN := [(0, .iload_n 1, 1, [], 0), (1, .ifCond .eq 8, 3, [9], 0), (4, .iload_n 1, 1, [], 0), (5, .iconst 1, 1, [], 1), (6, .if_icmp .ne 7, 3, [13], 0), (9, .iload_n 2, 1, [], 0), (10, .ifCond .ge 6, 3, [16], 0), (13, .bipush (-2), 2, [], -2), (15, .ireturn, 1, [], 0), (16, .aload_n 0, 1, [], 0), (17, .getfield 27, 3, [], 0), (20, .iload_n 1, 1, [], 0), (21, .invokevirtual 212, 3, [], 0), (24, .iload_n 2, 1, [], 0), (25, .invokevirtual 218, 3, [], 0), (28, .ireturn, 1, [], 0)]
theorem ck_X4_word : cd_X4_word.all (m_ick cX4_word) = true ∧ m_ch cd_X4_word = true := by decide +kernel
def cd_X4_against : List mIN := [(0, .iload_n 1, 1, [], 0), (1, .iload_n 2, 1, [], 0), (2, .invokestatic 172, 3, [], 0), (5, .ifCond .ne 6, 3, [11], 0), (8, .bipush (-20), 2, [], -20), (10, .ireturn, 1, [], 0), (11, .aload_n 0, 1, [], 0), (12, .getfield 48, 3, [], 0), (15, .aload_n 0, 1, [], 0), (16, .getfield 27, 3, [], 0), (19, .getfield 221, 3, [], 0), (22, .invokevirtual 179, 3, [], 0), (25, .aload_n 0, 1, [], 0), (26, .getfield 48, 3, [], 0), (29, .iload_n 2, 1, [], 0), (30, .invokevirtual 183, 3, [], 0), (33, .aload_n 0, 1, [], 0), (34, .getfield 51, 3, [], 0), (37, .aload_n 0, 1, [], 0), (38, .getfield 27, 3, [], 0), (41, .getfield 224, 3, [], 0), (44, .invokevirtual 179, 3, [], 0), (47, .aload_n 0, 1, [], 0), (48, .getfield 51, 3, [], 0), (51, .iload_n 1, 1, [], 0), (52, .invokevirtual 183, 3, [], 0), (55, .aload_n 0, 1, [], 0), (56, .getfield 48, 3, [], 0), (59, .aload_n 0, 1, [], 0), (60, .getfield 51, 3, [], 0), (63, .invokevirtual 227, 3, [], 0), (66, .aload_n 0, 1, [], 0), (67, .getfield 48, 3, [], 0), (70, .invokevirtual 230, 3, [], 0), (73, .ireturn, 1, [], 0)]
theorem ck_X4_against : cd_X4_against.all (m_ick cX4_against) = true ∧ m_ch cd_X4_against = true := by decide +kernel
def cd_X4_below : List mIN := [(0, .aload_n 0, 1, [], 0), (1, .getfield 10, 3, [], 0), (4, .invokevirtual 138, 3, [], 0), (7, .astore 4, 2, [], 0), (9, .aload 4, 2, [], 0), (11, .iload_n 1, 1, [], 0), (12, .invokevirtual 155, 3, [], 0), (15, .ifCond .ne 5, 3, [20], 0), (18, .iconst (-1), 1, [], -1), (19, .ireturn, 1, [], 0), (20, .iload_n 2, 1, [], 0), (21, .iload_n 3, 1, [], 0), (22, .invokestatic 172, 3, [], 0), (25, .ifCond .ne 6, 3, [31], 0), (28, .bipush (-2), 2, [], -2), (30, .ireturn, 1, [], 0), (31, .aload 4, 2, [], 0), (33, .invokevirtual 233, 3, [], 0), (36, .iload_n 1, 1, [], 0), (37, .if_icmp .ge 6, 3, [43], 0), (40, .bipush (-5), 2, [], -5), (42, .ireturn, 1, [], 0), (43, .aload_n 0, 1, [], 0), (44, .aload 4, 2, [], 0), (46, .iload_n 1, 1, [], 0), (47, .iload_n 2, 1, [], 0), (48, .iload_n 3, 1, [], 0), (49, .invokevirtual 236, 3, [], 0), (52, .ireturn, 1, [], 0)]
theorem ck_X4_below : cd_X4_below.all (m_ick cX4_below) = true ∧ m_ch cd_X4_below = true := by decide +kernel
def cd_X4_shut : List mIN := [(0, .aload_n 0, 1, [], 0), (1, .getfield 10, 3, [], 0), (4, .invokevirtual 138, 3, [], 0), (7, .astore 4, 2, [], 0), (9, .aload 4, 2, [], 0), (11, .iload_n 1, 1, [], 0), (12, .invokevirtual 155, 3, [], 0), (15, .ifCond .eq 12, 3, [27], 0), (18, .iload_n 2, 1, [], 0), (19, .ifCond .lt 8, 3, [27], 0), (22, .iload_n 2, 1, [], 0), (23, .iload_n 1, 1, [], 0), (24, .if_icmp .lt 6, 3, [30], 0), (27, .ldc 240, 2, [], 0), (29, .ireturn, 1, [], 0), (30, .iload_n 3, 1, [], 0), (31, .ifCond .lt 9, 3, [40], 0), (34, .iload_n 3, 1, [], 0), (35, .bipush 10, 2, [], 10), (37, .if_icmp .le 6, 3, [43], 0), (40, .ldc 241, 2, [], 0), (42, .ireturn, 1, [], 0), (43, .aload 4, 2, [], 0), (45, .invokevirtual 233, 3, [], 0), (48, .iload_n 1, 1, [], 0), (49, .if_icmp .ge 6, 3, [55], 0), (52, .ldc 242, 2, [], 0), (54, .ireturn, 1, [], 0), (55, .iconst 1, 1, [], 1), (56, .iload_n 3, 1, [], 0), (57, .ishl, 1, [], 0), (58, .istore 5, 2, [], 0), (60, .sipush (-512), 3, [], -512), (63, .iload 5, 2, [], 0), (65, .imul, 1, [], 0), (66, .istore 6, 2, [], 0), (68, .sipush 512, 3, [], 512), (71, .iload 5, 2, [], 0), (73, .imul, 1, [], 0), (74, .istore 7, 2, [], 0), (76, .aload_n 0, 1, [], 0), (77, .aload 4, 2, [], 0), (79, .iload_n 1, 1, [], 0), (80, .iload 6, 2, [], 0), (82, .iload 5, 2, [], 0), (84, .invokevirtual 236, 3, [], 0), (87, .iload_n 2, 1, [], 0), (88, .if_icmp .gt 18, 3, [106], 0), (91, .aload_n 0, 1, [], 0), (92, .aload 4, 2, [], 0), (94, .iload_n 1, 1, [], 0), (95, .iload 7, 2, [], 0), (97, .iload 5, 2, [], 0), (99, .invokevirtual 236, 3, [], 0), (102, .iload_n 2, 1, [], 0), (103, .if_icmp .gt 6, 3, [109], 0), (106, .ldc 243, 2, [], 0), (108, .ireturn, 1, [], 0), (109, .iconst 0, 1, [], 0), (110, .istore 8, 2, [], 0), (112, .iload 8, 2, [], 0), (114, .bipush 32, 2, [], 32), (116, .if_icmp .ge 53, 3, [169], 0), (119, .iload 7, 2, [], 0), (121, .iload 6, 2, [], 0), (123, .isub, 1, [], 0), (124, .iconst 1, 1, [], 1), (125, .if_icmp .le 44, 3, [169], 0), (128, .iload 6, 2, [], 0), (130, .iload 7, 2, [], 0), (132, .iadd, 1, [], 0), (133, .iconst 1, 1, [], 1), (134, .ishr, 1, [], 0), (135, .istore 9, 2, [], 0), (137, .aload_n 0, 1, [], 0), (138, .aload 4, 2, [], 0), (140, .iload_n 1, 1, [], 0), (141, .iload 9, 2, [], 0), (143, .iload 5, 2, [], 0), (145, .invokevirtual 236, 3, [], 0), (148, .iload_n 2, 1, [], 0), (149, .if_icmp .le 10, 3, [159], 0), (152, .iload 9, 2, [], 0), (154, .istore 7, 2, [], 0), (156, .goto 7, 3, [163], 0), (159, .iload 9, 2, [], 0), (161, .istore 6, 2, [], 0), (163, .iinc 8 1, 3, [], 1), (166, .goto (-54), 3, [112], 0), (169, .iload 6, 2, [], 0), (171, .ireturn, 1, [], 0)]
theorem ck_X4_shut : cd_X4_shut.all (m_ick cX4_shut) = true ∧ m_ch cd_X4_shut = true := by decide +kernel
def cd_X4_good : List mIN := [(0, .aload_n 0, 1, [], 0), (1, .getfield 10, 3, [], 0), (4, .invokevirtual 138, 3, [], 0), (7, .invokevirtual 233, 3, [], 0), (10, .ireturn, 1, [], 0)]
theorem ck_X4_good : cd_X4_good.all (m_ick cX4_good) = true ∧ m_ch cd_X4_good = true := by decide +kernel
def cd_X4_few : List mIN := [(0, .aload_n 0, 1, [], 0), (1, .getfield 10, 3, [], 0), (4, .invokevirtual 138, 3, [], 0), (7, .astore_n 1, 1, [], 0), (8, .aload_n 1, 1, [], 0), (9, .invokevirtual 233, 3, [], 0), (12, .istore_n 2, 1, [], 0), (13, .aload_n 1, 1, [], 0), (14, .iload_n 2, 1, [], 0), (15, .invokevirtual 142, 3, [], 0), (18, .ifCond .eq 11, 3, [29], 0), (21, .aload_n 1, 1, [], 0), (22, .iload_n 2, 1, [], 0), (23, .invokevirtual 186, 3, [], 0), (26, .ifCond .eq 6, 3, [32], 0), (29, .bipush (-6), 2, [], -6), (31, .ireturn, 1, [], 0), (32, .iconst 0, 1, [], 0), (33, .istore_n 3, 1, [], 0), (34, .iload_n 3, 1, [], 0), (35, .aload_n 0, 1, [], 0), (36, .getfield 10, 3, [], 0), (39, .getfield 57, 3, [], 0), (42, .iload_n 2, 1, [], 0), (43, .isub, 1, [], 0), (44, .if_icmp .gt 32, 3, [76], 0), (47, .aload_n 1, 1, [], 0), (48, .aload_n 0, 1, [], 0), (49, .getfield 44, 3, [], 0), (52, .iload_n 2, 1, [], 0), (53, .iload_n 3, 1, [], 0), (54, .invokevirtual 190, 3, [], 0), (57, .aload_n 0, 1, [], 0), (58, .getfield 44, 3, [], 0), (61, .invokevirtual 230, 3, [], 0), (64, .ifCond .eq 6, 3, [70], 0), (67, .bipush (-6), 2, [], -6), (69, .ireturn, 1, [], 0), (70, .iinc 3 1, 3, [], 1), (73, .goto (-39), 3, [34], 0), (76, .iload_n 2, 1, [], 0), (77, .ireturn, 1, [], 0)]
theorem ck_X4_few : cd_X4_few.all (m_ick cX4_few) = true ∧ m_ch cd_X4_few = true := by decide +kernel
def cd_X4_told : List mIN := [(0, .iload_n 1, 1, [], 0), (1, .tableswitch 86 0 4 #[35, 43, 51, 59, 75], 35, [87, 36, 44, 52, 60, 76], 0), (36, .aload_n 0, 1, [], 0), (37, .getfield 10, 3, [], 0), (40, .getfield 68, 3, [], 0), (43, .ireturn, 1, [], 0), (44, .aload_n 0, 1, [], 0), (45, .getfield 10, 3, [], 0), (48, .getfield 57, 3, [], 0), (51, .ireturn, 1, [], 0), (52, .aload_n 0, 1, [], 0), (53, .getfield 10, 3, [], 0), (56, .getfield 79, 3, [], 0), (59, .ireturn, 1, [], 0), (60, .aload_n 0, 1, [], 0), (61, .getfield 10, 3, [], 0), (64, .getfield 71, 3, [], 0), (67, .ifCond .eq 7, 3, [74], 0), (70, .iconst 1, 1, [], 1), (71, .goto 4, 3, [75], 0), (74, .iconst 0, 1, [], 0), (75, .ireturn, 1, [], 0), (76, .aload_n 0, 1, [], 0), (77, .getfield 10, 3, [], 0), (80, .invokevirtual 138, 3, [], 0), (83, .getfield 162, 3, [], 0), (86, .ireturn, 1, [], 0), (87, .bipush (-2), 2, [], -2), (89, .ireturn, 1, [], 0)]
theorem ck_X4_told : cd_X4_told.all (m_ick cX4_told) = true ∧ m_ch cd_X4_told = true := by decide +kernel
def cd_X4_keep : List mIN := [(0, .iload_n 1, 1, [], 0), (1, .ifCond .lt 8, 3, [9], 0), (4, .iload_n 1, 1, [], 0), (5, .iconst 2, 1, [], 2), (6, .if_icmp .lt 5, 3, [11], 0), (9, .iconst (-1), 1, [], -1), (10, .ireturn, 1, [], 0), (11, .aload_n 0, 1, [], 0), (12, .getfield 16, 3, [], 0), (15, .iload_n 1, 1, [], 0), (16, .aaload, 1, [], 0), (17, .aload_n 0, 1, [], 0), (18, .getfield 10, 3, [], 0), (21, .invokevirtual 244, 3, [], 0), (24, .aload_n 0, 1, [], 0), (25, .getfield 20, 3, [], 0), (28, .iload_n 1, 1, [], 0), (29, .iconst 1, 1, [], 1), (30, .bastore, 1, [], 0), (31, .iconst 1, 1, [], 1), (32, .ireturn, 1, [], 0)]
theorem ck_X4_keep : cd_X4_keep.all (m_ick cX4_keep) = true ∧ m_ch cd_X4_keep = true := by decide +kernel
def cd_X4_back : List mIN := [(0, .aload_n 0, 1, [], 0), (1, .iload_n 1, 1, [], 0), (2, .invokevirtual 248, 3, [], 0), (5, .ifCond .ne 5, 3, [10], 0), (8, .iconst (-1), 1, [], -1), (9, .ireturn, 1, [], 0), (10, .aload_n 0, 1, [], 0), (11, .getfield 10, 3, [], 0), (14, .aload_n 0, 1, [], 0), (15, .getfield 16, 3, [], 0), (18, .iload_n 1, 1, [], 0), (19, .aaload, 1, [], 0), (20, .invokevirtual 244, 3, [], 0), (23, .aload_n 0, 1, [], 0), (24, .getfield 10, 3, [], 0), (27, .getfield 57, 3, [], 0), (30, .ireturn, 1, [], 0)]
theorem ck_X4_back : cd_X4_back.all (m_ick cX4_back) = true ∧ m_ch cd_X4_back = true := by decide +kernel
def cd_X4_differs : List mIN := [(0, .aload_n 0, 1, [], 0), (1, .iload_n 1, 1, [], 0), (2, .invokevirtual 248, 3, [], 0), (5, .ifCond .ne 5, 3, [10], 0), (8, .iconst (-1), 1, [], -1), (9, .ireturn, 1, [], 0), (10, .aload_n 0, 1, [], 0), (11, .getfield 10, 3, [], 0), (14, .invokevirtual 138, 3, [], 0), (17, .astore_n 2, 1, [], 0), (18, .aload_n 0, 1, [], 0), (19, .getfield 16, 3, [], 0), (22, .iload_n 1, 1, [], 0), (23, .aaload, 1, [], 0), (24, .invokevirtual 138, 3, [], 0), (27, .astore_n 3, 1, [], 0), (28, .iconst 1, 1, [], 1), (29, .istore 4, 2, [], 0), (31, .iload 4, 2, [], 0), (33, .iconst 5, 1, [], 5), (34, .if_icmp .gt 62, 3, [96], 0), (37, .aload_n 2, 1, [], 0), (38, .iload 4, 2, [], 0), (40, .invokevirtual 155, 3, [], 0), (43, .ifCond .ne 15, 3, [58], 0), (46, .aload_n 3, 1, [], 0), (47, .iload 4, 2, [], 0), (49, .invokevirtual 155, 3, [], 0), (52, .ifCond .ne 6, 3, [58], 0), (55, .bipush (-6), 2, [], -6), (57, .ireturn, 1, [], 0), (58, .aload_n 2, 1, [], 0), (59, .iload 4, 2, [], 0), (61, .invokevirtual 155, 3, [], 0), (64, .ifCond .eq 23, 3, [87], 0), (67, .aload_n 3, 1, [], 0), (68, .iload 4, 2, [], 0), (70, .invokevirtual 155, 3, [], 0), (73, .ifCond .eq 14, 3, [87], 0), (76, .aload_n 0, 1, [], 0), (77, .aload_n 2, 1, [], 0), (78, .aload_n 3, 1, [], 0), (79, .iload 4, 2, [], 0), (81, .invokevirtual 251, 3, [], 0), (84, .ifCond .ne 6, 3, [90], 0), (87, .iload 4, 2, [], 0), (89, .ireturn, 1, [], 0), (90, .iinc 4 1, 3, [], 1), (93, .goto (-62), 3, [31], 0), (96, .bipush (-6), 2, [], -6), (98, .ireturn, 1, [], 0)]
theorem ck_X4_differs : cd_X4_differs.all (m_ick cX4_differs) = true ∧ m_ch cd_X4_differs = true := by decide +kernel
def cd_X4_isWithin : List mIN := [(0, .iload_n 0, 1, [], 0), (1, .iload_n 1, 1, [], 0), (2, .ineg, 1, [], 0), (3, .if_icmp .lt 12, 3, [15], 0), (6, .iload_n 0, 1, [], 0), (7, .iload_n 1, 1, [], 0), (8, .if_icmp .gt 7, 3, [15], 0), (11, .iconst 1, 1, [], 1), (12, .goto 4, 3, [16], 0), (15, .iconst 0, 1, [], 0), (16, .ireturn, 1, [], 0)]
theorem ck_X4_isWithin : cd_X4_isWithin.all (m_ick cX4_isWithin) = true ∧ m_ch cd_X4_isWithin = true := by decide +kernel
def cd_X4_isFraction : List mIN := [(0, .iload_n 0, 1, [], 0), (1, .ldc 86, 2, [], 0), (3, .invokestatic 64, 3, [], 0), (6, .ifCond .eq 18, 3, [24], 0), (9, .iload_n 1, 1, [], 0), (10, .iconst 1, 1, [], 1), (11, .if_icmp .lt 13, 3, [24], 0), (14, .iload_n 1, 1, [], 0), (15, .ldc 86, 2, [], 0), (17, .if_icmp .gt 7, 3, [24], 0), (20, .iconst 1, 1, [], 1), (21, .goto 4, 3, [25], 0), (24, .iconst 0, 1, [], 0), (25, .ireturn, 1, [], 0)]
theorem ck_X4_isFraction : cd_X4_isFraction.all (m_ick cX4_isFraction) = true ∧ m_ch cd_X4_isFraction = true := by decide +kernel
def cd_X4_isKeptAt : List mIN := [(0, .iload_n 1, 1, [], 0), (1, .ifCond .lt 21, 3, [22], 0), (4, .iload_n 1, 1, [], 0), (5, .iconst 2, 1, [], 2), (6, .if_icmp .ge 16, 3, [22], 0), (9, .aload_n 0, 1, [], 0), (10, .getfield 20, 3, [], 0), (13, .iload_n 1, 1, [], 0), (14, .baload, 1, [], 0), (15, .ifCond .eq 7, 3, [22], 0), (18, .iconst 1, 1, [], 1), (19, .goto 4, 3, [23], 0), (22, .iconst 0, 1, [], 0), (23, .ireturn, 1, [], 0)]
theorem ck_X4_isKeptAt : cd_X4_isKeptAt.all (m_ick cX4_isKeptAt) = true ∧ m_ch cd_X4_isKeptAt = true := by decide +kernel
def cd_X4_isCountable : List mIN := [(0, .iload_n 0, 1, [], 0), (1, .tableswitch 127 0 2 #[27, 44, 81], 27, [128, 28, 45, 82], 0), (28, .iload_n 1, 1, [], 0), (29, .iconst 1, 1, [], 1), (30, .if_icmp .lt 13, 3, [43], 0), (33, .iload_n 1, 1, [], 0), (34, .bipush 9, 2, [], 9), (36, .if_icmp .gt 7, 3, [43], 0), (39, .iconst 1, 1, [], 1), (40, .goto 4, 3, [44], 0), (43, .iconst 0, 1, [], 0), (44, .ireturn, 1, [], 0), (45, .iload_n 1, 1, [], 0), (46, .iconst 1, 1, [], 1), (47, .if_icmp .lt 33, 3, [80], 0), (50, .iload_n 1, 1, [], 0), (51, .bipush 6, 2, [], 6), (53, .if_icmp .gt 27, 3, [80], 0), (56, .iload_n 2, 1, [], 0), (57, .iconst 1, 1, [], 1), (58, .if_icmp .lt 22, 3, [80], 0), (61, .iload_n 2, 1, [], 0), (62, .iconst 3, 1, [], 3), (63, .if_icmp .gt 17, 3, [80], 0), (66, .iload_n 3, 1, [], 0), (67, .iconst 1, 1, [], 1), (68, .if_icmp .lt 12, 3, [80], 0), (71, .iload_n 3, 1, [], 0), (72, .iconst 3, 1, [], 3), (73, .if_icmp .gt 7, 3, [80], 0), (76, .iconst 1, 1, [], 1), (77, .goto 4, 3, [81], 0), (80, .iconst 0, 1, [], 0), (81, .ireturn, 1, [], 0), (82, .iload_n 1, 1, [], 0), (83, .iconst 1, 1, [], 1), (84, .if_icmp .lt 42, 3, [126], 0), (87, .iload_n 1, 1, [], 0), (88, .bipush 6, 2, [], 6), (90, .if_icmp .gt 36, 3, [126], 0), (93, .iload_n 2, 1, [], 0), (94, .iconst 1, 1, [], 1), (95, .if_icmp .lt 31, 3, [126], 0), (98, .iload_n 2, 1, [], 0), (99, .bipush 9, 2, [], 9), (101, .if_icmp .gt 25, 3, [126], 0), (104, .iload_n 3, 1, [], 0), (105, .iconst 1, 1, [], 1), (106, .if_icmp .lt 20, 3, [126], 0), (109, .iload_n 3, 1, [], 0), (110, .bipush 9, 2, [], 9), (112, .if_icmp .gt 14, 3, [126], 0), (115, .iload_n 2, 1, [], 0), (116, .iload_n 3, 1, [], 0), (117, .iadd, 1, [], 0), (118, .iload_n 1, 1, [], 0), (119, .if_icmp .lt 7, 3, [126], 0), (122, .iconst 1, 1, [], 1), (123, .goto 4, 3, [127], 0), (126, .iconst 0, 1, [], 0), (127, .ireturn, 1, [], 0), (128, .iconst 0, 1, [], 0), (129, .ireturn, 1, [], 0)]
theorem ck_X4_isCountable : cd_X4_isCountable.all (m_ick cX4_isCountable) = true ∧ m_ch cd_X4_isCountable = true := by decide +kernel
def cd_X4_countedWeight : List mIN := [(0, .iload_n 0, 1, [], 0), (1, .lookupswitch 66 #[(1, 27), (2, 50)], 27, [67, 28, 51], 0), (28, .iload_n 1, 1, [], 0), (29, .iload 4, 2, [], 0), (31, .invokestatic 127, 3, [], 0), (34, .iload_n 2, 1, [], 0), (35, .iload 4, 2, [], 0), (37, .invokestatic 131, 3, [], 0), (40, .lmul, 1, [], 0), (41, .iload_n 3, 1, [], 0), (42, .iload_n 1, 1, [], 0), (43, .iload 4, 2, [], 0), (45, .isub, 1, [], 0), (46, .invokestatic 131, 3, [], 0), (49, .lmul, 1, [], 0), (50, .lreturn, 1, [], 0), (51, .iload_n 2, 1, [], 0), (52, .iload 4, 2, [], 0), (54, .invokestatic 127, 3, [], 0), (57, .iload_n 3, 1, [], 0), (58, .iload_n 1, 1, [], 0), (59, .iload 4, 2, [], 0), (61, .isub, 1, [], 0), (62, .invokestatic 127, 3, [], 0), (65, .lmul, 1, [], 0), (66, .lreturn, 1, [], 0), (67, .lconst 1, 1, [], 0), (68, .lreturn, 1, [], 0)]
theorem ck_X4_countedWeight : cd_X4_countedWeight.all (m_ick cX4_countedWeight) = true ∧ m_ch cd_X4_countedWeight = true := by decide +kernel
def cd_X4_ways : List mIN := [(0, .iload_n 1, 1, [], 0), (1, .ifCond .lt 8, 3, [9], 0), (4, .iload_n 1, 1, [], 0), (5, .iload_n 0, 1, [], 0), (6, .if_icmp .le 5, 3, [11], 0), (9, .lconst 0, 1, [], 0), (10, .lreturn, 1, [], 0), (11, .lconst 1, 1, [], 0), (12, .lstore_n 2, 1, [], 0), (13, .iconst 0, 1, [], 0), (14, .istore 4, 2, [], 0), (16, .iload 4, 2, [], 0), (18, .iload_n 1, 1, [], 0), (19, .if_icmp .ge 23, 3, [42], 0), (22, .lload_n 2, 1, [], 0), (23, .iload_n 0, 1, [], 0), (24, .iload 4, 2, [], 0), (26, .isub, 1, [], 0), (27, .i2l, 1, [], 0), (28, .lmul, 1, [], 0), (29, .iload 4, 2, [], 0), (31, .iconst 1, 1, [], 1), (32, .iadd, 1, [], 0), (33, .i2l, 1, [], 0), (34, .ldiv, 1, [], 0), (35, .lstore_n 2, 1, [], 0), (36, .iinc 4 1, 3, [], 1), (39, .goto (-23), 3, [16], 0), (42, .lload_n 2, 1, [], 0), (43, .lreturn, 1, [], 0)]
theorem ck_X4_ways : cd_X4_ways.all (m_ick cX4_ways) = true ∧ m_ch cd_X4_ways = true := by decide +kernel
def cd_X4_power : List mIN := [(0, .lconst 1, 1, [], 0), (1, .lstore_n 2, 1, [], 0), (2, .iconst 0, 1, [], 0), (3, .istore 4, 2, [], 0), (5, .iload 4, 2, [], 0), (7, .iload_n 1, 1, [], 0), (8, .if_icmp .ge 14, 3, [22], 0), (11, .lload_n 2, 1, [], 0), (12, .iload_n 0, 1, [], 0), (13, .i2l, 1, [], 0), (14, .lmul, 1, [], 0), (15, .lstore_n 2, 1, [], 0), (16, .iinc 4 1, 3, [], 1), (19, .goto (-14), 3, [5], 0), (22, .lload_n 2, 1, [], 0), (23, .lreturn, 1, [], 0)]
theorem ck_X4_power : cd_X4_power.all (m_ick cX4_power) = true ∧ m_ch cd_X4_power = true := by decide +kernel
def cd_X4_addMomentTimes : List mIN := [(0, .aload_n 0, 1, [], 0), (1, .getfield 48, 3, [], 0), (4, .aload_n 0, 1, [], 0), (5, .getfield 10, 3, [], 0), (8, .getfield 109, 3, [], 0), (11, .iload_n 1, 1, [], 0), (12, .laload, 1, [], 0), (13, .invokevirtual 112, 3, [], 0), (16, .aload_n 0, 1, [], 0), (17, .getfield 51, 3, [], 0), (20, .lload_n 2, 1, [], 0), (21, .invokevirtual 112, 3, [], 0), (24, .aload_n 0, 1, [], 0), (25, .getfield 44, 3, [], 0), (28, .aload_n 0, 1, [], 0), (29, .getfield 48, 3, [], 0), (32, .aload_n 0, 1, [], 0), (33, .getfield 51, 3, [], 0), (36, .aload_n 0, 1, [], 0), (37, .getfield 54, 3, [], 0), (40, .invokevirtual 198, 3, [], 0), (43, .return_, 1, [], 0)]
theorem ck_X4_addMomentTimes : cd_X4_addMomentTimes.all (m_ick cX4_addMomentTimes) = true ∧ m_ch cd_X4_addMomentTimes = true := by decide +kernel
def cd_X4_takesSumAsMoment : List mIN := [(0, .aload_n 0, 1, [], 0), (1, .getfield 44, 3, [], 0), (4, .invokevirtual 215, 3, [], 0), (7, .bipush 62, 2, [], 62), (9, .if_icmp .le 5, 3, [14], 0), (12, .iconst 0, 1, [], 0), (13, .ireturn, 1, [], 0), (14, .aload_n 0, 1, [], 0), (15, .getfield 31, 3, [], 0), (18, .iload_n 1, 1, [], 0), (19, .aload_n 0, 1, [], 0), (20, .getfield 44, 3, [], 0), (23, .invokevirtual 255, 3, [], 0), (26, .lastore, 1, [], 0), (27, .iconst 1, 1, [], 1), (28, .ireturn, 1, [], 0)]
theorem ck_X4_takesSumAsMoment : cd_X4_takesSumAsMoment.all (m_ick cX4_takesSumAsMoment) = true ∧ m_ch cd_X4_takesSumAsMoment = true := by decide +kernel
def cd_X4_layRuleA : List mIN := [(0, .aload_n 1, 1, [], 0), (1, .iload_n 2, 1, [], 0), (2, .invokevirtual 147, 3, [], 0), (5, .astore_n 3, 1, [], 0), (6, .aload_n 1, 1, [], 0), (7, .iload_n 2, 1, [], 0), (8, .iconst 1, 1, [], 1), (9, .iadd, 1, [], 0), (10, .invokevirtual 147, 3, [], 0), (13, .astore 4, 2, [], 0), (15, .aload_n 0, 1, [], 0), (16, .getfield 44, 3, [], 0), (19, .lconst 0, 1, [], 0), (20, .invokevirtual 112, 3, [], 0), (23, .iload_n 2, 1, [], 0), (24, .ifCond .le 24, 3, [48], 0), (27, .aload_n 0, 1, [], 0), (28, .getfield 44, 3, [], 0), (31, .aload_n 1, 1, [], 0), (32, .iload_n 2, 1, [], 0), (33, .iload_n 2, 1, [], 0), (34, .iconst 1, 1, [], 1), (35, .isub, 1, [], 0), (36, .invokevirtual 158, 3, [], 0), (39, .aload 4, 2, [], 0), (41, .aload_n 0, 1, [], 0), (42, .getfield 54, 3, [], 0), (45, .invokevirtual 198, 3, [], 0), (48, .aload_n 0, 1, [], 0), (49, .getfield 48, 3, [], 0), (52, .aload_n 1, 1, [], 0), (53, .iload_n 2, 1, [], 0), (54, .iconst 1, 1, [], 1), (55, .iadd, 1, [], 0), (56, .iload_n 2, 1, [], 0), (57, .invokevirtual 158, 3, [], 0), (60, .aload_n 3, 1, [], 0), (61, .invokevirtual 259, 3, [], 0), (64, .aload_n 0, 1, [], 0), (65, .getfield 44, 3, [], 0), (68, .aload_n 0, 1, [], 0), (69, .getfield 48, 3, [], 0), (72, .invokevirtual 227, 3, [], 0), (75, .aload_n 0, 1, [], 0), (76, .getfield 51, 3, [], 0), (79, .aload_n 3, 1, [], 0), (80, .aload 4, 2, [], 0), (82, .invokevirtual 259, 3, [], 0), (85, .aload_n 0, 1, [], 0), (86, .getfield 27, 3, [], 0), (89, .aload_n 0, 1, [], 0), (90, .getfield 44, 3, [], 0), (93, .aload_n 0, 1, [], 0), (94, .getfield 51, 3, [], 0), (97, .invokevirtual 151, 3, [], 0), (100, .ireturn, 1, [], 0)]
theorem ck_X4_layRuleA : cd_X4_layRuleA.all (m_ick cX4_layRuleA) = true ∧ m_ch cd_X4_layRuleA = true := by decide +kernel
def cd_X4_layRuleB : List mIN := [(0, .iload_n 2, 1, [], 0), (1, .ifCond .ne 21, 3, [22], 0), (4, .aload_n 0, 1, [], 0), (5, .getfield 27, 3, [], 0), (8, .aload_n 1, 1, [], 0), (9, .iconst 1, 1, [], 1), (10, .invokevirtual 147, 3, [], 0), (13, .aload_n 1, 1, [], 0), (14, .iconst 0, 1, [], 0), (15, .invokevirtual 147, 3, [], 0), (18, .invokevirtual 151, 3, [], 0), (21, .ireturn, 1, [], 0), (22, .aload_n 0, 1, [], 0), (23, .getfield 48, 3, [], 0), (26, .aload_n 1, 1, [], 0), (27, .iload_n 2, 1, [], 0), (28, .iconst 1, 1, [], 1), (29, .iadd, 1, [], 0), (30, .invokevirtual 147, 3, [], 0), (33, .aload_n 1, 1, [], 0), (34, .iload_n 2, 1, [], 0), (35, .iconst 1, 1, [], 1), (36, .isub, 1, [], 0), (37, .invokevirtual 147, 3, [], 0), (40, .invokevirtual 259, 3, [], 0), (43, .aload_n 0, 1, [], 0), (44, .getfield 51, 3, [], 0), (47, .aload_n 1, 1, [], 0), (48, .iload_n 2, 1, [], 0), (49, .invokevirtual 147, 3, [], 0), (52, .aload_n 1, 1, [], 0), (53, .iload_n 2, 1, [], 0), (54, .invokevirtual 147, 3, [], 0), (57, .invokevirtual 259, 3, [], 0), (60, .aload_n 0, 1, [], 0), (61, .getfield 27, 3, [], 0), (64, .aload_n 0, 1, [], 0), (65, .getfield 48, 3, [], 0), (68, .aload_n 0, 1, [], 0), (69, .getfield 51, 3, [], 0), (72, .invokevirtual 151, 3, [], 0), (75, .ireturn, 1, [], 0)]
theorem ck_X4_layRuleB : cd_X4_layRuleB.all (m_ick cX4_layRuleB) = true ∧ m_ch cd_X4_layRuleB = true := by decide +kernel
def cd_X4_setQuotient : List mIN := [(0, .aload_n 1, 1, [], 0), (1, .iload_n 2, 1, [], 0), (2, .invokevirtual 147, 3, [], 0), (5, .astore 4, 2, [], 0), (7, .aload_n 0, 1, [], 0), (8, .getfield 37, 3, [], 0), (11, .iconst 0, 1, [], 0), (12, .aaload, 1, [], 0), (13, .lconst 1, 1, [], 0), (14, .invokevirtual 112, 3, [], 0), (17, .iconst 1, 1, [], 1), (18, .istore 5, 2, [], 0), (20, .iload 5, 2, [], 0), (22, .iload_n 3, 1, [], 0), (23, .if_icmp .gt 98, 3, [121], 0), (26, .iload 5, 2, [], 0), (28, .aload_n 0, 1, [], 0), (29, .getfield 37, 3, [], 0), (32, .arraylength, 1, [], 0), (33, .if_icmp .ge 88, 3, [121], 0), (36, .aload_n 0, 1, [], 0), (37, .getfield 37, 3, [], 0), (40, .iload 5, 2, [], 0), (42, .aaload, 1, [], 0), (43, .astore 6, 2, [], 0), (45, .aload 6, 2, [], 0), (47, .lconst 0, 1, [], 0), (48, .invokevirtual 112, 3, [], 0), (51, .iload 5, 2, [], 0), (53, .iload_n 2, 1, [], 0), (54, .invokestatic 262, 3, [], 0), (57, .istore 7, 2, [], 0), (59, .iload 7, 2, [], 0), (61, .iconst 1, 1, [], 1), (62, .if_icmp .lt 48, 3, [110], 0), (65, .aload 6, 2, [], 0), (67, .aload 4, 2, [], 0), (69, .aload_n 0, 1, [], 0), (70, .getfield 54, 3, [], 0), (73, .invokevirtual 194, 3, [], 0), (76, .aload 6, 2, [], 0), (78, .aload_n 1, 1, [], 0), (79, .iload_n 2, 1, [], 0), (80, .iload_n 2, 1, [], 0), (81, .iload 7, 2, [], 0), (83, .isub, 1, [], 0), (84, .invokevirtual 158, 3, [], 0), (87, .aload_n 0, 1, [], 0), (88, .getfield 37, 3, [], 0), (91, .iload 5, 2, [], 0), (93, .iload 7, 2, [], 0), (95, .isub, 1, [], 0), (96, .aaload, 1, [], 0), (97, .aload_n 0, 1, [], 0), (98, .getfield 54, 3, [], 0), (101, .invokevirtual 198, 3, [], 0), (104, .iinc 7 (-1), 3, [], -1), (107, .goto (-48), 3, [59], 0), (110, .aload 6, 2, [], 0), (112, .invokevirtual 268, 3, [], 0), (115, .iinc 5 1, 3, [], 1), (118, .goto (-98), 3, [20], 0), (121, .return_, 1, [], 0)]
theorem ck_X4_setQuotient : cd_X4_setQuotient.all (m_ick cX4_setQuotient) = true ∧ m_ch cd_X4_setQuotient = true := by decide +kernel
def cd_X4_rootsBelow : List mIN := [(0, .iconst 0, 1, [], 0), (1, .istore 5, 2, [], 0), (3, .iconst 1, 1, [], 1), (4, .istore 6, 2, [], 0), (6, .iconst 1, 1, [], 1), (7, .istore 7, 2, [], 0), (9, .iconst 1, 1, [], 1), (10, .istore 8, 2, [], 0), (12, .iload 8, 2, [], 0), (14, .iload_n 2, 1, [], 0), (15, .if_icmp .gt 46, 3, [61], 0), (18, .aload_n 1, 1, [], 0), (19, .aload_n 0, 1, [], 0), (20, .getfield 48, 3, [], 0), (23, .iload 8, 2, [], 0), (25, .iload_n 3, 1, [], 0), (26, .iload 4, 2, [], 0), (28, .invokevirtual 175, 3, [], 0), (31, .aload_n 0, 1, [], 0), (32, .getfield 48, 3, [], 0), (35, .invokevirtual 230, 3, [], 0), (38, .istore 7, 2, [], 0), (40, .iload 7, 2, [], 0), (42, .iload 6, 2, [], 0), (44, .ineg, 1, [], 0), (45, .if_icmp .ne 10, 3, [55], 0), (48, .iinc 5 1, 3, [], 1), (51, .iload 7, 2, [], 0), (53, .istore 6, 2, [], 0), (55, .iinc 8 1, 3, [], 1), (58, .goto (-46), 3, [12], 0), (61, .iload_n 2, 1, [], 0), (62, .iload 5, 2, [], 0), (64, .isub, 1, [], 0), (65, .iload 7, 2, [], 0), (67, .ifCond .ne 7, 3, [74], 0), (70, .iconst 1, 1, [], 1), (71, .goto 4, 3, [75], 0), (74, .iconst 0, 1, [], 0), (75, .isub, 1, [], 0), (76, .ireturn, 1, [], 0)]
theorem ck_X4_rootsBelow : cd_X4_rootsBelow.all (m_ick cX4_rootsBelow) = true ∧ m_ch cd_X4_rootsBelow = true := by decide +kernel
def cd_X4_isSamePoly : List mIN := [(0, .iconst 0, 1, [], 0), (1, .istore 4, 2, [], 0), (3, .iload 4, 2, [], 0), (5, .iload_n 3, 1, [], 0), (6, .if_icmp .ge 70, 3, [76], 0), (9, .aload_n 0, 1, [], 0), (10, .getfield 48, 3, [], 0), (13, .aload_n 1, 1, [], 0), (14, .iload_n 3, 1, [], 0), (15, .iload 4, 2, [], 0), (17, .invokevirtual 158, 3, [], 0), (20, .aload_n 2, 1, [], 0), (21, .iload_n 3, 1, [], 0), (22, .invokevirtual 147, 3, [], 0), (25, .invokevirtual 259, 3, [], 0), (28, .aload_n 0, 1, [], 0), (29, .getfield 51, 3, [], 0), (32, .aload_n 2, 1, [], 0), (33, .iload_n 3, 1, [], 0), (34, .iload 4, 2, [], 0), (36, .invokevirtual 158, 3, [], 0), (39, .aload_n 1, 1, [], 0), (40, .iload_n 3, 1, [], 0), (41, .invokevirtual 147, 3, [], 0), (44, .invokevirtual 259, 3, [], 0), (47, .aload_n 0, 1, [], 0), (48, .getfield 48, 3, [], 0), (51, .aload_n 0, 1, [], 0), (52, .getfield 51, 3, [], 0), (55, .invokevirtual 227, 3, [], 0), (58, .aload_n 0, 1, [], 0), (59, .getfield 48, 3, [], 0), (62, .invokevirtual 230, 3, [], 0), (65, .ifCond .eq 5, 3, [70], 0), (68, .iconst 0, 1, [], 0), (69, .ireturn, 1, [], 0), (70, .iinc 4 1, 3, [], 1), (73, .goto (-70), 3, [3], 0), (76, .iconst 1, 1, [], 1), (77, .ireturn, 1, [], 0)]
theorem ck_X4_isSamePoly : cd_X4_isSamePoly.all (m_ick cX4_isSamePoly) = true ∧ m_ch cd_X4_isSamePoly = true := by decide +kernel
def cd_X5_in : List mIN := [(0, .lload_n 0, 1, [], 0), (1, .lload_n 2, 1, [], 0), (2, .lcmp, 1, [], 0), (3, .ifCond .lt 14, 3, [17], 0), (6, .lload_n 0, 1, [], 0), (7, .lload 4, 2, [], 0), (9, .lcmp, 1, [], 0), (10, .ifCond .gt 7, 3, [17], 0), (13, .iconst 1, 1, [], 1), (14, .goto 4, 3, [18], 0), (17, .iconst 0, 1, [], 0), (18, .ireturn, 1, [], 0)]
theorem ck_X5_in : cd_X5_in.all (m_ick cX5_in) = true ∧ m_ch cd_X5_in = true := by decide +kernel
def cd_X5_set : List mIN := [(0, .lload_n 2, 1, [], 0), (1, .lconst 0, 1, [], 0), (2, .lcmp, 1, [], 0), (3, .ifCond .ge 8, 3, [11], 0), (6, .lload_n 2, 1, [], 0), (7, .lneg, 1, [], 0), (8, .goto 4, 3, [12], 0), (11, .lload_n 2, 1, [], 0), (12, .lstore 4, 2, [], 0), (14, .aload_n 0, 1, [], 0), (15, .getfield 16, 3, [], 0), (18, .iload_n 1, 1, [], 0), (19, .lload_n 2, 1, [], 0), (20, .lconst 0, 1, [], 0), (21, .lcmp, 1, [], 0), (22, .ifCond .ge 7, 3, [29], 0), (25, .iconst (-1), 1, [], -1), (26, .goto 14, 3, [40], 0), (29, .lload_n 2, 1, [], 0), (30, .lconst 0, 1, [], 0), (31, .lcmp, 1, [], 0), (32, .ifCond .le 7, 3, [39], 0), (35, .iconst 1, 1, [], 1), (36, .goto 4, 3, [40], 0), (39, .iconst 0, 1, [], 0), (40, .iastore, 1, [], 0), (41, .iconst 0, 1, [], 0), (42, .istore 6, 2, [], 0), (44, .lload 4, 2, [], 0), (46, .lconst 0, 1, [], 0), (47, .lcmp, 1, [], 0), (48, .ifCond .le 36, 3, [84], 0), (51, .aload_n 0, 1, [], 0), (52, .getfield 7, 3, [], 0), (55, .sipush 260, 3, [], 260), (58, .iload_n 1, 1, [], 0), (59, .imul, 1, [], 0), (60, .iload 6, 2, [], 0), (62, .iadd, 1, [], 0), (63, .lload 4, 2, [], 0), (65, .ldc2_w 58, 3, [], 0), (68, .land, 1, [], 0), (69, .l2i, 1, [], 0), (70, .iastore, 1, [], 0), (71, .lload 4, 2, [], 0), (73, .bipush 24, 2, [], 24), (75, .lshr, 1, [], 0), (76, .lstore 4, 2, [], 0), (78, .iinc 6 1, 3, [], 1), (81, .goto (-37), 3, [44], 0), (84, .aload_n 0, 1, [], 0), (85, .getfield 13, 3, [], 0), (88, .iload_n 1, 1, [], 0), (89, .iload 6, 2, [], 0), (91, .iastore, 1, [], 0), (92, .return_, 1, [], 0)]
theorem ck_X5_set : cd_X5_set.all (m_ick cX5_set) = true ∧ m_ch cd_X5_set = true := by decide +kernel
def cd_X5_copy : List mIN := [(0, .iconst 0, 1, [], 0), (1, .istore_n 3, 1, [], 0), (2, .iload_n 3, 1, [], 0), (3, .aload_n 0, 1, [], 0), (4, .getfield 13, 3, [], 0), (7, .iload_n 1, 1, [], 0), (8, .iaload, 1, [], 0), (9, .if_icmp .ge 33, 3, [42], 0), (12, .aload_n 0, 1, [], 0), (13, .getfield 7, 3, [], 0), (16, .sipush 260, 3, [], 260), (19, .iload_n 2, 1, [], 0), (20, .imul, 1, [], 0), (21, .iload_n 3, 1, [], 0), (22, .iadd, 1, [], 0), (23, .aload_n 0, 1, [], 0), (24, .getfield 7, 3, [], 0), (27, .sipush 260, 3, [], 260), (30, .iload_n 1, 1, [], 0), (31, .imul, 1, [], 0), (32, .iload_n 3, 1, [], 0), (33, .iadd, 1, [], 0), (34, .iaload, 1, [], 0), (35, .iastore, 1, [], 0), (36, .iinc 3 1, 3, [], 1), (39, .goto (-37), 3, [2], 0), (42, .aload_n 0, 1, [], 0), (43, .getfield 13, 3, [], 0), (46, .iload_n 2, 1, [], 0), (47, .aload_n 0, 1, [], 0), (48, .getfield 13, 3, [], 0), (51, .iload_n 1, 1, [], 0), (52, .iaload, 1, [], 0), (53, .iastore, 1, [], 0), (54, .aload_n 0, 1, [], 0), (55, .getfield 16, 3, [], 0), (58, .iload_n 2, 1, [], 0), (59, .aload_n 0, 1, [], 0), (60, .getfield 16, 3, [], 0), (63, .iload_n 1, 1, [], 0), (64, .iaload, 1, [], 0), (65, .iastore, 1, [], 0), (66, .return_, 1, [], 0)]
theorem ck_X5_copy : cd_X5_copy.all (m_ick cX5_copy) = true ∧ m_ch cd_X5_copy = true := by decide +kernel
def cd_X5_cut : List mIN := [(0, .aload_n 0, 1, [], 0), (1, .getfield 13, 3, [], 0), (4, .iload_n 1, 1, [], 0), (5, .iaload, 1, [], 0), (6, .ifCond .le 38, 3, [44], 0), (9, .aload_n 0, 1, [], 0), (10, .getfield 7, 3, [], 0), (13, .sipush 260, 3, [], 260), (16, .iload_n 1, 1, [], 0), (17, .imul, 1, [], 0), (18, .aload_n 0, 1, [], 0), (19, .getfield 13, 3, [], 0), (22, .iload_n 1, 1, [], 0), (23, .iaload, 1, [], 0), (24, .iadd, 1, [], 0), (25, .iconst 1, 1, [], 1), (26, .isub, 1, [], 0), (27, .iaload, 1, [], 0), (28, .ifCond .ne 16, 3, [44], 0), (31, .aload_n 0, 1, [], 0), (32, .getfield 13, 3, [], 0), (35, .iload_n 1, 1, [], 0), (36, .dup2, 1, [], 0), (37, .iaload, 1, [], 0), (38, .iconst 1, 1, [], 1), (39, .isub, 1, [], 0), (40, .iastore, 1, [], 0), (41, .goto (-41), 3, [0], 0), (44, .aload_n 0, 1, [], 0), (45, .getfield 16, 3, [], 0), (48, .iload_n 1, 1, [], 0), (49, .aload_n 0, 1, [], 0), (50, .getfield 13, 3, [], 0), (53, .iload_n 1, 1, [], 0), (54, .iaload, 1, [], 0), (55, .ifCond .ne 7, 3, [62], 0), (58, .iconst 0, 1, [], 0), (59, .goto 9, 3, [68], 0), (62, .aload_n 0, 1, [], 0), (63, .getfield 16, 3, [], 0), (66, .iload_n 1, 1, [], 0), (67, .iaload, 1, [], 0), (68, .iastore, 1, [], 0), (69, .return_, 1, [], 0)]
theorem ck_X5_cut : cd_X5_cut.all (m_ick cX5_cut) = true ∧ m_ch cd_X5_cut = true := by decide +kernel
def cd_X5_compare : List mIN := [(0, .aload_n 0, 1, [], 0), (1, .getfield 13, 3, [], 0), (4, .iload_n 1, 1, [], 0), (5, .iaload, 1, [], 0), (6, .aload_n 0, 1, [], 0), (7, .getfield 13, 3, [], 0), (10, .iload_n 2, 1, [], 0), (11, .iaload, 1, [], 0), (12, .if_icmp .eq 24, 3, [36], 0), (15, .aload_n 0, 1, [], 0), (16, .getfield 13, 3, [], 0), (19, .iload_n 1, 1, [], 0), (20, .iaload, 1, [], 0), (21, .aload_n 0, 1, [], 0), (22, .getfield 13, 3, [], 0), (25, .iload_n 2, 1, [], 0), (26, .iaload, 1, [], 0), (27, .if_icmp .ge 7, 3, [34], 0), (30, .iconst (-1), 1, [], -1), (31, .goto 4, 3, [35], 0), (34, .iconst 1, 1, [], 1), (35, .ireturn, 1, [], 0), (36, .aload_n 0, 1, [], 0), (37, .getfield 13, 3, [], 0), (40, .iload_n 1, 1, [], 0), (41, .iaload, 1, [], 0), (42, .iconst 1, 1, [], 1), (43, .isub, 1, [], 0), (44, .istore_n 3, 1, [], 0), (45, .iload_n 3, 1, [], 0), (46, .ifCond .lt 57, 3, [103], 0), (49, .aload_n 0, 1, [], 0), (50, .getfield 7, 3, [], 0), (53, .sipush 260, 3, [], 260), (56, .iload_n 1, 1, [], 0), (57, .imul, 1, [], 0), (58, .iload_n 3, 1, [], 0), (59, .iadd, 1, [], 0), (60, .iaload, 1, [], 0), (61, .istore 4, 2, [], 0), (63, .aload_n 0, 1, [], 0), (64, .getfield 7, 3, [], 0), (67, .sipush 260, 3, [], 260), (70, .iload_n 2, 1, [], 0), (71, .imul, 1, [], 0), (72, .iload_n 3, 1, [], 0), (73, .iadd, 1, [], 0), (74, .iaload, 1, [], 0), (75, .istore 5, 2, [], 0), (77, .iload 4, 2, [], 0), (79, .iload 5, 2, [], 0), (81, .if_icmp .eq 16, 3, [97], 0), (84, .iload 4, 2, [], 0), (86, .iload 5, 2, [], 0), (88, .if_icmp .ge 7, 3, [95], 0), (91, .iconst (-1), 1, [], -1), (92, .goto 4, 3, [96], 0), (95, .iconst 1, 1, [], 1), (96, .ireturn, 1, [], 0), (97, .iinc 3 (-1), 3, [], -1), (100, .goto (-55), 3, [45], 0), (103, .iconst 0, 1, [], 0), (104, .ireturn, 1, [], 0)]
theorem ck_X5_compare : cd_X5_compare.all (m_ick cX5_compare) = true ∧ m_ch cd_X5_compare = true := by decide +kernel
def cd_X5_limb : List mIN := [(0, .iload_n 2, 1, [], 0), (1, .aload_n 0, 1, [], 0), (2, .getfield 13, 3, [], 0), (5, .iload_n 1, 1, [], 0), (6, .iaload, 1, [], 0), (7, .if_icmp .ge 18, 3, [25], 0), (10, .aload_n 0, 1, [], 0), (11, .getfield 7, 3, [], 0), (14, .sipush 260, 3, [], 260), (17, .iload_n 1, 1, [], 0), (18, .imul, 1, [], 0), (19, .iload_n 2, 1, [], 0), (20, .iadd, 1, [], 0), (21, .iaload, 1, [], 0), (22, .goto 4, 3, [26], 0), (25, .iconst 0, 1, [], 0), (26, .ireturn, 1, [], 0)]
theorem ck_X5_limb : cd_X5_limb.all (m_ick cX5_limb) = true ∧ m_ch cd_X5_limb = true := by decide +kernel
def cd_X5_join : List mIN := [(0, .aload_n 0, 1, [], 0), (1, .getfield 13, 3, [], 0), (4, .iload_n 1, 1, [], 0), (5, .iaload, 1, [], 0), (6, .aload_n 0, 1, [], 0), (7, .getfield 13, 3, [], 0), (10, .iload_n 2, 1, [], 0), (11, .iaload, 1, [], 0), (12, .if_icmp .le 12, 3, [24], 0), (15, .aload_n 0, 1, [], 0), (16, .getfield 13, 3, [], 0), (19, .iload_n 1, 1, [], 0), (20, .iaload, 1, [], 0), (21, .goto 9, 3, [30], 0), (24, .aload_n 0, 1, [], 0), (25, .getfield 13, 3, [], 0), (28, .iload_n 2, 1, [], 0), (29, .iaload, 1, [], 0), (30, .istore 4, 2, [], 0), (32, .iconst 0, 1, [], 0), (33, .istore 5, 2, [], 0), (35, .iconst 0, 1, [], 0), (36, .istore 6, 2, [], 0), (38, .iload 6, 2, [], 0), (40, .iload 4, 2, [], 0), (42, .if_icmp .ge 54, 3, [96], 0), (45, .iload 5, 2, [], 0), (47, .aload_n 0, 1, [], 0), (48, .iload_n 1, 1, [], 0), (49, .iload 6, 2, [], 0), (51, .invokevirtual 60, 3, [], 0), (54, .aload_n 0, 1, [], 0), (55, .iload_n 2, 1, [], 0), (56, .iload 6, 2, [], 0), (58, .invokevirtual 60, 3, [], 0), (61, .iadd, 1, [], 0), (62, .iadd, 1, [], 0), (63, .istore 5, 2, [], 0), (65, .aload_n 0, 1, [], 0), (66, .getfield 7, 3, [], 0), (69, .sipush 260, 3, [], 260), (72, .iload_n 3, 1, [], 0), (73, .imul, 1, [], 0), (74, .iload 6, 2, [], 0), (76, .iadd, 1, [], 0), (77, .iload 5, 2, [], 0), (79, .ldc 64, 2, [], 0), (81, .iand, 1, [], 0), (82, .iastore, 1, [], 0), (83, .iload 5, 2, [], 0), (85, .bipush 24, 2, [], 24), (87, .ishr, 1, [], 0), (88, .istore 5, 2, [], 0), (90, .iinc 6 1, 3, [], 1), (93, .goto (-55), 3, [38], 0), (96, .aload_n 0, 1, [], 0), (97, .getfield 7, 3, [], 0), (100, .sipush 260, 3, [], 260), (103, .iload_n 3, 1, [], 0), (104, .imul, 1, [], 0), (105, .iload 4, 2, [], 0), (107, .iadd, 1, [], 0), (108, .iload 5, 2, [], 0), (110, .iastore, 1, [], 0), (111, .aload_n 0, 1, [], 0), (112, .getfield 13, 3, [], 0), (115, .iload_n 3, 1, [], 0), (116, .iload 4, 2, [], 0), (118, .iconst 1, 1, [], 1), (119, .iadd, 1, [], 0), (120, .iastore, 1, [], 0), (121, .return_, 1, [], 0)]
theorem ck_X5_join : cd_X5_join.all (m_ick cX5_join) = true ∧ m_ch cd_X5_join = true := by decide +kernel
def cd_X5_less : List mIN := [(0, .aload_n 0, 1, [], 0), (1, .getfield 13, 3, [], 0), (4, .iload_n 1, 1, [], 0), (5, .iaload, 1, [], 0), (6, .istore 4, 2, [], 0), (8, .iconst 0, 1, [], 0), (9, .istore 5, 2, [], 0), (11, .iconst 0, 1, [], 0), (12, .istore 6, 2, [], 0), (14, .iload 6, 2, [], 0), (16, .iload 4, 2, [], 0), (18, .if_icmp .ge 62, 3, [80], 0), (21, .aload_n 0, 1, [], 0), (22, .iload_n 1, 1, [], 0), (23, .iload 6, 2, [], 0), (25, .invokevirtual 60, 3, [], 0), (28, .aload_n 0, 1, [], 0), (29, .iload_n 2, 1, [], 0), (30, .iload 6, 2, [], 0), (32, .invokevirtual 60, 3, [], 0), (35, .isub, 1, [], 0), (36, .iload 5, 2, [], 0), (38, .isub, 1, [], 0), (39, .istore 7, 2, [], 0), (41, .iload 7, 2, [], 0), (43, .ifCond .ge 7, 3, [50], 0), (46, .iconst 1, 1, [], 1), (47, .goto 4, 3, [51], 0), (50, .iconst 0, 1, [], 0), (51, .istore 5, 2, [], 0), (53, .aload_n 0, 1, [], 0), (54, .getfield 7, 3, [], 0), (57, .sipush 260, 3, [], 260), (60, .iload_n 3, 1, [], 0), (61, .imul, 1, [], 0), (62, .iload 6, 2, [], 0), (64, .iadd, 1, [], 0), (65, .iload 7, 2, [], 0), (67, .iload 5, 2, [], 0), (69, .ldc 65, 2, [], 0), (71, .imul, 1, [], 0), (72, .iadd, 1, [], 0), (73, .iastore, 1, [], 0), (74, .iinc 6 1, 3, [], 1), (77, .goto (-63), 3, [14], 0), (80, .aload_n 0, 1, [], 0), (81, .getfield 13, 3, [], 0), (84, .iload_n 3, 1, [], 0), (85, .iload 4, 2, [], 0), (87, .iastore, 1, [], 0), (88, .return_, 1, [], 0)]
theorem ck_X5_less : cd_X5_less.all (m_ick cX5_less) = true ∧ m_ch cd_X5_less = true := by decide +kernel
def cd_X5_add : List mIN := [(0, .aload_n 0, 1, [], 0), (1, .getfield 16, 3, [], 0), (4, .iload_n 2, 1, [], 0), (5, .iaload, 1, [], 0), (6, .iload_n 3, 1, [], 0), (7, .imul, 1, [], 0), (8, .istore 5, 2, [], 0), (10, .iload 5, 2, [], 0), (12, .ifCond .eq 12, 3, [24], 0), (15, .aload_n 0, 1, [], 0), (16, .getfield 16, 3, [], 0), (19, .iload_n 1, 1, [], 0), (20, .iaload, 1, [], 0), (21, .ifCond .ne 51, 3, [72], 0), (24, .iload 5, 2, [], 0), (26, .ifCond .ne 7, 3, [33], 0), (29, .iload_n 1, 1, [], 0), (30, .goto 4, 3, [34], 0), (33, .iload_n 2, 1, [], 0), (34, .istore 6, 2, [], 0), (36, .iload 5, 2, [], 0), (38, .ifCond .ne 12, 3, [50], 0), (41, .aload_n 0, 1, [], 0), (42, .getfield 16, 3, [], 0), (45, .iload_n 1, 1, [], 0), (46, .iaload, 1, [], 0), (47, .goto 5, 3, [52], 0), (50, .iload 5, 2, [], 0), (52, .istore 7, 2, [], 0), (54, .aload_n 0, 1, [], 0), (55, .iload 6, 2, [], 0), (57, .iload 4, 2, [], 0), (59, .invokevirtual 66, 3, [], 0), (62, .aload_n 0, 1, [], 0), (63, .getfield 16, 3, [], 0), (66, .iload 4, 2, [], 0), (68, .iload 7, 2, [], 0), (70, .iastore, 1, [], 0), (71, .return_, 1, [], 0), (72, .aload_n 0, 1, [], 0), (73, .getfield 16, 3, [], 0), (76, .iload_n 1, 1, [], 0), (77, .iaload, 1, [], 0), (78, .iload 5, 2, [], 0), (80, .if_icmp .ne 27, 3, [107], 0), (83, .iload 5, 2, [], 0), (85, .istore 6, 2, [], 0), (87, .aload_n 0, 1, [], 0), (88, .iload_n 1, 1, [], 0), (89, .iload_n 2, 1, [], 0), (90, .iload 4, 2, [], 0), (92, .invokevirtual 70, 3, [], 0), (95, .aload_n 0, 1, [], 0), (96, .getfield 16, 3, [], 0), (99, .iload 4, 2, [], 0), (101, .iload 6, 2, [], 0), (103, .iastore, 1, [], 0), (104, .goto 57, 3, [161], 0), (107, .aload_n 0, 1, [], 0), (108, .iload_n 1, 1, [], 0), (109, .iload_n 2, 1, [], 0), (110, .invokevirtual 74, 3, [], 0), (113, .ifCond .lt 31, 3, [144], 0), (116, .aload_n 0, 1, [], 0), (117, .getfield 16, 3, [], 0), (120, .iload_n 1, 1, [], 0), (121, .iaload, 1, [], 0), (122, .istore 6, 2, [], 0), (124, .aload_n 0, 1, [], 0), (125, .iload_n 1, 1, [], 0), (126, .iload_n 2, 1, [], 0), (127, .iload 4, 2, [], 0), (129, .invokevirtual 77, 3, [], 0), (132, .aload_n 0, 1, [], 0), (133, .getfield 16, 3, [], 0), (136, .iload 4, 2, [], 0), (138, .iload 6, 2, [], 0), (140, .iastore, 1, [], 0), (141, .goto 20, 3, [161], 0), (144, .aload_n 0, 1, [], 0), (145, .iload_n 2, 1, [], 0), (146, .iload_n 1, 1, [], 0), (147, .iload 4, 2, [], 0), (149, .invokevirtual 77, 3, [], 0), (152, .aload_n 0, 1, [], 0), (153, .getfield 16, 3, [], 0), (156, .iload 4, 2, [], 0), (158, .iload 5, 2, [], 0), (160, .iastore, 1, [], 0), (161, .aload_n 0, 1, [], 0), (162, .iload 4, 2, [], 0), (164, .invokevirtual 80, 3, [], 0), (167, .return_, 1, [], 0)]
theorem ck_X5_add : cd_X5_add.all (m_ick cX5_add) = true ∧ m_ch cd_X5_add = true := by decide +kernel
def cd_X5_multiply : List mIN := [(0, .aload_n 0, 1, [], 0), (1, .getfield 13, 3, [], 0), (4, .iload_n 1, 1, [], 0), (5, .iaload, 1, [], 0), (6, .aload_n 0, 1, [], 0), (7, .getfield 13, 3, [], 0), (10, .iload_n 2, 1, [], 0), (11, .iaload, 1, [], 0), (12, .iadd, 1, [], 0), (13, .istore 4, 2, [], 0), (15, .iconst 0, 1, [], 0), (16, .istore 5, 2, [], 0), (18, .iload 5, 2, [], 0), (20, .iload 4, 2, [], 0), (22, .if_icmp .ge 23, 3, [45], 0), (25, .aload_n 0, 1, [], 0), (26, .getfield 7, 3, [], 0), (29, .sipush 260, 3, [], 260), (32, .iload_n 3, 1, [], 0), (33, .imul, 1, [], 0), (34, .iload 5, 2, [], 0), (36, .iadd, 1, [], 0), (37, .iconst 0, 1, [], 0), (38, .iastore, 1, [], 0), (39, .iinc 5 1, 3, [], 1), (42, .goto (-24), 3, [18], 0), (45, .iconst 0, 1, [], 0), (46, .istore 5, 2, [], 0), (48, .iload 5, 2, [], 0), (50, .aload_n 0, 1, [], 0), (51, .getfield 13, 3, [], 0), (54, .iload_n 1, 1, [], 0), (55, .iaload, 1, [], 0), (56, .if_icmp .ge 141, 3, [197], 0), (59, .lconst 0, 1, [], 0), (60, .lstore 6, 2, [], 0), (62, .aload_n 0, 1, [], 0), (63, .getfield 7, 3, [], 0), (66, .sipush 260, 3, [], 260), (69, .iload_n 1, 1, [], 0), (70, .imul, 1, [], 0), (71, .iload 5, 2, [], 0), (73, .iadd, 1, [], 0), (74, .iaload, 1, [], 0), (75, .i2l, 1, [], 0), (76, .lstore 8, 2, [], 0), (78, .iconst 0, 1, [], 0), (79, .istore 10, 2, [], 0), (81, .iload 10, 2, [], 0), (83, .aload_n 0, 1, [], 0), (84, .getfield 13, 3, [], 0), (87, .iload_n 2, 1, [], 0), (88, .iaload, 1, [], 0), (89, .if_icmp .ge 79, 3, [168], 0), (92, .lload 6, 2, [], 0), (94, .lload 8, 2, [], 0), (96, .aload_n 0, 1, [], 0), (97, .getfield 7, 3, [], 0), (100, .sipush 260, 3, [], 260), (103, .iload_n 2, 1, [], 0), (104, .imul, 1, [], 0), (105, .iload 10, 2, [], 0), (107, .iadd, 1, [], 0), (108, .iaload, 1, [], 0), (109, .i2l, 1, [], 0), (110, .lmul, 1, [], 0), (111, .aload_n 0, 1, [], 0), (112, .getfield 7, 3, [], 0), (115, .sipush 260, 3, [], 260), (118, .iload_n 3, 1, [], 0), (119, .imul, 1, [], 0), (120, .iload 5, 2, [], 0), (122, .iadd, 1, [], 0), (123, .iload 10, 2, [], 0), (125, .iadd, 1, [], 0), (126, .iaload, 1, [], 0), (127, .i2l, 1, [], 0), (128, .ladd, 1, [], 0), (129, .ladd, 1, [], 0), (130, .lstore 6, 2, [], 0), (132, .aload_n 0, 1, [], 0), (133, .getfield 7, 3, [], 0), (136, .sipush 260, 3, [], 260), (139, .iload_n 3, 1, [], 0), (140, .imul, 1, [], 0), (141, .iload 5, 2, [], 0), (143, .iadd, 1, [], 0), (144, .iload 10, 2, [], 0), (146, .iadd, 1, [], 0), (147, .lload 6, 2, [], 0), (149, .ldc2_w 58, 3, [], 0), (152, .land, 1, [], 0), (153, .l2i, 1, [], 0), (154, .iastore, 1, [], 0), (155, .lload 6, 2, [], 0), (157, .bipush 24, 2, [], 24), (159, .lshr, 1, [], 0), (160, .lstore 6, 2, [], 0), (162, .iinc 10 1, 3, [], 1), (165, .goto (-84), 3, [81], 0), (168, .aload_n 0, 1, [], 0), (169, .getfield 7, 3, [], 0), (172, .sipush 260, 3, [], 260), (175, .iload_n 3, 1, [], 0), (176, .imul, 1, [], 0), (177, .iload 5, 2, [], 0), (179, .iadd, 1, [], 0), (180, .aload_n 0, 1, [], 0), (181, .getfield 13, 3, [], 0), (184, .iload_n 2, 1, [], 0), (185, .iaload, 1, [], 0), (186, .iadd, 1, [], 0), (187, .lload 6, 2, [], 0), (189, .l2i, 1, [], 0), (190, .iastore, 1, [], 0), (191, .iinc 5 1, 3, [], 1), (194, .goto (-146), 3, [48], 0), (197, .aload_n 0, 1, [], 0), (198, .getfield 13, 3, [], 0), (201, .iload_n 3, 1, [], 0), (202, .iload 4, 2, [], 0), (204, .iastore, 1, [], 0), (205, .aload_n 0, 1, [], 0), (206, .getfield 16, 3, [], 0), (209, .iload_n 3, 1, [], 0), (210, .aload_n 0, 1, [], 0), (211, .getfield 16, 3, [], 0), (214, .iload_n 1, 1, [], 0), (215, .iaload, 1, [], 0), (216, .aload_n 0, 1, [], 0), (217, .getfield 16, 3, [], 0), (220, .iload_n 2, 1, [], 0), (221, .iaload, 1, [], 0), (222, .imul, 1, [], 0), (223, .iastore, 1, [], 0), (224, .aload_n 0, 1, [], 0), (225, .iload_n 3, 1, [], 0), (226, .invokevirtual 80, 3, [], 0), (229, .return_, 1, [], 0)]
theorem ck_X5_multiply : cd_X5_multiply.all (m_ick cX5_multiply) = true ∧ m_ch cd_X5_multiply = true := by decide +kernel
def cd_X5_times : List mIN := [(0, .aload_n 0, 1, [], 0), (1, .bipush 6, 2, [], 6), (3, .lload_n 2, 1, [], 0), (4, .invokevirtual 50, 3, [], 0), (7, .aload_n 0, 1, [], 0), (8, .iload_n 1, 1, [], 0), (9, .bipush 6, 2, [], 6), (11, .iconst 5, 1, [], 5), (12, .invokevirtual 84, 3, [], 0), (15, .aload_n 0, 1, [], 0), (16, .iconst 5, 1, [], 5), (17, .iload_n 1, 1, [], 0), (18, .invokevirtual 66, 3, [], 0), (21, .return_, 1, [], 0)]
theorem ck_X5_times : cd_X5_times.all (m_ick cX5_times) = true ∧ m_ch cd_X5_times = true := by decide +kernel
def cd_X5_bitsOf : List mIN := [(0, .aload_n 0, 1, [], 0), (1, .getfield 13, 3, [], 0), (4, .iload_n 1, 1, [], 0), (5, .iaload, 1, [], 0), (6, .ifCond .ne 5, 3, [11], 0), (9, .iconst 0, 1, [], 0), (10, .ireturn, 1, [], 0), (11, .iconst 0, 1, [], 0), (12, .istore_n 2, 1, [], 0), (13, .aload_n 0, 1, [], 0), (14, .getfield 7, 3, [], 0), (17, .sipush 260, 3, [], 260), (20, .iload_n 1, 1, [], 0), (21, .imul, 1, [], 0), (22, .aload_n 0, 1, [], 0), (23, .getfield 13, 3, [], 0), (26, .iload_n 1, 1, [], 0), (27, .iaload, 1, [], 0), (28, .iadd, 1, [], 0), (29, .iconst 1, 1, [], 1), (30, .isub, 1, [], 0), (31, .iaload, 1, [], 0), (32, .iload_n 2, 1, [], 0), (33, .ishr, 1, [], 0), (34, .ifCond .eq 9, 3, [43], 0), (37, .iinc 2 1, 3, [], 1), (40, .goto (-27), 3, [13], 0), (43, .bipush 24, 2, [], 24), (45, .aload_n 0, 1, [], 0), (46, .getfield 13, 3, [], 0), (49, .iload_n 1, 1, [], 0), (50, .iaload, 1, [], 0), (51, .iconst 1, 1, [], 1), (52, .isub, 1, [], 0), (53, .imul, 1, [], 0), (54, .iload_n 2, 1, [], 0), (55, .iadd, 1, [], 0), (56, .ireturn, 1, [], 0)]
theorem ck_X5_bitsOf : cd_X5_bitsOf.all (m_ick cX5_bitsOf) = true ∧ m_ch cd_X5_bitsOf = true := by decide +kernel
def cd_X5_halve : List mIN := [(0, .iconst 0, 1, [], 0), (1, .istore_n 2, 1, [], 0), (2, .iload_n 2, 1, [], 0), (3, .aload_n 0, 1, [], 0), (4, .getfield 13, 3, [], 0), (7, .iload_n 1, 1, [], 0), (8, .iaload, 1, [], 0), (9, .if_icmp .ge 49, 3, [58], 0), (12, .aload_n 0, 1, [], 0), (13, .getfield 7, 3, [], 0), (16, .sipush 260, 3, [], 260), (19, .iload_n 1, 1, [], 0), (20, .imul, 1, [], 0), (21, .iload_n 2, 1, [], 0), (22, .iadd, 1, [], 0), (23, .aload_n 0, 1, [], 0), (24, .getfield 7, 3, [], 0), (27, .sipush 260, 3, [], 260), (30, .iload_n 1, 1, [], 0), (31, .imul, 1, [], 0), (32, .iload_n 2, 1, [], 0), (33, .iadd, 1, [], 0), (34, .iaload, 1, [], 0), (35, .iconst 1, 1, [], 1), (36, .ishr, 1, [], 0), (37, .aload_n 0, 1, [], 0), (38, .iload_n 1, 1, [], 0), (39, .iload_n 2, 1, [], 0), (40, .iconst 1, 1, [], 1), (41, .iadd, 1, [], 0), (42, .invokevirtual 60, 3, [], 0), (45, .iconst 1, 1, [], 1), (46, .iand, 1, [], 0), (47, .bipush 23, 2, [], 23), (49, .ishl, 1, [], 0), (50, .ior, 1, [], 0), (51, .iastore, 1, [], 0), (52, .iinc 2 1, 3, [], 1), (55, .goto (-53), 3, [2], 0), (58, .aload_n 0, 1, [], 0), (59, .iload_n 1, 1, [], 0), (60, .invokevirtual 80, 3, [], 0), (63, .return_, 1, [], 0)]
theorem ck_X5_halve : cd_X5_halve.all (m_ick cX5_halve) = true ∧ m_ch cd_X5_halve = true := by decide +kernel
def cd_X5_twice : List mIN := [(0, .iload_n 2, 1, [], 0), (1, .istore_n 3, 1, [], 0), (2, .iconst 0, 1, [], 0), (3, .istore 4, 2, [], 0), (5, .iload 4, 2, [], 0), (7, .aload_n 0, 1, [], 0), (8, .getfield 13, 3, [], 0), (11, .iload_n 1, 1, [], 0), (12, .iaload, 1, [], 0), (13, .if_icmp .ge 52, 3, [65], 0), (16, .aload_n 0, 1, [], 0), (17, .getfield 7, 3, [], 0), (20, .sipush 260, 3, [], 260), (23, .iload_n 1, 1, [], 0), (24, .imul, 1, [], 0), (25, .iload 4, 2, [], 0), (27, .iadd, 1, [], 0), (28, .iaload, 1, [], 0), (29, .iconst 2, 1, [], 2), (30, .imul, 1, [], 0), (31, .iload_n 3, 1, [], 0), (32, .iadd, 1, [], 0), (33, .istore 5, 2, [], 0), (35, .aload_n 0, 1, [], 0), (36, .getfield 7, 3, [], 0), (39, .sipush 260, 3, [], 260), (42, .iload_n 1, 1, [], 0), (43, .imul, 1, [], 0), (44, .iload 4, 2, [], 0), (46, .iadd, 1, [], 0), (47, .iload 5, 2, [], 0), (49, .ldc 64, 2, [], 0), (51, .iand, 1, [], 0), (52, .iastore, 1, [], 0), (53, .iload 5, 2, [], 0), (55, .bipush 24, 2, [], 24), (57, .ishr, 1, [], 0), (58, .istore_n 3, 1, [], 0), (59, .iinc 4 1, 3, [], 1), (62, .goto (-57), 3, [5], 0), (65, .iload_n 3, 1, [], 0), (66, .ifCond .le 38, 3, [104], 0), (69, .aload_n 0, 1, [], 0), (70, .getfield 7, 3, [], 0), (73, .sipush 260, 3, [], 260), (76, .iload_n 1, 1, [], 0), (77, .imul, 1, [], 0), (78, .aload_n 0, 1, [], 0), (79, .getfield 13, 3, [], 0), (82, .iload_n 1, 1, [], 0), (83, .iaload, 1, [], 0), (84, .iadd, 1, [], 0), (85, .iload_n 3, 1, [], 0), (86, .iastore, 1, [], 0), (87, .aload_n 0, 1, [], 0), (88, .getfield 13, 3, [], 0), (91, .iload_n 1, 1, [], 0), (92, .dup2, 1, [], 0), (93, .iaload, 1, [], 0), (94, .iconst 1, 1, [], 1), (95, .iadd, 1, [], 0), (96, .iastore, 1, [], 0), (97, .aload_n 0, 1, [], 0), (98, .getfield 16, 3, [], 0), (101, .iload_n 1, 1, [], 0), (102, .iconst 1, 1, [], 1), (103, .iastore, 1, [], 0), (104, .return_, 1, [], 0)]
theorem ck_X5_twice : cd_X5_twice.all (m_ick cX5_twice) = true ∧ m_ch cd_X5_twice = true := by decide +kernel
def cd_X5_isEven : List mIN := [(0, .aload_n 0, 1, [], 0), (1, .iload_n 1, 1, [], 0), (2, .iconst 0, 1, [], 0), (3, .invokevirtual 60, 3, [], 0), (6, .iconst 1, 1, [], 1), (7, .iand, 1, [], 0), (8, .ifCond .ne 7, 3, [15], 0), (11, .iconst 1, 1, [], 1), (12, .goto 4, 3, [16], 0), (15, .iconst 0, 1, [], 0), (16, .ireturn, 1, [], 0)]
theorem ck_X5_isEven : cd_X5_isEven.all (m_ick cX5_isEven) = true ∧ m_ch cd_X5_isEven = true := by decide +kernel
def cd_X5_findCommon : List mIN := [(0, .aload_n 0, 1, [], 0), (1, .iload_n 1, 1, [], 0), (2, .bipush 7, 2, [], 7), (4, .invokevirtual 66, 3, [], 0), (7, .aload_n 0, 1, [], 0), (8, .iload_n 2, 1, [], 0), (9, .bipush 8, 2, [], 8), (11, .invokevirtual 66, 3, [], 0), (14, .aload_n 0, 1, [], 0), (15, .getfield 16, 3, [], 0), (18, .bipush 7, 2, [], 7), (20, .iconst 1, 1, [], 1), (21, .iastore, 1, [], 0), (22, .aload_n 0, 1, [], 0), (23, .getfield 16, 3, [], 0), (26, .bipush 8, 2, [], 8), (28, .iconst 1, 1, [], 1), (29, .iastore, 1, [], 0), (30, .iconst 0, 1, [], 0), (31, .istore_n 3, 1, [], 0), (32, .aload_n 0, 1, [], 0), (33, .bipush 7, 2, [], 7), (35, .invokevirtual 87, 3, [], 0), (38, .ifCond .eq 30, 3, [68], 0), (41, .aload_n 0, 1, [], 0), (42, .bipush 8, 2, [], 8), (44, .invokevirtual 87, 3, [], 0), (47, .ifCond .eq 21, 3, [68], 0), (50, .aload_n 0, 1, [], 0), (51, .bipush 7, 2, [], 7), (53, .invokevirtual 91, 3, [], 0), (56, .aload_n 0, 1, [], 0), (57, .bipush 8, 2, [], 8), (59, .invokevirtual 91, 3, [], 0), (62, .iinc 3 1, 3, [], 1), (65, .goto (-33), 3, [32], 0), (68, .aload_n 0, 1, [], 0), (69, .getfield 13, 3, [], 0), (72, .bipush 8, 2, [], 8), (74, .iaload, 1, [], 0), (75, .ifCond .le 112, 3, [187], 0), (78, .aload_n 0, 1, [], 0), (79, .bipush 7, 2, [], 7), (81, .invokevirtual 87, 3, [], 0), (84, .ifCond .eq 12, 3, [96], 0), (87, .aload_n 0, 1, [], 0), (88, .bipush 7, 2, [], 7), (90, .invokevirtual 91, 3, [], 0), (93, .goto (-15), 3, [78], 0), (96, .aload_n 0, 1, [], 0), (97, .bipush 8, 2, [], 8), (99, .invokevirtual 87, 3, [], 0), (102, .ifCond .eq 12, 3, [114], 0), (105, .aload_n 0, 1, [], 0), (106, .bipush 8, 2, [], 8), (108, .invokevirtual 91, 3, [], 0), (111, .goto (-15), 3, [96], 0), (114, .aload_n 0, 1, [], 0), (115, .bipush 7, 2, [], 7), (117, .bipush 8, 2, [], 8), (119, .invokevirtual 74, 3, [], 0), (122, .ifCond .le 46, 3, [168], 0), (125, .aload_n 0, 1, [], 0), (126, .bipush 7, 2, [], 7), (128, .bipush 8, 2, [], 8), (130, .bipush 7, 2, [], 7), (132, .invokevirtual 77, 3, [], 0), (135, .aload_n 0, 1, [], 0), (136, .bipush 7, 2, [], 7), (138, .invokevirtual 80, 3, [], 0), (141, .aload_n 0, 1, [], 0), (142, .bipush 7, 2, [], 7), (144, .bipush 10, 2, [], 10), (146, .invokevirtual 66, 3, [], 0), (149, .aload_n 0, 1, [], 0), (150, .bipush 8, 2, [], 8), (152, .bipush 7, 2, [], 7), (154, .invokevirtual 66, 3, [], 0), (157, .aload_n 0, 1, [], 0), (158, .bipush 10, 2, [], 10), (160, .bipush 8, 2, [], 8), (162, .invokevirtual 66, 3, [], 0), (165, .goto (-97), 3, [68], 0), (168, .aload_n 0, 1, [], 0), (169, .bipush 8, 2, [], 8), (171, .bipush 7, 2, [], 7), (173, .bipush 8, 2, [], 8), (175, .invokevirtual 77, 3, [], 0), (178, .aload_n 0, 1, [], 0), (179, .bipush 8, 2, [], 8), (181, .invokevirtual 80, 3, [], 0), (184, .goto (-116), 3, [68], 0), (187, .iconst 0, 1, [], 0), (188, .istore 4, 2, [], 0), (190, .iload 4, 2, [], 0), (192, .iload_n 3, 1, [], 0), (193, .if_icmp .ge 16, 3, [209], 0), (196, .aload_n 0, 1, [], 0), (197, .bipush 7, 2, [], 7), (199, .iconst 0, 1, [], 0), (200, .invokevirtual 94, 3, [], 0), (203, .iinc 4 1, 3, [], 1), (206, .goto (-16), 3, [190], 0), (209, .return_, 1, [], 0)]
theorem ck_X5_findCommon : cd_X5_findCommon.all (m_ick cX5_findCommon) = true ∧ m_ch cd_X5_findCommon = true := by decide +kernel
def cd_X5_divide : List mIN := [(0, .aload_n 0, 1, [], 0), (1, .getfield 16, 3, [], 0), (4, .iload_n 1, 1, [], 0), (5, .iaload, 1, [], 0), (6, .istore_n 2, 1, [], 0), (7, .aload_n 0, 1, [], 0), (8, .bipush 9, 2, [], 9), (10, .lconst 0, 1, [], 0), (11, .invokevirtual 50, 3, [], 0), (14, .aload_n 0, 1, [], 0), (15, .bipush 10, 2, [], 10), (17, .lconst 0, 1, [], 0), (18, .invokevirtual 50, 3, [], 0), (21, .aload_n 0, 1, [], 0), (22, .iload_n 1, 1, [], 0), (23, .invokevirtual 97, 3, [], 0), (26, .iconst 1, 1, [], 1), (27, .isub, 1, [], 0), (28, .istore_n 3, 1, [], 0), (29, .iload_n 3, 1, [], 0), (30, .ifCond .lt 78, 3, [108], 0), (33, .aload_n 0, 1, [], 0), (34, .bipush 10, 2, [], 10), (36, .aload_n 0, 1, [], 0), (37, .getfield 7, 3, [], 0), (40, .sipush 260, 3, [], 260), (43, .iload_n 1, 1, [], 0), (44, .imul, 1, [], 0), (45, .iload_n 3, 1, [], 0), (46, .bipush 24, 2, [], 24), (48, .idiv, 1, [], 0), (49, .iadd, 1, [], 0), (50, .iaload, 1, [], 0), (51, .iload_n 3, 1, [], 0), (52, .bipush 24, 2, [], 24), (54, .irem, 1, [], 0), (55, .ishr, 1, [], 0), (56, .iconst 1, 1, [], 1), (57, .iand, 1, [], 0), (58, .invokevirtual 94, 3, [], 0), (61, .iconst 0, 1, [], 0), (62, .istore 4, 2, [], 0), (64, .aload_n 0, 1, [], 0), (65, .bipush 10, 2, [], 10), (67, .bipush 7, 2, [], 7), (69, .invokevirtual 74, 3, [], 0), (72, .ifCond .lt 22, 3, [94], 0), (75, .aload_n 0, 1, [], 0), (76, .bipush 10, 2, [], 10), (78, .bipush 7, 2, [], 7), (80, .bipush 10, 2, [], 10), (82, .invokevirtual 77, 3, [], 0), (85, .aload_n 0, 1, [], 0), (86, .bipush 10, 2, [], 10), (88, .invokevirtual 80, 3, [], 0), (91, .iconst 1, 1, [], 1), (92, .istore 4, 2, [], 0), (94, .aload_n 0, 1, [], 0), (95, .bipush 9, 2, [], 9), (97, .iload 4, 2, [], 0), (99, .invokevirtual 94, 3, [], 0), (102, .iinc 3 (-1), 3, [], -1), (105, .goto (-76), 3, [29], 0), (108, .aload_n 0, 1, [], 0), (109, .bipush 9, 2, [], 9), (111, .iload_n 1, 1, [], 0), (112, .invokevirtual 66, 3, [], 0), (115, .aload_n 0, 1, [], 0), (116, .getfield 16, 3, [], 0), (119, .iload_n 1, 1, [], 0), (120, .aload_n 0, 1, [], 0), (121, .getfield 13, 3, [], 0), (124, .iload_n 1, 1, [], 0), (125, .iaload, 1, [], 0), (126, .ifCond .ne 7, 3, [133], 0), (129, .iconst 0, 1, [], 0), (130, .goto 4, 3, [134], 0), (133, .iload_n 2, 1, [], 0), (134, .iastore, 1, [], 0), (135, .return_, 1, [], 0)]
theorem ck_X5_divide : cd_X5_divide.all (m_ick cX5_divide) = true ∧ m_ch cd_X5_divide = true := by decide +kernel
def cd_X5_shorten : List mIN := [(0, .aload_n 0, 1, [], 0), (1, .getfield 16, 3, [], 0), (4, .iload_n 1, 1, [], 0), (5, .iaload, 1, [], 0), (6, .ifCond .ne 10, 3, [16], 0), (9, .aload_n 0, 1, [], 0), (10, .iload_n 2, 1, [], 0), (11, .lconst 1, 1, [], 0), (12, .invokevirtual 50, 3, [], 0), (15, .return_, 1, [], 0), (16, .aload_n 0, 1, [], 0), (17, .getfield 16, 3, [], 0), (20, .iload_n 2, 1, [], 0), (21, .iaload, 1, [], 0), (22, .ifCond .ge 23, 3, [45], 0), (25, .aload_n 0, 1, [], 0), (26, .getfield 16, 3, [], 0), (29, .iload_n 2, 1, [], 0), (30, .iconst 1, 1, [], 1), (31, .iastore, 1, [], 0), (32, .aload_n 0, 1, [], 0), (33, .getfield 16, 3, [], 0), (36, .iload_n 1, 1, [], 0), (37, .aload_n 0, 1, [], 0), (38, .getfield 16, 3, [], 0), (41, .iload_n 1, 1, [], 0), (42, .iaload, 1, [], 0), (43, .ineg, 1, [], 0), (44, .iastore, 1, [], 0), (45, .aload_n 0, 1, [], 0), (46, .iload_n 1, 1, [], 0), (47, .iload_n 2, 1, [], 0), (48, .invokevirtual 101, 3, [], 0), (51, .aload_n 0, 1, [], 0), (52, .bipush 7, 2, [], 7), (54, .invokevirtual 97, 3, [], 0), (57, .iconst 1, 1, [], 1), (58, .if_icmp .le 13, 3, [71], 0), (61, .aload_n 0, 1, [], 0), (62, .iload_n 1, 1, [], 0), (63, .invokevirtual 104, 3, [], 0), (66, .aload_n 0, 1, [], 0), (67, .iload_n 2, 1, [], 0), (68, .invokevirtual 104, 3, [], 0), (71, .return_, 1, [], 0)]
theorem ck_X5_shorten : cd_X5_shorten.all (m_ick cX5_shorten) = true ∧ m_ch cd_X5_shorten = true := by decide +kernel
def cd_X5_lay : List mIN := [(0, .aload_n 0, 1, [], 0), (1, .iload_n 1, 1, [], 0), (2, .iload_n 2, 1, [], 0), (3, .invokevirtual 107, 3, [], 0), (6, .aload_n 0, 1, [], 0), (7, .iload_n 1, 1, [], 0), (8, .iconst 0, 1, [], 0), (9, .invokevirtual 66, 3, [], 0), (12, .aload_n 0, 1, [], 0), (13, .iload_n 2, 1, [], 0), (14, .iconst 1, 1, [], 1), (15, .invokevirtual 66, 3, [], 0), (18, .aload_n 0, 1, [], 0), (19, .invokevirtual 110, 3, [], 0), (22, .ireturn, 1, [], 0)]
theorem ck_X5_lay : cd_X5_lay.all (m_ick cX5_lay) = true ∧ m_ch cd_X5_lay = true := by decide +kernel
def cd_X5_power : List mIN := [(0, .lconst 1, 1, [], 0), (1, .lstore_n 3, 1, [], 0), (2, .iconst 0, 1, [], 0), (3, .istore 5, 2, [], 0), (5, .iload 5, 2, [], 0), (7, .iload_n 2, 1, [], 0), (8, .if_icmp .ge 13, 3, [21], 0), (11, .lload_n 3, 1, [], 0), (12, .lload_n 0, 1, [], 0), (13, .lmul, 1, [], 0), (14, .lstore_n 3, 1, [], 0), (15, .iinc 5 1, 3, [], 1), (18, .goto (-13), 3, [5], 0), (21, .lload_n 3, 1, [], 0), (22, .lreturn, 1, [], 0)]
theorem ck_X5_power : cd_X5_power.all (m_ick cX5_power) = true ∧ m_ch cd_X5_power = true := by decide +kernel
def cd_X5_begin : List mIN := [(0, .aload_n 0, 1, [], 0), (1, .iload_n 1, 1, [], 0), (2, .putfield 113, 3, [], 0), (5, .aload_n 0, 1, [], 0), (6, .bipush 11, 2, [], 11), (8, .putfield 54, 3, [], 0), (11, .aload_n 0, 1, [], 0), (12, .iconst 0, 1, [], 0), (13, .putfield 116, 3, [], 0), (16, .aload_n 0, 1, [], 0), (17, .iconst 0, 1, [], 0), (18, .putfield 120, 3, [], 0), (21, .iconst 0, 1, [], 0), (22, .istore_n 2, 1, [], 0), (23, .iload_n 2, 1, [], 0), (24, .bipush 11, 2, [], 11), (26, .if_icmp .gt 16, 3, [42], 0), (29, .aload_n 0, 1, [], 0), (30, .getfield 19, 3, [], 0), (33, .iload_n 2, 1, [], 0), (34, .lconst 0, 1, [], 0), (35, .lastore, 1, [], 0), (36, .iinc 2 1, 3, [], 1), (39, .goto (-16), 3, [23], 0), (42, .return_, 1, [], 0)]
theorem ck_X5_begin : cd_X5_begin.all (m_ick cX5_begin) = true ∧ m_ch cd_X5_begin = true := by decide +kernel
def cd_X5_addWeight : List mIN := [(0, .iconst 0, 1, [], 0), (1, .istore 4, 2, [], 0), (3, .iload 4, 2, [], 0), (5, .bipush 11, 2, [], 11), (7, .if_icmp .gt 28, 3, [35], 0), (10, .aload_n 0, 1, [], 0), (11, .getfield 19, 3, [], 0), (14, .iload 4, 2, [], 0), (16, .dup2, 1, [], 0), (17, .laload, 1, [], 0), (18, .lload_n 2, 1, [], 0), (19, .iload_n 1, 1, [], 0), (20, .i2l, 1, [], 0), (21, .iload 4, 2, [], 0), (23, .invokestatic 123, 3, [], 0), (26, .lmul, 1, [], 0), (27, .ladd, 1, [], 0), (28, .lastore, 1, [], 0), (29, .iinc 4 1, 3, [], 1), (32, .goto (-29), 3, [3], 0), (35, .return_, 1, [], 0)]
theorem ck_X5_addWeight : cd_X5_addWeight.all (m_ick cX5_addWeight) = true ∧ m_ch cd_X5_addWeight = true := by decide +kernel
def cd_X5_clear : List mIN := [(0, .aload_n 0, 1, [], 0), (1, .getfield 54, 3, [], 0), (4, .istore_n 1, 1, [], 0), (5, .aload_n 0, 1, [], 0), (6, .iconst 0, 1, [], 0), (7, .invokevirtual 127, 3, [], 0), (10, .iload_n 1, 1, [], 0), (11, .ireturn, 1, [], 0)]
theorem ck_X5_clear : cd_X5_clear.all (m_ick cX5_clear) = true ∧ m_ch cd_X5_clear = true := by decide +kernel
def cd_X5_point : List mIN := [(0, .iload_n 1, 1, [], 0), (1, .i2l, 1, [], 0), (2, .ldc2_w 130, 3, [], 0), (5, .ldc2_w 132, 3, [], 0), (8, .invokestatic 134, 3, [], 0), (11, .ifCond .eq 21, 3, [32], 0), (14, .iload_n 2, 1, [], 0), (15, .i2l, 1, [], 0), (16, .ldc2_w 138, 3, [], 0), (19, .ldc2_w 140, 3, [], 0), (22, .invokestatic 134, 3, [], 0), (25, .ifCond .eq 7, 3, [32], 0), (28, .iload_n 2, 1, [], 0), (29, .ifCond .ne 6, 3, [35], 0), (32, .bipush (-2), 2, [], -2), (34, .ireturn, 1, [], 0), (35, .aload_n 0, 1, [], 0), (36, .getfield 113, 3, [], 0), (39, .ifCond .ne 10, 3, [49], 0), (42, .aload_n 0, 1, [], 0), (43, .getfield 116, 3, [], 0), (46, .ifCond .eq 6, 3, [52], 0), (49, .bipush (-3), 2, [], -3), (51, .ireturn, 1, [], 0), (52, .iconst 0, 1, [], 0), (53, .istore_n 3, 1, [], 0), (54, .iload_n 3, 1, [], 0), (55, .aload_n 0, 1, [], 0), (56, .getfield 120, 3, [], 0), (59, .if_icmp .ge 19, 3, [78], 0), (62, .aload_n 0, 1, [], 0), (63, .getfield 23, 3, [], 0), (66, .iload_n 3, 1, [], 0), (67, .iaload, 1, [], 0), (68, .iload_n 1, 1, [], 0), (69, .if_icmp .eq 9, 3, [78], 0), (72, .iinc 3 1, 3, [], 1), (75, .goto (-21), 3, [54], 0), (78, .iload_n 3, 1, [], 0), (79, .bipush 10, 2, [], 10), (81, .if_icmp .ne 6, 3, [87], 0), (84, .bipush (-4), 2, [], -4), (86, .ireturn, 1, [], 0), (87, .iload_n 2, 1, [], 0), (88, .iload_n 3, 1, [], 0), (89, .aload_n 0, 1, [], 0), (90, .getfield 120, 3, [], 0), (93, .if_icmp .ge 12, 3, [105], 0), (96, .aload_n 0, 1, [], 0), (97, .getfield 26, 3, [], 0), (100, .iload_n 3, 1, [], 0), (101, .iaload, 1, [], 0), (102, .goto 4, 3, [106], 0), (105, .iconst 0, 1, [], 0), (106, .iadd, 1, [], 0), (107, .istore 4, 2, [], 0), (109, .iload 4, 2, [], 0), (111, .i2l, 1, [], 0), (112, .ldc2_w 138, 3, [], 0), (115, .ldc2_w 140, 3, [], 0), (118, .invokestatic 134, 3, [], 0), (121, .ifCond .ne 6, 3, [127], 0), (124, .bipush (-5), 2, [], -5), (126, .ireturn, 1, [], 0), (127, .aload_n 0, 1, [], 0), (128, .getfield 23, 3, [], 0), (131, .iload_n 3, 1, [], 0), (132, .iload_n 1, 1, [], 0), (133, .iastore, 1, [], 0), (134, .aload_n 0, 1, [], 0), (135, .getfield 26, 3, [], 0), (138, .iload_n 3, 1, [], 0), (139, .iload 4, 2, [], 0), (141, .iastore, 1, [], 0), (142, .aload_n 0, 1, [], 0), (143, .iload_n 3, 1, [], 0), (144, .aload_n 0, 1, [], 0), (145, .getfield 120, 3, [], 0), (148, .if_icmp .ne 12, 3, [160], 0), (151, .aload_n 0, 1, [], 0), (152, .getfield 120, 3, [], 0), (155, .iconst 1, 1, [], 1), (156, .iadd, 1, [], 0), (157, .goto 7, 3, [164], 0), (160, .aload_n 0, 1, [], 0), (161, .getfield 120, 3, [], 0), (164, .putfield 120, 3, [], 0), (167, .iload 4, 2, [], 0), (169, .ifCond .ne 43, 3, [212], 0), (172, .aload_n 0, 1, [], 0), (173, .dup, 1, [], 0), (174, .getfield 120, 3, [], 0), (177, .iconst 1, 1, [], 1), (178, .isub, 1, [], 0), (179, .putfield 120, 3, [], 0), (182, .aload_n 0, 1, [], 0), (183, .getfield 23, 3, [], 0), (186, .iload_n 3, 1, [], 0), (187, .aload_n 0, 1, [], 0), (188, .getfield 23, 3, [], 0), (191, .aload_n 0, 1, [], 0), (192, .getfield 120, 3, [], 0), (195, .iaload, 1, [], 0), (196, .iastore, 1, [], 0), (197, .aload_n 0, 1, [], 0), (198, .getfield 26, 3, [], 0), (201, .iload_n 3, 1, [], 0), (202, .aload_n 0, 1, [], 0), (203, .getfield 26, 3, [], 0), (206, .aload_n 0, 1, [], 0), (207, .getfield 120, 3, [], 0), (210, .iaload, 1, [], 0), (211, .iastore, 1, [], 0), (212, .aload_n 0, 1, [], 0), (213, .iload_n 1, 1, [], 0), (214, .iload_n 2, 1, [], 0), (215, .i2l, 1, [], 0), (216, .invokevirtual 142, 3, [], 0), (219, .aload_n 0, 1, [], 0), (220, .getfield 120, 3, [], 0), (223, .ireturn, 1, [], 0)]
theorem ck_X5_point : cd_X5_point.all (m_ick cX5_point) = true ∧ m_ch cd_X5_point = true := by decide +kernel
def cd_X5_moment : List mIN := [(0, .iload_n 1, 1, [], 0), (1, .i2l, 1, [], 0), (2, .lconst 0, 1, [], 0), (3, .ldc2_w 145, 3, [], 0), (6, .invokestatic 134, 3, [], 0), (9, .ifCond .ne 5, 3, [14], 0), (12, .iconst (-1), 1, [], -1), (13, .ireturn, 1, [], 0), (14, .iload_n 2, 1, [], 0), (15, .i2l, 1, [], 0), (16, .ldc2_w 147, 3, [], 0), (19, .ldc2_w 149, 3, [], 0), (22, .invokestatic 134, 3, [], 0), (25, .ifCond .ne 6, 3, [31], 0), (28, .bipush (-2), 2, [], -2), (30, .ireturn, 1, [], 0), (31, .aload_n 0, 1, [], 0), (32, .getfield 116, 3, [], 0), (35, .ifCond .ne 25, 3, [60], 0), (38, .aload_n 0, 1, [], 0), (39, .getfield 113, 3, [], 0), (42, .iconst 1, 1, [], 1), (43, .if_icmp .gt 17, 3, [60], 0), (46, .aload_n 0, 1, [], 0), (47, .getfield 113, 3, [], 0), (50, .ifCond .ne 13, 3, [63], 0), (53, .aload_n 0, 1, [], 0), (54, .getfield 120, 3, [], 0), (57, .ifCond .le 6, 3, [63], 0), (60, .bipush (-3), 2, [], -3), (62, .ireturn, 1, [], 0), (63, .aload_n 0, 1, [], 0), (64, .iconst 1, 1, [], 1), (65, .putfield 113, 3, [], 0), (68, .aload_n 0, 1, [], 0), (69, .getfield 19, 3, [], 0), (72, .iload_n 1, 1, [], 0), (73, .iload_n 2, 1, [], 0), (74, .i2l, 1, [], 0), (75, .lastore, 1, [], 0), (76, .iconst 0, 1, [], 0), (77, .istore_n 3, 1, [], 0), (78, .iconst 0, 1, [], 0), (79, .istore 4, 2, [], 0), (81, .iload 4, 2, [], 0), (83, .bipush 11, 2, [], 11), (85, .if_icmp .gt 29, 3, [114], 0), (88, .iload_n 3, 1, [], 0), (89, .aload_n 0, 1, [], 0), (90, .getfield 19, 3, [], 0), (93, .iload 4, 2, [], 0), (95, .laload, 1, [], 0), (96, .lconst 0, 1, [], 0), (97, .lcmp, 1, [], 0), (98, .ifCond .eq 7, 3, [105], 0), (101, .iconst 1, 1, [], 1), (102, .goto 4, 3, [106], 0), (105, .iconst 0, 1, [], 0), (106, .iadd, 1, [], 0), (107, .istore_n 3, 1, [], 0), (108, .iinc 4 1, 3, [], 1), (111, .goto (-30), 3, [81], 0), (114, .iload_n 3, 1, [], 0), (115, .ireturn, 1, [], 0)]
theorem ck_X5_moment : cd_X5_moment.all (m_ick cX5_moment) = true ∧ m_ch cd_X5_moment = true := by decide +kernel
def cd_X5_span : List mIN := [(0, .iload_n 1, 1, [], 0), (1, .i2l, 1, [], 0), (2, .ldc2_w 130, 3, [], 0), (5, .ldc2_w 132, 3, [], 0), (8, .invokestatic 134, 3, [], 0), (11, .ifCond .eq 22, 3, [33], 0), (14, .iload_n 2, 1, [], 0), (15, .i2l, 1, [], 0), (16, .ldc2_w 130, 3, [], 0), (19, .ldc2_w 132, 3, [], 0), (22, .invokestatic 134, 3, [], 0), (25, .ifCond .eq 8, 3, [33], 0), (28, .iload_n 1, 1, [], 0), (29, .iload_n 2, 1, [], 0), (30, .if_icmp .lt 6, 3, [36], 0), (33, .bipush (-2), 2, [], -2), (35, .ireturn, 1, [], 0), (36, .aload_n 0, 1, [], 0), (37, .iconst 2, 1, [], 2), (38, .invokevirtual 127, 3, [], 0), (41, .iconst 0, 1, [], 0), (42, .istore_n 3, 1, [], 0), (43, .iload_n 3, 1, [], 0), (44, .bipush 11, 2, [], 11), (46, .if_icmp .gt 41, 3, [87], 0), (49, .aload_n 0, 1, [], 0), (50, .getfield 19, 3, [], 0), (53, .iload_n 3, 1, [], 0), (54, .ldc2_w 151, 3, [], 0), (57, .iload_n 3, 1, [], 0), (58, .iconst 1, 1, [], 1), (59, .iadd, 1, [], 0), (60, .i2l, 1, [], 0), (61, .ldiv, 1, [], 0), (62, .iload_n 2, 1, [], 0), (63, .i2l, 1, [], 0), (64, .iload_n 3, 1, [], 0), (65, .iconst 1, 1, [], 1), (66, .iadd, 1, [], 0), (67, .invokestatic 123, 3, [], 0), (70, .iload_n 1, 1, [], 0), (71, .i2l, 1, [], 0), (72, .iload_n 3, 1, [], 0), (73, .iconst 1, 1, [], 1), (74, .iadd, 1, [], 0), (75, .invokestatic 123, 3, [], 0), (78, .lsub, 1, [], 0), (79, .lmul, 1, [], 0), (80, .lastore, 1, [], 0), (81, .iinc 3 1, 3, [], 1), (84, .goto (-41), 3, [43], 0), (87, .iconst 1, 1, [], 1), (88, .ireturn, 1, [], 0)]
theorem ck_X5_span : cd_X5_span.all (m_ick cX5_span) = true ∧ m_ch cd_X5_span = true := by decide +kernel
def cd_X5_over : List mIN := [(0, .iload_n 1, 1, [], 0), (1, .ifCond .lt 8, 3, [9], 0), (4, .iload_n 1, 1, [], 0), (5, .iload_n 0, 1, [], 0), (6, .if_icmp .le 5, 3, [11], 0), (9, .lconst 0, 1, [], 0), (10, .lreturn, 1, [], 0), (11, .lconst 1, 1, [], 0), (12, .lstore_n 2, 1, [], 0), (13, .iconst 1, 1, [], 1), (14, .istore 4, 2, [], 0), (16, .iload 4, 2, [], 0), (18, .iload_n 1, 1, [], 0), (19, .if_icmp .gt 23, 3, [42], 0), (22, .lload_n 2, 1, [], 0), (23, .iload_n 0, 1, [], 0), (24, .iload_n 1, 1, [], 0), (25, .isub, 1, [], 0), (26, .iload 4, 2, [], 0), (28, .iadd, 1, [], 0), (29, .i2l, 1, [], 0), (30, .lmul, 1, [], 0), (31, .iload 4, 2, [], 0), (33, .i2l, 1, [], 0), (34, .ldiv, 1, [], 0), (35, .lstore_n 2, 1, [], 0), (36, .iinc 4 1, 3, [], 1), (39, .goto (-23), 3, [16], 0), (42, .lload_n 2, 1, [], 0), (43, .lreturn, 1, [], 0)]
theorem ck_X5_over : cd_X5_over.all (m_ick cX5_over) = true ∧ m_ch cd_X5_over = true := by decide +kernel
def cd_X5_counted : List mIN := [(0, .iload_n 1, 1, [], 0), (1, .ifCond .ne 15, 3, [16], 0), (4, .iload_n 2, 1, [], 0), (5, .i2l, 1, [], 0), (6, .lconst 1, 1, [], 0), (7, .ldc2_w 132, 3, [], 0), (10, .invokestatic 134, 3, [], 0), (13, .goto 108, 3, [121], 0), (16, .iload_n 1, 1, [], 0), (17, .iconst 1, 1, [], 1), (18, .if_icmp .ne 48, 3, [66], 0), (21, .iload_n 2, 1, [], 0), (22, .i2l, 1, [], 0), (23, .lconst 1, 1, [], 0), (24, .ldc2_w 153, 3, [], 0), (27, .invokestatic 134, 3, [], 0), (30, .ifCond .eq 32, 3, [62], 0), (33, .iload_n 3, 1, [], 0), (34, .i2l, 1, [], 0), (35, .lconst 1, 1, [], 0), (36, .ldc2_w 155, 3, [], 0), (39, .invokestatic 134, 3, [], 0), (42, .ifCond .eq 20, 3, [62], 0), (45, .iload 4, 2, [], 0), (47, .i2l, 1, [], 0), (48, .lconst 1, 1, [], 0), (49, .ldc2_w 155, 3, [], 0), (52, .invokestatic 134, 3, [], 0), (55, .ifCond .eq 7, 3, [62], 0), (58, .iconst 1, 1, [], 1), (59, .goto 62, 3, [121], 0), (62, .iconst 0, 1, [], 0), (63, .goto 58, 3, [121], 0), (66, .iload_n 1, 1, [], 0), (67, .iconst 2, 1, [], 2), (68, .if_icmp .ne 52, 3, [120], 0), (71, .iload_n 2, 1, [], 0), (72, .i2l, 1, [], 0), (73, .lconst 1, 1, [], 0), (74, .ldc2_w 153, 3, [], 0), (77, .invokestatic 134, 3, [], 0), (80, .ifCond .eq 40, 3, [120], 0), (83, .iload_n 3, 1, [], 0), (84, .i2l, 1, [], 0), (85, .lconst 1, 1, [], 0), (86, .ldc2_w 132, 3, [], 0), (89, .invokestatic 134, 3, [], 0), (92, .ifCond .eq 28, 3, [120], 0), (95, .iload 4, 2, [], 0), (97, .i2l, 1, [], 0), (98, .lconst 1, 1, [], 0), (99, .ldc2_w 132, 3, [], 0), (102, .invokestatic 134, 3, [], 0), (105, .ifCond .eq 15, 3, [120], 0), (108, .iload_n 3, 1, [], 0), (109, .iload 4, 2, [], 0), (111, .iadd, 1, [], 0), (112, .iload_n 2, 1, [], 0), (113, .if_icmp .lt 7, 3, [120], 0), (116, .iconst 1, 1, [], 1), (117, .goto 4, 3, [121], 0), (120, .iconst 0, 1, [], 0), (121, .istore 5, 2, [], 0), (123, .iload 5, 2, [], 0), (125, .ifCond .ne 6, 3, [131], 0), (128, .bipush (-2), 2, [], -2), (130, .ireturn, 1, [], 0), (131, .aload_n 0, 1, [], 0), (132, .iconst 3, 1, [], 3), (133, .invokevirtual 127, 3, [], 0), (136, .iconst 0, 1, [], 0), (137, .istore 6, 2, [], 0), (139, .iconst 0, 1, [], 0), (140, .istore 7, 2, [], 0), (142, .iload 7, 2, [], 0), (144, .iload_n 2, 1, [], 0), (145, .if_icmp .gt 93, 3, [238], 0), (148, .iload_n 1, 1, [], 0), (149, .ifCond .ne 7, 3, [156], 0), (152, .lconst 1, 1, [], 0), (153, .goto 52, 3, [205], 0), (156, .iload_n 1, 1, [], 0), (157, .iconst 1, 1, [], 1), (158, .if_icmp .ne 31, 3, [189], 0), (161, .iload_n 2, 1, [], 0), (162, .iload 7, 2, [], 0), (164, .invokestatic 157, 3, [], 0), (167, .iload_n 3, 1, [], 0), (168, .i2l, 1, [], 0), (169, .iload 7, 2, [], 0), (171, .invokestatic 123, 3, [], 0), (174, .lmul, 1, [], 0), (175, .iload 4, 2, [], 0), (177, .i2l, 1, [], 0), (178, .iload_n 2, 1, [], 0), (179, .iload 7, 2, [], 0), (181, .isub, 1, [], 0), (182, .invokestatic 123, 3, [], 0), (185, .lmul, 1, [], 0), (186, .goto 19, 3, [205], 0), (189, .iload_n 3, 1, [], 0), (190, .iload 7, 2, [], 0), (192, .invokestatic 157, 3, [], 0), (195, .iload 4, 2, [], 0), (197, .iload_n 2, 1, [], 0), (198, .iload 7, 2, [], 0), (200, .isub, 1, [], 0), (201, .invokestatic 157, 3, [], 0), (204, .lmul, 1, [], 0), (205, .lstore 8, 2, [], 0), (207, .aload_n 0, 1, [], 0), (208, .iload 7, 2, [], 0), (210, .lload 8, 2, [], 0), (212, .invokevirtual 142, 3, [], 0), (215, .iload 6, 2, [], 0), (217, .lload 8, 2, [], 0), (219, .lconst 0, 1, [], 0), (220, .lcmp, 1, [], 0), (221, .ifCond .eq 7, 3, [228], 0), (224, .iconst 1, 1, [], 1), (225, .goto 4, 3, [229], 0), (228, .iconst 0, 1, [], 0), (229, .iadd, 1, [], 0), (230, .istore 6, 2, [], 0), (232, .iinc 7 1, 3, [], 1), (235, .goto (-93), 3, [142], 0), (238, .iload 6, 2, [], 0), (240, .ireturn, 1, [], 0)]
theorem ck_X5_counted : cd_X5_counted.all (m_ick cX5_counted) = true ∧ m_ch cd_X5_counted = true := by decide +kernel
def cd_X5_isMoment : List mIN := [(0, .aload_n 0, 1, [], 0), (1, .iload_n 1, 1, [], 0), (2, .invokevirtual 97, 3, [], 0), (5, .bipush 62, 2, [], 62), (7, .if_icmp .le 5, 3, [12], 0), (10, .iconst 0, 1, [], 0), (11, .ireturn, 1, [], 0), (12, .lconst 0, 1, [], 0), (13, .lstore_n 3, 1, [], 0), (14, .aload_n 0, 1, [], 0), (15, .getfield 13, 3, [], 0), (18, .iload_n 1, 1, [], 0), (19, .iaload, 1, [], 0), (20, .iconst 1, 1, [], 1), (21, .isub, 1, [], 0), (22, .istore 5, 2, [], 0), (24, .iload 5, 2, [], 0), (26, .ifCond .lt 29, 3, [55], 0), (29, .lload_n 3, 1, [], 0), (30, .bipush 24, 2, [], 24), (32, .lshl, 1, [], 0), (33, .aload_n 0, 1, [], 0), (34, .getfield 7, 3, [], 0), (37, .sipush 260, 3, [], 260), (40, .iload_n 1, 1, [], 0), (41, .imul, 1, [], 0), (42, .iload 5, 2, [], 0), (44, .iadd, 1, [], 0), (45, .iaload, 1, [], 0), (46, .i2l, 1, [], 0), (47, .lor, 1, [], 0), (48, .lstore_n 3, 1, [], 0), (49, .iinc 5 (-1), 3, [], -1), (52, .goto (-28), 3, [24], 0), (55, .aload_n 0, 1, [], 0), (56, .getfield 29, 3, [], 0), (59, .iload_n 2, 1, [], 0), (60, .aload_n 0, 1, [], 0), (61, .getfield 16, 3, [], 0), (64, .iload_n 1, 1, [], 0), (65, .iaload, 1, [], 0), (66, .ifCond .ge 8, 3, [74], 0), (69, .lload_n 3, 1, [], 0), (70, .lneg, 1, [], 0), (71, .goto 4, 3, [75], 0), (74, .lload_n 3, 1, [], 0), (75, .lastore, 1, [], 0), (76, .iconst 1, 1, [], 1), (77, .ireturn, 1, [], 0)]
theorem ck_X5_isMoment : cd_X5_isMoment.all (m_ick cX5_isMoment) = true ∧ m_ch cd_X5_isMoment = true := by decide +kernel
def cd_X5_changeTo : List mIN := [(0, .iconst 0, 1, [], 0), (1, .istore_n 2, 1, [], 0), (2, .iload_n 2, 1, [], 0), (3, .bipush 11, 2, [], 11), (5, .if_icmp .gt 30, 3, [35], 0), (8, .aload_n 0, 1, [], 0), (9, .getfield 19, 3, [], 0), (12, .iload_n 2, 1, [], 0), (13, .iload_n 2, 1, [], 0), (14, .iload_n 1, 1, [], 0), (15, .if_icmp .gt 12, 3, [27], 0), (18, .aload_n 0, 1, [], 0), (19, .getfield 29, 3, [], 0), (22, .iload_n 2, 1, [], 0), (23, .laload, 1, [], 0), (24, .goto 4, 3, [28], 0), (27, .lconst 0, 1, [], 0), (28, .lastore, 1, [], 0), (29, .iinc 2 1, 3, [], 1), (32, .goto (-30), 3, [2], 0), (35, .aload_n 0, 1, [], 0), (36, .iload_n 1, 1, [], 0), (37, .putfield 54, 3, [], 0), (40, .aload_n 0, 1, [], 0), (41, .iconst 1, 1, [], 1), (42, .putfield 116, 3, [], 0), (45, .return_, 1, [], 0)]
theorem ck_X5_changeTo : cd_X5_changeTo.all (m_ick cX5_changeTo) = true ∧ m_ch cd_X5_changeTo = true := by decide +kernel
def cd_X5_by : List mIN := [(0, .iload_n 1, 1, [], 0), (1, .i2l, 1, [], 0), (2, .ldc2_w 130, 3, [], 0), (5, .ldc2_w 132, 3, [], 0), (8, .invokestatic 134, 3, [], 0), (11, .ifCond .ne 6, 3, [17], 0), (14, .bipush (-2), 2, [], -2), (16, .ireturn, 1, [], 0), (17, .aload_n 0, 1, [], 0), (18, .getfield 54, 3, [], 0), (21, .iconst 3, 1, [], 3), (22, .if_icmp .ne 6, 3, [28], 0), (25, .bipush (-3), 2, [], -3), (27, .ireturn, 1, [], 0), (28, .iconst 0, 1, [], 0), (29, .istore_n 2, 1, [], 0), (30, .iload_n 2, 1, [], 0), (31, .aload_n 0, 1, [], 0), (32, .getfield 54, 3, [], 0), (35, .if_icmp .ge 63, 3, [98], 0), (38, .aload_n 0, 1, [], 0), (39, .iconst 2, 1, [], 2), (40, .aload_n 0, 1, [], 0), (41, .getfield 19, 3, [], 0), (44, .iload_n 2, 1, [], 0), (45, .laload, 1, [], 0), (46, .invokevirtual 50, 3, [], 0), (49, .aload_n 0, 1, [], 0), (50, .iconst 2, 1, [], 2), (51, .iload_n 1, 1, [], 0), (52, .ineg, 1, [], 0), (53, .i2l, 1, [], 0), (54, .invokevirtual 161, 3, [], 0), (57, .aload_n 0, 1, [], 0), (58, .iconst 3, 1, [], 3), (59, .aload_n 0, 1, [], 0), (60, .getfield 19, 3, [], 0), (63, .iload_n 2, 1, [], 0), (64, .iconst 1, 1, [], 1), (65, .iadd, 1, [], 0), (66, .laload, 1, [], 0), (67, .invokevirtual 50, 3, [], 0), (70, .aload_n 0, 1, [], 0), (71, .iconst 2, 1, [], 2), (72, .iconst 3, 1, [], 3), (73, .iconst 1, 1, [], 1), (74, .bipush 11, 2, [], 11), (76, .invokevirtual 164, 3, [], 0), (79, .aload_n 0, 1, [], 0), (80, .bipush 11, 2, [], 11), (82, .iload_n 2, 1, [], 0), (83, .invokevirtual 168, 3, [], 0), (86, .ifCond .ne 6, 3, [92], 0), (89, .bipush (-4), 2, [], -4), (91, .ireturn, 1, [], 0), (92, .iinc 2 1, 3, [], 1), (95, .goto (-65), 3, [30], 0), (98, .aload_n 0, 1, [], 0), (99, .aload_n 0, 1, [], 0), (100, .getfield 54, 3, [], 0), (103, .iconst 1, 1, [], 1), (104, .isub, 1, [], 0), (105, .invokevirtual 172, 3, [], 0), (108, .aload_n 0, 1, [], 0), (109, .getfield 54, 3, [], 0), (112, .ireturn, 1, [], 0)]
theorem ck_X5_by : cd_X5_by.all (m_ick cX5_by) = true ∧ m_ch cd_X5_by = true := by decide +kernel
def cd_X5_mirror : List mIN := [(0, .iload_n 1, 1, [], 0), (1, .i2l, 1, [], 0), (2, .ldc2_w 130, 3, [], 0), (5, .ldc2_w 132, 3, [], 0), (8, .invokestatic 134, 3, [], 0), (11, .ifCond .ne 6, 3, [17], 0), (14, .bipush (-2), 2, [], -2), (16, .ireturn, 1, [], 0), (17, .iconst 0, 1, [], 0), (18, .istore_n 2, 1, [], 0), (19, .iload_n 2, 1, [], 0), (20, .aload_n 0, 1, [], 0), (21, .getfield 54, 3, [], 0), (24, .if_icmp .gt 92, 3, [116], 0), (27, .aload_n 0, 1, [], 0), (28, .bipush 11, 2, [], 11), (30, .lconst 0, 1, [], 0), (31, .invokevirtual 50, 3, [], 0), (34, .iconst 0, 1, [], 0), (35, .istore_n 3, 1, [], 0), (36, .iload_n 3, 1, [], 0), (37, .iload_n 2, 1, [], 0), (38, .if_icmp .gt 59, 3, [97], 0), (41, .aload_n 0, 1, [], 0), (42, .iconst 2, 1, [], 2), (43, .aload_n 0, 1, [], 0), (44, .getfield 19, 3, [], 0), (47, .iload_n 3, 1, [], 0), (48, .laload, 1, [], 0), (49, .invokevirtual 50, 3, [], 0), (52, .aload_n 0, 1, [], 0), (53, .iconst 2, 1, [], 2), (54, .iload_n 2, 1, [], 0), (55, .iload_n 3, 1, [], 0), (56, .invokestatic 157, 3, [], 0), (59, .iload_n 1, 1, [], 0), (60, .i2l, 1, [], 0), (61, .iload_n 2, 1, [], 0), (62, .iload_n 3, 1, [], 0), (63, .isub, 1, [], 0), (64, .invokestatic 123, 3, [], 0), (67, .lmul, 1, [], 0), (68, .invokevirtual 161, 3, [], 0), (71, .aload_n 0, 1, [], 0), (72, .bipush 11, 2, [], 11), (74, .iconst 2, 1, [], 2), (75, .iload_n 3, 1, [], 0), (76, .iconst 2, 1, [], 2), (77, .irem, 1, [], 0), (78, .ifCond .ne 7, 3, [85], 0), (81, .iconst 1, 1, [], 1), (82, .goto 4, 3, [86], 0), (85, .iconst (-1), 1, [], -1), (86, .bipush 11, 2, [], 11), (88, .invokevirtual 164, 3, [], 0), (91, .iinc 3 1, 3, [], 1), (94, .goto (-58), 3, [36], 0), (97, .aload_n 0, 1, [], 0), (98, .bipush 11, 2, [], 11), (100, .iload_n 2, 1, [], 0), (101, .invokevirtual 168, 3, [], 0), (104, .ifCond .ne 6, 3, [110], 0), (107, .bipush (-4), 2, [], -4), (109, .ireturn, 1, [], 0), (110, .iinc 2 1, 3, [], 1), (113, .goto (-94), 3, [19], 0), (116, .aload_n 0, 1, [], 0), (117, .aload_n 0, 1, [], 0), (118, .getfield 54, 3, [], 0), (121, .invokevirtual 172, 3, [], 0), (124, .iconst 1, 1, [], 1), (125, .ireturn, 1, [], 0)]
theorem ck_X5_mirror : cd_X5_mirror.all (m_ick cX5_mirror) = true ∧ m_ch cd_X5_mirror = true := by decide +kernel
def cd_X5_nextOrder : List mIN := [(0, .iload_n 1, 1, [], 0), (1, .iconst 2, 1, [], 2), (2, .isub, 1, [], 0), (3, .istore_n 2, 1, [], 0), (4, .iload_n 2, 1, [], 0), (5, .ifCond .lt 26, 3, [31], 0), (8, .aload_n 0, 1, [], 0), (9, .getfield 32, 3, [], 0), (12, .iload_n 2, 1, [], 0), (13, .iaload, 1, [], 0), (14, .aload_n 0, 1, [], 0), (15, .getfield 32, 3, [], 0), (18, .iload_n 2, 1, [], 0), (19, .iconst 1, 1, [], 1), (20, .iadd, 1, [], 0), (21, .iaload, 1, [], 0), (22, .if_icmp .le 9, 3, [31], 0), (25, .iinc 2 (-1), 3, [], -1), (28, .goto (-24), 3, [4], 0), (31, .iload_n 2, 1, [], 0), (32, .ifCond .ge 5, 3, [37], 0), (35, .iconst 0, 1, [], 0), (36, .ireturn, 1, [], 0), (37, .iload_n 1, 1, [], 0), (38, .iconst 1, 1, [], 1), (39, .isub, 1, [], 0), (40, .istore_n 3, 1, [], 0), (41, .aload_n 0, 1, [], 0), (42, .getfield 32, 3, [], 0), (45, .iload_n 3, 1, [], 0), (46, .iaload, 1, [], 0), (47, .aload_n 0, 1, [], 0), (48, .getfield 32, 3, [], 0), (51, .iload_n 2, 1, [], 0), (52, .iaload, 1, [], 0), (53, .if_icmp .ge 9, 3, [62], 0), (56, .iinc 3 (-1), 3, [], -1), (59, .goto (-18), 3, [41], 0), (62, .aload_n 0, 1, [], 0), (63, .iload_n 2, 1, [], 0), (64, .iload_n 3, 1, [], 0), (65, .invokevirtual 175, 3, [], 0), (68, .iload_n 2, 1, [], 0), (69, .iconst 1, 1, [], 1), (70, .iadd, 1, [], 0), (71, .istore 4, 2, [], 0), (73, .iload_n 1, 1, [], 0), (74, .iconst 1, 1, [], 1), (75, .isub, 1, [], 0), (76, .istore 5, 2, [], 0), (78, .iload 4, 2, [], 0), (80, .iload 5, 2, [], 0), (82, .if_icmp .ge 20, 3, [102], 0), (85, .aload_n 0, 1, [], 0), (86, .iload 4, 2, [], 0), (88, .iload 5, 2, [], 0), (90, .invokevirtual 175, 3, [], 0), (93, .iinc 4 1, 3, [], 1), (96, .iinc 5 (-1), 3, [], -1), (99, .goto (-21), 3, [78], 0), (102, .iconst 1, 1, [], 1), (103, .ireturn, 1, [], 0)]
theorem ck_X5_nextOrder : cd_X5_nextOrder.all (m_ick cX5_nextOrder) = true ∧ m_ch cd_X5_nextOrder = true := by decide +kernel
def cd_X5_swap : List mIN := [(0, .aload_n 0, 1, [], 0), (1, .getfield 32, 3, [], 0), (4, .iload_n 1, 1, [], 0), (5, .iaload, 1, [], 0), (6, .istore_n 3, 1, [], 0), (7, .aload_n 0, 1, [], 0), (8, .getfield 32, 3, [], 0), (11, .iload_n 1, 1, [], 0), (12, .aload_n 0, 1, [], 0), (13, .getfield 32, 3, [], 0), (16, .iload_n 2, 1, [], 0), (17, .iaload, 1, [], 0), (18, .iastore, 1, [], 0), (19, .aload_n 0, 1, [], 0), (20, .getfield 32, 3, [], 0), (23, .iload_n 2, 1, [], 0), (24, .iload_n 3, 1, [], 0), (25, .iastore, 1, [], 0), (26, .return_, 1, [], 0)]
theorem ck_X5_swap : cd_X5_swap.all (m_ick cX5_swap) = true ∧ m_ch cd_X5_swap = true := by decide +kernel
def cd_X5_parity : List mIN := [(0, .iconst 0, 1, [], 0), (1, .istore_n 2, 1, [], 0), (2, .iconst 0, 1, [], 0), (3, .istore_n 3, 1, [], 0), (4, .iload_n 3, 1, [], 0), (5, .iload_n 1, 1, [], 0), (6, .if_icmp .ge 50, 3, [56], 0), (9, .iload_n 3, 1, [], 0), (10, .iconst 1, 1, [], 1), (11, .iadd, 1, [], 0), (12, .istore 4, 2, [], 0), (14, .iload 4, 2, [], 0), (16, .iload_n 1, 1, [], 0), (17, .if_icmp .ge 33, 3, [50], 0), (20, .iload_n 2, 1, [], 0), (21, .aload_n 0, 1, [], 0), (22, .getfield 32, 3, [], 0), (25, .iload_n 3, 1, [], 0), (26, .iaload, 1, [], 0), (27, .aload_n 0, 1, [], 0), (28, .getfield 32, 3, [], 0), (31, .iload 4, 2, [], 0), (33, .iaload, 1, [], 0), (34, .if_icmp .le 7, 3, [41], 0), (37, .iconst 1, 1, [], 1), (38, .goto 4, 3, [42], 0), (41, .iconst 0, 1, [], 0), (42, .iadd, 1, [], 0), (43, .istore_n 2, 1, [], 0), (44, .iinc 4 1, 3, [], 1), (47, .goto (-33), 3, [14], 0), (50, .iinc 3 1, 3, [], 1), (53, .goto (-49), 3, [4], 0), (56, .iload_n 2, 1, [], 0), (57, .iconst 2, 1, [], 2), (58, .irem, 1, [], 0), (59, .ifCond .ne 7, 3, [66], 0), (62, .iconst 1, 1, [], 1), (63, .goto 4, 3, [67], 0), (66, .iconst (-1), 1, [], -1), (67, .ireturn, 1, [], 0)]
theorem ck_X5_parity : cd_X5_parity.all (m_ick cX5_parity) = true ∧ m_ch cd_X5_parity = true := by decide +kernel
def cd_X5_determinant : List mIN := [(0, .iconst 0, 1, [], 0), (1, .istore 4, 2, [], 0), (3, .iload 4, 2, [], 0), (5, .iload_n 1, 1, [], 0), (6, .if_icmp .ge 18, 3, [24], 0), (9, .aload_n 0, 1, [], 0), (10, .getfield 32, 3, [], 0), (13, .iload 4, 2, [], 0), (15, .iload 4, 2, [], 0), (17, .iastore, 1, [], 0), (18, .iinc 4 1, 3, [], 1), (21, .goto (-18), 3, [3], 0), (24, .aload_n 0, 1, [], 0), (25, .bipush 11, 2, [], 11), (27, .lconst 0, 1, [], 0), (28, .invokevirtual 50, 3, [], 0), (31, .iconst 1, 1, [], 1), (32, .istore 4, 2, [], 0), (34, .iload 4, 2, [], 0), (36, .ifCond .eq 95, 3, [131], 0), (39, .aload_n 0, 1, [], 0), (40, .iconst 4, 1, [], 4), (41, .lconst 1, 1, [], 0), (42, .invokevirtual 50, 3, [], 0), (45, .iconst 0, 1, [], 0), (46, .istore 5, 2, [], 0), (48, .iload 5, 2, [], 0), (50, .iload_n 1, 1, [], 0), (51, .if_icmp .ge 56, 3, [107], 0), (54, .aload_n 0, 1, [], 0), (55, .getfield 32, 3, [], 0), (58, .iload 5, 2, [], 0), (60, .iaload, 1, [], 0), (61, .iload_n 2, 1, [], 0), (62, .if_icmp .ge 13, 3, [75], 0), (65, .aload_n 0, 1, [], 0), (66, .getfield 32, 3, [], 0), (69, .iload 5, 2, [], 0), (71, .iaload, 1, [], 0), (72, .goto 12, 3, [84], 0), (75, .aload_n 0, 1, [], 0), (76, .getfield 32, 3, [], 0), (79, .iload 5, 2, [], 0), (81, .iaload, 1, [], 0), (82, .iconst 1, 1, [], 1), (83, .iadd, 1, [], 0), (84, .istore 6, 2, [], 0), (86, .aload_n 0, 1, [], 0), (87, .iconst 4, 1, [], 4), (88, .aload_n 0, 1, [], 0), (89, .getfield 19, 3, [], 0), (92, .iload 5, 2, [], 0), (94, .iload 6, 2, [], 0), (96, .iadd, 1, [], 0), (97, .laload, 1, [], 0), (98, .invokevirtual 161, 3, [], 0), (101, .iinc 5 1, 3, [], 1), (104, .goto (-56), 3, [48], 0), (107, .aload_n 0, 1, [], 0), (108, .bipush 11, 2, [], 11), (110, .iconst 4, 1, [], 4), (111, .aload_n 0, 1, [], 0), (112, .iload_n 1, 1, [], 0), (113, .invokevirtual 178, 3, [], 0), (116, .bipush 11, 2, [], 11), (118, .invokevirtual 164, 3, [], 0), (121, .aload_n 0, 1, [], 0), (122, .iload_n 1, 1, [], 0), (123, .invokevirtual 181, 3, [], 0), (126, .istore 4, 2, [], 0), (128, .goto (-94), 3, [34], 0), (131, .aload_n 0, 1, [], 0), (132, .bipush 11, 2, [], 11), (134, .iload_n 3, 1, [], 0), (135, .invokevirtual 66, 3, [], 0), (138, .return_, 1, [], 0)]
theorem ck_X5_determinant : cd_X5_determinant.all (m_ick cX5_determinant) = true ∧ m_ch cd_X5_determinant = true := by decide +kernel
def cd_X5_worthOf : List mIN := [(0, .aload_n 0, 1, [], 0), (1, .iload_n 1, 1, [], 0), (2, .iload_n 1, 1, [], 0), (3, .iload_n 2, 1, [], 0), (4, .invokevirtual 184, 3, [], 0), (7, .return_, 1, [], 0)]
theorem ck_X5_worthOf : cd_X5_worthOf.all (m_ick cX5_worthOf) = true ∧ m_ch cd_X5_worthOf = true := by decide +kernel
def cd_X5_number : List mIN := [(0, .iload_n 2, 1, [], 0), (1, .i2l, 1, [], 0), (2, .lconst 0, 1, [], 0), (3, .iload_n 1, 1, [], 0), (4, .i2l, 1, [], 0), (5, .invokestatic 134, 3, [], 0), (8, .ifCond .ne 10, 3, [18], 0), (11, .aload_n 0, 1, [], 0), (12, .iload_n 3, 1, [], 0), (13, .lconst 0, 1, [], 0), (14, .invokevirtual 50, 3, [], 0), (17, .return_, 1, [], 0), (18, .aload_n 0, 1, [], 0), (19, .iload_n 1, 1, [], 0), (20, .iload_n 2, 1, [], 0), (21, .iload_n 3, 1, [], 0), (22, .invokevirtual 184, 3, [], 0), (25, .aload_n 0, 1, [], 0), (26, .getfield 16, 3, [], 0), (29, .iload_n 3, 1, [], 0), (30, .iload_n 1, 1, [], 0), (31, .iload_n 2, 1, [], 0), (32, .iadd, 1, [], 0), (33, .iconst 2, 1, [], 2), (34, .irem, 1, [], 0), (35, .ifCond .ne 12, 3, [47], 0), (38, .aload_n 0, 1, [], 0), (39, .getfield 16, 3, [], 0), (42, .iload_n 3, 1, [], 0), (43, .iaload, 1, [], 0), (44, .goto 10, 3, [54], 0), (47, .aload_n 0, 1, [], 0), (48, .getfield 16, 3, [], 0), (51, .iload_n 3, 1, [], 0), (52, .iaload, 1, [], 0), (53, .ineg, 1, [], 0), (54, .iastore, 1, [], 0), (55, .return_, 1, [], 0)]
theorem ck_X5_number : cd_X5_number.all (m_ick cX5_number) = true ∧ m_ch cd_X5_number = true := by decide +kernel
def cd_X5_top : List mIN := [(0, .iconst 0, 1, [], 0), (1, .istore_n 1, 1, [], 0), (2, .iconst 1, 1, [], 1), (3, .istore_n 2, 1, [], 0), (4, .iload_n 2, 1, [], 0), (5, .ifCond .eq 60, 3, [65], 0), (8, .iload_n 1, 1, [], 0), (9, .iconst 5, 1, [], 5), (10, .if_icmp .ge 55, 3, [65], 0), (13, .aload_n 0, 1, [], 0), (14, .getfield 54, 3, [], 0), (17, .iconst 2, 1, [], 2), (18, .iload_n 1, 1, [], 0), (19, .imul, 1, [], 0), (20, .iconst 1, 1, [], 1), (21, .iadd, 1, [], 0), (22, .if_icmp .lt 43, 3, [65], 0), (25, .aload_n 0, 1, [], 0), (26, .iload_n 1, 1, [], 0), (27, .iconst 1, 1, [], 1), (28, .iadd, 1, [], 0), (29, .bipush 16, 2, [], 16), (31, .invokevirtual 187, 3, [], 0), (34, .aload_n 0, 1, [], 0), (35, .getfield 16, 3, [], 0), (38, .bipush 16, 2, [], 16), (40, .iaload, 1, [], 0), (41, .ifCond .eq 7, 3, [48], 0), (44, .iconst 1, 1, [], 1), (45, .goto 4, 3, [49], 0), (48, .iconst 0, 1, [], 0), (49, .istore_n 2, 1, [], 0), (50, .iload_n 2, 1, [], 0), (51, .ifCond .eq 9, 3, [60], 0), (54, .iload_n 1, 1, [], 0), (55, .iconst 1, 1, [], 1), (56, .iadd, 1, [], 0), (57, .goto 4, 3, [61], 0), (60, .iload_n 1, 1, [], 0), (61, .istore_n 1, 1, [], 0), (62, .goto (-58), 3, [4], 0), (65, .iload_n 1, 1, [], 0), (66, .ireturn, 1, [], 0)]
theorem ck_X5_top : cd_X5_top.all (m_ick cX5_top) = true ∧ m_ch cd_X5_top = true := by decide +kernel
def cd_X5_hasPolynomial : List mIN := [(0, .iload_n 1, 1, [], 0), (1, .i2l, 1, [], 0), (2, .lconst 0, 1, [], 0), (3, .ldc2_w 190, 3, [], 0), (6, .invokestatic 134, 3, [], 0), (9, .ifCond .eq 15, 3, [24], 0), (12, .iload_n 1, 1, [], 0), (13, .aload_n 0, 1, [], 0), (14, .invokevirtual 192, 3, [], 0), (17, .if_icmp .gt 7, 3, [24], 0), (20, .iconst 1, 1, [], 1), (21, .goto 4, 3, [25], 0), (24, .iconst 0, 1, [], 0), (25, .ireturn, 1, [], 0)]
theorem ck_X5_hasPolynomial : cd_X5_hasPolynomial.all (m_ick cX5_hasPolynomial) = true ∧ m_ch cd_X5_hasPolynomial = true := by decide +kernel
def cd_X5_hasWorth : List mIN := [(0, .aload_n 0, 1, [], 0), (1, .iload_n 1, 1, [], 0), (2, .invokevirtual 195, 3, [], 0), (5, .ifCond .eq 17, 3, [22], 0), (8, .aload_n 0, 1, [], 0), (9, .getfield 54, 3, [], 0), (12, .iconst 2, 1, [], 2), (13, .iload_n 1, 1, [], 0), (14, .imul, 1, [], 0), (15, .if_icmp .lt 7, 3, [22], 0), (18, .iconst 1, 1, [], 1), (19, .goto 4, 3, [23], 0), (22, .iconst 0, 1, [], 0), (23, .ireturn, 1, [], 0)]
theorem ck_X5_hasWorth : cd_X5_hasWorth.all (m_ick cX5_hasWorth) = true ∧ m_ch cd_X5_hasWorth = true := by decide +kernel
def cd_X5_worthSign : List mIN := [(0, .aload_n 0, 1, [], 0), (1, .iload_n 1, 1, [], 0), (2, .iconst 1, 1, [], 1), (3, .iadd, 1, [], 0), (4, .bipush 14, 2, [], 14), (6, .invokevirtual 187, 3, [], 0), (9, .aload_n 0, 1, [], 0), (10, .iload_n 1, 1, [], 0), (11, .bipush 15, 2, [], 15), (13, .invokevirtual 187, 3, [], 0), (16, .aload_n 0, 1, [], 0), (17, .getfield 16, 3, [], 0), (20, .bipush 14, 2, [], 14), (22, .iaload, 1, [], 0), (23, .aload_n 0, 1, [], 0), (24, .getfield 16, 3, [], 0), (27, .bipush 15, 2, [], 15), (29, .iaload, 1, [], 0), (30, .imul, 1, [], 0), (31, .ireturn, 1, [], 0)]
theorem ck_X5_worthSign : cd_X5_worthSign.all (m_ick cX5_worthSign) = true ∧ m_ch cd_X5_worthSign = true := by decide +kernel
def cd_X5_layMoment : List mIN := [(0, .iload_n 1, 1, [], 0), (1, .i2l, 1, [], 0), (2, .lconst 0, 1, [], 0), (3, .aload_n 0, 1, [], 0), (4, .getfield 54, 3, [], 0), (7, .i2l, 1, [], 0), (8, .invokestatic 134, 3, [], 0), (11, .ifCond .ne 5, 3, [16], 0), (14, .iconst (-1), 1, [], -1), (15, .ireturn, 1, [], 0), (16, .aload_n 0, 1, [], 0), (17, .iconst 2, 1, [], 2), (18, .aload_n 0, 1, [], 0), (19, .getfield 19, 3, [], 0), (22, .iload_n 1, 1, [], 0), (23, .laload, 1, [], 0), (24, .invokevirtual 50, 3, [], 0), (27, .aload_n 0, 1, [], 0), (28, .iconst 3, 1, [], 3), (29, .lconst 1, 1, [], 0), (30, .invokevirtual 50, 3, [], 0), (33, .aload_n 0, 1, [], 0), (34, .iconst 2, 1, [], 2), (35, .iconst 3, 1, [], 3), (36, .invokevirtual 198, 3, [], 0), (39, .ireturn, 1, [], 0)]
theorem ck_X5_layMoment : cd_X5_layMoment.all (m_ick cX5_layMoment) = true ∧ m_ch cd_X5_layMoment = true := by decide +kernel
def cd_X5_layWorth : List mIN := [(0, .aload_n 0, 1, [], 0), (1, .iload_n 1, 1, [], 0), (2, .invokevirtual 201, 3, [], 0), (5, .ifCond .ne 5, 3, [10], 0), (8, .iconst (-1), 1, [], -1), (9, .ireturn, 1, [], 0), (10, .aload_n 0, 1, [], 0), (11, .iload_n 1, 1, [], 0), (12, .iconst 1, 1, [], 1), (13, .iadd, 1, [], 0), (14, .iconst 2, 1, [], 2), (15, .invokevirtual 187, 3, [], 0), (18, .aload_n 0, 1, [], 0), (19, .iload_n 1, 1, [], 0), (20, .iconst 3, 1, [], 3), (21, .invokevirtual 187, 3, [], 0), (24, .aload_n 0, 1, [], 0), (25, .iconst 2, 1, [], 2), (26, .iconst 3, 1, [], 3), (27, .invokevirtual 198, 3, [], 0), (30, .ireturn, 1, [], 0)]
theorem ck_X5_layWorth : cd_X5_layWorth.all (m_ick cX5_layWorth) = true ∧ m_ch cd_X5_layWorth = true := by decide +kernel
def cd_X5_layDeterminant : List mIN := [(0, .iload_n 1, 1, [], 0), (1, .i2l, 1, [], 0), (2, .lconst 0, 1, [], 0), (3, .ldc2_w 153, 3, [], 0), (6, .invokestatic 134, 3, [], 0), (9, .ifCond .eq 15, 3, [24], 0), (12, .aload_n 0, 1, [], 0), (13, .getfield 54, 3, [], 0), (16, .iconst 2, 1, [], 2), (17, .iload_n 1, 1, [], 0), (18, .imul, 1, [], 0), (19, .iconst 2, 1, [], 2), (20, .isub, 1, [], 0), (21, .if_icmp .ge 5, 3, [26], 0), (24, .iconst (-1), 1, [], -1), (25, .ireturn, 1, [], 0), (26, .aload_n 0, 1, [], 0), (27, .iload_n 1, 1, [], 0), (28, .iconst 2, 1, [], 2), (29, .invokevirtual 187, 3, [], 0), (32, .aload_n 0, 1, [], 0), (33, .iconst 3, 1, [], 3), (34, .lconst 1, 1, [], 0), (35, .invokevirtual 50, 3, [], 0), (38, .aload_n 0, 1, [], 0), (39, .iconst 2, 1, [], 2), (40, .iconst 3, 1, [], 3), (41, .invokevirtual 198, 3, [], 0), (44, .ireturn, 1, [], 0)]
theorem ck_X5_layDeterminant : cd_X5_layDeterminant.all (m_ick cX5_layDeterminant) = true ∧ m_ch cd_X5_layDeterminant = true := by decide +kernel
def cd_X5_layNumber : List mIN := [(0, .aload_n 0, 1, [], 0), (1, .iload_n 1, 1, [], 0), (2, .invokevirtual 195, 3, [], 0), (5, .ifCond .eq 7, 3, [12], 0), (8, .iload_n 2, 1, [], 0), (9, .ifCond .ge 5, 3, [14], 0), (12, .iconst (-1), 1, [], -1), (13, .ireturn, 1, [], 0), (14, .aload_n 0, 1, [], 0), (15, .iload_n 1, 1, [], 0), (16, .iload_n 2, 1, [], 0), (17, .iconst 2, 1, [], 2), (18, .invokevirtual 204, 3, [], 0), (21, .aload_n 0, 1, [], 0), (22, .iload_n 1, 1, [], 0), (23, .iconst 3, 1, [], 3), (24, .invokevirtual 187, 3, [], 0), (27, .aload_n 0, 1, [], 0), (28, .iconst 2, 1, [], 2), (29, .iconst 3, 1, [], 3), (30, .invokevirtual 198, 3, [], 0), (33, .ireturn, 1, [], 0)]
theorem ck_X5_layNumber : cd_X5_layNumber.all (m_ick cX5_layNumber) = true ∧ m_ch cd_X5_layNumber = true := by decide +kernel
def cd_X5_layRule : List mIN := [(0, .iload_n 1, 1, [], 0), (1, .i2l, 1, [], 0), (2, .lconst 0, 1, [], 0), (3, .ldc2_w 190, 3, [], 0), (6, .invokestatic 134, 3, [], 0), (9, .ifCond .eq 13, 3, [22], 0), (12, .aload_n 0, 1, [], 0), (13, .iload_n 1, 1, [], 0), (14, .iconst 1, 1, [], 1), (15, .iadd, 1, [], 0), (16, .invokevirtual 195, 3, [], 0), (19, .ifCond .ne 5, 3, [24], 0), (22, .iconst (-1), 1, [], -1), (23, .ireturn, 1, [], 0), (24, .iload_n 2, 1, [], 0), (25, .i2l, 1, [], 0), (26, .lconst 0, 1, [], 0), (27, .lconst 1, 1, [], 0), (28, .invokestatic 134, 3, [], 0), (31, .ifCond .ne 6, 3, [37], 0), (34, .bipush (-2), 2, [], -2), (36, .ireturn, 1, [], 0), (37, .aload_n 0, 1, [], 0), (38, .iload_n 1, 1, [], 0), (39, .bipush 14, 2, [], 14), (41, .invokevirtual 187, 3, [], 0), (44, .aload_n 0, 1, [], 0), (45, .iload_n 1, 1, [], 0), (46, .iconst 1, 1, [], 1), (47, .iadd, 1, [], 0), (48, .bipush 15, 2, [], 15), (50, .invokevirtual 187, 3, [], 0), (53, .iload_n 2, 1, [], 0), (54, .ifCond .ne 63, 3, [117], 0), (57, .aload_n 0, 1, [], 0), (58, .iload_n 1, 1, [], 0), (59, .iload_n 1, 1, [], 0), (60, .iconst 1, 1, [], 1), (61, .isub, 1, [], 0), (62, .bipush 12, 2, [], 12), (64, .invokevirtual 204, 3, [], 0), (67, .aload_n 0, 1, [], 0), (68, .bipush 12, 2, [], 12), (70, .bipush 15, 2, [], 15), (72, .iconst 2, 1, [], 2), (73, .invokevirtual 84, 3, [], 0), (76, .aload_n 0, 1, [], 0), (77, .iload_n 1, 1, [], 0), (78, .iconst 1, 1, [], 1), (79, .iadd, 1, [], 0), (80, .iload_n 1, 1, [], 0), (81, .bipush 12, 2, [], 12), (83, .invokevirtual 204, 3, [], 0), (86, .aload_n 0, 1, [], 0), (87, .bipush 12, 2, [], 12), (89, .bipush 14, 2, [], 14), (91, .bipush 13, 2, [], 13), (93, .invokevirtual 84, 3, [], 0), (96, .aload_n 0, 1, [], 0), (97, .iconst 2, 1, [], 2), (98, .bipush 13, 2, [], 13), (100, .iconst (-1), 1, [], -1), (101, .iconst 2, 1, [], 2), (102, .invokevirtual 164, 3, [], 0), (105, .aload_n 0, 1, [], 0), (106, .bipush 14, 2, [], 14), (108, .bipush 15, 2, [], 15), (110, .iconst 3, 1, [], 3), (111, .invokevirtual 84, 3, [], 0), (114, .goto 50, 3, [164], 0), (117, .iload_n 1, 1, [], 0), (118, .ifCond .ne 19, 3, [137], 0), (121, .aload_n 0, 1, [], 0), (122, .bipush 15, 2, [], 15), (124, .iconst 2, 1, [], 2), (125, .invokevirtual 66, 3, [], 0), (128, .aload_n 0, 1, [], 0), (129, .iconst 3, 1, [], 3), (130, .lconst 1, 1, [], 0), (131, .invokevirtual 50, 3, [], 0), (134, .goto 30, 3, [164], 0), (137, .aload_n 0, 1, [], 0), (138, .iload_n 1, 1, [], 0), (139, .iconst 1, 1, [], 1), (140, .isub, 1, [], 0), (141, .bipush 12, 2, [], 12), (143, .invokevirtual 187, 3, [], 0), (146, .aload_n 0, 1, [], 0), (147, .bipush 12, 2, [], 12), (149, .bipush 15, 2, [], 15), (151, .iconst 2, 1, [], 2), (152, .invokevirtual 84, 3, [], 0), (155, .aload_n 0, 1, [], 0), (156, .bipush 14, 2, [], 14), (158, .bipush 14, 2, [], 14), (160, .iconst 3, 1, [], 3), (161, .invokevirtual 84, 3, [], 0), (164, .aload_n 0, 1, [], 0), (165, .iconst 2, 1, [], 2), (166, .iconst 3, 1, [], 3), (167, .invokevirtual 198, 3, [], 0), (170, .ireturn, 1, [], 0)]
theorem ck_X5_layRule : cd_X5_layRule.all (m_ick cX5_layRule) = true ∧ m_ch cd_X5_layRule = true := by decide +kernel
def cd_X5_isFraction : List mIN := [(0, .iload_n 0, 1, [], 0), (1, .i2l, 1, [], 0), (2, .ldc2_w 147, 3, [], 0), (5, .ldc2_w 149, 3, [], 0), (8, .invokestatic 134, 3, [], 0), (11, .ifCond .eq 19, 3, [30], 0), (14, .iload_n 1, 1, [], 0), (15, .i2l, 1, [], 0), (16, .lconst 1, 1, [], 0), (17, .ldc2_w 149, 3, [], 0), (20, .invokestatic 134, 3, [], 0), (23, .ifCond .eq 7, 3, [30], 0), (26, .iconst 1, 1, [], 1), (27, .goto 4, 3, [31], 0), (30, .iconst 0, 1, [], 0), (31, .ireturn, 1, [], 0)]
theorem ck_X5_isFraction : cd_X5_isFraction.all (m_ick cX5_isFraction) = true ∧ m_ch cd_X5_isFraction = true := by decide +kernel
def cd_X5_value : List mIN := [(0, .aload_n 0, 1, [], 0), (1, .bipush 17, 2, [], 17), (3, .lconst 1, 1, [], 0), (4, .invokevirtual 50, 3, [], 0), (7, .aload_n 0, 1, [], 0), (8, .iload_n 1, 1, [], 0), (9, .iload_n 1, 1, [], 0), (10, .bipush 18, 2, [], 18), (12, .invokevirtual 204, 3, [], 0), (15, .iload_n 1, 1, [], 0), (16, .iconst 1, 1, [], 1), (17, .isub, 1, [], 0), (18, .istore 7, 2, [], 0), (20, .iload 7, 2, [], 0), (22, .ifCond .lt 54, 3, [76], 0), (25, .aload_n 0, 1, [], 0), (26, .bipush 17, 2, [], 17), (28, .lload 4, 2, [], 0), (30, .invokevirtual 161, 3, [], 0), (33, .aload_n 0, 1, [], 0), (34, .bipush 18, 2, [], 18), (36, .lload_n 2, 1, [], 0), (37, .invokevirtual 161, 3, [], 0), (40, .aload_n 0, 1, [], 0), (41, .iload_n 1, 1, [], 0), (42, .iload 7, 2, [], 0), (44, .bipush 12, 2, [], 12), (46, .invokevirtual 204, 3, [], 0), (49, .aload_n 0, 1, [], 0), (50, .bipush 12, 2, [], 12), (52, .bipush 17, 2, [], 17), (54, .bipush 13, 2, [], 13), (56, .invokevirtual 84, 3, [], 0), (59, .aload_n 0, 1, [], 0), (60, .bipush 18, 2, [], 18), (62, .bipush 13, 2, [], 13), (64, .iconst 1, 1, [], 1), (65, .bipush 18, 2, [], 18), (67, .invokevirtual 164, 3, [], 0), (70, .iinc 7 (-1), 3, [], -1), (73, .goto (-53), 3, [20], 0), (76, .aload_n 0, 1, [], 0), (77, .bipush 18, 2, [], 18), (79, .iload 6, 2, [], 0), (81, .invokevirtual 66, 3, [], 0), (84, .return_, 1, [], 0)]
theorem ck_X5_value : cd_X5_value.all (m_ick cX5_value) = true ∧ m_ch cd_X5_value = true := by decide +kernel
def cd_X5_layValue : List mIN := [(0, .aload_n 0, 1, [], 0), (1, .iload_n 1, 1, [], 0), (2, .invokevirtual 195, 3, [], 0), (5, .ifCond .ne 5, 3, [10], 0), (8, .iconst (-1), 1, [], -1), (9, .ireturn, 1, [], 0), (10, .iload_n 2, 1, [], 0), (11, .iload_n 3, 1, [], 0), (12, .invokestatic 207, 3, [], 0), (15, .ifCond .ne 6, 3, [21], 0), (18, .bipush (-2), 2, [], -2), (20, .ireturn, 1, [], 0), (21, .aload_n 0, 1, [], 0), (22, .iload_n 1, 1, [], 0), (23, .iload_n 2, 1, [], 0), (24, .i2l, 1, [], 0), (25, .iload_n 3, 1, [], 0), (26, .i2l, 1, [], 0), (27, .iconst 2, 1, [], 2), (28, .invokevirtual 210, 3, [], 0), (31, .aload_n 0, 1, [], 0), (32, .iload_n 1, 1, [], 0), (33, .iconst 3, 1, [], 3), (34, .invokevirtual 187, 3, [], 0), (37, .iconst 0, 1, [], 0), (38, .istore 4, 2, [], 0), (40, .iload 4, 2, [], 0), (42, .iload_n 1, 1, [], 0), (43, .if_icmp .ge 16, 3, [59], 0), (46, .aload_n 0, 1, [], 0), (47, .iconst 3, 1, [], 3), (48, .iload_n 3, 1, [], 0), (49, .i2l, 1, [], 0), (50, .invokevirtual 161, 3, [], 0), (53, .iinc 4 1, 3, [], 1), (56, .goto (-16), 3, [40], 0), (59, .aload_n 0, 1, [], 0), (60, .iconst 2, 1, [], 2), (61, .iconst 3, 1, [], 3), (62, .invokevirtual 198, 3, [], 0), (65, .ireturn, 1, [], 0)]
theorem ck_X5_layValue : cd_X5_layValue.all (m_ick cX5_layValue) = true ∧ m_ch cd_X5_layValue = true := by decide +kernel
def cd_X5_of : List mIN := [(0, .aload_n 0, 1, [], 0), (1, .bipush 17, 2, [], 17), (3, .lconst 0, 1, [], 0), (4, .invokevirtual 50, 3, [], 0), (7, .iconst 0, 1, [], 0), (8, .istore 4, 2, [], 0), (10, .iload 4, 2, [], 0), (12, .iload_n 1, 1, [], 0), (13, .if_icmp .gt 44, 3, [57], 0), (16, .aload_n 0, 1, [], 0), (17, .iload_n 1, 1, [], 0), (18, .iload 4, 2, [], 0), (20, .bipush 12, 2, [], 12), (22, .invokevirtual 204, 3, [], 0), (25, .aload_n 0, 1, [], 0), (26, .bipush 12, 2, [], 12), (28, .aload_n 0, 1, [], 0), (29, .getfield 19, 3, [], 0), (32, .iload_n 2, 1, [], 0), (33, .iload 4, 2, [], 0), (35, .iadd, 1, [], 0), (36, .laload, 1, [], 0), (37, .invokevirtual 161, 3, [], 0), (40, .aload_n 0, 1, [], 0), (41, .bipush 17, 2, [], 17), (43, .bipush 12, 2, [], 12), (45, .iconst 1, 1, [], 1), (46, .bipush 17, 2, [], 17), (48, .invokevirtual 164, 3, [], 0), (51, .iinc 4 1, 3, [], 1), (54, .goto (-44), 3, [10], 0), (57, .aload_n 0, 1, [], 0), (58, .bipush 17, 2, [], 17), (60, .iload_n 3, 1, [], 0), (61, .invokevirtual 66, 3, [], 0), (64, .return_, 1, [], 0)]
theorem ck_X5_of : cd_X5_of.all (m_ick cX5_of) = true ∧ m_ch cd_X5_of = true := by decide +kernel
def cd_X5_layProduct : List mIN := [(0, .aload_n 0, 1, [], 0), (1, .iload_n 1, 1, [], 0), (2, .invokevirtual 195, 3, [], 0), (5, .ifCond .eq 21, 3, [26], 0), (8, .aload_n 0, 1, [], 0), (9, .iload_n 2, 1, [], 0), (10, .invokevirtual 195, 3, [], 0), (13, .ifCond .eq 13, 3, [26], 0), (16, .aload_n 0, 1, [], 0), (17, .getfield 54, 3, [], 0), (20, .iload_n 1, 1, [], 0), (21, .iload_n 2, 1, [], 0), (22, .iadd, 1, [], 0), (23, .if_icmp .ge 5, 3, [28], 0), (26, .iconst (-1), 1, [], -1), (27, .ireturn, 1, [], 0), (28, .aload_n 0, 1, [], 0), (29, .iconst 2, 1, [], 2), (30, .lconst 0, 1, [], 0), (31, .invokevirtual 50, 3, [], 0), (34, .iconst 0, 1, [], 0), (35, .istore_n 3, 1, [], 0), (36, .iload_n 3, 1, [], 0), (37, .iload_n 1, 1, [], 0), (38, .if_icmp .gt 44, 3, [82], 0), (41, .aload_n 0, 1, [], 0), (42, .iload_n 2, 1, [], 0), (43, .iload_n 3, 1, [], 0), (44, .bipush 18, 2, [], 18), (46, .invokevirtual 214, 3, [], 0), (49, .aload_n 0, 1, [], 0), (50, .iload_n 1, 1, [], 0), (51, .iload_n 3, 1, [], 0), (52, .bipush 12, 2, [], 12), (54, .invokevirtual 204, 3, [], 0), (57, .aload_n 0, 1, [], 0), (58, .bipush 12, 2, [], 12), (60, .bipush 18, 2, [], 18), (62, .bipush 13, 2, [], 13), (64, .invokevirtual 84, 3, [], 0), (67, .aload_n 0, 1, [], 0), (68, .iconst 2, 1, [], 2), (69, .bipush 13, 2, [], 13), (71, .iconst 1, 1, [], 1), (72, .iconst 2, 1, [], 2), (73, .invokevirtual 164, 3, [], 0), (76, .iinc 3 1, 3, [], 1), (79, .goto (-43), 3, [36], 0), (82, .aload_n 0, 1, [], 0), (83, .iload_n 1, 1, [], 0), (84, .bipush 14, 2, [], 14), (86, .invokevirtual 187, 3, [], 0), (89, .aload_n 0, 1, [], 0), (90, .iload_n 2, 1, [], 0), (91, .bipush 15, 2, [], 15), (93, .invokevirtual 187, 3, [], 0), (96, .aload_n 0, 1, [], 0), (97, .bipush 14, 2, [], 14), (99, .bipush 15, 2, [], 15), (101, .iconst 3, 1, [], 3), (102, .invokevirtual 84, 3, [], 0), (105, .aload_n 0, 1, [], 0), (106, .iconst 2, 1, [], 2), (107, .iconst 3, 1, [], 3), (108, .invokevirtual 198, 3, [], 0), (111, .ireturn, 1, [], 0)]
theorem ck_X5_layProduct : cd_X5_layProduct.all (m_ick cX5_layProduct) = true ∧ m_ch cd_X5_layProduct = true := by decide +kernel
def cd_X5_layShare : List mIN := [(0, .iload_n 1, 1, [], 0), (1, .ifCond .lt 21, 3, [22], 0), (4, .aload_n 0, 1, [], 0), (5, .iload_n 2, 1, [], 0), (6, .invokevirtual 201, 3, [], 0), (9, .ifCond .eq 13, 3, [22], 0), (12, .iload_n 1, 1, [], 0), (13, .aload_n 0, 1, [], 0), (14, .getfield 54, 3, [], 0), (17, .iload_n 2, 1, [], 0), (18, .isub, 1, [], 0), (19, .if_icmp .le 5, 3, [24], 0), (22, .iconst (-1), 1, [], -1), (23, .ireturn, 1, [], 0), (24, .aload_n 0, 1, [], 0), (25, .iload_n 2, 1, [], 0), (26, .invokevirtual 217, 3, [], 0), (29, .ifCond .ne 6, 3, [35], 0), (32, .bipush (-5), 2, [], -5), (34, .ireturn, 1, [], 0), (35, .aload_n 0, 1, [], 0), (36, .iload_n 2, 1, [], 0), (37, .iload_n 1, 1, [], 0), (38, .iconst 2, 1, [], 2), (39, .invokevirtual 214, 3, [], 0), (42, .aload_n 0, 1, [], 0), (43, .iload_n 2, 1, [], 0), (44, .iconst 1, 1, [], 1), (45, .iadd, 1, [], 0), (46, .iconst 3, 1, [], 3), (47, .invokevirtual 187, 3, [], 0), (50, .aload_n 0, 1, [], 0), (51, .iconst 2, 1, [], 2), (52, .iconst 3, 1, [], 3), (53, .invokevirtual 198, 3, [], 0), (56, .ireturn, 1, [], 0)]
theorem ck_X5_layShare : cd_X5_layShare.all (m_ick cX5_layShare) = true ∧ m_ch cd_X5_layShare = true := by decide +kernel
def cd_X5_layKernel : List mIN := [(0, .aload_n 0, 1, [], 0), (1, .iload_n 1, 1, [], 0), (2, .invokevirtual 201, 3, [], 0), (5, .ifCond .ne 5, 3, [10], 0), (8, .iconst (-1), 1, [], -1), (9, .ireturn, 1, [], 0), (10, .iload_n 2, 1, [], 0), (11, .i2l, 1, [], 0), (12, .ldc2_w 220, 3, [], 0), (15, .ldc2_w 222, 3, [], 0), (18, .invokestatic 134, 3, [], 0), (21, .ifCond .eq 17, 3, [38], 0), (24, .iload_n 3, 1, [], 0), (25, .i2l, 1, [], 0), (26, .ldc2_w 220, 3, [], 0), (29, .ldc2_w 222, 3, [], 0), (32, .invokestatic 134, 3, [], 0), (35, .ifCond .ne 6, 3, [41], 0), (38, .bipush (-2), 2, [], -2), (40, .ireturn, 1, [], 0), (41, .aload_n 0, 1, [], 0), (42, .iload_n 1, 1, [], 0), (43, .invokevirtual 217, 3, [], 0), (46, .ifCond .ne 6, 3, [52], 0), (49, .bipush (-5), 2, [], -5), (51, .ireturn, 1, [], 0), (52, .aload_n 0, 1, [], 0), (53, .iconst 2, 1, [], 2), (54, .lconst 0, 1, [], 0), (55, .invokevirtual 50, 3, [], 0), (58, .aload_n 0, 1, [], 0), (59, .iconst 3, 1, [], 3), (60, .lconst 1, 1, [], 0), (61, .invokevirtual 50, 3, [], 0), (64, .iconst 0, 1, [], 0), (65, .istore 4, 2, [], 0), (67, .iload 4, 2, [], 0), (69, .iload_n 1, 1, [], 0), (70, .if_icmp .gt 119, 3, [189], 0), (73, .aload_n 0, 1, [], 0), (74, .iload 4, 2, [], 0), (76, .iload_n 2, 1, [], 0), (77, .i2l, 1, [], 0), (78, .lconst 1, 1, [], 0), (79, .bipush 20, 2, [], 20), (81, .invokevirtual 210, 3, [], 0), (84, .aload_n 0, 1, [], 0), (85, .iload 4, 2, [], 0), (87, .iload_n 3, 1, [], 0), (88, .i2l, 1, [], 0), (89, .lconst 1, 1, [], 0), (90, .bipush 21, 2, [], 21), (92, .invokevirtual 210, 3, [], 0), (95, .aload_n 0, 1, [], 0), (96, .bipush 20, 2, [], 20), (98, .bipush 21, 2, [], 21), (100, .bipush 22, 2, [], 22), (102, .invokevirtual 84, 3, [], 0), (105, .aload_n 0, 1, [], 0), (106, .iload 4, 2, [], 0), (108, .bipush 14, 2, [], 14), (110, .invokevirtual 187, 3, [], 0), (113, .aload_n 0, 1, [], 0), (114, .iload 4, 2, [], 0), (116, .iconst 1, 1, [], 1), (117, .iadd, 1, [], 0), (118, .bipush 15, 2, [], 15), (120, .invokevirtual 187, 3, [], 0), (123, .aload_n 0, 1, [], 0), (124, .bipush 14, 2, [], 14), (126, .bipush 15, 2, [], 15), (128, .bipush 23, 2, [], 23), (130, .invokevirtual 84, 3, [], 0), (133, .aload_n 0, 1, [], 0), (134, .iconst 2, 1, [], 2), (135, .bipush 23, 2, [], 23), (137, .bipush 24, 2, [], 24), (139, .invokevirtual 84, 3, [], 0), (142, .aload_n 0, 1, [], 0), (143, .iconst 3, 1, [], 3), (144, .bipush 22, 2, [], 22), (146, .bipush 25, 2, [], 25), (148, .invokevirtual 84, 3, [], 0), (151, .aload_n 0, 1, [], 0), (152, .bipush 24, 2, [], 24), (154, .bipush 25, 2, [], 25), (156, .iconst 1, 1, [], 1), (157, .iconst 2, 1, [], 2), (158, .invokevirtual 164, 3, [], 0), (161, .aload_n 0, 1, [], 0), (162, .iconst 3, 1, [], 3), (163, .bipush 23, 2, [], 23), (165, .bipush 24, 2, [], 24), (167, .invokevirtual 84, 3, [], 0), (170, .aload_n 0, 1, [], 0), (171, .bipush 24, 2, [], 24), (173, .iconst 3, 1, [], 3), (174, .invokevirtual 66, 3, [], 0), (177, .aload_n 0, 1, [], 0), (178, .iconst 2, 1, [], 2), (179, .iconst 3, 1, [], 3), (180, .invokevirtual 107, 3, [], 0), (183, .iinc 4 1, 3, [], 1), (186, .goto (-119), 3, [67], 0), (189, .aload_n 0, 1, [], 0), (190, .iconst 2, 1, [], 2), (191, .iconst 3, 1, [], 3), (192, .invokevirtual 198, 3, [], 0), (195, .ireturn, 1, [], 0)]
theorem ck_X5_layKernel : cd_X5_layKernel.all (m_ick cX5_layKernel) = true ∧ m_ch cd_X5_layKernel = true := by decide +kernel
def cd_X5_layLeft : List mIN := [(0, .iload_n 1, 1, [], 0), (1, .ifCond .eq 25, 3, [26], 0), (4, .aload_n 0, 1, [], 0), (5, .iload_n 1, 1, [], 0), (6, .invokevirtual 195, 3, [], 0), (9, .ifCond .eq 17, 3, [26], 0), (12, .iload_n 2, 1, [], 0), (13, .i2l, 1, [], 0), (14, .lconst 0, 1, [], 0), (15, .aload_n 0, 1, [], 0), (16, .getfield 54, 3, [], 0), (19, .i2l, 1, [], 0), (20, .invokestatic 134, 3, [], 0), (23, .ifCond .ne 5, 3, [28], 0), (26, .iconst (-1), 1, [], -1), (27, .ireturn, 1, [], 0), (28, .iconst 0, 1, [], 0), (29, .istore_n 3, 1, [], 0), (30, .iload_n 3, 1, [], 0), (31, .iload_n 1, 1, [], 0), (32, .if_icmp .gt 37, 3, [69], 0), (35, .aload_n 0, 1, [], 0), (36, .iload_n 1, 1, [], 0), (37, .iload_n 3, 1, [], 0), (38, .bipush 20, 2, [], 20), (40, .iload_n 3, 1, [], 0), (41, .iadd, 1, [], 0), (42, .invokevirtual 204, 3, [], 0), (45, .aload_n 0, 1, [], 0), (46, .bipush 30, 2, [], 30), (48, .iload_n 3, 1, [], 0), (49, .iadd, 1, [], 0), (50, .iload_n 3, 1, [], 0), (51, .iload_n 2, 1, [], 0), (52, .if_icmp .ne 7, 3, [59], 0), (55, .lconst 1, 1, [], 0), (56, .goto 4, 3, [60], 0), (59, .lconst 0, 1, [], 0), (60, .invokevirtual 50, 3, [], 0), (63, .iinc 3 1, 3, [], 1), (66, .goto (-36), 3, [30], 0), (69, .aload_n 0, 1, [], 0), (70, .iconst 3, 1, [], 3), (71, .lconst 1, 1, [], 0), (72, .invokevirtual 50, 3, [], 0), (75, .iload_n 2, 1, [], 0), (76, .iload_n 1, 1, [], 0), (77, .if_icmp .lt 50, 3, [127], 0), (80, .aload_n 0, 1, [], 0), (81, .bipush 30, 2, [], 30), (83, .iload_n 1, 1, [], 0), (84, .iadd, 1, [], 0), (85, .iconst 1, 1, [], 1), (86, .isub, 1, [], 0), (87, .lconst 1, 1, [], 0), (88, .invokevirtual 50, 3, [], 0), (91, .iload_n 1, 1, [], 0), (92, .istore_n 3, 1, [], 0), (93, .iload_n 3, 1, [], 0), (94, .iload_n 2, 1, [], 0), (95, .if_icmp .gt 32, 3, [127], 0), (98, .aload_n 0, 1, [], 0), (99, .iload_n 1, 1, [], 0), (100, .invokevirtual 224, 3, [], 0), (103, .aload_n 0, 1, [], 0), (104, .iconst 3, 1, [], 3), (105, .bipush 20, 2, [], 20), (107, .iload_n 1, 1, [], 0), (108, .iadd, 1, [], 0), (109, .bipush 13, 2, [], 13), (111, .invokevirtual 84, 3, [], 0), (114, .aload_n 0, 1, [], 0), (115, .bipush 13, 2, [], 13), (117, .iconst 3, 1, [], 3), (118, .invokevirtual 66, 3, [], 0), (121, .iinc 3 1, 3, [], 1), (124, .goto (-31), 3, [93], 0), (127, .aload_n 0, 1, [], 0), (128, .iconst 2, 1, [], 2), (129, .aload_n 0, 1, [], 0), (130, .getfield 19, 3, [], 0), (133, .iload_n 2, 1, [], 0), (134, .laload, 1, [], 0), (135, .invokevirtual 50, 3, [], 0), (138, .aload_n 0, 1, [], 0), (139, .iconst 2, 1, [], 2), (140, .iconst 3, 1, [], 3), (141, .bipush 13, 2, [], 13), (143, .invokevirtual 84, 3, [], 0), (146, .aload_n 0, 1, [], 0), (147, .bipush 13, 2, [], 13), (149, .iconst 2, 1, [], 2), (150, .invokevirtual 66, 3, [], 0), (153, .iconst 0, 1, [], 0), (154, .istore_n 3, 1, [], 0), (155, .iload_n 3, 1, [], 0), (156, .iload_n 1, 1, [], 0), (157, .if_icmp .ge 34, 3, [191], 0), (160, .aload_n 0, 1, [], 0), (161, .bipush 30, 2, [], 30), (163, .iload_n 3, 1, [], 0), (164, .iadd, 1, [], 0), (165, .aload_n 0, 1, [], 0), (166, .getfield 19, 3, [], 0), (169, .iload_n 3, 1, [], 0), (170, .laload, 1, [], 0), (171, .invokevirtual 161, 3, [], 0), (174, .aload_n 0, 1, [], 0), (175, .iconst 2, 1, [], 2), (176, .bipush 30, 2, [], 30), (178, .iload_n 3, 1, [], 0), (179, .iadd, 1, [], 0), (180, .iconst (-1), 1, [], -1), (181, .iconst 2, 1, [], 2), (182, .invokevirtual 164, 3, [], 0), (185, .iinc 3 1, 3, [], 1), (188, .goto (-33), 3, [155], 0), (191, .aload_n 0, 1, [], 0), (192, .iconst 2, 1, [], 2), (193, .iconst 3, 1, [], 3), (194, .invokevirtual 198, 3, [], 0), (197, .ireturn, 1, [], 0)]
theorem ck_X5_layLeft : cd_X5_layLeft.all (m_ick cX5_layLeft) = true ∧ m_ch cd_X5_layLeft = true := by decide +kernel
def cd_X5_leftOnce : List mIN := [(0, .aload_n 0, 1, [], 0), (1, .bipush 30, 2, [], 30), (3, .iload_n 1, 1, [], 0), (4, .iadd, 1, [], 0), (5, .iconst 1, 1, [], 1), (6, .isub, 1, [], 0), (7, .bipush 18, 2, [], 18), (9, .invokevirtual 66, 3, [], 0), (12, .iload_n 1, 1, [], 0), (13, .iconst 1, 1, [], 1), (14, .isub, 1, [], 0), (15, .istore_n 2, 1, [], 0), (16, .iload_n 2, 1, [], 0), (17, .ifCond .lt 64, 3, [81], 0), (20, .aload_n 0, 1, [], 0), (21, .bipush 18, 2, [], 18), (23, .bipush 20, 2, [], 20), (25, .iload_n 2, 1, [], 0), (26, .iadd, 1, [], 0), (27, .bipush 12, 2, [], 12), (29, .invokevirtual 84, 3, [], 0), (32, .iload_n 2, 1, [], 0), (33, .ifCond .le 22, 3, [55], 0), (36, .aload_n 0, 1, [], 0), (37, .bipush 30, 2, [], 30), (39, .iload_n 2, 1, [], 0), (40, .iadd, 1, [], 0), (41, .iconst 1, 1, [], 1), (42, .isub, 1, [], 0), (43, .bipush 20, 2, [], 20), (45, .iload_n 1, 1, [], 0), (46, .iadd, 1, [], 0), (47, .bipush 13, 2, [], 13), (49, .invokevirtual 84, 3, [], 0), (52, .goto 10, 3, [62], 0), (55, .aload_n 0, 1, [], 0), (56, .bipush 13, 2, [], 13), (58, .lconst 0, 1, [], 0), (59, .invokevirtual 50, 3, [], 0), (62, .aload_n 0, 1, [], 0), (63, .bipush 13, 2, [], 13), (65, .bipush 12, 2, [], 12), (67, .iconst (-1), 1, [], -1), (68, .bipush 30, 2, [], 30), (70, .iload_n 2, 1, [], 0), (71, .iadd, 1, [], 0), (72, .invokevirtual 164, 3, [], 0), (75, .iinc 2 (-1), 3, [], -1), (78, .goto (-62), 3, [16], 0), (81, .return_, 1, [], 0)]
theorem ck_X5_leftOnce : cd_X5_leftOnce.all (m_ick cX5_leftOnce) = true ∧ m_ch cd_X5_leftOnce = true := by decide +kernel
def cd_X5_sign : List mIN := [(0, .aload_n 0, 1, [], 0), (1, .getfield 16, 3, [], 0), (4, .iconst 0, 1, [], 0), (5, .iaload, 1, [], 0), (6, .ifCond .ge 7, 3, [13], 0), (9, .iconst 2, 1, [], 2), (10, .goto 9, 3, [19], 0), (13, .aload_n 0, 1, [], 0), (14, .getfield 16, 3, [], 0), (17, .iconst 0, 1, [], 0), (18, .iaload, 1, [], 0), (19, .ireturn, 1, [], 0)]
theorem ck_X5_sign : cd_X5_sign.all (m_ick cX5_sign) = true ∧ m_ch cd_X5_sign = true := by decide +kernel
def cd_X5_bits : List mIN := [(0, .iload_n 1, 1, [], 0), (1, .i2l, 1, [], 0), (2, .lconst 0, 1, [], 0), (3, .lconst 1, 1, [], 0), (4, .invokestatic 134, 3, [], 0), (7, .ifCond .eq 19, 3, [26], 0), (10, .aload_n 0, 1, [], 0), (11, .iload_n 1, 1, [], 0), (12, .ifCond .ne 7, 3, [19], 0), (15, .iconst 0, 1, [], 0), (16, .goto 4, 3, [20], 0), (19, .iconst 1, 1, [], 1), (20, .invokevirtual 97, 3, [], 0), (23, .goto 5, 3, [28], 0), (26, .bipush (-2), 2, [], -2), (28, .ireturn, 1, [], 0)]
theorem ck_X5_bits : cd_X5_bits.all (m_ick cX5_bits) = true ∧ m_ch cd_X5_bits = true := by decide +kernel
def cd_X5_word : List mIN := [(0, .iload_n 1, 1, [], 0), (1, .i2l, 1, [], 0), (2, .lconst 0, 1, [], 0), (3, .lconst 1, 1, [], 0), (4, .invokestatic 134, 3, [], 0), (7, .ifCond .eq 7, 3, [14], 0), (10, .iload_n 2, 1, [], 0), (11, .ifCond .ge 6, 3, [17], 0), (14, .bipush (-2), 2, [], -2), (16, .ireturn, 1, [], 0), (17, .iload_n 1, 1, [], 0), (18, .ifCond .ne 7, 3, [25], 0), (21, .iconst 0, 1, [], 0), (22, .goto 4, 3, [26], 0), (25, .iconst 1, 1, [], 1), (26, .istore_n 3, 1, [], 0), (27, .iconst 0, 1, [], 0), (28, .istore 4, 2, [], 0), (30, .bipush 15, 2, [], 15), (32, .istore 5, 2, [], 0), (34, .iload 5, 2, [], 0), (36, .ifCond .lt 81, 3, [117], 0), (39, .ldc2_w 227, 3, [], 0), (42, .iload_n 2, 1, [], 0), (43, .i2l, 1, [], 0), (44, .lmul, 1, [], 0), (45, .iload 5, 2, [], 0), (47, .i2l, 1, [], 0), (48, .ladd, 1, [], 0), (49, .lstore 6, 2, [], 0), (51, .lload 6, 2, [], 0), (53, .ldc2_w 229, 3, [], 0), (56, .ldiv, 1, [], 0), (57, .aload_n 0, 1, [], 0), (58, .getfield 13, 3, [], 0), (61, .iload_n 3, 1, [], 0), (62, .iaload, 1, [], 0), (63, .i2l, 1, [], 0), (64, .lcmp, 1, [], 0), (65, .ifCond .ge 24, 3, [89], 0), (68, .aload_n 0, 1, [], 0), (69, .getfield 7, 3, [], 0), (72, .sipush 260, 3, [], 260), (75, .iload_n 3, 1, [], 0), (76, .imul, 1, [], 0), (77, .lload 6, 2, [], 0), (79, .ldc2_w 229, 3, [], 0), (82, .ldiv, 1, [], 0), (83, .l2i, 1, [], 0), (84, .iadd, 1, [], 0), (85, .iaload, 1, [], 0), (86, .goto 4, 3, [90], 0), (89, .iconst 0, 1, [], 0), (90, .istore 8, 2, [], 0), (92, .iload 4, 2, [], 0), (94, .iconst 2, 1, [], 2), (95, .imul, 1, [], 0), (96, .iload 8, 2, [], 0), (98, .lload 6, 2, [], 0), (100, .ldc2_w 229, 3, [], 0), (103, .lrem, 1, [], 0), (104, .l2i, 1, [], 0), (105, .ishr, 1, [], 0), (106, .iconst 1, 1, [], 1), (107, .iand, 1, [], 0), (108, .iadd, 1, [], 0), (109, .istore 4, 2, [], 0), (111, .iinc 5 (-1), 3, [], -1), (114, .goto (-80), 3, [34], 0), (117, .iload 4, 2, [], 0), (119, .ireturn, 1, [], 0)]
theorem ck_X5_word : cd_X5_word.all (m_ick cX5_word) = true ∧ m_ch cd_X5_word = true := by decide +kernel
def cd_X5_against : List mIN := [(0, .iload_n 1, 1, [], 0), (1, .iload_n 2, 1, [], 0), (2, .invokestatic 207, 3, [], 0), (5, .ifCond .ne 6, 3, [11], 0), (8, .bipush (-20), 2, [], -20), (10, .ireturn, 1, [], 0), (11, .aload_n 0, 1, [], 0), (12, .iconst 0, 1, [], 0), (13, .iconst 2, 1, [], 2), (14, .invokevirtual 66, 3, [], 0), (17, .aload_n 0, 1, [], 0), (18, .iconst 2, 1, [], 2), (19, .iload_n 2, 1, [], 0), (20, .i2l, 1, [], 0), (21, .invokevirtual 161, 3, [], 0), (24, .aload_n 0, 1, [], 0), (25, .iconst 1, 1, [], 1), (26, .iconst 3, 1, [], 3), (27, .invokevirtual 66, 3, [], 0), (30, .aload_n 0, 1, [], 0), (31, .iconst 3, 1, [], 3), (32, .iload_n 1, 1, [], 0), (33, .i2l, 1, [], 0), (34, .invokevirtual 161, 3, [], 0), (37, .aload_n 0, 1, [], 0), (38, .iconst 2, 1, [], 2), (39, .iconst 3, 1, [], 3), (40, .iconst (-1), 1, [], -1), (41, .iconst 2, 1, [], 2), (42, .invokevirtual 164, 3, [], 0), (45, .aload_n 0, 1, [], 0), (46, .getfield 16, 3, [], 0), (49, .iconst 2, 1, [], 2), (50, .iaload, 1, [], 0), (51, .ireturn, 1, [], 0)]
theorem ck_X5_against : cd_X5_against.all (m_ick cX5_against) = true ∧ m_ch cd_X5_against = true := by decide +kernel
def cd_X5_areAbove : List mIN := [(0, .iconst 1, 1, [], 1), (1, .istore_n 2, 1, [], 0), (2, .iconst 0, 1, [], 0), (3, .istore_n 3, 1, [], 0), (4, .iload_n 3, 1, [], 0), (5, .iload_n 1, 1, [], 0), (6, .if_icmp .ge 27, 3, [33], 0), (9, .iload_n 2, 1, [], 0), (10, .ifCond .eq 23, 3, [33], 0), (13, .aload_n 0, 1, [], 0), (14, .iload_n 3, 1, [], 0), (15, .invokevirtual 217, 3, [], 0), (18, .ifCond .le 7, 3, [25], 0), (21, .iconst 1, 1, [], 1), (22, .goto 4, 3, [26], 0), (25, .iconst 0, 1, [], 0), (26, .istore_n 2, 1, [], 0), (27, .iinc 3 1, 3, [], 1), (30, .goto (-26), 3, [4], 0), (33, .iload_n 2, 1, [], 0), (34, .ireturn, 1, [], 0)]
theorem ck_X5_areAbove : cd_X5_areAbove.all (m_ick cX5_areAbove) = true ∧ m_ch cd_X5_areAbove = true := by decide +kernel
def cd_X5_rootsBelow : List mIN := [(0, .iconst 0, 1, [], 0), (1, .istore 6, 2, [], 0), (3, .iconst 1, 1, [], 1), (4, .istore 7, 2, [], 0), (6, .iconst 1, 1, [], 1), (7, .istore 8, 2, [], 0), (9, .iconst 0, 1, [], 0), (10, .istore 9, 2, [], 0), (12, .iload 9, 2, [], 0), (14, .iload_n 1, 1, [], 0), (15, .if_icmp .gt 63, 3, [78], 0), (18, .aload_n 0, 1, [], 0), (19, .iload 9, 2, [], 0), (21, .lload_n 2, 1, [], 0), (22, .lload 4, 2, [], 0), (24, .iconst 2, 1, [], 2), (25, .invokevirtual 210, 3, [], 0), (28, .aload_n 0, 1, [], 0), (29, .getfield 16, 3, [], 0), (32, .iconst 2, 1, [], 2), (33, .iaload, 1, [], 0), (34, .istore 8, 2, [], 0), (36, .iload 6, 2, [], 0), (38, .iload 8, 2, [], 0), (40, .ifCond .eq 14, 3, [54], 0), (43, .iload 8, 2, [], 0), (45, .iload 7, 2, [], 0), (47, .if_icmp .eq 7, 3, [54], 0), (50, .iconst 1, 1, [], 1), (51, .goto 4, 3, [55], 0), (54, .iconst 0, 1, [], 0), (55, .iadd, 1, [], 0), (56, .istore 6, 2, [], 0), (58, .iload 8, 2, [], 0), (60, .ifCond .eq 8, 3, [68], 0), (63, .iload 8, 2, [], 0), (65, .goto 5, 3, [70], 0), (68, .iload 7, 2, [], 0), (70, .istore 7, 2, [], 0), (72, .iinc 9 1, 3, [], 1), (75, .goto (-63), 3, [12], 0), (78, .iload_n 1, 1, [], 0), (79, .iload 6, 2, [], 0), (81, .isub, 1, [], 0), (82, .iload 8, 2, [], 0), (84, .ifCond .ne 7, 3, [91], 0), (87, .iconst 1, 1, [], 1), (88, .goto 4, 3, [92], 0), (91, .iconst 0, 1, [], 0), (92, .isub, 1, [], 0), (93, .ireturn, 1, [], 0)]
theorem ck_X5_rootsBelow : cd_X5_rootsBelow.all (m_ick cX5_rootsBelow) = true ∧ m_ch cd_X5_rootsBelow = true := by decide +kernel
def cd_X5_below : List mIN := [(0, .aload_n 0, 1, [], 0), (1, .iload_n 1, 1, [], 0), (2, .invokevirtual 195, 3, [], 0), (5, .ifCond .ne 5, 3, [10], 0), (8, .iconst (-1), 1, [], -1), (9, .ireturn, 1, [], 0), (10, .iload_n 2, 1, [], 0), (11, .iload_n 3, 1, [], 0), (12, .invokestatic 207, 3, [], 0), (15, .ifCond .ne 6, 3, [21], 0), (18, .bipush (-2), 2, [], -2), (20, .ireturn, 1, [], 0), (21, .aload_n 0, 1, [], 0), (22, .iload_n 1, 1, [], 0), (23, .invokevirtual 231, 3, [], 0), (26, .ifCond .eq 15, 3, [41], 0), (29, .aload_n 0, 1, [], 0), (30, .iload_n 1, 1, [], 0), (31, .iload_n 2, 1, [], 0), (32, .i2l, 1, [], 0), (33, .iload_n 3, 1, [], 0), (34, .i2l, 1, [], 0), (35, .invokevirtual 234, 3, [], 0), (38, .goto 5, 3, [43], 0), (41, .bipush (-5), 2, [], -5), (43, .ireturn, 1, [], 0)]
theorem ck_X5_below : cd_X5_below.all (m_ick cX5_below) = true ∧ m_ch cd_X5_below = true := by decide +kernel
def cd_X5_shut : List mIN := [(0, .aload_n 0, 1, [], 0), (1, .iload_n 1, 1, [], 0), (2, .invokevirtual 195, 3, [], 0), (5, .ifCond .eq 16, 3, [21], 0), (8, .iload_n 2, 1, [], 0), (9, .i2l, 1, [], 0), (10, .lconst 0, 1, [], 0), (11, .iload_n 1, 1, [], 0), (12, .iconst 1, 1, [], 1), (13, .isub, 1, [], 0), (14, .i2l, 1, [], 0), (15, .invokestatic 134, 3, [], 0), (18, .ifCond .ne 6, 3, [24], 0), (21, .ldc 238, 2, [], 0), (23, .ireturn, 1, [], 0), (24, .iload_n 3, 1, [], 0), (25, .i2l, 1, [], 0), (26, .lconst 0, 1, [], 0), (27, .ldc2_w 239, 3, [], 0), (30, .invokestatic 134, 3, [], 0), (33, .ifCond .ne 6, 3, [39], 0), (36, .ldc 241, 2, [], 0), (38, .ireturn, 1, [], 0), (39, .aload_n 0, 1, [], 0), (40, .iload_n 1, 1, [], 0), (41, .invokevirtual 231, 3, [], 0), (44, .ifCond .ne 6, 3, [50], 0), (47, .ldc 242, 2, [], 0), (49, .ireturn, 1, [], 0), (50, .lconst 1, 1, [], 0), (51, .iload_n 3, 1, [], 0), (52, .lshl, 1, [], 0), (53, .lstore 4, 2, [], 0), (55, .aload_n 0, 1, [], 0), (56, .iload_n 1, 1, [], 0), (57, .ldc2_w 243, 3, [], 0), (60, .lload 4, 2, [], 0), (62, .lmul, 1, [], 0), (63, .lload 4, 2, [], 0), (65, .invokevirtual 234, 3, [], 0), (68, .iload_n 2, 1, [], 0), (69, .if_icmp .gt 20, 3, [89], 0), (72, .aload_n 0, 1, [], 0), (73, .iload_n 1, 1, [], 0), (74, .ldc2_w 245, 3, [], 0), (77, .lload 4, 2, [], 0), (79, .lmul, 1, [], 0), (80, .lload 4, 2, [], 0), (82, .invokevirtual 234, 3, [], 0), (85, .iload_n 2, 1, [], 0), (86, .if_icmp .gt 6, 3, [92], 0), (89, .ldc 247, 2, [], 0), (91, .ireturn, 1, [], 0), (92, .ldc2_w 243, 3, [], 0), (95, .lload 4, 2, [], 0), (97, .lmul, 1, [], 0), (98, .lstore 6, 2, [], 0), (100, .ldc2_w 245, 3, [], 0), (103, .lload 4, 2, [], 0), (105, .lmul, 1, [], 0), (106, .lstore 8, 2, [], 0), (108, .lload 8, 2, [], 0), (110, .lload 6, 2, [], 0), (112, .lsub, 1, [], 0), (113, .lconst 1, 1, [], 0), (114, .lcmp, 1, [], 0), (115, .ifCond .le 39, 3, [154], 0), (118, .lload 6, 2, [], 0), (120, .lload 8, 2, [], 0), (122, .ladd, 1, [], 0), (123, .iconst 1, 1, [], 1), (124, .lshr, 1, [], 0), (125, .lstore 10, 2, [], 0), (127, .aload_n 0, 1, [], 0), (128, .iload_n 1, 1, [], 0), (129, .lload 10, 2, [], 0), (131, .lload 4, 2, [], 0), (133, .invokevirtual 234, 3, [], 0), (136, .iload_n 2, 1, [], 0), (137, .if_icmp .gt 10, 3, [147], 0), (140, .lload 10, 2, [], 0), (142, .lstore 6, 2, [], 0), (144, .goto 7, 3, [151], 0), (147, .lload 10, 2, [], 0), (149, .lstore 8, 2, [], 0), (151, .goto (-43), 3, [108], 0), (154, .lload 6, 2, [], 0), (156, .l2i, 1, [], 0), (157, .ireturn, 1, [], 0)]
theorem ck_X5_shut : cd_X5_shut.all (m_ick cX5_shut) = true ∧ m_ch cd_X5_shut = true := by decide +kernel
def cd_X5_good : List mIN := [(0, .iconst 0, 1, [], 0), (1, .istore_n 1, 1, [], 0), (2, .aload_n 0, 1, [], 0), (3, .iload_n 1, 1, [], 0), (4, .invokevirtual 201, 3, [], 0), (7, .ifCond .eq 17, 3, [24], 0), (10, .aload_n 0, 1, [], 0), (11, .iload_n 1, 1, [], 0), (12, .invokevirtual 217, 3, [], 0), (15, .ifCond .le 9, 3, [24], 0), (18, .iinc 1 1, 3, [], 1), (21, .goto (-19), 3, [2], 0), (24, .iload_n 1, 1, [], 0), (25, .ireturn, 1, [], 0)]
theorem ck_X5_good : cd_X5_good.all (m_ick cX5_good) = true ∧ m_ch cd_X5_good = true := by decide +kernel
def cd_X5_few : List mIN := [(0, .aload_n 0, 1, [], 0), (1, .invokevirtual 248, 3, [], 0), (4, .istore_n 1, 1, [], 0), (5, .aload_n 0, 1, [], 0), (6, .iload_n 1, 1, [], 0), (7, .invokevirtual 201, 3, [], 0), (10, .ifCond .eq 11, 3, [21], 0), (13, .aload_n 0, 1, [], 0), (14, .iload_n 1, 1, [], 0), (15, .invokevirtual 217, 3, [], 0), (18, .ifCond .eq 6, 3, [24], 0), (21, .bipush (-6), 2, [], -6), (23, .ireturn, 1, [], 0), (24, .iconst 1, 1, [], 1), (25, .istore_n 2, 1, [], 0), (26, .iconst 0, 1, [], 0), (27, .istore_n 3, 1, [], 0), (28, .iload_n 1, 1, [], 0), (29, .iload_n 3, 1, [], 0), (30, .iadd, 1, [], 0), (31, .aload_n 0, 1, [], 0), (32, .getfield 54, 3, [], 0), (35, .if_icmp .gt 35, 3, [70], 0), (38, .iload_n 2, 1, [], 0), (39, .ifCond .eq 31, 3, [70], 0), (42, .aload_n 0, 1, [], 0), (43, .iload_n 1, 1, [], 0), (44, .iload_n 3, 1, [], 0), (45, .iconst 2, 1, [], 2), (46, .invokevirtual 214, 3, [], 0), (49, .aload_n 0, 1, [], 0), (50, .getfield 16, 3, [], 0), (53, .iconst 2, 1, [], 2), (54, .iaload, 1, [], 0), (55, .ifCond .ne 7, 3, [62], 0), (58, .iconst 1, 1, [], 1), (59, .goto 4, 3, [63], 0), (62, .iconst 0, 1, [], 0), (63, .istore_n 2, 1, [], 0), (64, .iinc 3 1, 3, [], 1), (67, .goto (-39), 3, [28], 0), (70, .iload_n 2, 1, [], 0), (71, .ifCond .eq 7, 3, [78], 0), (74, .iload_n 1, 1, [], 0), (75, .goto 5, 3, [80], 0), (78, .bipush (-6), 2, [], -6), (80, .ireturn, 1, [], 0)]
theorem ck_X5_few : cd_X5_few.all (m_ick cX5_few) = true ∧ m_ch cd_X5_few = true := by decide +kernel
def cd_X5_told : List mIN := [(0, .iload_n 1, 1, [], 0), (1, .tableswitch 79 0 4 #[35, 40, 45, 61, 74], 35, [80, 36, 41, 46, 62, 75], 0), (36, .aload_n 0, 1, [], 0), (37, .getfield 113, 3, [], 0), (40, .ireturn, 1, [], 0), (41, .aload_n 0, 1, [], 0), (42, .getfield 54, 3, [], 0), (45, .ireturn, 1, [], 0), (46, .aload_n 0, 1, [], 0), (47, .getfield 113, 3, [], 0), (50, .ifCond .ne 10, 3, [60], 0), (53, .aload_n 0, 1, [], 0), (54, .getfield 120, 3, [], 0), (57, .goto 4, 3, [61], 0), (60, .iconst 0, 1, [], 0), (61, .ireturn, 1, [], 0), (62, .aload_n 0, 1, [], 0), (63, .getfield 116, 3, [], 0), (66, .ifCond .eq 7, 3, [73], 0), (69, .iconst 1, 1, [], 1), (70, .goto 4, 3, [74], 0), (73, .iconst 0, 1, [], 0), (74, .ireturn, 1, [], 0), (75, .aload_n 0, 1, [], 0), (76, .invokevirtual 192, 3, [], 0), (79, .ireturn, 1, [], 0), (80, .bipush (-2), 2, [], -2), (82, .ireturn, 1, [], 0)]
theorem ck_X5_told : cd_X5_told.all (m_ick cX5_told) = true ∧ m_ch cd_X5_told = true := by decide +kernel
def cd_X5_keep : List mIN := [(0, .iload_n 1, 1, [], 0), (1, .i2l, 1, [], 0), (2, .lconst 0, 1, [], 0), (3, .lconst 1, 1, [], 0), (4, .invokestatic 134, 3, [], 0), (7, .ifCond .ne 5, 3, [12], 0), (10, .iconst (-1), 1, [], -1), (11, .ireturn, 1, [], 0), (12, .iconst 0, 1, [], 0), (13, .istore_n 2, 1, [], 0), (14, .iload_n 2, 1, [], 0), (15, .bipush 11, 2, [], 11), (17, .if_icmp .gt 26, 3, [43], 0), (20, .aload_n 0, 1, [], 0), (21, .getfield 35, 3, [], 0), (24, .bipush 12, 2, [], 12), (26, .iload_n 1, 1, [], 0), (27, .imul, 1, [], 0), (28, .iload_n 2, 1, [], 0), (29, .iadd, 1, [], 0), (30, .aload_n 0, 1, [], 0), (31, .getfield 19, 3, [], 0), (34, .iload_n 2, 1, [], 0), (35, .laload, 1, [], 0), (36, .lastore, 1, [], 0), (37, .iinc 2 1, 3, [], 1), (40, .goto (-26), 3, [14], 0), (43, .iconst 0, 1, [], 0), (44, .istore_n 2, 1, [], 0), (45, .iload_n 2, 1, [], 0), (46, .bipush 10, 2, [], 10), (48, .if_icmp .ge 43, 3, [91], 0), (51, .aload_n 0, 1, [], 0), (52, .getfield 38, 3, [], 0), (55, .bipush 10, 2, [], 10), (57, .iload_n 1, 1, [], 0), (58, .imul, 1, [], 0), (59, .iload_n 2, 1, [], 0), (60, .iadd, 1, [], 0), (61, .aload_n 0, 1, [], 0), (62, .getfield 23, 3, [], 0), (65, .iload_n 2, 1, [], 0), (66, .iaload, 1, [], 0), (67, .iastore, 1, [], 0), (68, .aload_n 0, 1, [], 0), (69, .getfield 41, 3, [], 0), (72, .bipush 10, 2, [], 10), (74, .iload_n 1, 1, [], 0), (75, .imul, 1, [], 0), (76, .iload_n 2, 1, [], 0), (77, .iadd, 1, [], 0), (78, .aload_n 0, 1, [], 0), (79, .getfield 26, 3, [], 0), (82, .iload_n 2, 1, [], 0), (83, .iaload, 1, [], 0), (84, .iastore, 1, [], 0), (85, .iinc 2 1, 3, [], 1), (88, .goto (-43), 3, [45], 0), (91, .aload_n 0, 1, [], 0), (92, .getfield 44, 3, [], 0), (95, .iconst 5, 1, [], 5), (96, .iload_n 1, 1, [], 0), (97, .imul, 1, [], 0), (98, .iconst 1, 1, [], 1), (99, .iastore, 1, [], 0), (100, .aload_n 0, 1, [], 0), (101, .getfield 44, 3, [], 0), (104, .iconst 5, 1, [], 5), (105, .iload_n 1, 1, [], 0), (106, .imul, 1, [], 0), (107, .iconst 1, 1, [], 1), (108, .iadd, 1, [], 0), (109, .aload_n 0, 1, [], 0), (110, .getfield 113, 3, [], 0), (113, .iastore, 1, [], 0), (114, .aload_n 0, 1, [], 0), (115, .getfield 44, 3, [], 0), (118, .iconst 5, 1, [], 5), (119, .iload_n 1, 1, [], 0), (120, .imul, 1, [], 0), (121, .iconst 2, 1, [], 2), (122, .iadd, 1, [], 0), (123, .aload_n 0, 1, [], 0), (124, .getfield 54, 3, [], 0), (127, .iastore, 1, [], 0), (128, .aload_n 0, 1, [], 0), (129, .getfield 44, 3, [], 0), (132, .iconst 5, 1, [], 5), (133, .iload_n 1, 1, [], 0), (134, .imul, 1, [], 0), (135, .iconst 3, 1, [], 3), (136, .iadd, 1, [], 0), (137, .aload_n 0, 1, [], 0), (138, .getfield 116, 3, [], 0), (141, .ifCond .eq 7, 3, [148], 0), (144, .iconst 1, 1, [], 1), (145, .goto 4, 3, [149], 0), (148, .iconst 0, 1, [], 0), (149, .iastore, 1, [], 0), (150, .aload_n 0, 1, [], 0), (151, .getfield 44, 3, [], 0), (154, .iconst 5, 1, [], 5), (155, .iload_n 1, 1, [], 0), (156, .imul, 1, [], 0), (157, .iconst 4, 1, [], 4), (158, .iadd, 1, [], 0), (159, .aload_n 0, 1, [], 0), (160, .getfield 120, 3, [], 0), (163, .iastore, 1, [], 0), (164, .iconst 1, 1, [], 1), (165, .ireturn, 1, [], 0)]
theorem ck_X5_keep : cd_X5_keep.all (m_ick cX5_keep) = true ∧ m_ch cd_X5_keep = true := by decide +kernel
def cd_X5_isKept : List mIN := [(0, .iload_n 1, 1, [], 0), (1, .i2l, 1, [], 0), (2, .lconst 0, 1, [], 0), (3, .lconst 1, 1, [], 0), (4, .invokestatic 134, 3, [], 0), (7, .ifCond .eq 19, 3, [26], 0), (10, .aload_n 0, 1, [], 0), (11, .getfield 44, 3, [], 0), (14, .iconst 5, 1, [], 5), (15, .iload_n 1, 1, [], 0), (16, .imul, 1, [], 0), (17, .iaload, 1, [], 0), (18, .iconst 1, 1, [], 1), (19, .if_icmp .ne 7, 3, [26], 0), (22, .iconst 1, 1, [], 1), (23, .goto 4, 3, [27], 0), (26, .iconst 0, 1, [], 0), (27, .ireturn, 1, [], 0)]
theorem ck_X5_isKept : cd_X5_isKept.all (m_ick cX5_isKept) = true ∧ m_ch cd_X5_isKept = true := by decide +kernel
def cd_X5_take : List mIN := [(0, .iconst 0, 1, [], 0), (1, .istore_n 2, 1, [], 0), (2, .iload_n 2, 1, [], 0), (3, .bipush 11, 2, [], 11), (5, .if_icmp .gt 26, 3, [31], 0), (8, .aload_n 0, 1, [], 0), (9, .getfield 19, 3, [], 0), (12, .iload_n 2, 1, [], 0), (13, .aload_n 0, 1, [], 0), (14, .getfield 35, 3, [], 0), (17, .bipush 12, 2, [], 12), (19, .iload_n 1, 1, [], 0), (20, .imul, 1, [], 0), (21, .iload_n 2, 1, [], 0), (22, .iadd, 1, [], 0), (23, .laload, 1, [], 0), (24, .lastore, 1, [], 0), (25, .iinc 2 1, 3, [], 1), (28, .goto (-26), 3, [2], 0), (31, .aload_n 0, 1, [], 0), (32, .aload_n 0, 1, [], 0), (33, .getfield 44, 3, [], 0), (36, .iconst 5, 1, [], 5), (37, .iload_n 1, 1, [], 0), (38, .imul, 1, [], 0), (39, .iconst 2, 1, [], 2), (40, .iadd, 1, [], 0), (41, .iaload, 1, [], 0), (42, .putfield 54, 3, [], 0), (45, .return_, 1, [], 0)]
theorem ck_X5_take : cd_X5_take.all (m_ick cX5_take) = true ∧ m_ch cd_X5_take = true := by decide +kernel
def cd_X5_back : List mIN := [(0, .aload_n 0, 1, [], 0), (1, .iload_n 1, 1, [], 0), (2, .invokevirtual 251, 3, [], 0), (5, .ifCond .ne 5, 3, [10], 0), (8, .iconst (-1), 1, [], -1), (9, .ireturn, 1, [], 0), (10, .aload_n 0, 1, [], 0), (11, .iload_n 1, 1, [], 0), (12, .invokevirtual 254, 3, [], 0), (15, .iconst 0, 1, [], 0), (16, .istore_n 2, 1, [], 0), (17, .iload_n 2, 1, [], 0), (18, .bipush 10, 2, [], 10), (20, .if_icmp .ge 43, 3, [63], 0), (23, .aload_n 0, 1, [], 0), (24, .getfield 23, 3, [], 0), (27, .iload_n 2, 1, [], 0), (28, .aload_n 0, 1, [], 0), (29, .getfield 38, 3, [], 0), (32, .bipush 10, 2, [], 10), (34, .iload_n 1, 1, [], 0), (35, .imul, 1, [], 0), (36, .iload_n 2, 1, [], 0), (37, .iadd, 1, [], 0), (38, .iaload, 1, [], 0), (39, .iastore, 1, [], 0), (40, .aload_n 0, 1, [], 0), (41, .getfield 26, 3, [], 0), (44, .iload_n 2, 1, [], 0), (45, .aload_n 0, 1, [], 0), (46, .getfield 41, 3, [], 0), (49, .bipush 10, 2, [], 10), (51, .iload_n 1, 1, [], 0), (52, .imul, 1, [], 0), (53, .iload_n 2, 1, [], 0), (54, .iadd, 1, [], 0), (55, .iaload, 1, [], 0), (56, .iastore, 1, [], 0), (57, .iinc 2 1, 3, [], 1), (60, .goto (-43), 3, [17], 0), (63, .aload_n 0, 1, [], 0), (64, .aload_n 0, 1, [], 0), (65, .getfield 44, 3, [], 0), (68, .iconst 5, 1, [], 5), (69, .iload_n 1, 1, [], 0), (70, .imul, 1, [], 0), (71, .iconst 1, 1, [], 1), (72, .iadd, 1, [], 0), (73, .iaload, 1, [], 0), (74, .putfield 113, 3, [], 0), (77, .aload_n 0, 1, [], 0), (78, .aload_n 0, 1, [], 0), (79, .getfield 44, 3, [], 0), (82, .iconst 5, 1, [], 5), (83, .iload_n 1, 1, [], 0), (84, .imul, 1, [], 0), (85, .iconst 3, 1, [], 3), (86, .iadd, 1, [], 0), (87, .iaload, 1, [], 0), (88, .iconst 1, 1, [], 1), (89, .if_icmp .ne 7, 3, [96], 0), (92, .iconst 1, 1, [], 1), (93, .goto 4, 3, [97], 0), (96, .iconst 0, 1, [], 0), (97, .putfield 116, 3, [], 0), (100, .aload_n 0, 1, [], 0), (101, .aload_n 0, 1, [], 0), (102, .getfield 44, 3, [], 0), (105, .iconst 5, 1, [], 5), (106, .iload_n 1, 1, [], 0), (107, .imul, 1, [], 0), (108, .iconst 4, 1, [], 4), (109, .iadd, 1, [], 0), (110, .iaload, 1, [], 0), (111, .putfield 120, 3, [], 0), (114, .aload_n 0, 1, [], 0), (115, .getfield 54, 3, [], 0), (118, .ireturn, 1, [], 0)]
theorem ck_X5_back : cd_X5_back.all (m_ick cX5_back) = true ∧ m_ch cd_X5_back = true := by decide +kernel
def cd_X5_differs : List mIN := [(0, .aload_n 0, 1, [], 0), (1, .iload_n 1, 1, [], 0), (2, .invokevirtual 251, 3, [], 0), (5, .ifCond .ne 5, 3, [10], 0), (8, .iconst (-1), 1, [], -1), (9, .ireturn, 1, [], 0), (10, .aload_n 0, 1, [], 0), (11, .invokevirtual 192, 3, [], 0), (14, .istore_n 2, 1, [], 0), (15, .aload_n 0, 1, [], 0), (16, .getfield 54, 3, [], 0), (19, .istore_n 3, 1, [], 0), (20, .iconst 0, 1, [], 0), (21, .istore 4, 2, [], 0), (23, .iload 4, 2, [], 0), (25, .bipush 11, 2, [], 11), (27, .if_icmp .gt 23, 3, [50], 0), (30, .aload_n 0, 1, [], 0), (31, .getfield 47, 3, [], 0), (34, .iload 4, 2, [], 0), (36, .aload_n 0, 1, [], 0), (37, .getfield 19, 3, [], 0), (40, .iload 4, 2, [], 0), (42, .laload, 1, [], 0), (43, .lastore, 1, [], 0), (44, .iinc 4 1, 3, [], 1), (47, .goto (-24), 3, [23], 0), (50, .bipush (-6), 2, [], -6), (52, .istore 4, 2, [], 0), (54, .aload_n 0, 1, [], 0), (55, .iload_n 1, 1, [], 0), (56, .invokevirtual 254, 3, [], 0), (59, .aload_n 0, 1, [], 0), (60, .invokevirtual 192, 3, [], 0), (63, .istore 5, 2, [], 0), (65, .iconst 1, 1, [], 1), (66, .istore 6, 2, [], 0), (68, .iload 6, 2, [], 0), (70, .iload_n 2, 1, [], 0), (71, .if_icmp .gt 40, 3, [111], 0), (74, .iload 6, 2, [], 0), (76, .iload 5, 2, [], 0), (78, .if_icmp .gt 33, 3, [111], 0), (81, .iload 4, 2, [], 0), (83, .ifCond .ge 28, 3, [111], 0), (86, .aload_n 0, 1, [], 0), (87, .iload_n 1, 1, [], 0), (88, .iload 6, 2, [], 0), (90, .invokevirtual 257, 3, [], 0), (93, .ifCond .eq 8, 3, [101], 0), (96, .iload 6, 2, [], 0), (98, .goto 5, 3, [103], 0), (101, .bipush (-6), 2, [], -6), (103, .istore 4, 2, [], 0), (105, .iinc 6 1, 3, [], 1), (108, .goto (-40), 3, [68], 0), (111, .iload 4, 2, [], 0), (113, .ifCond .ge 27, 3, [140], 0), (116, .iload_n 2, 1, [], 0), (117, .iload 5, 2, [], 0), (119, .if_icmp .eq 21, 3, [140], 0), (122, .iload_n 2, 1, [], 0), (123, .iload 5, 2, [], 0), (125, .if_icmp .ge 9, 3, [134], 0), (128, .iload_n 2, 1, [], 0), (129, .iconst 1, 1, [], 1), (130, .iadd, 1, [], 0), (131, .goto 7, 3, [138], 0), (134, .iload 5, 2, [], 0), (136, .iconst 1, 1, [], 1), (137, .iadd, 1, [], 0), (138, .istore 4, 2, [], 0), (140, .iconst 0, 1, [], 0), (141, .istore 6, 2, [], 0), (143, .iload 6, 2, [], 0), (145, .bipush 11, 2, [], 11), (147, .if_icmp .gt 23, 3, [170], 0), (150, .aload_n 0, 1, [], 0), (151, .getfield 19, 3, [], 0), (154, .iload 6, 2, [], 0), (156, .aload_n 0, 1, [], 0), (157, .getfield 47, 3, [], 0), (160, .iload 6, 2, [], 0), (162, .laload, 1, [], 0), (163, .lastore, 1, [], 0), (164, .iinc 6 1, 3, [], 1), (167, .goto (-24), 3, [143], 0), (170, .aload_n 0, 1, [], 0), (171, .iload_n 3, 1, [], 0), (172, .putfield 54, 3, [], 0), (175, .iload 4, 2, [], 0), (177, .ireturn, 1, [], 0)]
theorem ck_X5_differs : cd_X5_differs.all (m_ick cX5_differs) = true ∧ m_ch cd_X5_differs = true := by decide +kernel
def cd_X5_isOther : List mIN := [(0, .iconst 0, 1, [], 0), (1, .istore_n 3, 1, [], 0), (2, .iload_n 3, 1, [], 0), (3, .iload_n 2, 1, [], 0), (4, .if_icmp .gt 19, 3, [23], 0), (7, .aload_n 0, 1, [], 0), (8, .iload_n 2, 1, [], 0), (9, .iload_n 3, 1, [], 0), (10, .bipush 20, 2, [], 20), (12, .iload_n 3, 1, [], 0), (13, .iadd, 1, [], 0), (14, .invokevirtual 204, 3, [], 0), (17, .iinc 3 1, 3, [], 1), (20, .goto (-18), 3, [2], 0), (23, .aload_n 0, 1, [], 0), (24, .iload_n 2, 1, [], 0), (25, .bipush 26, 2, [], 26), (27, .invokevirtual 187, 3, [], 0), (30, .iconst 0, 1, [], 0), (31, .istore_n 3, 1, [], 0), (32, .iload_n 3, 1, [], 0), (33, .bipush 11, 2, [], 11), (35, .if_icmp .gt 21, 3, [56], 0), (38, .aload_n 0, 1, [], 0), (39, .getfield 19, 3, [], 0), (42, .iload_n 3, 1, [], 0), (43, .aload_n 0, 1, [], 0), (44, .getfield 47, 3, [], 0), (47, .iload_n 3, 1, [], 0), (48, .laload, 1, [], 0), (49, .lastore, 1, [], 0), (50, .iinc 3 1, 3, [], 1), (53, .goto (-21), 3, [32], 0), (56, .aload_n 0, 1, [], 0), (57, .iload_n 2, 1, [], 0), (58, .bipush 15, 2, [], 15), (60, .invokevirtual 187, 3, [], 0), (63, .iconst 0, 1, [], 0), (64, .istore_n 3, 1, [], 0), (65, .iconst 0, 1, [], 0), (66, .istore 4, 2, [], 0), (68, .iload 4, 2, [], 0), (70, .iload_n 2, 1, [], 0), (71, .if_icmp .ge 66, 3, [137], 0), (74, .iload_n 3, 1, [], 0), (75, .ifCond .ne 62, 3, [137], 0), (78, .aload_n 0, 1, [], 0), (79, .iload_n 2, 1, [], 0), (80, .iload 4, 2, [], 0), (82, .bipush 12, 2, [], 12), (84, .invokevirtual 204, 3, [], 0), (87, .aload_n 0, 1, [], 0), (88, .bipush 12, 2, [], 12), (90, .bipush 26, 2, [], 26), (92, .iconst 2, 1, [], 2), (93, .invokevirtual 84, 3, [], 0), (96, .aload_n 0, 1, [], 0), (97, .bipush 20, 2, [], 20), (99, .iload 4, 2, [], 0), (101, .iadd, 1, [], 0), (102, .bipush 15, 2, [], 15), (104, .iconst 3, 1, [], 3), (105, .invokevirtual 84, 3, [], 0), (108, .aload_n 0, 1, [], 0), (109, .iconst 2, 1, [], 2), (110, .iconst 3, 1, [], 3), (111, .iconst (-1), 1, [], -1), (112, .iconst 2, 1, [], 2), (113, .invokevirtual 164, 3, [], 0), (116, .aload_n 0, 1, [], 0), (117, .getfield 16, 3, [], 0), (120, .iconst 2, 1, [], 2), (121, .iaload, 1, [], 0), (122, .ifCond .eq 7, 3, [129], 0), (125, .iconst 1, 1, [], 1), (126, .goto 4, 3, [130], 0), (129, .iconst 0, 1, [], 0), (130, .istore_n 3, 1, [], 0), (131, .iinc 4 1, 3, [], 1), (134, .goto (-66), 3, [68], 0), (137, .iconst 0, 1, [], 0), (138, .istore 4, 2, [], 0), (140, .iload 4, 2, [], 0), (142, .bipush 11, 2, [], 11), (144, .if_icmp .gt 28, 3, [172], 0), (147, .aload_n 0, 1, [], 0), (148, .getfield 19, 3, [], 0), (151, .iload 4, 2, [], 0), (153, .aload_n 0, 1, [], 0), (154, .getfield 35, 3, [], 0), (157, .bipush 12, 2, [], 12), (159, .iload_n 1, 1, [], 0), (160, .imul, 1, [], 0), (161, .iload 4, 2, [], 0), (163, .iadd, 1, [], 0), (164, .laload, 1, [], 0), (165, .lastore, 1, [], 0), (166, .iinc 4 1, 3, [], 1), (169, .goto (-29), 3, [140], 0), (172, .iload_n 3, 1, [], 0), (173, .ireturn, 1, [], 0)]
theorem ck_X5_isOther : cd_X5_isOther.all (m_ick cX5_isOther) = true ∧ m_ch cd_X5_isOther = true := by decide +kernel
def cd_J6_numberOfLeadingZeros_0f7a4 : List mIN := [(0, .iload_n 0, 1, [], 0), (1, .ifCond .gt 14, 3, [15], 0), (4, .iload_n 0, 1, [], 0), (5, .ifCond .ne 8, 3, [13], 0), (8, .bipush 32, 2, [], 32), (10, .goto 4, 3, [14], 0), (13, .iconst 0, 1, [], 0), (14, .ireturn, 1, [], 0), (15, .bipush 31, 2, [], 31), (17, .istore_n 1, 1, [], 0), (18, .iload_n 0, 1, [], 0), (19, .ldc_w 264, 3, [], 0), (22, .if_icmp .lt 11, 3, [33], 0), (25, .iinc 1 (-16), 3, [], -16), (28, .iload_n 0, 1, [], 0), (29, .bipush 16, 2, [], 16), (31, .iushr, 1, [], 0), (32, .istore_n 0, 1, [], 0), (33, .iload_n 0, 1, [], 0), (34, .sipush 256, 3, [], 256), (37, .if_icmp .lt 11, 3, [48], 0), (40, .iinc 1 (-8), 3, [], -8), (43, .iload_n 0, 1, [], 0), (44, .bipush 8, 2, [], 8), (46, .iushr, 1, [], 0), (47, .istore_n 0, 1, [], 0), (48, .iload_n 0, 1, [], 0), (49, .bipush 16, 2, [], 16), (51, .if_icmp .lt 10, 3, [61], 0), (54, .iinc 1 (-4), 3, [], -4), (57, .iload_n 0, 1, [], 0), (58, .iconst 4, 1, [], 4), (59, .iushr, 1, [], 0), (60, .istore_n 0, 1, [], 0), (61, .iload_n 0, 1, [], 0), (62, .iconst 4, 1, [], 4), (63, .if_icmp .lt 10, 3, [73], 0), (66, .iinc 1 (-2), 3, [], -2), (69, .iload_n 0, 1, [], 0), (70, .iconst 2, 1, [], 2), (71, .iushr, 1, [], 0), (72, .istore_n 0, 1, [], 0), (73, .iload_n 1, 1, [], 0), (74, .iload_n 0, 1, [], 0), (75, .iconst 1, 1, [], 1), (76, .iushr, 1, [], 0), (77, .isub, 1, [], 0), (78, .ireturn, 1, [], 0)]
theorem ck_J6_numberOfLeadingZeros_0f7a4 : cd_J6_numberOfLeadingZeros_0f7a4.all (m_ick cJ6_numberOfLeadingZeros_0f7a4) = true ∧ m_ch cd_J6_numberOfLeadingZeros_0f7a4 = true := by decide +kernel
def cd_J6_numberOfTrailingZeros_0f7a4 : List mIN := [(0, .iload_n 0, 1, [], 0), (1, .iconst (-1), 1, [], -1), (2, .ixor, 1, [], 0), (3, .iload_n 0, 1, [], 0), (4, .iconst 1, 1, [], 1), (5, .isub, 1, [], 0), (6, .iand, 1, [], 0), (7, .istore_n 0, 1, [], 0), (8, .iload_n 0, 1, [], 0), (9, .ifCond .gt 8, 3, [17], 0), (12, .iload_n 0, 1, [], 0), (13, .bipush 32, 2, [], 32), (15, .iand, 1, [], 0), (16, .ireturn, 1, [], 0), (17, .iconst 1, 1, [], 1), (18, .istore_n 1, 1, [], 0), (19, .iload_n 0, 1, [], 0), (20, .ldc_w 264, 3, [], 0), (23, .if_icmp .le 11, 3, [34], 0), (26, .iinc 1 16, 3, [], 16), (29, .iload_n 0, 1, [], 0), (30, .bipush 16, 2, [], 16), (32, .iushr, 1, [], 0), (33, .istore_n 0, 1, [], 0), (34, .iload_n 0, 1, [], 0), (35, .sipush 256, 3, [], 256), (38, .if_icmp .le 11, 3, [49], 0), (41, .iinc 1 8, 3, [], 8), (44, .iload_n 0, 1, [], 0), (45, .bipush 8, 2, [], 8), (47, .iushr, 1, [], 0), (48, .istore_n 0, 1, [], 0), (49, .iload_n 0, 1, [], 0), (50, .bipush 16, 2, [], 16), (52, .if_icmp .le 10, 3, [62], 0), (55, .iinc 1 4, 3, [], 4), (58, .iload_n 0, 1, [], 0), (59, .iconst 4, 1, [], 4), (60, .iushr, 1, [], 0), (61, .istore_n 0, 1, [], 0), (62, .iload_n 0, 1, [], 0), (63, .iconst 4, 1, [], 4), (64, .if_icmp .le 10, 3, [74], 0), (67, .iinc 1 2, 3, [], 2), (70, .iload_n 0, 1, [], 0), (71, .iconst 2, 1, [], 2), (72, .iushr, 1, [], 0), (73, .istore_n 0, 1, [], 0), (74, .iload_n 1, 1, [], 0), (75, .iload_n 0, 1, [], 0), (76, .iconst 1, 1, [], 1), (77, .iushr, 1, [], 0), (78, .iadd, 1, [], 0), (79, .ireturn, 1, [], 0)]
theorem ck_J6_numberOfTrailingZeros_0f7a4 : cd_J6_numberOfTrailingZeros_0f7a4.all (m_ick cJ6_numberOfTrailingZeros_0f7a4) = true ∧ m_ch cd_J6_numberOfTrailingZeros_0f7a4 = true := by decide +kernel
def cd_J6_bitCount_0f7a4 : List mIN := [(0, .iload_n 0, 1, [], 0), (1, .iload_n 0, 1, [], 0), (2, .iconst 1, 1, [], 1), (3, .iushr, 1, [], 0), (4, .ldc_w 265, 3, [], 0), (7, .iand, 1, [], 0), (8, .isub, 1, [], 0), (9, .istore_n 0, 1, [], 0), (10, .iload_n 0, 1, [], 0), (11, .ldc_w 266, 3, [], 0), (14, .iand, 1, [], 0), (15, .iload_n 0, 1, [], 0), (16, .iconst 2, 1, [], 2), (17, .iushr, 1, [], 0), (18, .ldc_w 266, 3, [], 0), (21, .iand, 1, [], 0), (22, .iadd, 1, [], 0), (23, .istore_n 0, 1, [], 0), (24, .iload_n 0, 1, [], 0), (25, .iload_n 0, 1, [], 0), (26, .iconst 4, 1, [], 4), (27, .iushr, 1, [], 0), (28, .iadd, 1, [], 0), (29, .ldc_w 267, 3, [], 0), (32, .iand, 1, [], 0), (33, .istore_n 0, 1, [], 0), (34, .iload_n 0, 1, [], 0), (35, .iload_n 0, 1, [], 0), (36, .bipush 8, 2, [], 8), (38, .iushr, 1, [], 0), (39, .iadd, 1, [], 0), (40, .istore_n 0, 1, [], 0), (41, .iload_n 0, 1, [], 0), (42, .iload_n 0, 1, [], 0), (43, .bipush 16, 2, [], 16), (45, .iushr, 1, [], 0), (46, .iadd, 1, [], 0), (47, .istore_n 0, 1, [], 0), (48, .iload_n 0, 1, [], 0), (49, .bipush 63, 2, [], 63), (51, .iand, 1, [], 0), (52, .ireturn, 1, [], 0)]
theorem ck_J6_bitCount_0f7a4 : cd_J6_bitCount_0f7a4.all (m_ick cJ6_bitCount_0f7a4) = true ∧ m_ch cd_J6_bitCount_0f7a4 = true := by decide +kernel
def cd_J13_compare_74951 : List mIN := [(0, .lload_n 0, 1, [], 0), (1, .lload_n 2, 1, [], 0), (2, .lcmp, 1, [], 0), (3, .ifCond .ge 7, 3, [10], 0), (6, .iconst (-1), 1, [], -1), (7, .goto 14, 3, [21], 0), (10, .lload_n 0, 1, [], 0), (11, .lload_n 2, 1, [], 0), (12, .lcmp, 1, [], 0), (13, .ifCond .ne 7, 3, [20], 0), (16, .iconst 0, 1, [], 0), (17, .goto 4, 3, [21], 0), (20, .iconst 1, 1, [], 1), (21, .ireturn, 1, [], 0)]
theorem ck_J13_compare_74951 : cd_J13_compare_74951.all (m_ick cJ13_compare_74951) = true ∧ m_ch cd_J13_compare_74951 = true := by decide +kernel
def cd_J9_abs_067f4 : List mIN := [(0, .lload_n 0, 1, [], 0), (1, .lconst 0, 1, [], 0), (2, .lcmp, 1, [], 0), (3, .ifCond .ge 8, 3, [11], 0), (6, .lload_n 0, 1, [], 0), (7, .lneg, 1, [], 0), (8, .goto 4, 3, [12], 0), (11, .lload_n 0, 1, [], 0), (12, .lreturn, 1, [], 0)]
theorem ck_J9_abs_067f4 : cd_J9_abs_067f4.all (m_ick cJ9_abs_067f4) = true ∧ m_ch cd_J9_abs_067f4 = true := by decide +kernel
def cd_J9_max_7cf53 : List mIN := [(0, .iload_n 0, 1, [], 0), (1, .iload_n 1, 1, [], 0), (2, .if_icmp .lt 7, 3, [9], 0), (5, .iload_n 0, 1, [], 0), (6, .goto 4, 3, [10], 0), (9, .iload_n 1, 1, [], 0), (10, .ireturn, 1, [], 0)]
theorem ck_J9_max_7cf53 : cd_J9_max_7cf53.all (m_ick cJ9_max_7cf53) = true ∧ m_ch cd_J9_max_7cf53 = true := by decide +kernel
def cd_J9_min_7cf53 : List mIN := [(0, .iload_n 0, 1, [], 0), (1, .iload_n 1, 1, [], 0), (2, .if_icmp .gt 7, 3, [9], 0), (5, .iload_n 0, 1, [], 0), (6, .goto 4, 3, [10], 0), (9, .iload_n 1, 1, [], 0), (10, .ireturn, 1, [], 0)]
theorem ck_J9_min_7cf53 : cd_J9_min_7cf53.all (m_ick cJ9_min_7cf53) = true ∧ m_ch cd_J9_min_7cf53 = true := by decide +kernel
def cd_J7_rangeCheck_23922 : List mIN := [(0, .iload_n 1, 1, [], 0), (1, .iload_n 2, 1, [], 0), (2, .if_icmp .le 44, 3, [46], 0), (5, .new 43, 3, [], 0), (8, .dup, 1, [], 0), (9, .new 45, 3, [], 0), (12, .dup, 1, [], 0), (13, .invokespecial 47, 3, [], 0), (16, .ldc 48, 2, [], 0), (18, .invokevirtual 50, 3, [], 0), (21, .iload_n 1, 1, [], 0), (22, .invokevirtual 54, 3, [], 0), (25, .ldc 57, 2, [], 0), (27, .invokevirtual 50, 3, [], 0), (30, .iload_n 2, 1, [], 0), (31, .invokevirtual 54, 3, [], 0), (34, .ldc 59, 2, [], 0), (36, .invokevirtual 50, 3, [], 0), (39, .invokevirtual 61, 3, [], 0), (42, .invokespecial 65, 3, [], 0), (45, .athrow, 1, [], 0), (46, .iload_n 1, 1, [], 0), (47, .ifCond .ge 12, 3, [59], 0), (50, .new 68, 3, [], 0), (53, .dup, 1, [], 0), (54, .iload_n 1, 1, [], 0), (55, .invokespecial 70, 3, [], 0), (58, .athrow, 1, [], 0), (59, .iload_n 2, 1, [], 0), (60, .iload_n 0, 1, [], 0), (61, .if_icmp .le 12, 3, [73], 0), (64, .new 68, 3, [], 0), (67, .dup, 1, [], 0), (68, .iload_n 2, 1, [], 0), (69, .invokespecial 70, 3, [], 0), (72, .athrow, 1, [], 0), (73, .return_, 1, [], 0)]
theorem ck_J7_rangeCheck_23922 : cd_J7_rangeCheck_23922.all (m_ick cJ7_rangeCheck_23922) = true ∧ m_ch cd_J7_rangeCheck_23922 = true := by decide +kernel
def cd_J7_fill_d0a16 : List mIN := [(0, .iconst 0, 1, [], 0), (1, .istore_n 3, 1, [], 0), (2, .aload_n 0, 1, [], 0), (3, .arraylength, 1, [], 0), (4, .istore 4, 2, [], 0), (6, .iload_n 3, 1, [], 0), (7, .iload 4, 2, [], 0), (9, .if_icmp .ge 13, 3, [22], 0), (12, .aload_n 0, 1, [], 0), (13, .iload_n 3, 1, [], 0), (14, .lload_n 1, 1, [], 0), (15, .lastore, 1, [], 0), (16, .iinc 3 1, 3, [], 1), (19, .goto (-13), 3, [6], 0), (22, .return_, 1, [], 0)]
theorem ck_J7_fill_d0a16 : cd_J7_fill_d0a16.all (m_ick cJ7_fill_d0a16) = true ∧ m_ch cd_J7_fill_d0a16 = true := by decide +kernel
def cd_J7_fill_53178 : List mIN := [(0, .iconst 0, 1, [], 0), (1, .istore_n 2, 1, [], 0), (2, .aload_n 0, 1, [], 0), (3, .arraylength, 1, [], 0), (4, .istore_n 3, 1, [], 0), (5, .iload_n 2, 1, [], 0), (6, .iload_n 3, 1, [], 0), (7, .if_icmp .ge 13, 3, [20], 0), (10, .aload_n 0, 1, [], 0), (11, .iload_n 2, 1, [], 0), (12, .iload_n 1, 1, [], 0), (13, .iastore, 1, [], 0), (14, .iinc 2 1, 3, [], 1), (17, .goto (-12), 3, [5], 0), (20, .return_, 1, [], 0)]
theorem ck_J7_fill_53178 : cd_J7_fill_53178.all (m_ick cJ7_fill_53178) = true ∧ m_ch cd_J7_fill_53178 = true := by decide +kernel
def cd_J7_fill_fda19 : List mIN := [(0, .aload_n 0, 1, [], 0), (1, .arraylength, 1, [], 0), (2, .iload_n 1, 1, [], 0), (3, .iload_n 2, 1, [], 0), (4, .invokestatic 13, 3, [], 0), (7, .iload_n 1, 1, [], 0), (8, .istore 4, 2, [], 0), (10, .iload 4, 2, [], 0), (12, .iload_n 2, 1, [], 0), (13, .if_icmp .ge 14, 3, [27], 0), (16, .aload_n 0, 1, [], 0), (17, .iload 4, 2, [], 0), (19, .iload_n 3, 1, [], 0), (20, .iastore, 1, [], 0), (21, .iinc 4 1, 3, [], 1), (24, .goto (-14), 3, [10], 0), (27, .return_, 1, [], 0)]
theorem ck_J7_fill_fda19 : cd_J7_fill_fda19.all (m_ick cJ7_fill_fda19) = true ∧ m_ch cd_J7_fill_fda19 = true := by decide +kernel
end
section
/-! ===== the method rule with cuts from the entry on; calls of the JDK's native copy; words on contracts ===== -/
section MS
variable {p : Program} {l : Launch} {e : Env} {R : Room} {s : State} {m : MethodId} {args : Array Value} {below : List Frame} {meth : Method} {c : Code} {Q : State → Prop} {cc : ByteArray} {own : String}
variable {D : va_G} {cs : Nat → ClassId} {ad : Nat → Nat} {sh : mSH} {rf : mRF} {N : Nat} {nL : Nat}
theorem m_go_ok (hx : p.tables.exec = Jvm.exec) (hb : c.code = cc) (hown : s.vm.findClass own = some m.cls) (hts : ∀ w ∈ m_tw, w.before args s = true) (hK : va_K D m_cl (m_ty cs) s) (hi : ∀ i j, i < N → j < N → ad i = ad j → i = j) (hN : ∀ i, sh i ≠ .inr (9, 0) → i < N)
    {fl : List mFL} (hfl : fl.all (m_fck own) = true) {kI : List (Nat × Int32 × Nat)} (hkI : kI.all (m_kck own) = true) {kJ : List (Nat × Int64 × Nat)} (hkJ : kJ.all (m_kckL own) = true) {ct : Nat → Option (Nat × Bool × mPT)} (hct : ∀ k n vf pt, ct k = some (n, vf, pt) → m_CG p l e R s m args below meth c Q D cs ad sh rf N nL cc k n vf pt)
    {rk : Nat} {QP : mKT} (hE : m_E p l e R s m args below meth c Q D cs ad sh rf N nL cc rk QP) {cd : List mIN} (hcd : cd.all (m_ick cc) = true) (hch : m_ch cd = true) {cut : List (Nat × List Nat)} {Cv : mCV}
    (hcut : ∀ pc ks vs st I J, m_cu cut pc = some ks → Cv pc vs st I J → m_G p l e R s m args below meth c Q D cs ad sh rf N nL pc (ks.zip vs) st I J)
    (n : Nat) (q : mIN) (tl : List mIN) (lv : mLV) (st : List mPV) (I : mPI) (J : mPJ) (hs : ∃ u, u ++ (q :: tl) = cd) (h : m_go cut Cv (m_wp nL fl kI kJ ct sh rf rk QP cd cut Cv n) (q :: tl) lv st I J) : m_G p l e R s m args below meth c Q D cs ad sh rf N nL q.1 lv st I J := by
  obtain ⟨pc1, q1⟩ := q
  unfold m_go at h
  simp only at h
  split at h
  · rename_i ks hks
    split at h
    · rename_i vs hvs
      have h2 := hcut pc1 ks vs st I J hks h
      exact fun H locs ls hP hS hl => h2 H locs ls hP hS (m_weak hl hvs)
    · exact h.elim
  · exact m_wp_ok hx hb hown hts hK hi hN hfl hkI hkJ hct hE hcd hch hcut n (pc1, q1) tl lv st I J hs h
end MS
theorem m_methodG {y : MethodName} {bytes : ByteArray} {maxL : Nat} {ret : Option FieldType} {fr lc rk fu : Nat} {PT : mSH → mRF → mPT} {fl : List mFL} {kI : List (Nat × Int32 × Nat)} {kJ : List (Nat × Int64 × Nat)} {ct : mSH → mRF → Nat → Option (Nat × Bool × mPT)} {cd : List mIN} {cut : List (Nat × List Nat)}
    (hy : plainName y.cls = true) (hfl : fl.all (m_fck y.cls) = true) (hkI : kI.all (m_kck y.cls) = true) (hkJ : kJ.all (m_kckL y.cls) = true) (hct : m_CE y.cls fr lc bytes maxL ct) (hrk : m_rkok rk ret) (hcd : cd.all (m_ick bytes) = true ∧ m_ch cd = true) (hcd0 : ∃ q tl, cd = q :: tl ∧ q.1 = 0)
    (hvc : ∀ sh rf As I J K, PT sh rf As I J K → (As.map m_cat).sum ≤ maxL ∧ ∃ Inv : Nat → Nat → mCV,
      m_go cut (fun pc1 vs1 st1 I1 J1 => ∃ a1 b1, Inv a1 b1 pc1 vs1 st1 I1 J1) (m_wp maxL fl kI kJ (ct sh rf) sh rf rk K cd cut (fun pc1 vs1 st1 I1 J1 => ∃ a1 b1, Inv a1 b1 pc1 vs1 st1 I1 J1) fu) cd (m_args 0 As) [] I J ∧
      ∀ pc ks a b vs st I J, m_cu cut pc = some ks → Inv a b pc vs st I J → m_wp maxL fl kI kJ (ct sh rf) sh rf rk K cd cut (fun pc1 vs1 st1 I1 J1 => ∃ a1 b1, (a1 < a ∨ (a1 = a ∧ b1 < b)) ∧ Inv a1 b1 pc1 vs1 st1 I1 J1) fu (m_jmp cd pc) (ks.zip vs) st I J) :
    m_Mt y bytes maxL ret fr lc PT := by
  intro l D cs ad sh rf N As I J K hi hN hpt
  obtain ⟨hsz, Inv, h0, hstep⟩ := hvc sh rf As I J K hpt
  refine Met.ofW (cc := bytes) (maxL := maxL) (ret := ret) hy rfl ?_
  intro p e s m args below meth c s₁ B hml hv
  obtain ⟨rfl, hP, hK, hnw⟩ := hv
  have hx := B.exec
  have hb := B.bytes
  have hr := B.returns
  have hts : ∀ w ∈ m_tw, w.before (As.map (m_ev ad)).toArray s = true := fun w hw => by
    rcases List.mem_append.mp hw with h | h
    · rcases List.mem_cons.mp h with rfl | h
      · exact hnw.1.use rfl
      · rcases List.mem_cons.mp h with rfl | h
        · exact hnw.2.use rfl
        · cases h
    · exact atoms_spec (ws := m_ws y bytes maxL ret) B.pre w (List.mem_cons_of_mem _ h)
  have hown : s.vm.findClass y.cls = some m.cls := findClass_of_methodNamed B.named
  have hlocks := B.notSynchronized
  have hl := lv_entry (As.map (m_ev ad)) (n := maxL) (by rw [m_args_len]; exact hsz)
  rw [lg_entry_eq]
  rw [m_args_el] at hl
  have hE := m_E_of (p := p) (l := l) (e := e) (R := m_rm fr lc) (below := below) (args := (As.map (m_ev ad)).toArray) (m := m) (nL := maxL) (ad := ad) (sh := sh) (rf := rf) (N := N) hx hb hr hlocks hK hnw hrk K
  have hc := hct p l e s m (As.map (m_ev ad)).toArray below meth c (MQ below (m_Q D cs ad sh rf N K) (As.map (m_ev ad)).toArray s 0 0 (m_A ad N)) D cs ad sh rf N hx hb hml hown hts hK hi hN
  obtain ⟨q, tl, rfl, hq0⟩ := hcd0
  have hG := m_go_ok hx hb hown hts hK hi hN hfl hkI hkJ hc hE hcd.1 hcd.2 (cut := cut) (Cv := fun pc1 vs1 st1 I1 J1 => ∃ a1 b1, Inv a1 b1 pc1 vs1 st1 I1 J1) (fun pc ks vs st I1 J1 hks hex => by
    obtain ⟨a1, b1, h1⟩ := hex
    exact m_wp_inv hx hb hown hts hK hi hN hfl hkI hkJ hc hE hcd.1 hcd.2 hstep a1 b1 pc ks vs st I1 J1 hks h1) fu q tl (m_args 0 As) [] I J ⟨[], rfl⟩ h0
  rw [hq0] at hG
  exact hG s.heap [] _ hP va_S.rf hl
/-- without loops -/
theorem m_method0 {y : MethodName} {bytes : ByteArray} {maxL : Nat} {ret : Option FieldType} {fr lc rk : Nat} (fu : Nat) {PT : mSH → mRF → mPT} {fl : List mFL} {kI : List (Nat × Int32 × Nat)} {kJ : List (Nat × Int64 × Nat)} {ct : mSH → mRF → Nat → Option (Nat × Bool × mPT)} {cd : List mIN}
    (hy : plainName y.cls = true) (hfl : fl.all (m_fck y.cls) = true) (hkI : kI.all (m_kck y.cls) = true) (hkJ : kJ.all (m_kckL y.cls) = true) (hct : m_CE y.cls fr lc bytes maxL ct) (hrk : m_rkok rk ret) (hcd : cd.all (m_ick bytes) = true ∧ m_ch cd = true) (hcd0 : ∃ q tl, cd = q :: tl ∧ q.1 = 0)
    (hvc : ∀ sh rf As I J K, PT sh rf As I J K → (As.map m_cat).sum ≤ maxL ∧ m_wp maxL fl kI kJ (ct sh rf) sh rf rk K cd [] (fun _ _ _ _ _ => False) fu cd (m_args 0 As) [] I J) :
    m_Mt y bytes maxL ret fr lc PT := by
  refine m_methodG (fu := fu) (cut := []) hy hfl hkI hkJ hct hrk hcd hcd0 (fun sh rf As I J K hpt => ?_)
  obtain ⟨h1, h2⟩ := hvc sh rf As I J K hpt
  obtain ⟨q, tl, rfl, -⟩ := hcd0
  have e9 : (fun (pc1 : Nat) (vs1 st1 : List mPV) (I1 : mPI) (J1 : mPJ) => ∃ a1 b1 : Nat, (fun (_ _ : Nat) (_ : Nat) (_ _ : List mPV) (_ : mPI) (_ : mPJ) => False) a1 b1 pc1 vs1 st1 I1 J1) = (fun _ _ _ _ _ => False) := by
    funext pc1 vs1 st1 I1 J1
    exact propext ⟨fun ⟨_, _, h⟩ => h, fun h => h.elim⟩
  refine ⟨h1, fun _ _ _ _ _ _ _ => False, ?_, fun pc ks a b vs st I J h => by cases h⟩
  rw [e9]
  exact h2
theorem m_cu1 {p : Nat} {k ks : List Nat} {l : List (Nat × List Nat)} {pc : Nat} (h : m_cu ((p, k) :: l) pc = some ks) : (pc = p ∧ ks = k) ∨ m_cu l pc = some ks := by
  unfold m_cu at h
  split at h
  · rename_i hb
    exact Or.inl ⟨(Nat.eq_of_beq_eq_true hb).symm, (Option.some.inj h).symm⟩
  · exact Or.inr h
/-- a contract of an instance method: the receiver's class first -/
def m_pv (ci : Nat) (body : mSH → mRF → Nat → List mPV → mPI → mPJ → mKT → Prop) : mSH → mRF → mPT := fun sh rf As I J K => ∃ b rest, As = Sum.inr (.inr b) :: rest ∧ sh b = .inl ci ∧ body sh rf b rest I J K
theorem m_pv_rec {ci : Nat} {body : mSH → mRF → Nat → List mPV → mPI → mPJ → mKT → Prop} {sh : mSH} {rf : mRF} (As : List mPV) (I : mPI) (J : mPJ) (K : mKT) (h : m_pv ci body sh rf As I J K) : ∃ i As1, As = Sum.inr (.inr i) :: As1 ∧ sh i = .inl ci := by
  obtain ⟨b, rest, h1, h2, -⟩ := h
  exact ⟨b, rest, h1, h2⟩
/-- no calls -/
def ct_none : mSH → mRF → Nat → Option (Nat × Bool × mPT) := fun _ _ _ => none
theorem ce_none (own : String) (fr lc : Nat) (cc : ByteArray) (nL : Nat) : m_CE own fr lc cc nL ct_none := by
  intro p l e s m args below meth c Q D cs ad sh rf N hx hb hml hown hts hK hi hN k n vf pt h
  cases h
/-- System.arraycopy over ints, over longs -/
def pt_cpI (sh : mSH) (_ : mRF) : mPT := fun As I J K => ∃ (a0 : Nat) (sp : Int32) (a : Nat) (dp n : Int32) (n0 n1 : Nat), As = [.inr (.inr a0), .inl sp, .inr (.inr a), .inl dp, .inl n] ∧ sh a0 = .inr (0, n0) ∧ sh a = .inr (0, n1) ∧ ¬ sp < 0 ∧ ¬ dp < 0 ∧ ¬ n < 0 ∧ sp.toNatClampNeg + n.toNatClampNeg ≤ n0 ∧ dp.toNatClampNeg + n.toNatClampNeg ≤ n1 ∧ K none (va_up I a (va_cpy (I a0) (I a) sp.toNatClampNeg dp.toNatClampNeg n.toNatClampNeg)) J
def pt_cpJ (sh : mSH) (_ : mRF) : mPT := fun As I J K => ∃ (a0 : Nat) (sp : Int32) (a : Nat) (dp n : Int32) (n0 n1 : Nat), As = [.inr (.inr a0), .inl sp, .inr (.inr a), .inl dp, .inl n] ∧ sh a0 = .inr (1, n0) ∧ sh a = .inr (1, n1) ∧ ¬ sp < 0 ∧ ¬ dp < 0 ∧ ¬ n < 0 ∧ sp.toNatClampNeg + n.toNatClampNeg ≤ n0 ∧ dp.toNatClampNeg + n.toNatClampNeg ≤ n1 ∧ K none I (va_up J a (va_cpy (J a0) (J a) sp.toNatClampNeg dp.toNatClampNeg n.toNatClampNeg))
theorem m_setA0 {cs : Nat → ClassId} {ad : Nat → Nat} {sh : mSH} {rf : mRF} {N : Nat} {I : mPI} {J : mPJ} {i n : Nat} {f : Nat → Int32} (h : sh i = .inr (0, n)) : (m_wl cs ad sh rf N I J).set i (ad i, .inl (cs 0, n, .inl f)) = m_wl cs ad sh rf N (va_up I i f) J := by
  refine m_wl_set ?_ (fun j hj => m_ce_I (fun b => by rw [va_up_ne I f hj]) (fun _ => rfl))
  unfold m_ce m_ar
  rw [h, va_up_self]
  rfl
theorem m_setA1 {cs : Nat → ClassId} {ad : Nat → Nat} {sh : mSH} {rf : mRF} {N : Nat} {I : mPI} {J : mPJ} {i n : Nat} {f : Nat → Int64} (h : sh i = .inr (1, n)) : (m_wl cs ad sh rf N I J).set i (ad i, .inl (cs 1, n, .inr (.inl f))) = m_wl cs ad sh rf N I (va_up J i f) := by
  refine m_wl_set ?_ (fun j hj => m_ce_I (fun _ => rfl) (fun b => by rw [va_up_ne J f hj]))
  unfold m_ce m_ar
  rw [h, va_up_self]
  rfl
section MC
variable {p : Program} {l : Launch} {e : Env} {R : Room} {s : State} {m : MethodId} {args : Array Value} {below : List Frame} {meth : Method} {c : Code} {Q : State → Prop} {cc : ByteArray} {own : String}
variable {D : va_G} {cs : Nat → ClassId} {ad : Nat → Nat} {sh : mSH} {rf : mRF} {N : Nat} {nL : Nat}
theorem m_catsum {ad : Nat → Nat} {rest : List mPV} : ((rest.map (m_ev ad)).map fun v => v.category).sum = (rest.map m_cat).sum := by
  rw [List.map_map, show ((fun v : Value => v.category) ∘ m_ev ad) = m_cat from funext (fun v => m_cat_ev ad v)]
theorem m_CG_cpI (hx : p.tables.exec = Jvm.exec) (hb : c.code = cc) (hml : c.maxLocals = nL) (hown : s.vm.findClass own = some m.cls) (hts : ∀ w ∈ m_tw, w.before args s = true) (hK : va_K D m_cl (m_ty cs) s) (hi : ∀ i j, i < N → j < N → ad i = ad j → i = j) (hN : ∀ i, sh i ≠ .inr (9, 0) → i < N)
    {k : Nat} (hw : ∀ w ∈ [Cond.methodLink own k arraycopyName, Cond.native arraycopyName, Cond.static arraycopyName, Cond.initialized "java/lang/System"], w ∈ m_tb) (hR : 1 ≤ R.frames ∧ 8 + (nativeFrameWords "java/lang/System" "arraycopy" 5 + 11) ≤ R.locals) :
    m_CG p l e R s m args below meth c Q D cs ad sh rf N nL cc k 5 false (pt_cpI sh rf) := by
  intro pc hdec As rest lv I J K hlen hcat hpt hk H locs ls hP hS hl
  obtain ⟨a0, sp, a, dp, n, n0, n1, rfl, h1, h2, h3, h4, h5, h6, h7, h8⟩ := hpt
  have ha0 : a0 < N := hN a0 (by rw [h1]; simp)
  have ha : a < N := hN a (by rw [h2]; simp)
  refine va_copyi hx hb (hml.trans hl.1.symm) hown (hts _ (m_tb_w (hw _ (by simp)))) (hts _ (m_tb_w (hw _ (by simp)))) (hts _ (m_tb_w (hw _ (by simp)))) (hts _ (m_tb_w (hw _ (by simp)))) hK hP (m_wl_D hi cs sh rf I J) hS a0 a 0 0 (m_w0 h1 ha0) (m_w0 h2 ha) rfl rfl rfl h3 h4 h5 h6 h7 (fun _ _ => rfl) hR.1 ?_ hdec (fun H1 locs1 hP1 _ hS1 => ?_)
  · rw [m_catsum]
    have h9 : (List.map m_cat ([].append rest)).sum ≤ 8 := hcat
    have := hR.2
    omega
  · rw [m_setA0 h2] at hP1
    exact hk none _ _ h8 H1 locs1 ls hP1 hS1 hl
theorem m_CG_cpJ (hx : p.tables.exec = Jvm.exec) (hb : c.code = cc) (hml : c.maxLocals = nL) (hown : s.vm.findClass own = some m.cls) (hts : ∀ w ∈ m_tw, w.before args s = true) (hK : va_K D m_cl (m_ty cs) s) (hi : ∀ i j, i < N → j < N → ad i = ad j → i = j) (hN : ∀ i, sh i ≠ .inr (9, 0) → i < N)
    {k : Nat} (hw : ∀ w ∈ [Cond.methodLink own k arraycopyName, Cond.native arraycopyName, Cond.static arraycopyName, Cond.initialized "java/lang/System"], w ∈ m_tb) (hR : 1 ≤ R.frames ∧ 8 + (nativeFrameWords "java/lang/System" "arraycopy" 5 + 11) ≤ R.locals) :
    m_CG p l e R s m args below meth c Q D cs ad sh rf N nL cc k 5 false (pt_cpJ sh rf) := by
  intro pc hdec As rest lv I J K hlen hcat hpt hk H locs ls hP hS hl
  obtain ⟨a0, sp, a, dp, n, n0, n1, rfl, h1, h2, h3, h4, h5, h6, h7, h8⟩ := hpt
  have ha0 : a0 < N := hN a0 (by rw [h1]; simp)
  have ha : a < N := hN a (by rw [h2]; simp)
  refine va_copyl hx hb (hml.trans hl.1.symm) hown (hts _ (m_tb_w (hw _ (by simp)))) (hts _ (m_tb_w (hw _ (by simp)))) (hts _ (m_tb_w (hw _ (by simp)))) (hts _ (m_tb_w (hw _ (by simp)))) hK hP (m_wl_D hi cs sh rf I J) hS a0 a 1 1 (m_w1 h1 ha0) (m_w1 h2 ha) rfl rfl rfl h3 h4 h5 h6 h7 (fun _ _ => rfl) hR.1 ?_ hdec (fun H1 locs1 hP1 _ hS1 => ?_)
  · rw [m_catsum]
    have h9 : (List.map m_cat ([].append rest)).sum ≤ 8 := hcat
    have := hR.2
    omega
  · rw [m_setA1 h2] at hP1
    exact hk none _ _ h8 H1 locs1 ls hP1 hS1 hl
end MC
end
section
/-! ===== digits ===== -/
def u32 (x : Int32) : Nat := x.toBitVec.toNat
theorem u32_lt (x : Int32) : u32 x < 2 ^ 32 := x.toBitVec.isLt
theorem u32_inj {x y : Int32} (h : u32 x = u32 y) : x = y := by
  have : x.toBitVec = y.toBitVec := BitVec.eq_of_toNat_eq h
  exact Int32.toBitVec_inj.mp this
theorem u32_nI (n : Nat) : u32 (nI n) = n % 2 ^ 32 := by
  unfold u32 nI
  simp [Int32.toBitVec_ofNat]
theorem u32_0 {x : Int32} : u32 x = 0 ↔ x = 0 := by
  constructor
  · intro h
    exact u32_inj (by rw [h]; rfl)
  · intro h
    rw [h]; rfl
def u64 (x : Int64) : Nat := x.toBitVec.toNat
theorem u64_lN (n : Nat) : u64 (lN n) = n % 2 ^ 64 := by
  unfold u64 lN
  simp [Int64.toBitVec_ofNat]
theorem u64_inj {x y : Int64} (h : u64 x = u64 y) : x = y := by
  have : x.toBitVec = y.toBitVec := BitVec.eq_of_toNat_eq h
  exact Int64.toBitVec_inj.mp this
theorem lN_of (x : Int64) : x = lN (u64 x) := u64_inj (by
  rw [u64_lN, Nat.mod_eq_of_lt]
  exact x.toBitVec.isLt)
theorem nI_of32 (x : Int32) : x = nI (u32 x) := u32_inj (by
  rw [u32_nI, Nat.mod_eq_of_lt (u32_lt x)])
/-- parts[i] & PART -/
theorem l_mask (x : Int32) : x.toInt64 &&& 4294967295 = lN (u32 x) := by
  apply u64_inj
  rw [u64_lN, Nat.mod_eq_of_lt (by have := u32_lt x; omega)]
  unfold u64 u32
  rw [Int64.toBitVec_and, show (4294967295 : Int64).toBitVec = BitVec.ofNat 64 (2 ^ 32 - 1) by decide, BitVec.toNat_and, BitVec.toNat_ofNat, Nat.mod_eq_of_lt (by decide), Nat.and_two_pow_sub_one_eq_mod, Int32.toBitVec_toInt64, BitVec.toNat_signExtend]
  have h := x.toBitVec.isLt
  simp only [BitVec.toNat_setWidth]
  split <;> omega
theorem l_shr32 {c : Nat} (h : c < 2 ^ 64) : ((lN c).toUInt64 >>> ((32 : Int32).toInt64.toUInt64 &&& Int64.toUInt64 63)).toInt64 = lN (c / 2 ^ 32) := by
  apply u64_inj
  rw [u64_lN, Nat.mod_eq_of_lt (by omega)]
  unfold u64
  rw [show ((32 : Int32).toInt64.toUInt64 &&& Int64.toUInt64 63) = 32 by decide]
  simp [lN, Int64.toBitVec_ofNat, Nat.mod_eq_of_lt h, Nat.shiftRight_eq_div_pow]
/-- value of n digits in base B -/
def dv (B : Nat) (g : Nat → Nat) : Nat → Nat
  | 0 => 0
  | n + 1 => dv B g n + g n * B ^ n
theorem dv_congr {B : Nat} {g h : Nat → Nat} : ∀ {n : Nat}, (∀ i, i < n → g i = h i) → dv B g n = dv B h n
  | 0, _ => rfl
  | n + 1, e => by rw [dv, dv, dv_congr (fun i hi => e i (by omega)), e n (by omega)]
theorem dv_lt {B : Nat} {g : Nat → Nat} : ∀ {n : Nat}, (∀ i, i < n → g i < B) → dv B g n < B ^ n
  | 0, _ => by simp [dv]
  | n + 1, e => by
    have h1 := dv_lt (B := B) (g := g) (n := n) (fun i hi => e i (by omega))
    have h2 := e n (by omega)
    have h3 : (g n + 1) * B ^ n ≤ B * B ^ n := Nat.mul_le_mul_right _ h2
    rw [dv, Nat.pow_succ, Nat.mul_comm (B ^ n) B]
    rw [Nat.add_mul, Nat.one_mul] at h3
    omega
theorem dv_ext {B : Nat} {g : Nat → Nat} {n : Nat} : ∀ {m : Nat}, n ≤ m → (∀ i, n ≤ i → i < m → g i = 0) → dv B g m = dv B g n
  | 0, h, _ => by rw [Nat.le_zero.mp h]
  | m + 1, h, e => by
    rcases Nat.lt_or_ge m n with q | q
    · rw [show n = m + 1 by omega]
    · rw [dv, dv_ext q (fun i h1 h2 => e i h1 (by omega)), e m q (by omega), Nat.zero_mul, Nat.add_zero]
theorem dv_top {B : Nat} {g : Nat → Nat} {n : Nat} (h : g n ≠ 0) : B ^ n ≤ dv B g (n + 1) := by
  rw [dv]
  have : 1 * B ^ n ≤ g n * B ^ n := Nat.mul_le_mul_right _ (by omega)
  omega
theorem dv_cmp {B : Nat} {g h : Nat → Nat} {k : Nat} (hg : ∀ i, i < k → g i < B) (hlt : g k < h k) : ∀ {n : Nat}, k < n → (∀ i, k < i → i < n → g i = h i) → dv B g n < dv B h n
  | 0, h1, _ => absurd h1 (Nat.not_lt_zero k)
  | n + 1, h1, e => by
    rcases Nat.lt_or_ge k n with q | q
    · rw [dv, dv, e n q (by omega)]
      have := dv_cmp hg hlt q (fun i a b => e i a (by omega))
      omega
    · have hk : n = k := by omega
      subst hk
      rw [dv, dv]
      have h2 := dv_lt (B := B) (g := g) (n := n) hg
      have h3 : (g n + 1) * B ^ n ≤ h n * B ^ n := Nat.mul_le_mul_right _ hlt
      rw [Nat.add_mul, Nat.one_mul] at h3
      omega
theorem t_ring (a b c d : Int) : (a + b) * (c - d) = a * c - a * d + b * c - b * d := by grind
theorem t_ring2 (a b c d e f g h i : Int) : a*(e*i-f*h) - b*(d*i-f*g) + c*(d*h-e*g) = -(d*(b*i-c*h) - e*(a*i-c*g) + f*(a*h-b*g)) := by grind
end
section
/-! ===== the JDK's static methods ===== -/
def pt_max (_ : mSH) (_ : mRF) : mPT := fun As I J K => ∃ x y : Int32, As = [.inl x, .inl y] ∧ K (some (.inl (if x < y then y else x))) I J
def pt_min (_ : mSH) (_ : mRF) : mPT := fun As I J K => ∃ x y : Int32, As = [.inl x, .inl y] ∧ K (some (.inl (if y < x then y else x))) I J
def pt_absJ (_ : mSH) (_ : mRF) : mPT := fun As I J K => ∃ x : Int64, As = [.inr (.inl x)] ∧ K (some (.inr (.inl (if 0 < x then x else -x)))) I J
def pt_cmpJ (_ : mSH) (_ : mRF) : mPT := fun As I J K => ∃ x y : Int64, As = [.inr (.inl x), .inr (.inl y)] ∧ K (some (.inl (lg_cmp x y))) I J
section MC
variable {p : Program} {l : Launch} {e : Env} {R : Room} {s : State} {m : MethodId} {args : Array Value} {below : List Frame} {meth : Method} {c : Code} {Q : State → Prop} {cc : ByteArray} {own : String}
variable {D : va_G} {cs : Nat → ClassId} {ad : Nat → Nat} {sh : mSH} {rf : mRF} {N : Nat} {nL : Nat}
theorem m_CG_max (hx : p.tables.exec = Jvm.exec) (hb : c.code = cc) (hml : c.maxLocals = nL) (hown : s.vm.findClass own = some m.cls) (hts : ∀ w ∈ m_tw, w.before args s = true) (hK : va_K D m_cl (m_ty cs) s) (hi : ∀ i j, i < N → j < N → ad i = ad j → i = j) (hN : ∀ i, sh i ≠ .inr (9, 0) → i < N)
    {k : Nat} (hw : ∀ w ∈ [Cond.methodLink own k Lib.Math.max.name, Cond.static Lib.Math.max.name, Cond.initialized "java/lang/Math", Cond.code Lib.Math.max.name Lib.Math.max.code 2 (some .int)], w ∈ m_tb) (hR : 1 ≤ R.frames ∧ 21 ≤ R.locals) :
    m_CG p l e R s m args below meth c Q D cs ad sh rf N nL cc k 2 false (pt_max sh rf) := by
  intro pc hdec As rest lv I J K hlen hcat hpt hk H locs ls hP hS hl
  obtain ⟨x, y, rfl, h8⟩ := hpt
  refine va_mmax hx hb (hml.trans hl.1.symm) hown (hts _ (m_tb_w (hw _ (by simp)))) (hts _ (m_tb_w (hw _ (by simp)))) (hts _ (m_tb_w (hw _ (by simp)))) (hts _ (m_tb_w (hw _ (by simp)))) hR.1 ?_ (Nat.zero_le _) (Nat.zero_le _) hdec (hk _ _ _ h8 H locs ls hP hS hl)
  rw [m_catsum]
  have h9 : (List.map m_cat ([].append rest)).sum ≤ 8 := hcat
  have := hR.2
  omega
end MC
section MC
variable {p : Program} {l : Launch} {e : Env} {R : Room} {s : State} {m : MethodId} {args : Array Value} {below : List Frame} {meth : Method} {c : Code} {Q : State → Prop} {cc : ByteArray} {own : String}
variable {D : va_G} {cs : Nat → ClassId} {ad : Nat → Nat} {sh : mSH} {rf : mRF} {N : Nat} {nL : Nat}
theorem m_CG_min (hx : p.tables.exec = Jvm.exec) (hb : c.code = cc) (hml : c.maxLocals = nL) (hown : s.vm.findClass own = some m.cls) (hts : ∀ w ∈ m_tw, w.before args s = true) (hK : va_K D m_cl (m_ty cs) s) (hi : ∀ i j, i < N → j < N → ad i = ad j → i = j) (hN : ∀ i, sh i ≠ .inr (9, 0) → i < N)
    {k : Nat} (hw : ∀ w ∈ [Cond.methodLink own k Lib.Math.min.name, Cond.static Lib.Math.min.name, Cond.initialized "java/lang/Math", Cond.code Lib.Math.min.name Lib.Math.min.code 2 (some .int)], w ∈ m_tb) (hR : 1 ≤ R.frames ∧ 21 ≤ R.locals) :
    m_CG p l e R s m args below meth c Q D cs ad sh rf N nL cc k 2 false (pt_min sh rf) := by
  intro pc hdec As rest lv I J K hlen hcat hpt hk H locs ls hP hS hl
  obtain ⟨x, y, rfl, h8⟩ := hpt
  refine va_mmin hx hb (hml.trans hl.1.symm) hown (hts _ (m_tb_w (hw _ (by simp)))) (hts _ (m_tb_w (hw _ (by simp)))) (hts _ (m_tb_w (hw _ (by simp)))) (hts _ (m_tb_w (hw _ (by simp)))) hR.1 ?_ (Nat.zero_le _) (Nat.zero_le _) hdec (hk _ _ _ h8 H locs ls hP hS hl)
  rw [m_catsum]
  have h9 : (List.map m_cat ([].append rest)).sum ≤ 8 := hcat
  have := hR.2
  omega
end MC
section MC
variable {p : Program} {l : Launch} {e : Env} {R : Room} {s : State} {m : MethodId} {args : Array Value} {below : List Frame} {meth : Method} {c : Code} {Q : State → Prop} {cc : ByteArray} {own : String}
variable {D : va_G} {cs : Nat → ClassId} {ad : Nat → Nat} {sh : mSH} {rf : mRF} {N : Nat} {nL : Nat}
theorem m_CG_absJ (hx : p.tables.exec = Jvm.exec) (hb : c.code = cc) (hml : c.maxLocals = nL) (hown : s.vm.findClass own = some m.cls) (hts : ∀ w ∈ m_tw, w.before args s = true) (hK : va_K D m_cl (m_ty cs) s) (hi : ∀ i j, i < N → j < N → ad i = ad j → i = j) (hN : ∀ i, sh i ≠ .inr (9, 0) → i < N)
    {k : Nat} (hw : ∀ w ∈ [Cond.methodLink own k Lib.MathLoose.abs_long.x, Cond.static Lib.MathLoose.abs_long.x, Cond.initialized "java/lang/Math", Cond.code Lib.MathLoose.abs_long.x Lib.MathLoose.abs_long.code 2 (some .long)], w ∈ m_tb) (hR : 1 ≤ R.frames ∧ 21 ≤ R.locals) :
    m_CG p l e R s m args below meth c Q D cs ad sh rf N nL cc k 1 false (pt_absJ sh rf) := by
  intro pc hdec As rest lv I J K hlen hcat hpt hk H locs ls hP hS hl
  obtain ⟨x, rfl, h8⟩ := hpt
  refine va_mabs_long hx hb (hml.trans hl.1.symm) hown (hts _ (m_tb_w (hw _ (by simp)))) (hts _ (m_tb_w (hw _ (by simp)))) (hts _ (m_tb_w (hw _ (by simp)))) (hts _ (m_tb_w (hw _ (by simp)))) hR.1 ?_ (Nat.zero_le _) (Nat.zero_le _) hdec (hk _ _ _ h8 H locs ls hP hS hl)
  rw [m_catsum]
  have h9 : (List.map m_cat ([].append rest)).sum ≤ 8 := hcat
  have := hR.2
  omega
end MC
set_option maxHeartbeats 4000000 in
set_option maxRecDepth 100000 in
theorem mt_J13_compare_74951 : m_Mt yJ13_compare_74951 cJ13_compare_74951 4 (some .int) 0 0 pt_cmpJ := by
  refine m_method0 80 (fl := fl_J13) (kI := kI_J13) (kJ := kJ_J13) (ct := ct_none) (cd := cd_J13_compare_74951) (rk := 1) (by decide +kernel) fl_J13_ok kI_J13_ok kJ_J13_ok (ce_none _ _ _ _ _) rfl ck_J13_compare_74951 ⟨_, _, rfl, rfl⟩ ?_
  intro sh rf As I J K hpt
  obtain ⟨x, y, rfl, hK⟩ := hpt
  unfold lg_cmp at hK
  refine ⟨Nat.le_of_ble_eq_true rfl, And.intro (fun h => And.intro (fun h2 => ?_) (fun h2 => ?_)) (fun h => ?_)⟩
  · have e : lg_cmp x y = 1 := by
      unfold lg_cmp at h h2 ⊢
      split
      · rfl
      · rename_i h3
        rw [if_neg h3] at h h2
        split at h2
        · exact absurd rfl h2
        · rename_i h4
          rw [if_neg h4] at h
          exact absurd h (by decide)
    unfold lg_cmp at e
    rw [e] at hK
    exact hK
  · have e : lg_cmp x y = 0 := h2
    unfold lg_cmp at e
    rw [e] at hK
    exact hK
  · have e : lg_cmp x y = -1 := by
      unfold lg_cmp at h ⊢
      split
      · rename_i h3
        rw [if_pos h3] at h
        exact absurd (by decide) h
      · rename_i h3
        rw [if_neg h3] at h
        split
        · rename_i h4
          rw [if_pos h4] at h
          exact absurd (by decide) h
        · rfl
    unfold lg_cmp at e
    rw [e] at hK
    exact hK
end
section
/-! ===== words on updates ===== -/
theorem uI_s (I : mPI) (i k : Nat) (v : Int32) : m_uI I i k v i k = v := if_pos ⟨rfl, rfl⟩
theorem uI_a (I : mPI) {i a : Nat} (k : Nat) (v : Int32) (h : a ≠ i) : m_uI I i k v a = I a := funext fun b => m_uI_o I v h b
theorem uI_k (I : mPI) (i : Nat) {k b : Nat} (v : Int32) (h : b ≠ k) : m_uI I i k v i b = I i b := if_neg (fun q => h q.2)
theorem uJ_s (J : mPJ) (i k : Nat) (v : Int64) : m_uJ J i k v i k = v := if_pos ⟨rfl, rfl⟩
theorem uJ_a (J : mPJ) {i a : Nat} (k : Nat) (v : Int64) (h : a ≠ i) : m_uJ J i k v a = J a := funext fun b => m_uJ_o J v h b
theorem uJ_k (J : mPJ) (i : Nat) {k b : Nat} (v : Int64) (h : b ≠ k) : m_uJ J i k v i b = J i b := if_neg (fun q => h q.2)
/-! ===== Arrays.fill, Integer's bits ===== -/
def pt_rangeCheck (_ : mSH) (_ : mRF) : mPT := fun As I J K => ∃ n p q : Nat, As = [.inl (nI n), .inl (nI p), .inl (nI q)] ∧ p ≤ q ∧ q ≤ n ∧ n < 2 ^ 31 ∧ K none I J
def pt_fillI (sh : mSH) (_ : mRF) : mPT := fun As I J K => ∃ (a : Nat) (v : Int32) (n : Nat), As = [.inr (.inr a), .inl v] ∧ sh a = .inr (0, n) ∧ n < 2 ^ 31 ∧ ∀ I1, (∀ q, q ≠ a → I1 q = I q) → (∀ k, k < n → I1 a k = v) → K none I1 J
def pt_fillJ (sh : mSH) (_ : mRF) : mPT := fun As I J K => ∃ (a : Nat) (v : Int64) (n : Nat), As = [.inr (.inr a), .inr (.inl v)] ∧ sh a = .inr (1, n) ∧ n < 2 ^ 31 ∧ ∀ J1, (∀ q, q ≠ a → J1 q = J q) → (∀ k, k < n → J1 a k = v) → K none I J1
def pt_fillR (sh : mSH) (_ : mRF) : mPT := fun As I J K => ∃ (a p q : Nat) (v : Int32) (n : Nat), As = [.inr (.inr a), .inl (nI p), .inl (nI q), .inl v] ∧ sh a = .inr (0, n) ∧ p ≤ q ∧ q ≤ n ∧ n < 2 ^ 31 ∧ ∀ I1, (∀ r, r ≠ a → I1 r = I r) → (∀ k, p ≤ k → k < q → I1 a k = v) → (∀ k, (k < p ∨ q ≤ k) → I1 a k = I a k) → K none I1 J
set_option maxHeartbeats 4000000 in
set_option maxRecDepth 100000 in
theorem mt_J7_rangeCheck_23922 : m_Mt yJ7_rangeCheck_23922 cJ7_rangeCheck_23922 3 none 0 0 pt_rangeCheck := by
  refine m_method0 80 (fl := fl_J7) (kI := kI_J7) (kJ := kJ_J7) (ct := ct_none) (cd := cd_J7_rangeCheck_23922) (rk := 0) (by decide +kernel) fl_J7_ok kI_J7_ok kJ_J7_ok (ce_none _ _ _ _ _) rfl ck_J7_rangeCheck_23922 ⟨_, _, rfl, rfl⟩ ?_
  intro sh rf As I J K hpt
  obtain ⟨n, p, q, rfl, h1, h2, h3, hK⟩ := hpt
  refine ⟨Nat.le_of_ble_eq_true rfl, And.intro (fun _ => And.intro (fun _ => And.intro (fun _ => hK) (fun h => absurd (nI_le h2 h3) h)) (fun h => absurd (nI_pos' (by omega)) h)) (fun h => absurd (nI_le h1 (by omega)) h)⟩

set_option maxHeartbeats 4000000 in
set_option maxRecDepth 100000 in
theorem mt_J7_fill_53178 : m_Mt yJ7_fill_53178 cJ7_fill_53178 4 none 0 0 pt_fillI := by
  refine m_methodG (fl := fl_J7) (kI := kI_J7) (kJ := kJ_J7) (ct := ct_none) (cd := cd_J7_fill_53178) (cut := [(5, [0, 1, 2, 3])]) (rk := 0) (fu := 80) (by decide +kernel) fl_J7_ok kI_J7_ok kJ_J7_ok (ce_none _ _ _ _ _) rfl ck_J7_fill_53178 ⟨_, _, rfl, rfl⟩ ?_
  intro sh rf As I J K hpt
  obtain ⟨ar, v, n, rfl, hsh, hn, hK⟩ := hpt
  refine ⟨Nat.le_of_ble_eq_true rfl, fun a _ pc vs st I1 J1 => ∃ i, vs = [.inr (.inr ar), .inl v, .inl (nI i), .inl (nI n)] ∧ st = [] ∧ i ≤ n ∧ a = n - i ∧ (∀ q, q ≠ ar → I1 q = I q) ∧ (∀ k, k < i → I1 ar k = v) ∧ J1 = J, ?_, ?_⟩
  · refine And.intro (m_isa_i hsh (by decide)) (Exists.intro n (Exists.intro 0 ⟨0, ?_, rfl, Nat.zero_le _, by omega, fun _ _ => rfl, fun k h => absurd h (Nat.not_lt_zero k), rfl⟩))
    rw [m_len_i hsh, nI_0]
  · intro pc ks a b vs st I1 J1 hc hI
    rcases m_cu1 hc with ⟨rfl, rfl⟩ | hc
    · obtain ⟨i, rfl, rfl, hi, rfl, e1, e2, rfl⟩ := hI
      refine And.intro (fun h => ?_) (fun h => ?_)
      · have : n ≤ i := (nI_leI (by omega) (by omega)).mp h
        exact hK I1 e1 (fun k hk => e2 k (by omega))
      · have hlt : i < n := by
          rcases Nat.lt_or_ge i n with q | q
          · exact q
          · exact absurd (nI_le q (by omega)) h
        refine And.intro (m_inb_i hsh (vp_in_nI hlt hn)) (Exists.intro (n - (i + 1)) (Exists.intro 0 (And.intro (Or.inl (by omega)) ⟨i + 1, ?_, rfl, by omega, rfl, ?_, ?_, rfl⟩)))
        · rw [← nI_1]
        · intro q hq
          rw [uI_a _ _ _ hq, e1 q hq]
        · intro k hk
          rw [nI_clamp (by omega)]
          by_cases hki : k = i
          · subst hki
            rw [uI_s]
          · rw [uI_k _ _ _ hki, e2 k (by omega)]
    · cases hc

set_option maxHeartbeats 4000000 in
set_option maxRecDepth 100000 in
theorem mt_J7_fill_d0a16 : m_Mt yJ7_fill_d0a16 cJ7_fill_d0a16 5 none 0 0 pt_fillJ := by
  refine m_methodG (fl := fl_J7) (kI := kI_J7) (kJ := kJ_J7) (ct := ct_none) (cd := cd_J7_fill_d0a16) (cut := [(6, [0, 1, 3, 4])]) (rk := 0) (fu := 80) (by decide +kernel) fl_J7_ok kI_J7_ok kJ_J7_ok (ce_none _ _ _ _ _) rfl ck_J7_fill_d0a16 ⟨_, _, rfl, rfl⟩ ?_
  intro sh rf As I J K hpt
  obtain ⟨ar, v, n, rfl, hsh, hn, hK⟩ := hpt
  refine ⟨Nat.le_of_ble_eq_true rfl, fun a _ pc vs st I1 J1 => ∃ i, vs = [.inr (.inr ar), .inr (.inl v), .inl (nI i), .inl (nI n)] ∧ st = [] ∧ i ≤ n ∧ a = n - i ∧ (∀ q, q ≠ ar → J1 q = J q) ∧ (∀ k, k < i → J1 ar k = v) ∧ I1 = I, ?_, ?_⟩
  · refine And.intro (m_isa_i hsh (by decide)) (Exists.intro n (Exists.intro 0 ⟨0, ?_, rfl, Nat.zero_le _, by omega, fun _ _ => rfl, fun k h => absurd h (Nat.not_lt_zero k), rfl⟩))
    rw [m_len_i hsh, nI_0]
  · intro pc ks a b vs st I1 J1 hc hI
    rcases m_cu1 hc with ⟨rfl, rfl⟩ | hc
    · obtain ⟨i, rfl, rfl, hi, rfl, e1, e2, rfl⟩ := hI
      refine And.intro (fun h => ?_) (fun h => ?_)
      · have : n ≤ i := (nI_leI (by omega) (by omega)).mp h
        exact hK J1 e1 (fun k hk => e2 k (by omega))
      · have hlt : i < n := by
          rcases Nat.lt_or_ge i n with q | q
          · exact q
          · exact absurd (nI_le q (by omega)) h
        refine And.intro (m_inb_i hsh (vp_in_nI hlt hn)) (Exists.intro (n - (i + 1)) (Exists.intro 0 (And.intro (Or.inl (by omega)) ⟨i + 1, ?_, rfl, by omega, rfl, ?_, ?_, rfl⟩)))
        · rw [← nI_1]
        · intro q hq
          rw [uJ_a _ _ _ hq, e1 q hq]
        · intro k hk
          rw [nI_clamp (by omega)]
          by_cases hki : k = i
          · subst hki
            rw [uJ_s]
          · rw [uJ_k _ _ _ hki, e2 k (by omega)]
    · cases hc

def ct_J7_fill_fda19 (sh : mSH) (rf : mRF) : Nat → Option (Nat × Bool × mPT) := fun k => match k with
  | 13 => some (3, false, pt_rangeCheck sh rf)
  | _ => none
set_option maxRecDepth 20000 in
theorem ce_J7_fill_fda19 : m_CE RJ7 1 22 cJ7_fill_fda19 5 ct_J7_fill_fda19 := by
  intro p l e s m args below meth c Q D cs ad sh rf N hx hb hml hown hts hK hi hN k n vf pt h
  unfold ct_J7_fill_fda19 at h
  split at h
  · cases h
    exact m_CG_S mt_J7_rangeCheck_23922 hx hb hml hown hts hK hi hN (m_wck_ok (l := [(Cond.methodLink RJ7 13 yJ7_rangeCheck_23922, 343), (Cond.static yJ7_rangeCheck_23922, 344), (Cond.initialized RJ7, 63), (Cond.code yJ7_rangeCheck_23922 cJ7_rangeCheck_23922 3 none, 345)]) (by decide +kernel)) ⟨by decide +kernel, by decide +kernel, by decide +kernel⟩ ⟨Nat.le_of_ble_eq_true rfl, Nat.le_of_ble_eq_true rfl⟩
  · cases h
set_option maxHeartbeats 4000000 in
set_option maxRecDepth 100000 in
theorem mt_J7_fill_fda19 : m_Mt yJ7_fill_fda19 cJ7_fill_fda19 5 none 1 22 pt_fillR := by
  refine m_methodG (fl := fl_J7) (kI := kI_J7) (kJ := kJ_J7) (ct := ct_J7_fill_fda19) (cd := cd_J7_fill_fda19) (cut := [(10, [0, 2, 3, 4])]) (rk := 0) (fu := 80) (by decide +kernel) fl_J7_ok kI_J7_ok kJ_J7_ok ce_J7_fill_fda19 rfl ck_J7_fill_fda19 ⟨_, _, rfl, rfl⟩ ?_
  intro sh rf As I J K hpt
  obtain ⟨ar, p, q, v, n, rfl, hsh, hpq, hqn, hn, hK⟩ := hpt
  refine ⟨Nat.le_of_ble_eq_true rfl, fun a _ pc vs st I1 J1 => ∃ i, vs = [.inr (.inr ar), .inl (nI q), .inl v, .inl (nI i)] ∧ st = [] ∧ p ≤ i ∧ i ≤ q ∧ a = q - i ∧ (∀ r, r ≠ ar → I1 r = I r) ∧ (∀ k, p ≤ k → k < i → I1 ar k = v) ∧ (∀ k, (k < p ∨ i ≤ k) → I1 ar k = I ar k) ∧ J1 = J, ?_, ?_⟩
  · refine And.intro (m_isa_i hsh (by decide)) ⟨n, p, q, ?_, hpq, hqn, hn, ?_⟩
    · rw [m_len_i hsh]
      rfl
    · exact Exists.intro (q - p) (Exists.intro 0 ⟨p, rfl, rfl, Nat.le_refl _, hpq, rfl, fun _ _ => rfl, fun k h1 h2 => absurd h2 (by omega), fun k _ => rfl, rfl⟩)
  · intro pc ks a b vs st I1 J1 hc hI
    rcases m_cu1 hc with ⟨rfl, rfl⟩ | hc
    · obtain ⟨i, rfl, rfl, hpi, hiq, rfl, e1, e2, e3, rfl⟩ := hI
      refine And.intro (fun h => ?_) (fun h => ?_)
      · have : q ≤ i := (nI_leI (by omega) (by omega)).mp h
        exact hK I1 e1 (fun k h1 hk => e2 k h1 (by omega)) (fun k hk => e3 k (by omega))
      · have hlt : i < q := by
          rcases Nat.lt_or_ge i q with z | z
          · exact z
          · exact absurd (nI_le z (by omega)) h
        refine And.intro (m_inb_i hsh (vp_in_nI (by omega) hn)) (Exists.intro (q - (i + 1)) (Exists.intro 0 (And.intro (Or.inl (by omega)) ⟨i + 1, ?_, rfl, by omega, by omega, rfl, ?_, ?_, ?_, rfl⟩)))
        · rw [← nI_1]
        · intro r hr
          rw [uI_a _ _ _ hr, e1 r hr]
        · intro k h1 hk
          rw [nI_clamp (by omega)]
          by_cases hki : k = i
          · subst hki
            rw [uI_s]
          · rw [uI_k _ _ _ hki, e2 k h1 (by omega)]
        · intro k hk
          rw [nI_clamp (by omega), uI_k _ _ _ (by omega), e3 k (by omega)]
    · cases hc

/-- ones among six bits -/
def popc (c : Nat) : Nat := c % 2 + c / 2 % 2 + c / 4 % 2 + c / 8 % 2 + c / 16 % 2 + c / 32 % 2
def pt_bitCount (_ : mSH) (_ : mRF) : mPT := fun As I J K => ∃ c : Nat, As = [.inl (nI c)] ∧ c < 64 ∧ K (some (.inl (nI (popc c)))) I J
def bcJ (x : Int32) : Int32 :=
  let s (a b : Int32) : Int32 := (a.toUInt32 >>> (b.toUInt32 &&& Int32.toUInt32 31)).toInt32
  let a := x - (s x 1 &&& 1431655765)
  let b := (a &&& 858993459) + (s a 2 &&& 858993459)
  let d := (b + s b 4) &&& 252645135
  let f := d + s d 8
  let g := f + s f 16
  g &&& 63
theorem bcJ_ok : ∀ c, c < 64 → bcJ (nI c) = nI (popc c) := by decide +kernel
set_option maxHeartbeats 4000000 in
set_option maxRecDepth 100000 in
theorem mt_J6_bitCount_0f7a4 : m_Mt yJ6_bitCount_0f7a4 cJ6_bitCount_0f7a4 1 (some .int) 0 0 pt_bitCount := by
  refine m_method0 80 (fl := fl_J6) (kI := kI_J6) (kJ := kJ_J6) (ct := ct_none) (cd := cd_J6_bitCount_0f7a4) (rk := 1) (by decide +kernel) fl_J6_ok kI_J6_ok kJ_J6_ok (ce_none _ _ _ _ _) rfl ck_J6_bitCount_0f7a4 ⟨_, _, rfl, rfl⟩ ?_
  intro sh rf As I J K hpt
  obtain ⟨c, rfl, hc, hK⟩ := hpt
  rw [← bcJ_ok c hc] at hK
  exact ⟨Nat.le_of_ble_eq_true rfl, hK⟩

def pt_nlz (_ : mSH) (_ : mRF) : mPT := fun As I J K => ∃ x : Int32, As = [.inl x] ∧ x ≠ 0 ∧ ∀ r : Nat, r ≤ 31 → 2 ^ (31 - r) ≤ u32 x → u32 x < 2 ^ (32 - r) → K (some (.inl (nI r))) I J
theorem u32_int (x : Int32) : (2 * u32 x < 4294967296 → x.toInt = (u32 x : Int)) ∧ (4294967296 ≤ 2 * u32 x → x.toInt = (u32 x : Int) - 4294967296) := by
  have h := BitVec.toInt_eq_toNat_cond x.toBitVec
  have e : x.toInt = x.toBitVec.toInt := rfl
  rw [e, h]
  unfold u32
  refine ⟨fun q => ?_, fun q => ?_⟩
  · rw [if_pos (by omega)]
  · rw [if_neg (by omega)]
    rfl
theorem nI_dec {m k : Nat} {c : Int32} (hc : nI k + c = 0) : nI (m + k) + c = nI m := by rw [← nI_add, Int32.add_assoc, hc, Int32.add_zero]
theorem i_pos_e {x : Int32} (h : 0 < x) : x = nI (u32 x) ∧ 0 < u32 x ∧ u32 x < 2 ^ 31 := by
  have h1 : (0 : Int) < x.toInt := by simpa using Int32.lt_iff_toInt_lt.mp h
  have h2 := u32_lt x
  have e := u32_int x
  refine ⟨nI_of32 x, ?_, ?_⟩
  · rcases Nat.lt_or_ge (2 * u32 x) 4294967296 with q | q
    · have := e.1 q; omega
    · omega
  · rcases Nat.lt_or_ge (2 * u32 x) 4294967296 with q | q
    · omega
    · have := e.2 q; omega
theorem i_npos_e {x : Int32} (h : ¬ 0 < x) (h0 : x ≠ 0) : 2 ^ 31 ≤ u32 x := by
  have h1 : ¬ (0 : Int) < x.toInt := fun q => h (by rw [Int32.lt_iff_toInt_lt]; simpa using q)
  have e := u32_int x
  have h3 : u32 x ≠ 0 := fun q => h0 (u32_0.mp q)
  rcases Nat.lt_or_ge (2 * u32 x) 4294967296 with q | q
  · have := e.1 q; omega
  · omega
theorem i_ushr {n : Nat} (k : Nat) (s : Int32) (hn : n < 2 ^ 32) (hs : ((s.toUInt32 &&& Int32.toUInt32 31).toBitVec % 32).toNat = k) : ((nI n).toUInt32 >>> (s.toUInt32 &&& Int32.toUInt32 31)).toInt32 = nI (n / 2 ^ k) := pk_ushrN hn s k hs
set_option maxHeartbeats 4000000 in
set_option maxRecDepth 100000 in
theorem mt_J6_numberOfLeadingZeros_0f7a4 : m_Mt yJ6_numberOfLeadingZeros_0f7a4 cJ6_numberOfLeadingZeros_0f7a4 2 (some .int) 0 0 pt_nlz := by
  refine m_methodG (fl := fl_J6) (kI := kI_J6) (kJ := kJ_J6) (ct := ct_none) (cd := cd_J6_numberOfLeadingZeros_0f7a4) (cut := [(33, [0, 1]), (48, [0, 1]), (61, [0, 1]), (73, [0, 1])]) (rk := 1) (fu := 80) (by decide +kernel) fl_J6_ok kI_J6_ok kJ_J6_ok (ce_none _ _ _ _ _) rfl ck_J6_numberOfLeadingZeros_0f7a4 ⟨_, _, rfl, rfl⟩ ?_
  intro sh rf As I J K hpt
  obtain ⟨x, rfl, hx0, hK⟩ := hpt
  have st : ∀ (t n v1 W k : Nat), 2 ^ t * v1 ≤ u32 x → u32 x < 2 ^ t * (v1 + 1) → v1 < 2 ^ (W + k) → 2 ^ k ≤ v1 → 2 ^ (t + k) * (v1 / 2 ^ k) ≤ u32 x ∧ u32 x < 2 ^ (t + k) * (v1 / 2 ^ k + 1) ∧ v1 / 2 ^ k < 2 ^ W ∧ 1 ≤ v1 / 2 ^ k := by
    intro t n v1 W k h1 h2 h3 h4
    have e1 : 2 ^ k * (v1 / 2 ^ k) ≤ v1 := Nat.mul_div_le v1 (2 ^ k)
    have e2 : v1 < 2 ^ k * (v1 / 2 ^ k + 1) := by
      have := Nat.lt_mul_div_succ v1 (show 0 < 2 ^ k from Nat.two_pow_pos k)
      exact this
    refine ⟨?_, ?_, ?_, ?_⟩
    · rw [Nat.pow_add, Nat.mul_assoc]
      exact Nat.le_trans (Nat.mul_le_mul_left _ e1) h1
    · rw [Nat.pow_add, Nat.mul_assoc]
      exact Nat.lt_of_lt_of_le h2 (Nat.mul_le_mul_left _ e2)
    · rw [Nat.div_lt_iff_lt_mul (Nat.two_pow_pos k), ← Nat.pow_add]
      exact h3
    · exact (Nat.le_div_iff_mul_le (Nat.two_pow_pos k)).mpr (by rw [Nat.one_mul]; exact h4)
  refine ⟨Nat.le_of_ble_eq_true rfl, fun a _ pc vs st I1 J1 => ∃ t v1 W, vs = [.inl (nI v1), .inl (nI (31 - t))] ∧ st = [] ∧ I1 = I ∧ J1 = J ∧ t + W ≤ 32 ∧ 2 ^ t * v1 ≤ u32 x ∧ u32 x < 2 ^ t * (v1 + 1) ∧ 1 ≤ v1 ∧ v1 < 2 ^ W ∧ (pc = 33 ∧ W = 16 ∧ a = 4 ∨ pc = 48 ∧ W = 8 ∧ a = 3 ∨ pc = 61 ∧ W = 4 ∧ a = 2 ∨ pc = 73 ∧ W = 2 ∧ a = 1), ?_, ?_⟩
  · refine And.intro (fun h => ?_) (fun h => ?_)
    · obtain ⟨e, p1, p2⟩ := i_pos_e h
      refine And.intro (fun h => ?_) (fun h => ?_)
      · have h : x < nI 65536 := h
        rw [e] at h
        have h9 := (nI_ltI (by omega) (by decide)).mp h
        exact Exists.intro 4 (Exists.intro 0 ⟨0, u32 x, 16, by rw [← e]; rfl, rfl, rfl, rfl, by omega, by omega, by omega, by omega, by omega, Or.inl ⟨rfl, rfl, rfl⟩⟩)
      · have h : ¬ x < nI 65536 := h
        rw [e] at h
        have h9 : 65536 ≤ u32 x := by
          rcases Nat.lt_or_ge (u32 x) 65536 with q | q
          · exact absurd ((nI_ltI (by omega) (by decide)).mpr q) h
          · exact q
        obtain ⟨g1, g2, g3, g4⟩ := st 0 0 (u32 x) 15 16 (by omega) (by omega) (by omega) (by omega)
        refine Exists.intro 4 (Exists.intro 0 ⟨16, u32 x / 2 ^ 16, 16, ?_, rfl, rfl, rfl, by omega, g1, g2, g4, by omega, Or.inl ⟨rfl, rfl, rfl⟩⟩)
        have e3 := i_ushr 16 16 (u32_lt x) (by decide)
        rw [← e] at e3
        rw [← e3]
        rfl
    · have p1 := i_npos_e h hx0
      have p2 := u32_lt x
      exact And.intro (fun _ => hK 0 (by omega) p1 p2) (fun h2 => absurd h2 hx0)
  · intro pc ks a b vs st9 I1 J1 hc hI
    obtain ⟨t, v1, W, rfl, rfl, rfl, rfl, hW, h1, h2, h3, h4, h5⟩ := hI
    have hv : v1 < 2 ^ 16 := by
      rcases h5 with ⟨-, rfl, -⟩ | ⟨-, rfl, -⟩ | ⟨-, rfl, -⟩ | ⟨-, rfl, -⟩ <;> omega
    rcases m_cu1 hc with ⟨rfl, rfl⟩ | hc
    · obtain ⟨rfl, rfl⟩ : W = 16 ∧ a = 4 := by omega
      refine And.intro (fun h => ?_) (fun h => ?_)
      · have h9 := (nI_ltI (a := v1) (b := 256) (by omega) (by decide)).mp h
        exact Exists.intro 3 (Exists.intro 0 (And.intro (Or.inl (by omega)) ⟨t, v1, 8, rfl, rfl, rfl, rfl, by omega, h1, h2, h3, h9, Or.inr (Or.inl ⟨rfl, rfl, rfl⟩)⟩))
      · have h9 : 256 ≤ v1 := by
          rcases Nat.lt_or_ge v1 256 with q | q
          · exact absurd ((nI_ltI (a := v1) (b := 256) (by omega) (by decide)).mpr q) h
          · exact q
        obtain ⟨g1, g2, g3, g4⟩ := st t 0 v1 8 8 h1 h2 (by omega) h9
        refine Exists.intro 3 (Exists.intro 0 (And.intro (Or.inl (by omega)) ⟨t + 8, v1 / 2 ^ 8, 8, ?_, rfl, rfl, rfl, by omega, g1, g2, g4, g3, Or.inr (Or.inl ⟨rfl, rfl, rfl⟩)⟩))
        have e3 := i_ushr (n := v1) 8 8 (by omega) (by decide)
        have e4 : nI (31 - t) + (-8 : Int32) = nI (31 - (t + 8)) := by
          rw [show 31 - t = 31 - (t + 8) + 8 by omega]
          exact nI_dec (by decide)
        rw [← e3, ← e4]
    rcases m_cu1 hc with ⟨rfl, rfl⟩ | hc
    · obtain ⟨rfl, rfl⟩ : W = 8 ∧ a = 3 := by omega
      refine And.intro (fun h => ?_) (fun h => ?_)
      · have h9 := (nI_ltI (a := v1) (b := 16) (by omega) (by decide)).mp h
        exact Exists.intro 2 (Exists.intro 0 (And.intro (Or.inl (by omega)) ⟨t, v1, 4, rfl, rfl, rfl, rfl, by omega, h1, h2, h3, h9, Or.inr (Or.inr (Or.inl ⟨rfl, rfl, rfl⟩))⟩))
      · have h9 : 16 ≤ v1 := by
          rcases Nat.lt_or_ge v1 16 with q | q
          · exact absurd ((nI_ltI (a := v1) (b := 16) (by omega) (by decide)).mpr q) h
          · exact q
        obtain ⟨g1, g2, g3, g4⟩ := st t 0 v1 4 4 h1 h2 (by omega) h9
        refine Exists.intro 2 (Exists.intro 0 (And.intro (Or.inl (by omega)) ⟨t + 4, v1 / 2 ^ 4, 4, ?_, rfl, rfl, rfl, by omega, g1, g2, g4, g3, Or.inr (Or.inr (Or.inl ⟨rfl, rfl, rfl⟩))⟩))
        have e3 := i_ushr (n := v1) 4 4 (by omega) (by decide)
        have e4 : nI (31 - t) + (-4 : Int32) = nI (31 - (t + 4)) := by
          rw [show 31 - t = 31 - (t + 4) + 4 by omega]
          exact nI_dec (by decide)
        rw [← e3, ← e4]
    rcases m_cu1 hc with ⟨rfl, rfl⟩ | hc
    · obtain ⟨rfl, rfl⟩ : W = 4 ∧ a = 2 := by omega
      refine And.intro (fun h => ?_) (fun h => ?_)
      · have h9 := (nI_ltI (a := v1) (b := 4) (by omega) (by decide)).mp h
        exact Exists.intro 1 (Exists.intro 0 (And.intro (Or.inl (by omega)) ⟨t, v1, 2, rfl, rfl, rfl, rfl, by omega, h1, h2, h3, h9, Or.inr (Or.inr (Or.inr ⟨rfl, rfl, rfl⟩))⟩))
      · have h9 : 4 ≤ v1 := by
          rcases Nat.lt_or_ge v1 4 with q | q
          · exact absurd ((nI_ltI (a := v1) (b := 4) (by omega) (by decide)).mpr q) h
          · exact q
        obtain ⟨g1, g2, g3, g4⟩ := st t 0 v1 2 2 h1 h2 (by omega) h9
        refine Exists.intro 1 (Exists.intro 0 (And.intro (Or.inl (by omega)) ⟨t + 2, v1 / 2 ^ 2, 2, ?_, rfl, rfl, rfl, by omega, g1, g2, g4, g3, Or.inr (Or.inr (Or.inr ⟨rfl, rfl, rfl⟩))⟩))
        have e3 := i_ushr (n := v1) 2 2 (by omega) (by decide)
        have e4 : nI (31 - t) + (-2 : Int32) = nI (31 - (t + 2)) := by
          rw [show 31 - t = 31 - (t + 2) + 2 by omega]
          exact nI_dec (by decide)
        rw [← e3, ← e4]
    rcases m_cu1 hc with ⟨rfl, rfl⟩ | hc
    · obtain ⟨rfl, rfl⟩ : W = 2 ∧ a = 1 := by omega
      show K (some (.inl (nI (31 - t) - ((nI v1).toUInt32 >>> ((1 : Int32).toUInt32 &&& Int32.toUInt32 31)).toInt32))) _ _
      rw [i_ushr (n := v1) 1 1 (by omega) (by decide), pk_sub (by omega)]
      rcases (show v1 = 1 ∨ v1 = 2 ∨ v1 = 3 by omega) with rfl | rfl | rfl
      · refine hK _ (by omega) ?_ ?_
        · rw [show 31 - (31 - t - 1 / 2 ^ 1) = t by omega]; omega
        · rw [show 32 - (31 - t - 1 / 2 ^ 1) = t + 1 by omega, Nat.pow_succ]; omega
      · refine hK _ (by omega) ?_ ?_
        · rw [show 31 - (31 - t - 2 / 2 ^ 1) = t + 1 by omega, Nat.pow_succ]; omega
        · rw [show 32 - (31 - t - 2 / 2 ^ 1) = t + 2 by omega, show t + 2 = t + 1 + 1 by rfl, Nat.pow_succ, Nat.pow_succ]; omega
      · refine hK _ (by omega) ?_ ?_
        · rw [show 31 - (31 - t - 3 / 2 ^ 1) = t + 1 by omega, Nat.pow_succ]; omega
        · rw [show 32 - (31 - t - 3 / 2 ^ 1) = t + 2 by omega, show t + 2 = t + 1 + 1 by rfl, Nat.pow_succ, Nat.pow_succ]; omega
    · cases hc

theorem u32_and (x y : Int32) : u32 (x &&& y) = u32 x &&& u32 y := by
  unfold u32
  rw [Int32.toBitVec_and, BitVec.toNat_and]
theorem u32_not (x : Int32) : u32 (x ^^^ (-1)) = 2 ^ 32 - (u32 x + 1) := by
  unfold u32
  rw [Int32.toBitVec_xor, show (-1 : Int32).toBitVec = BitVec.allOnes 32 by decide, BitVec.xor_allOnes, BitVec.toNat_not]
  have := x.toBitVec.isLt
  omega
theorem u32_dec {x : Int32} (h : 1 ≤ u32 x) : u32 (x - 1) = u32 x - 1 := by
  have h2 := u32_lt x
  rw [nI_of32 x, show (1 : Int32) = nI 1 from rfl, pk_sub h, u32_nI, u32_nI]
  omega
theorem low_mask {v r y : Nat} (hv : v = 2 ^ r * (2 * y + 1)) (h32 : v < 2 ^ 32) : (2 ^ 32 - (v + 1)) &&& (v - 1) = 2 ^ r - 1 := by
  have hp : 0 < 2 ^ r := Nat.two_pow_pos r
  have e1 : v = 2 ^ r * (2 * y + 1) + 0 := by omega
  have e2 : v - 1 = 2 ^ r * (2 * y) + (2 ^ r - 1) := by
    rw [hv, Nat.mul_add, Nat.mul_one]
    omega
  apply Nat.eq_of_testBit_eq
  intro i
  rw [Nat.testBit_and, Nat.testBit_two_pow_sub_succ h32, e2, Nat.testBit_two_pow_mul_add _ (by omega), Nat.testBit_two_pow_sub_one]
  have e3 : v.testBit i = if i < r then Nat.testBit 0 i else (2 * y + 1).testBit (i - r) := by
    rw [e1, Nat.testBit_two_pow_mul_add _ hp]
  rw [e3]
  have hr : r < 32 := by
    rcases Nat.lt_or_ge r 32 with q | q
    · exact q
    · have h1 : 2 ^ 32 ≤ 2 ^ r := Nat.pow_le_pow_right (by omega) q
      have h3 : 2 ^ r * 1 ≤ 2 ^ r * (2 * y + 1) := Nat.mul_le_mul_left _ (by omega)
      omega
  by_cases hi : i < r
  · simp [hi, show i < 32 by omega]
  · simp only [hi, if_false, decide_false]
    rcases Nat.eq_zero_or_pos (i - r) with q | q
    · rw [q]
      simp
    · obtain ⟨j, hj⟩ : ∃ j, i - r = j + 1 := ⟨i - r - 1, by omega⟩
      rw [hj, Nat.testBit_succ, Nat.testBit_succ, show (2 * y + 1) / 2 = 2 * y / 2 by omega]
      cases (2 * y / 2).testBit j <;> simp
def pt_ntz (_ : mSH) (_ : mRF) : mPT := fun As I J K => ∃ (x : Int32) (r y : Nat), As = [.inl x] ∧ u32 x = 2 ^ r * (2 * y + 1) ∧ K (some (.inl (nI r))) I J
theorem two_cmp : ∀ a, a < 32 → (65536 < 2 ^ a - 1 ↔ 17 ≤ a) ∧ (256 < 2 ^ a - 1 ↔ 9 ≤ a) ∧ (16 < 2 ^ a - 1 ↔ 5 ≤ a) ∧ (4 < 2 ^ a - 1 ↔ 3 ≤ a) ∧ 2 ^ a - 1 < 2 ^ 31 := by decide +kernel
theorem two_div {a k : Nat} (h : k ≤ a) : (2 ^ a - 1) / 2 ^ k = 2 ^ (a - k) - 1 := by
  have e : 2 ^ a = 2 ^ k * 2 ^ (a - k) := by rw [← Nat.pow_add]; congr 1; omega
  have hp : 0 < 2 ^ k := Nat.two_pow_pos k
  have hq : 0 < 2 ^ (a - k) := Nat.two_pow_pos _
  rw [e]
  generalize 2 ^ (a - k) = m at hq ⊢
  obtain ⟨m', rfl⟩ : ∃ m', m = m' + 1 := ⟨m - 1, by omega⟩
  rw [Nat.mul_add, Nat.mul_one, Nat.add_sub_assoc hp, Nat.mul_add_div hp, Nat.div_eq_of_lt (by omega), Nat.add_sub_cancel, Nat.add_zero]
set_option maxHeartbeats 4000000 in
set_option maxRecDepth 100000 in
theorem mt_J6_numberOfTrailingZeros_0f7a4 : m_Mt yJ6_numberOfTrailingZeros_0f7a4 cJ6_numberOfTrailingZeros_0f7a4 2 (some .int) 0 0 pt_ntz := by
  refine m_methodG (fl := fl_J6) (kI := kI_J6) (kJ := kJ_J6) (ct := ct_none) (cd := cd_J6_numberOfTrailingZeros_0f7a4) (cut := [(34, [0, 1]), (49, [0, 1]), (62, [0, 1]), (74, [0, 1])]) (rk := 1) (fu := 80) (by decide +kernel) fl_J6_ok kI_J6_ok kJ_J6_ok (ce_none _ _ _ _ _) rfl ck_J6_numberOfTrailingZeros_0f7a4 ⟨_, _, rfl, rfl⟩ ?_
  intro sh rf As I J K hpt
  obtain ⟨x, r, y, rfl, hx, hK⟩ := hpt
  have h32 := u32_lt x
  have hp : 0 < 2 ^ r := Nat.two_pow_pos r
  have hr : r < 32 := by
    rcases Nat.lt_or_ge r 32 with q | q
    · exact q
    · have h1 : 2 ^ 32 ≤ 2 ^ r := Nat.pow_le_pow_right (by omega) q
      have h3 : 2 ^ r * 1 ≤ 2 ^ r * (2 * y + 1) := Nat.mul_le_mul_left _ (by omega)
      omega
  have hx1 : 1 ≤ u32 x := by
    rw [hx]
    exact Nat.mul_pos hp (by omega)
  have cr := two_cmp r hr
  have hm : (x ^^^ (-1)) &&& (x - 1) = nI (2 ^ r - 1) := by
    apply u32_inj
    rw [u32_and, u32_not, u32_dec hx1, low_mask hx h32, u32_nI, Nat.mod_eq_of_lt (by omega)]
  refine ⟨Nat.le_of_ble_eq_true rfl, fun a _ pc vs st I1 J1 => ∃ A n, vs = [.inl (nI (2 ^ A - 1)), .inl (nI n)] ∧ st = [] ∧ I1 = I ∧ J1 = J ∧ 1 ≤ A ∧ n + A = r + 1 ∧ (pc = 34 ∧ a = 4 ∧ A ≤ 16 ∨ pc = 49 ∧ a = 3 ∧ A ≤ 8 ∨ pc = 62 ∧ a = 2 ∧ A ≤ 4 ∨ pc = 74 ∧ a = 1 ∧ A ≤ 2), ?_, ?_⟩
  · refine And.intro (fun h => ?_) (fun h => ?_)
    · have h : 0 < (x ^^^ (-1)) &&& (x - 1) := h
      rw [hm] at h
      have hr1 : 1 ≤ r := by
        rcases Nat.eq_zero_or_pos r with q | q
        · rw [q] at h; exact absurd h (by decide)
        · exact q
      refine And.intro (fun h => ?_) (fun h => ?_)
      · have h : (x ^^^ (-1)) &&& (x - 1) ≤ nI 65536 := h
        rw [hm] at h
        have h9 : ¬ 65536 < 2 ^ r - 1 := fun q => absurd ((nI_ltI (a := 65536) (b := 2 ^ r - 1) (by decide) cr.2.2.2.2).mpr q) (by
          intro z
          rw [Int32.lt_iff_toInt_lt] at z
          rw [Int32.le_iff_toInt_le] at h
          exact absurd z (Int.not_lt.mpr h))
        rw [cr.1] at h9
        exact Exists.intro 4 (Exists.intro 0 ⟨r, 1, by rw [← hm]; rfl, rfl, rfl, rfl, hr1, by omega, Or.inl ⟨rfl, rfl, by omega⟩⟩)
      · have h : ¬ (x ^^^ (-1)) &&& (x - 1) ≤ nI 65536 := h
        rw [hm] at h
        have h9 : 65536 < 2 ^ r - 1 := by
          rcases Nat.lt_or_ge 65536 (2 ^ r - 1) with q | q
          · exact q
          · exact absurd (nI_le q (by decide)) h
        rw [cr.1] at h9
        refine Exists.intro 4 (Exists.intro 0 ⟨r - 16, 17, ?_, rfl, rfl, rfl, by omega, by omega, Or.inl ⟨rfl, rfl, by omega⟩⟩)
        have e3 := i_ushr (n := 2 ^ r - 1) 16 16 (by have := cr.2.2.2.2; omega) (by decide)
        rw [two_div (by omega), ← hm] at e3
        rw [← e3]
        rfl
    · have h : ¬ 0 < (x ^^^ (-1)) &&& (x - 1) := h
      rw [hm] at h
      have hr0 : r = 0 := by
        rcases Nat.eq_zero_or_pos r with q | q
        · exact q
        · refine absurd ((nI_ltI (a := 0) (b := 2 ^ r - 1) (by decide) cr.2.2.2.2).mpr ?_) h
          have : 2 ^ 1 ≤ 2 ^ r := Nat.pow_le_pow_right (by omega) q
          omega
      subst hr0
      have e5 : ((x ^^^ (-1)) &&& (x - 1)) &&& 32 = nI 0 := by rw [hm]; decide
      rw [← e5] at hK
      exact hK
  · intro pc ks a b vs st9 I1 J1 hc hI
    obtain ⟨A, n, rfl, rfl, rfl, rfl, h1, h2, h5⟩ := hI
    have c1 := two_cmp A (by omega)
    rcases m_cu1 hc with ⟨rfl, rfl⟩ | hc
    · obtain ⟨hA, rfl⟩ : A ≤ 16 ∧ a = 4 := by omega
      refine And.intro (fun h => ?_) (fun h => ?_)
      · have h9 : ¬ 256 < 2 ^ A - 1 := fun q => absurd ((nI_ltI (a := 256) (b := 2 ^ A - 1) (by decide) c1.2.2.2.2).mpr q) (by
          intro z
          rw [Int32.lt_iff_toInt_lt] at z
          rw [Int32.le_iff_toInt_le] at h
          exact absurd z (Int.not_lt.mpr h))
        rw [c1.2.1] at h9
        exact Exists.intro 3 (Exists.intro 0 (And.intro (Or.inl (by omega)) ⟨A, n, rfl, rfl, rfl, rfl, h1, h2, Or.inr (Or.inl ⟨rfl, rfl, by omega⟩)⟩))
      · have h9 : 256 < 2 ^ A - 1 := by
          rcases Nat.lt_or_ge 256 (2 ^ A - 1) with q | q
          · exact q
          · exact absurd (nI_le q (by decide)) h
        rw [c1.2.1] at h9
        refine Exists.intro 3 (Exists.intro 0 (And.intro (Or.inl (by omega)) ⟨A - 8, n + 8, ?_, rfl, rfl, rfl, by omega, by omega, Or.inr (Or.inl ⟨rfl, rfl, by omega⟩)⟩))
        have e3 := i_ushr (n := 2 ^ A - 1) 8 8 (by have := c1.2.2.2.2; omega) (by decide)
        rw [two_div (by omega)] at e3
        have e4 : nI n + (8 : Int32) = nI (n + 8) := nI_add n 8
        rw [← e3, ← e4]
    rcases m_cu1 hc with ⟨rfl, rfl⟩ | hc
    · obtain ⟨hA, rfl⟩ : A ≤ 8 ∧ a = 3 := by omega
      refine And.intro (fun h => ?_) (fun h => ?_)
      · have h9 : ¬ 16 < 2 ^ A - 1 := fun q => absurd ((nI_ltI (a := 16) (b := 2 ^ A - 1) (by decide) c1.2.2.2.2).mpr q) (by
          intro z
          rw [Int32.lt_iff_toInt_lt] at z
          rw [Int32.le_iff_toInt_le] at h
          exact absurd z (Int.not_lt.mpr h))
        rw [c1.2.2.1] at h9
        exact Exists.intro 2 (Exists.intro 0 (And.intro (Or.inl (by omega)) ⟨A, n, rfl, rfl, rfl, rfl, h1, h2, Or.inr (Or.inr (Or.inl ⟨rfl, rfl, by omega⟩))⟩))
      · have h9 : 16 < 2 ^ A - 1 := by
          rcases Nat.lt_or_ge 16 (2 ^ A - 1) with q | q
          · exact q
          · exact absurd (nI_le q (by decide)) h
        rw [c1.2.2.1] at h9
        refine Exists.intro 2 (Exists.intro 0 (And.intro (Or.inl (by omega)) ⟨A - 4, n + 4, ?_, rfl, rfl, rfl, by omega, by omega, Or.inr (Or.inr (Or.inl ⟨rfl, rfl, by omega⟩))⟩))
        have e3 := i_ushr (n := 2 ^ A - 1) 4 4 (by have := c1.2.2.2.2; omega) (by decide)
        rw [two_div (by omega)] at e3
        have e4 : nI n + (4 : Int32) = nI (n + 4) := nI_add n 4
        rw [← e3, ← e4]
    rcases m_cu1 hc with ⟨rfl, rfl⟩ | hc
    · obtain ⟨hA, rfl⟩ : A ≤ 4 ∧ a = 2 := by omega
      refine And.intro (fun h => ?_) (fun h => ?_)
      · have h9 : ¬ 4 < 2 ^ A - 1 := fun q => absurd ((nI_ltI (a := 4) (b := 2 ^ A - 1) (by decide) c1.2.2.2.2).mpr q) (by
          intro z
          rw [Int32.lt_iff_toInt_lt] at z
          rw [Int32.le_iff_toInt_le] at h
          exact absurd z (Int.not_lt.mpr h))
        rw [c1.2.2.2.1] at h9
        exact Exists.intro 1 (Exists.intro 0 (And.intro (Or.inl (by omega)) ⟨A, n, rfl, rfl, rfl, rfl, h1, h2, Or.inr (Or.inr (Or.inr ⟨rfl, rfl, by omega⟩))⟩))
      · have h9 : 4 < 2 ^ A - 1 := by
          rcases Nat.lt_or_ge 4 (2 ^ A - 1) with q | q
          · exact q
          · exact absurd (nI_le q (by decide)) h
        rw [c1.2.2.2.1] at h9
        refine Exists.intro 1 (Exists.intro 0 (And.intro (Or.inl (by omega)) ⟨A - 2, n + 2, ?_, rfl, rfl, rfl, by omega, by omega, Or.inr (Or.inr (Or.inr ⟨rfl, rfl, by omega⟩))⟩))
        have e3 := i_ushr (n := 2 ^ A - 1) 2 2 (by have := c1.2.2.2.2; omega) (by decide)
        rw [two_div (by omega)] at e3
        have e4 : nI n + (2 : Int32) = nI (n + 2) := nI_add n 2
        rw [← e3, ← e4]
    rcases m_cu1 hc with ⟨rfl, rfl⟩ | hc
    · obtain ⟨hA, rfl⟩ : A ≤ 2 ∧ a = 1 := by omega
      show K (some (.inl (nI n + ((nI (2 ^ A - 1)).toUInt32 >>> ((1 : Int32).toUInt32 &&& Int32.toUInt32 31)).toInt32))) _ _
      rw [i_ushr (n := 2 ^ A - 1) 1 1 (by have := c1.2.2.2.2; omega) (by decide), two_div (by omega), nI_add]
      rcases (show A = 1 ∨ A = 2 by omega) with rfl | rfl
      · rw [show n + (2 ^ (1 - 1) - 1) = r by omega]
        exact hK
      · rw [show n + (2 ^ (2 - 1) - 1) = r by omega]
        exact hK
    · cases hc
end
section
/-! ===== Big: what its cells say ===== -/
def BSh (sh : mSH) (rf : mRF) (b cap : Nat) : Prop := sh b = .inl 0 ∧ sh (rf b 0) = .inr (0, cap) ∧ 2 ≤ cap ∧ cap < 2 ^ 20
def BL (sh : mSH) (rf : mRF) : Prop := ∀ b c, sh b = .inl 0 → sh c = .inl 0 → rf b 0 = rf c 0 → b = c
def bdg (rf : mRF) (I : mPI) (b : Nat) : Nat → Nat := fun i => u32 (I (rf b 0) i)
def BIs (sh : mSH) (rf : mRF) (I : mPI) (b : Nat) (z : Int) : Prop := ∃ cap n, BSh sh rf b cap ∧ I b 1 = nI n ∧ n ≤ cap ∧ (0 < n → I (rf b 0) (n - 1) ≠ 0) ∧ I b 2 = (if z < 0 then 1 else 0) ∧ dv (2 ^ 32) (bdg rf I b) n = z.natAbs
/-- nothing but b's own cells has changed -/
def BCh (rf : mRF) (I I1 : mPI) (b : Nat) : Prop := ∀ a, a ≠ b → a ≠ rf b 0 → I1 a = I a
theorem BSh.ne {sh : mSH} {rf : mRF} {b cap : Nat} (h : BSh sh rf b cap) : b ≠ rf b 0 := by
  intro e
  have h1 := h.2.1
  rw [← e, h.1] at h1
  cases h1
theorem BSh.nex {sh : mSH} {rf : mRF} {b c cap cap2 : Nat} (h : BSh sh rf b cap) (h2 : BSh sh rf c cap2) : b ≠ rf c 0 := by
  intro e
  have h1 := h2.2.1
  rw [← e, h.1] at h1
  cases h1
theorem BSh.cap {sh : mSH} {rf : mRF} {b cap cap2 : Nat} (h : BSh sh rf b cap) (h2 : BSh sh rf b cap2) : cap = cap2 := by
  have h1 := h.2.1
  rw [h2.2.1] at h1
  cases h1
  rfl
theorem bdg_lt (rf : mRF) (I : mPI) (b i : Nat) : bdg rf I b i < 2 ^ 32 := u32_lt _
theorem BIs.lim {sh : mSH} {rf : mRF} {I : mPI} {b cap n m : Nat} {z : Int} (h4 : 0 < n → I (rf b 0) (n - 1) ≠ 0) (h6 : dv (2 ^ 32) (bdg rf I b) n = z.natAbs) (hm : z.natAbs < 2 ^ (32 * m)) : n ≤ m := by
  rcases Nat.lt_or_ge m n with q | q
  · exfalso
    obtain ⟨k, rfl⟩ : ∃ k, n = k + 1 := ⟨n - 1, by omega⟩
    have h1 : (2 ^ 32) ^ k ≤ dv (2 ^ 32) (bdg rf I b) (k + 1) := dv_top (fun e => h4 (by omega) (u32_0.mp e))
    rw [h6, ← Nat.pow_mul] at h1
    have h2 : 2 ^ (32 * m) ≤ 2 ^ (32 * k) := Nat.pow_le_pow_right (by omega) (by omega)
    omega
  · exact q
theorem BIs.zero {sh : mSH} {rf : mRF} {I : mPI} {b n : Nat} {z : Int} (h4 : 0 < n → I (rf b 0) (n - 1) ≠ 0) (h6 : dv (2 ^ 32) (bdg rf I b) n = z.natAbs) : n = 0 ↔ z = 0 := by
  constructor
  · intro e
    subst e
    have : z.natAbs = 0 := h6.symm
    omega
  · intro e
    subst e
    have := BIs.lim (cap := 0) (sh := sh) h4 h6 (m := 0) (by decide)
    omega
/-- the cells as they are at another heap that agrees on b -/
theorem BIs.keep {sh : mSH} {rf : mRF} {I I1 : mPI} {b : Nat} {z : Int} (h : BIs sh rf I b z) (h1 : I1 b = I b) (h2 : I1 (rf b 0) = I (rf b 0)) : BIs sh rf I1 b z := by
  obtain ⟨cap, n, a1, a2, a3, a4, a5, a6⟩ := h
  refine ⟨cap, n, a1, by rw [h1]; exact a2, a3, by rw [h2]; exact a4, by rw [h1]; exact a5, ?_⟩
  rw [← a6]
  apply dv_congr
  intro i _
  unfold bdg
  rw [h2]
/-- another number's cells stay, when b's change -/
theorem BIs.other {sh : mSH} {rf : mRF} {I I1 : mPI} {b c cap : Nat} {z : Int} (hB : BL sh rf) (hb : BSh sh rf b cap) (h : BIs sh rf I c z) (hn : c ≠ b) (hc : BCh rf I I1 b) : BIs sh rf I1 c z := by
  obtain ⟨cap2, n, a1, ar⟩ := id h
  refine h.keep (hc c hn (a1.nex hb)) (hc (rf c 0) (fun e => hb.nex a1 e.symm) (fun e => hn (hB c b a1.1 hb.1 e)))
theorem BCh.rfl' (rf : mRF) (I : mPI) (b : Nat) : BCh rf I I b := fun _ _ _ => rfl
theorem BCh.trans {rf : mRF} {I I1 I2 : mPI} {b : Nat} (h : BCh rf I I1 b) (h2 : BCh rf I1 I2 b) : BCh rf I I2 b := fun a q r => (h2 a q r).trans (h a q r)
/-! ===== trim, makeRoom ===== -/
def pt_trim : mSH → mRF → mPT := m_pv 0 (fun sh rf b rest I J K => ∃ (cap n : Nat) (z : Int), rest = [] ∧ BSh sh rf b cap ∧ I b 1 = nI n ∧ n ≤ cap ∧ dv (2 ^ 32) (bdg rf I b) n = z.natAbs ∧ (z < 0 → I b 2 = 1) ∧ (0 < z → I b 2 = 0) ∧ ∀ I1, (∀ a, a ≠ b → I1 a = I a) → BIs sh rf I1 b z → K none I1 J)
def pt_makeRoom : mSH → mRF → mPT := m_pv 0 (fun sh rf b rest I J K => ∃ cap r : Nat, rest = [.inl (nI r)] ∧ BSh sh rf b cap ∧ r ≤ cap ∧ K none I J)
set_option maxHeartbeats 4000000 in
set_option maxRecDepth 100000 in
theorem mt_X0_trim : m_Mt yX0_trim cX0_trim 1 none 0 0 pt_trim := by
  refine m_methodG (fl := fl_X0) (kI := kI_X0) (kJ := kJ_X0) (ct := ct_none) (cd := cd_X0_trim) (cut := [(0, [0]), (34, [0])]) (rk := 0) (fu := 80) (by decide +kernel) fl_X0_ok kI_X0_ok kJ_X0_ok (ce_none _ _ _ _ _) rfl ck_X0_trim ⟨_, _, rfl, rfl⟩ ?_
  intro sh rf As I J K hpt
  obtain ⟨b, rest, rfl, hb, cap, n, z, rfl, hB, hn, hnc, hz, hz1, hz2, hK⟩ := hpt
  have hcap := hB.2.2.2
  have hne := hB.ne
  have fin : ∀ (m : Nat) (I1 : mPI), m ≤ n → I1 b 1 = nI m → (∀ q, q ≠ b → I1 q = I q) → (∀ i, m ≤ i → i < n → I (rf b 0) i = 0) → (0 < m → I (rf b 0) (m - 1) ≠ 0) → I1 b 2 = (if m = 0 then 0 else I b 2) → BIs sh rf I1 b z := by
    intro m I1 h1 h2 h3 h4 h5 h6
    have hp : I1 (rf b 0) = I (rf b 0) := h3 _ (fun e => hne e.symm)
    have hd : dv (2 ^ 32) (bdg rf I1 b) m = z.natAbs := by
      rw [← hz, dv_ext h1 (fun i a1 a2 => by unfold bdg; rw [h4 i a1 a2]; rfl)]
      apply dv_congr
      intro i _
      unfold bdg
      rw [hp]
    have h5' : 0 < m → I1 (rf b 0) (m - 1) ≠ 0 := by rw [hp]; exact h5
    refine ⟨cap, m, hB, h2, by omega, h5', ?_, hd⟩
    have hz0 := BIs.zero (sh := sh) h5' hd
    rw [h6]
    by_cases hm : m = 0
    · rw [if_pos hm, hz0.mp hm]
      rfl
    · rw [if_neg hm]
      rcases Int.lt_trichotomy z 0 with q | q | q
      · rw [if_pos q, hz1 q]
      · exact absurd (hz0.mpr q) hm
      · rw [if_neg (by omega), hz2 q]
  refine ⟨Nat.le_of_ble_eq_true rfl, fun a b9 pc vs st I1 J1 => ∃ m, vs = [.inr (.inr b)] ∧ st = [] ∧ J1 = J ∧ a = m ∧ m ≤ n ∧ I1 b 1 = nI m ∧ I1 b 2 = I b 2 ∧ (∀ q, q ≠ b → I1 q = I q) ∧ (∀ i, m ≤ i → i < n → I (rf b 0) i = 0) ∧ (pc = 0 ∧ b9 = 1 ∨ pc = 34 ∧ b9 = 0 ∧ (0 < m → I (rf b 0) (m - 1) ≠ 0)), ?_, ?_⟩
  · exact Exists.intro n (Exists.intro 1 ⟨n, rfl, rfl, rfl, rfl, Nat.le_refl _, hn, rfl, fun _ _ => rfl, fun i h1 h2 => absurd h2 (by omega), Or.inl ⟨rfl, rfl⟩⟩)
  · intro pc ks a b9 vs st I1 J1 hc hI
    obtain ⟨m, rfl, rfl, rfl, rfl, hm, e1, e2, e3, e4, e5⟩ := hI
    have hp : I1 (rf b 0) = I (rf b 0) := e3 _ (fun e => hne e.symm)
    rcases m_cu1 hc with ⟨rfl, rfl⟩ | hc
    · obtain rfl : b9 = 1 := by omega
      refine And.intro hb (And.intro (fun h => ?_) (fun h => ?_))
      · have h : I1 b 1 ≤ nI 0 := h
        rw [e1] at h
        have := (nI_leI (by omega) (by decide)).mp h
        exact Exists.intro a (Exists.intro 0 (And.intro (Or.inr ⟨rfl, by omega⟩) ⟨a, rfl, rfl, rfl, rfl, hm, e1, e2, e3, e4, Or.inr ⟨rfl, rfl, fun h9 => absurd h9 (by omega)⟩⟩))
      · have h : ¬ I1 b 1 ≤ nI 0 := h
        rw [e1] at h
        have hm1 : 0 < a := by
          rcases Nat.eq_zero_or_pos a with q | q
          · rw [q] at h; exact absurd (nI_le (Nat.le_refl _) (by decide)) h
          · exact q
        have e6 : I1 b 1 - 1 = nI (a - 1) := by rw [e1]; exact pk_sub (b := 1) hm1
        refine And.intro hb (And.intro hb (And.intro ?_ ?_))
        · show m_inb sh (rf b 0) 0 (I1 b 1 - 1)
          rw [e6]
          exact m_inb_i hB.2.1 (vp_in_nI (by omega) (by omega))
        · refine And.intro (fun h2 => ?_) (fun h2 => ?_)
          · have h2 : ¬ I1 (rf b 0) (I1 b 1 - 1).toNatClampNeg = 0 := h2
            rw [e6, nI_clamp (by omega), hp] at h2
            exact Exists.intro a (Exists.intro 0 (And.intro (Or.inr ⟨rfl, by omega⟩) ⟨a, rfl, rfl, rfl, rfl, hm, e1, e2, e3, e4, Or.inr ⟨rfl, rfl, fun _ => h2⟩⟩))
          · have h2 : I1 (rf b 0) (I1 b 1 - 1).toNatClampNeg = 0 := h2
            rw [e6, nI_clamp (by omega), hp] at h2
            refine And.intro hb (And.intro hb (Exists.intro (a - 1) (Exists.intro 1 (And.intro (Or.inl (by omega)) ⟨a - 1, rfl, rfl, rfl, rfl, by omega, ?_, ?_, ?_, ?_, Or.inl ⟨rfl, rfl⟩⟩))))
            · rw [uI_s]
              exact e6
            · rw [uI_k _ _ _ (by decide), e2]
            · intro q hq
              rw [uI_a _ _ _ hq, e3 q hq]
            · intro i h8 h9
              rcases Nat.eq_or_lt_of_le h8 with q | q
              · rw [← q]; exact h2
              · exact e4 i (by omega) h9
    rcases m_cu1 hc with ⟨rfl, rfl⟩ | hc
    · obtain ⟨rfl, h5⟩ : b9 = 0 ∧ (0 < a → I (rf b 0) (a - 1) ≠ 0) := by
        rcases e5 with ⟨q, -⟩ | ⟨-, q1, q2⟩
        · cases q
        · exact ⟨q1, q2⟩
      refine And.intro hb (And.intro (fun h => ?_) (fun h => ?_))
      · have h : ¬ I1 b 1 = 0 := h
        rw [e1] at h
        exact hK I1 e3 (fin a I1 hm e1 e3 e4 h5 (by rw [if_neg (fun q => h (by rw [q]; rfl)), e2]))
      · have h : I1 b 1 = nI 0 := h
        rw [e1] at h
        have h0 : a = 0 := (nI_eq (by omega) (by decide)).mp h
        subst h0
        refine And.intro hb (And.intro (Or.inl rfl) ?_)
        refine hK _ (fun q hq => by rw [uI_a _ _ _ hq, e3 q hq]) (fin 0 _ hm ?_ (fun q hq => by rw [uI_a _ _ _ hq, e3 q hq]) e4 h5 ?_)
        · rw [uI_k _ _ _ (by decide)]
          exact e1
        · rw [uI_s]
          rfl
    · cases hc

set_option maxHeartbeats 4000000 in
set_option maxRecDepth 100000 in
theorem mt_X0_makeRoom : m_Mt yX0_makeRoom cX0_makeRoom 2 none 0 0 pt_makeRoom := by
  refine m_method0 80 (fl := fl_X0) (kI := kI_X0) (kJ := kJ_X0) (ct := ct_none) (cd := cd_X0_makeRoom) (rk := 0) (by decide +kernel) fl_X0_ok kI_X0_ok kJ_X0_ok (ce_none _ _ _ _ _) rfl ck_X0_makeRoom ⟨_, _, rfl, rfl⟩ ?_
  intro sh rf As I J K hpt
  obtain ⟨b, rest, rfl, hb, cap, r, rfl, hB, hr, hK⟩ := hpt
  have hcap := hB.2.2.2
  refine ⟨Nat.le_of_ble_eq_true rfl, And.intro hb (And.intro (m_isa_i hB.2.1 (by decide)) (And.intro (fun h => hK) (fun h => ?_)))⟩
  refine absurd ?_ h
  show nI r ≤ m_len sh (rf b 0)
  rw [m_len_i hB.2.1]
  exact nI_le hr (by omega)
end
section
/-! ===== more on digits and longs ===== -/
theorem dv_split {B : Nat} {g : Nat → Nat} (i : Nat) : ∀ n, dv B g (i + n) = dv B g i + B ^ i * dv B (fun j => g (i + j)) n
  | 0 => by simp [dv]
  | n + 1 => by
    rw [← Nat.add_assoc, dv, dv_split i n, dv, Nat.mul_add, ← Nat.add_assoc]
    congr 1
    rw [Nat.pow_add, Nat.mul_left_comm, Nat.mul_comm (g (i + n))]
theorem dv_div {B : Nat} {g : Nat → Nat} (hB : 0 < B) (hg : ∀ i, g i < B) (i n : Nat) : dv B g (i + n) / B ^ i = dv B (fun j => g (i + j)) n := by
  rw [dv_split, Nat.add_mul_div_left _ _ (Nat.pow_pos hB), Nat.div_eq_of_lt (dv_lt (fun j _ => hg j)), Nat.zero_add]
theorem dv_low {B : Nat} {g : Nat → Nat} (hB : 0 < B) (hg : ∀ i, g i < B) (n : Nat) : dv B g (n + 1) % B = g 0 := by
  rw [Nat.add_comm, dv_split 1 n]
  simp only [dv, Nat.pow_zero, Nat.mul_one, Nat.zero_add, Nat.pow_one]
  rw [Nat.add_mul_mod_self_left, Nat.mod_eq_of_lt (hg 0)]
theorem dv_digit {B : Nat} {g : Nat → Nat} (hB : 0 < B) (hg : ∀ i, g i < B) {i n : Nat} (h : i < n) : dv B g n / B ^ i % B = g i := by
  obtain ⟨m, rfl⟩ : ∃ m, n = i + (m + 1) := ⟨n - i - 1, by omega⟩
  rw [dv_div hB hg, dv_low hB (fun j => hg (i + j))]
  rfl
theorem dv_high {B : Nat} {g : Nat → Nat} (hB : 0 < B) (hg : ∀ i, g i < B) {i n : Nat} (h : n ≤ i) : dv B g n / B ^ i = 0 :=
  Nat.div_eq_of_lt (Nat.lt_of_lt_of_le (dv_lt (fun j _ => hg j)) (Nat.pow_le_pow_right hB h))
theorem lN_int (n : Nat) : lN n = Int64.ofInt (n : Int) := by
  unfold lN
  apply Int64.toBitVec_inj.mp
  simp [Int64.toBitVec_ofNat, Int64.toBitVec_ofInt]
theorem l_of_nonneg {v : Int64} (h : 0 ≤ v.toInt) : v = lN v.toInt.natAbs := by
  rw [lN_int, Int.natAbs_of_nonneg h, Int64.ofInt_toInt]
theorem l_neg_abs {v : Int64} (h : v.toInt < 0) : -v = lN v.toInt.natAbs := by
  rw [lN_int, Int.ofNat_natAbs_of_nonpos (by omega), Int64.ofInt_neg, Int64.ofInt_toInt]
theorem l_ge0 {v : Int64} : 0 ≤ lg_cmp v 0 ↔ 0 ≤ v.toInt := by
  rw [lg_cmp_ge, Int64.le_iff_toInt_le]
  rfl
theorem l_absb (v : Int64) : v.toInt.natAbs ≤ 2 ^ 63 := by
  have h1 := v.le_toInt
  have h2 := v.toInt_lt
  omega
def blen (v : Nat) : Nat := if v = 0 then 0 else Nat.log2 v + 1
theorem blen_of {v L : Nat} (h1 : 2 ^ L ≤ v) (h2 : v < 2 ^ (L + 1)) : blen v = L + 1 := by
  have h0 : v ≠ 0 := by
    have := Nat.two_pow_pos L
    omega
  unfold blen
  rw [if_neg h0]
  have a1 := (Nat.le_log2 h0).mpr h1
  have a2 := (Nat.log2_lt h0).mpr h2
  omega
theorem blen_le {v L : Nat} (h : v < 2 ^ L) : blen v ≤ L := by
  unfold blen
  split
  · omega
  · rename_i h0
    have := (Nat.log2_lt h0).mpr h
    omega
theorem lt_blen (v : Nat) : v < 2 ^ blen v := by
  unfold blen
  split
  · omega
  · rename_i h0
    exact (Nat.log2_lt h0).mp (Nat.lt_succ_self _)
/-! ===== contracts ===== -/
def sgI (z : Int) : Int32 := if z < 0 then -1 else if z = 0 then 0 else 1
def cmpN (a b : Nat) : Int32 := if a < b then -1 else if a = b then 0 else 1
def pt_setLong : mSH → mRF → mPT := m_pv 0 (fun sh rf b rest I J K => ∃ (cap : Nat) (v : Int64), rest = [.inr (.inl v)] ∧ BSh sh rf b cap ∧ ∀ I1, BCh rf I I1 b → BIs sh rf I1 b v.toInt → K none I1 J)
def pt_signum : mSH → mRF → mPT := m_pv 0 (fun sh rf b rest I J K => ∃ z : Int, rest = [] ∧ BIs sh rf I b z ∧ K (some (.inl (sgI z))) I J)
def pt_negate : mSH → mRF → mPT := m_pv 0 (fun sh rf b rest I J K => ∃ z : Int, rest = [] ∧ BIs sh rf I b z ∧ ∀ I1, (∀ a, a ≠ b → I1 a = I a) → BIs sh rf I1 b (-z) → K none I1 J)
def pt_dropSign : mSH → mRF → mPT := m_pv 0 (fun sh rf b rest I J K => ∃ z : Int, rest = [] ∧ BIs sh rf I b z ∧ ∀ I1, (∀ a, a ≠ b → I1 a = I a) → BIs sh rf I1 b (z.natAbs : Int) → K none I1 J)
def pt_setBig : mSH → mRF → mPT := m_pv 0 (fun sh rf b rest I J K => ∃ (cap f : Nat) (z : Int), rest = [.inr (.inr f)] ∧ BSh sh rf b cap ∧ BL sh rf ∧ f ≠ b ∧ BIs sh rf I f z ∧ z.natAbs < 2 ^ (32 * cap) ∧ ∀ I1, BCh rf I I1 b → BIs sh rf I1 b z → K none I1 J)
def pt_compareSize : mSH → mRF → mPT := m_pv 0 (fun sh rf b rest I J K => ∃ (f : Nat) (z y : Int), rest = [.inr (.inr f)] ∧ BIs sh rf I b z ∧ BIs sh rf I f y ∧ K (some (.inl (cmpN z.natAbs y.natAbs))) I J)
def pt_bitLength : mSH → mRF → mPT := m_pv 0 (fun sh rf b rest I J K => ∃ z : Int, rest = [] ∧ BIs sh rf I b z ∧ K (some (.inl (nI (blen z.natAbs)))) I J)
def pt_sixteenBits : mSH → mRF → mPT := m_pv 0 (fun sh rf b rest I J K => ∃ (z : Int) (k : Nat), rest = [.inl (nI k)] ∧ k < 2 ^ 31 ∧ BIs sh rf I b z ∧ K (some (.inl (nI (z.natAbs / 2 ^ (16 * k) % 65536)))) I J)
def pt_twos : mSH → mRF → mPT := m_pv 0 (fun sh rf b rest I J K => ∃ z : Int, rest = [] ∧ BIs sh rf I b z ∧ (z = 0 → K (some (.inl 0)) I J) ∧ ∀ t y : Nat, z.natAbs = 2 ^ t * (2 * y + 1) → t < 2 ^ 26 → K (some (.inl (nI t))) I J)
def pt_toLong : mSH → mRF → mPT := m_pv 0 (fun sh rf b rest I J K => ∃ z : Int, rest = [] ∧ BIs sh rf I b z ∧ z.natAbs < 2 ^ 63 ∧ K (some (.inr (.inl (Int64.ofInt z)))) I J)
def ct_X0_setLong (sh : mSH) (rf : mRF) : Nat → Option (Nat × Bool × mPT) := fun k => match k with
  | 27 => some (1, true, pt_trim sh rf)
  | _ => none
set_option maxRecDepth 20000 in
theorem ce_X0_setLong : m_CE RX0 1 20 cX0_setLong 5 ct_X0_setLong := by
  intro p l e s m args below meth c Q D cs ad sh rf N hx hb hml hown hts hK hi hN k n vf pt h
  unfold ct_X0_setLong at h
  split at h
  · cases h
    exact m_CG_V mt_X0_trim hx hb hml hown hts hK hi hN (ci := 0) m_pv_rec rfl rfl (m_wck_ok (l := [(Cond.methodLink RX0 27 yX0_trim, 179), (Cond.instanceMethod yX0_trim, 181), (Cond.selects RX0 yX0_trim yX0_trim, 0), (Cond.initialized RX0, 58), (Cond.code yX0_trim cX0_trim 1 none, 182)]) (by decide +kernel)) ⟨rfl, by decide +kernel, by decide +kernel, by decide +kernel⟩ ⟨Nat.le_of_ble_eq_true rfl, Nat.le_of_ble_eq_true rfl⟩
  · cases h
set_option maxHeartbeats 4000000 in
set_option maxRecDepth 100000 in
theorem mt_X0_setLong : m_Mt yX0_setLong cX0_setLong 5 none 1 20 pt_setLong := by
  refine m_methodG (fl := fl_X0) (kI := kI_X0) (kJ := kJ_X0) (ct := ct_X0_setLong) (cd := cd_X0_setLong) (cut := [(12, [0, 1])]) (rk := 0) (fu := 80) (by decide +kernel) fl_X0_ok kI_X0_ok kJ_X0_ok ce_X0_setLong rfl ck_X0_setLong ⟨_, _, rfl, rfl⟩ ?_
  intro sh rf As I J K hpt
  obtain ⟨b, rest, rfl, hb, cap, v, rfl, hB, hK⟩ := hpt
  have hcap := hB.2.2
  have hne := hB.ne
  have hab := l_absb v
  refine ⟨Nat.le_of_ble_eq_true rfl, fun a b9 pc vs st I1 J1 => vs = [.inr (.inr b), .inr (.inl v)] ∧ st = [.inr (.inl (lN v.toInt.natAbs))] ∧ I1 = I ∧ J1 = J ∧ a = 0, ?_, ?_⟩
  · refine ⟨fun h => ?_, fun h => ?_⟩
    · have e := l_of_nonneg (l_ge0.mp h)
      exact ⟨0, 0, rfl, by rw [← e], rfl, rfl, rfl⟩
    · have e := l_neg_abs (v := v) (by
        rcases Int.lt_or_le v.toInt 0 with q | q
        · exact q
        · exact absurd (l_ge0.mpr q) h)
      exact ⟨0, 0, rfl, by rw [← e], rfl, rfl, rfl⟩
  · intro pc ks a b9 vs st I1 J1 hc hI
    rcases m_cu1 hc with ⟨rfl, rfl⟩ | hc
    · obtain ⟨rfl, rfl, rfl, rfl, rfl⟩ := hI
      have key : ∀ sv : Int32, ((v.toInt < 0 → sv = 1) ∧ (0 ≤ v.toInt → sv = 0)) → pt_trim sh rf [.inr (.inr b)] (m_uI (m_uI (m_uI (m_uI I1 (rf b 0) 0 (lN v.toInt.natAbs).toInt32) (rf b 0) 1 ((lN v.toInt.natAbs).toUInt64 >>> ((32 : Int32).toInt64.toUInt64 &&& Int64.toUInt64 63)).toInt64.toInt32) b 1 2) b 2 sv) J1 K := by
        intro sv hsv
        refine ⟨b, [], rfl, hb, cap, 2, v.toInt, rfl, hB, ?_, hcap.1, ?_, ?_, ?_, ?_⟩
        · rw [uI_k _ _ _ (by decide), uI_s]
          rfl
        · rw [l_shr32 (by omega), lN_i, lN_i]
          have d0 : bdg rf (m_uI (m_uI (m_uI (m_uI I1 (rf b 0) 0 (nI v.toInt.natAbs)) (rf b 0) 1 (nI (v.toInt.natAbs / 2 ^ 32))) b 1 2) b 2 sv) b 0 = v.toInt.natAbs % 2 ^ 32 := by
            unfold bdg
            rw [uI_a _ _ _ hne.symm, uI_a _ _ _ hne.symm, uI_k _ _ _ (by decide), uI_s, u32_nI]
          have d1 : bdg rf (m_uI (m_uI (m_uI (m_uI I1 (rf b 0) 0 (nI v.toInt.natAbs)) (rf b 0) 1 (nI (v.toInt.natAbs / 2 ^ 32))) b 1 2) b 2 sv) b 1 = v.toInt.natAbs / 2 ^ 32 % 2 ^ 32 := by
            unfold bdg
            rw [uI_a _ _ _ hne.symm, uI_a _ _ _ hne.symm, uI_s, u32_nI]
          simp only [dv, d0, d1]
          omega
        · intro h
          rw [uI_s]
          exact hsv.1 h
        · intro h
          rw [uI_s]
          exact hsv.2 (by omega)
        · intro I2 h1 h2
          refine hK I2 (fun q h3 h4 => ?_) h2
          rw [h1 q h3, uI_a _ _ _ h3, uI_a _ _ _ h3, uI_a _ _ _ h4, uI_a _ _ _ h4]
      refine ⟨hb, m_inb_i hB.2.1 (vp_in_nI (n := 0) (by omega) (by omega)), hb, m_inb_i hB.2.1 (vp_in_nI (n := 1) (by omega) (by omega)), hb, fun h => ?_, fun h => ?_⟩
      · have h0 := l_ge0.mp h
        exact ⟨hb, Or.inl rfl, key 0 ⟨fun h1 => absurd h1 (by omega), fun _ => rfl⟩⟩
      · have h0 : v.toInt < 0 := by
          rcases Int.lt_or_le v.toInt 0 with q | q
          · exact q
          · exact absurd (l_ge0.mpr q) h
        exact ⟨hb, Or.inr rfl, key 1 ⟨fun _ => rfl, fun h1 => absurd h1 (by omega)⟩⟩
    · cases hc

set_option maxHeartbeats 4000000 in
set_option maxRecDepth 100000 in
theorem mt_X0_signum : m_Mt yX0_signum cX0_signum 1 (some .int) 0 0 pt_signum := by
  refine m_method0 80 (fl := fl_X0) (kI := kI_X0) (kJ := kJ_X0) (ct := ct_none) (cd := cd_X0_signum) (rk := 1) (by decide +kernel) fl_X0_ok kI_X0_ok kJ_X0_ok (ce_none _ _ _ _ _) rfl ck_X0_signum ⟨_, _, rfl, rfl⟩ ?_
  intro sh rf As I J K hpt
  obtain ⟨b, rest, rfl, hb, z, rfl, ⟨cap, n, hB, h1, h2, h4, h5, h6⟩, hK⟩ := hpt
  have hcap := hB.2.2.2
  have h0 := BIs.zero (sh := sh) h4 h6
  unfold sgI at hK
  refine ⟨Nat.le_of_ble_eq_true rfl, hb, fun h => ?_, fun h => ?_⟩
  · have h : ¬ I b 1 = 0 := h
    have hz : ¬ z = 0 := fun q => h (by rw [h1, h0.mpr q]; rfl)
    refine ⟨hb, fun h7 => ?_, fun h7 => ?_⟩
    · have h7 : I b 2 = 0 := h7
      rw [h5] at h7
      have hn : ¬ z < 0 := fun q => by rw [if_pos q] at h7; exact absurd h7 (by decide)
      rw [if_neg hn, if_neg hz] at hK
      exact hK
    · have h7 : ¬ I b 2 = 0 := h7
      rw [h5] at h7
      have hn : z < 0 := by
        rcases Int.lt_or_le z 0 with q | q
        · exact q
        · rw [if_neg (by omega)] at h7; exact absurd rfl h7
      rw [if_pos hn] at hK
      exact hK
  · have h : I b 1 = nI 0 := h
    rw [h1] at h
    have hz := h0.mp ((nI_eq (by omega) (by decide)).mp h)
    rw [if_neg (by omega), if_pos hz] at hK
    exact hK

set_option maxHeartbeats 4000000 in
set_option maxRecDepth 100000 in
theorem mt_X0_negate : m_Mt yX0_negate cX0_negate 1 none 0 0 pt_negate := by
  refine m_method0 80 (fl := fl_X0) (kI := kI_X0) (kJ := kJ_X0) (ct := ct_none) (cd := cd_X0_negate) (rk := 0) (by decide +kernel) fl_X0_ok kI_X0_ok kJ_X0_ok (ce_none _ _ _ _ _) rfl ck_X0_negate ⟨_, _, rfl, rfl⟩ ?_
  intro sh rf As I J K hpt
  obtain ⟨b, rest, rfl, hb, z, rfl, ⟨cap, n, hB, h1, h2, h4, h5, h6⟩, hK⟩ := hpt
  have hcap := hB.2.2.2
  have hne := hB.ne
  have h0 := BIs.zero (sh := sh) h4 h6
  have fin : ∀ x : Int32, x = (if -z < 0 then 1 else 0) → K none (m_uI I b 2 x) J := by
    intro x hx
    refine hK _ (fun a h => uI_a _ _ _ h) ⟨cap, n, hB, by rw [uI_k _ _ _ (by decide)]; exact h1, h2, by rw [uI_a _ _ _ hne.symm]; exact h4, by rw [uI_s]; exact hx, ?_⟩
    rw [Int.natAbs_neg, ← h6]
    apply dv_congr
    intro i _
    unfold bdg
    rw [uI_a _ _ _ hne.symm]
  refine ⟨Nat.le_of_ble_eq_true rfl, hb, fun h => ?_, fun h => ?_⟩
  · have h : I b 1 = nI 0 := h
    rw [h1] at h
    have hz := h0.mp ((nI_eq (by omega) (by decide)).mp h)
    exact ⟨hb, Or.inl rfl, fin 0 (by rw [if_neg (by omega)])⟩
  · have h : ¬ I b 1 = 0 := h
    have hz : ¬ z = 0 := fun q => h (by rw [h1, h0.mpr q]; rfl)
    refine ⟨hb, fun h7 => ?_, fun h7 => ?_⟩
    · have h7 : ¬ I b 2 = 0 := h7
      rw [h5] at h7
      have hn : z < 0 := by
        rcases Int.lt_or_le z 0 with q | q
        · exact q
        · rw [if_neg (by omega)] at h7; exact absurd rfl h7
      exact ⟨hb, Or.inl rfl, fin 0 (by rw [if_neg (by omega)])⟩
    · have h7 : I b 2 = 0 := h7
      rw [h5] at h7
      have hn : ¬ z < 0 := fun q => by rw [if_pos q] at h7; exact absurd h7 (by decide)
      exact ⟨hb, Or.inr rfl, fin 1 (by rw [if_pos (by omega)])⟩

set_option maxHeartbeats 4000000 in
set_option maxRecDepth 100000 in
theorem mt_X0_dropSign : m_Mt yX0_dropSign cX0_dropSign 1 none 0 0 pt_dropSign := by
  refine m_method0 80 (fl := fl_X0) (kI := kI_X0) (kJ := kJ_X0) (ct := ct_none) (cd := cd_X0_dropSign) (rk := 0) (by decide +kernel) fl_X0_ok kI_X0_ok kJ_X0_ok (ce_none _ _ _ _ _) rfl ck_X0_dropSign ⟨_, _, rfl, rfl⟩ ?_
  intro sh rf As I J K hpt
  obtain ⟨b, rest, rfl, hb, z, rfl, ⟨cap, n, hB, h1, h2, h4, h5, h6⟩, hK⟩ := hpt
  have hne := hB.ne
  refine ⟨Nat.le_of_ble_eq_true rfl, hb, Or.inl rfl, ?_⟩
  refine hK _ (fun a h => uI_a _ _ _ h) ⟨cap, n, hB, by rw [uI_k _ _ _ (by decide)]; exact h1, h2, by rw [uI_a _ _ _ hne.symm]; exact h4, by rw [uI_s, if_neg (by omega)], ?_⟩
  rw [Int.natAbs_natCast, ← h6]
  apply dv_congr
  intro i _
  unfold bdg
  rw [uI_a _ _ _ hne.symm]

def ct_X0_setBig (sh : mSH) (rf : mRF) : Nat → Option (Nat × Bool × mPT) := fun k => match k with
  | 30 => some (2, true, pt_makeRoom sh rf)
  | 34 => some (5, false, pt_cpI sh rf)
  | _ => none
set_option maxRecDepth 20000 in
theorem ce_X0_setBig : m_CE RX0 1 60 cX0_setBig 2 ct_X0_setBig := by
  intro p l e s m args below meth c Q D cs ad sh rf N hx hb hml hown hts hK hi hN k n vf pt h
  unfold ct_X0_setBig at h
  split at h
  · cases h
    exact m_CG_V mt_X0_makeRoom hx hb hml hown hts hK hi hN (ci := 0) m_pv_rec rfl rfl (m_wck_ok (l := [(Cond.methodLink RX0 30 yX0_makeRoom, 320), (Cond.instanceMethod yX0_makeRoom, 322), (Cond.selects RX0 yX0_makeRoom yX0_makeRoom, 2), (Cond.initialized RX0, 58), (Cond.code yX0_makeRoom cX0_makeRoom 2 none, 323)]) (by decide +kernel)) ⟨rfl, by decide +kernel, by decide +kernel, by decide +kernel⟩ ⟨Nat.le_of_ble_eq_true rfl, Nat.le_of_ble_eq_true rfl⟩
  · cases h
    exact m_CG_cpI hx hb hml hown hts hK hi hN (m_wck_ok (l := [(Cond.methodLink RX0 34 arraycopyName, 355), (Cond.native arraycopyName, 339), (Cond.static arraycopyName, 338), (Cond.initialized "java/lang/System", 64)]) (by decide +kernel)) (by decide +kernel)
  · cases h
set_option maxHeartbeats 4000000 in
set_option maxRecDepth 100000 in
theorem mt_X0_setBig : m_Mt yX0_setBig cX0_setBig 2 none 1 60 pt_setBig := by
  refine m_method0 80 (fl := fl_X0) (kI := kI_X0) (kJ := kJ_X0) (ct := ct_X0_setBig) (cd := cd_X0_setBig) (rk := 0) (by decide +kernel) fl_X0_ok kI_X0_ok kJ_X0_ok ce_X0_setBig rfl ck_X0_setBig ⟨_, _, rfl, rfl⟩ ?_
  intro sh rf As I J K hpt
  obtain ⟨b, rest, rfl, hb, cap, f, z, rfl, hB, hL, hfb, hz, hlim, hK⟩ := hpt
  obtain ⟨cap2, n, hF, h1, h2, h4, h5, h6⟩ := id hz
  have hcap := hB.2.2.2
  have hcap2 := hF.2.2.2
  have hne := hB.ne
  have hn := BIs.lim (sh := sh) (cap := 0) h4 h6 hlim
  have hpp : rf f 0 ≠ rf b 0 := fun e => hfb (hL f b hF.1 hB.1 e)
  have hfp : f ≠ rf b 0 := hF.nex hB
  have hbp : b ≠ rf f 0 := hB.nex hF
  refine ⟨Nat.le_of_ble_eq_true rfl, hF.1, b, [.inl (I f 1)], rfl, hb, cap, n, by rw [h1], hB, hn, hF.1, hb, hF.1, rf f 0, 0, rf b 0, 0, I f 1, cap2, cap, rfl, hF.2.1, hB.2.1, by decide, by decide, by rw [h1]; exact nI_pos (by omega), ?_, ?_, ?_⟩
  · rw [h1, nI_clamp (by omega), show (0 : Int32).toNatClampNeg = 0 by decide]
    omega
  · rw [h1, nI_clamp (by omega), show (0 : Int32).toNatClampNeg = 0 by decide]
    omega
  rw [h1, nI_clamp (by omega), show (0 : Int32).toNatClampNeg = 0 by decide]
  have q1 : va_up I (rf b 0) (va_cpy (I (rf f 0)) (I (rf b 0)) 0 0 n) f = I f := va_up_ne _ _ hfp
  have e2 : va_up I (rf b 0) (va_cpy (I (rf f 0)) (I (rf b 0)) 0 0 n) f 2 = 0 ∨ va_up I (rf b 0) (va_cpy (I (rf f 0)) (I (rf b 0)) 0 0 n) f 2 = 1 := by
    rw [q1, h5]
    by_cases q : z < 0
    · rw [if_pos q]; exact Or.inr rfl
    · rw [if_neg q]; exact Or.inl rfl
  refine ⟨hF.1, hb, hF.1, hb, ?_, ?_⟩
  · show m_uI _ b 1 _ f 2 = 0 ∨ m_uI _ b 1 _ f 2 = 1
    rw [uI_a _ _ _ hfb]
    exact e2
  · refine hK _ (fun a h7 h8 => ?_) ⟨cap, n, hB, ?_, hn, ?_, ?_, ?_⟩
    · rw [uI_a _ _ _ h7, uI_a _ _ _ h7, va_up_ne _ _ h8]
    · rw [uI_k _ _ _ (by decide), uI_s]
      show va_up I (rf b 0) _ f 1 = nI n
      rw [q1]
      exact h1
    · intro h0
      rw [uI_a _ _ _ hne.symm, uI_a _ _ _ hne.symm, va_up_self, pk_cpy_in (by omega) (by omega)]
      rw [show 0 + (n - 1 - 0) = n - 1 by omega]
      exact h4 h0
    · rw [uI_s]
      show m_uI _ b 1 _ f 2 = _
      rw [uI_a _ _ _ hfb, q1]
      exact h5
    · rw [← h6]
      apply dv_congr
      intro i hi
      unfold bdg
      rw [uI_a _ _ _ hne.symm, uI_a _ _ _ hne.symm, va_up_self, pk_cpy_in (by omega) (by omega)]
      rw [show 0 + (i - 0) = i by omega]
end
section
/-! ===== compareSize, bitLength, sixteenBits, twos, toLong ===== -/
theorem lg_cmp_N {a b : Nat} (ha : a < 2 ^ 63) (hb : b < 2 ^ 63) : lg_cmp (lN a) (lN b) = cmpN a b := by
  unfold lg_cmp cmpN
  by_cases h : a < b
  · rw [if_pos h, if_neg (fun q => by have := (pk_lLT hb ha).mp q; omega), if_neg (fun q => by have := (pk_lEQ ha hb).mp q; omega)]
  · rw [if_neg h]
    by_cases h2 : a = b
    · rw [if_pos h2, if_neg (fun q => by have := (pk_lLT hb ha).mp q; omega), if_pos (by rw [h2])]
    · rw [if_neg h2, if_pos ((pk_lLT hb ha).mpr (by omega))]
def ct_X0_compareSize (sh : mSH) (rf : mRF) : Nat → Option (Nat × Bool × mPT) := fun k => match k with
  | 52 => some (2, false, pt_cmpJ sh rf)
  | _ => none
set_option maxRecDepth 20000 in
theorem ce_X0_compareSize : m_CE RX0 1 23 cX0_compareSize 3 ct_X0_compareSize := by
  intro p l e s m args below meth c Q D cs ad sh rf N hx hb hml hown hts hK hi hN k n vf pt h
  unfold ct_X0_compareSize at h
  split at h
  · cases h
    exact m_CG_S mt_J13_compare_74951 hx hb hml hown hts hK hi hN (m_wck_ok (l := [(Cond.methodLink RX0 52 yJ13_compare_74951, 364), (Cond.static yJ13_compare_74951, 365), (Cond.initialized RJ13, 65), (Cond.code yJ13_compare_74951 cJ13_compare_74951 4 (some .int), 366)]) (by decide +kernel)) ⟨by decide +kernel, by decide +kernel, by decide +kernel⟩ ⟨Nat.le_of_ble_eq_true rfl, Nat.le_of_ble_eq_true rfl⟩
  · cases h
set_option maxHeartbeats 4000000 in
set_option maxRecDepth 100000 in
theorem mt_X0_compareSize : m_Mt yX0_compareSize cX0_compareSize 3 (some .int) 1 23 pt_compareSize := by
  refine m_methodG (fl := fl_X0) (kI := kI_X0) (kJ := kJ_X0) (ct := ct_X0_compareSize) (cd := cd_X0_compareSize) (cut := [(35, [0, 1, 2])]) (rk := 1) (fu := 80) (by decide +kernel) fl_X0_ok kI_X0_ok kJ_X0_ok ce_X0_compareSize rfl ck_X0_compareSize ⟨_, _, rfl, rfl⟩ ?_
  intro sh rf As I J K hpt
  obtain ⟨b, rest, rfl, hb, f, z, y, rfl, ⟨cap, n, hB, h1, h2, h4, h5, h6⟩, ⟨cap2, n2, hF, g1, g2, g4, g5, g6⟩, hK⟩ := hpt
  have hcap := hB.2.2.2
  have hcap2 := hF.2.2.2
  have hdg : ∀ c i, bdg rf I c i < 2 ^ 32 := fun c i => bdg_lt rf I c i
  refine ⟨Nat.le_of_ble_eq_true rfl, fun a b9 pc vs st I1 J1 => ∃ j, vs = [.inr (.inr b), .inr (.inr f), .inl (nI j - 1)] ∧ st = [] ∧ I1 = I ∧ J1 = J ∧ a = j ∧ n2 = n ∧ j ≤ n ∧ (∀ i, j ≤ i → i < n → bdg rf I b i = bdg rf I f i), ?_, ?_⟩
  · refine ⟨hb, hF.1, fun h => ?_, fun h => ?_⟩
    · have h : I b 1 = I f 1 := h
      rw [h1, g1] at h
      have hnn := (nI_eq (by omega) (by omega)).mp h
      refine ⟨hb, n, 0, n, ?_, rfl, rfl, rfl, rfl, hnn.symm, Nat.le_refl _, fun i a1 a2 => absurd a2 (by omega)⟩
      rw [← h1]
    · have h : ¬ I b 1 = I f 1 := h
      rw [h1, g1] at h
      have hnn : n ≠ n2 := fun q => h (by rw [q])
      refine ⟨hb, hF.1, fun h => ?_, fun h => ?_⟩
      · have h : I f 1 ≤ I b 1 := h
        rw [h1, g1] at h
        have hlt : n2 < n := by
          have := (nI_leI (by omega) (by omega)).mp h
          omega
        have e : cmpN z.natAbs y.natAbs = 1 := by
          have a1 : y.natAbs < z.natAbs := by
            rw [← h6, ← g6]
            obtain ⟨k, rfl⟩ : ∃ k, n = k + 1 := ⟨n - 1, by omega⟩
            have b1 : (2 ^ 32) ^ k ≤ dv (2 ^ 32) (bdg rf I b) (k + 1) := dv_top (fun e => h4 (by omega) (u32_0.mp e))
            have b2 : dv (2 ^ 32) (bdg rf I f) n2 < (2 ^ 32) ^ n2 := dv_lt (fun i _ => hdg f i)
            have b3 : (2 ^ 32) ^ n2 ≤ (2 ^ 32) ^ k := Nat.pow_le_pow_right (by decide) (by omega)
            omega
          unfold cmpN
          rw [if_neg (by omega), if_neg (by omega)]
        rw [e] at hK
        exact hK
      · have h : ¬ I f 1 ≤ I b 1 := h
        rw [h1, g1] at h
        have hlt : n < n2 := by
          rcases Nat.lt_or_ge n n2 with q | q
          · exact q
          · exact absurd (nI_le q (by omega)) h
        have e : cmpN z.natAbs y.natAbs = -1 := by
          have a1 : z.natAbs < y.natAbs := by
            rw [← h6, ← g6]
            obtain ⟨k, rfl⟩ : ∃ k, n2 = k + 1 := ⟨n2 - 1, by omega⟩
            have b1 : (2 ^ 32) ^ k ≤ dv (2 ^ 32) (bdg rf I f) (k + 1) := dv_top (fun e => g4 (by omega) (u32_0.mp e))
            have b2 : dv (2 ^ 32) (bdg rf I b) n < (2 ^ 32) ^ n := dv_lt (fun i _ => hdg b i)
            have b3 : (2 ^ 32) ^ n ≤ (2 ^ 32) ^ k := Nat.pow_le_pow_right (by decide) (by omega)
            omega
          unfold cmpN
          rw [if_pos a1]
        rw [e] at hK
        exact hK
  · intro pc ks a b9 vs st I1 J1 hc hI
    rcases m_cu1 hc with ⟨rfl, rfl⟩ | hc
    · obtain ⟨j, rfl, rfl, rfl, rfl, rfl, rfl, hj, he⟩ := hI
      refine ⟨fun h => ?_, fun h => ?_⟩
      · have hj0 : a = 0 := by
          rcases Nat.eq_zero_or_pos a with q | q
          · exact q
          · have h : nI a - nI 1 < 0 := h
            rw [pk_sub q] at h
            exact absurd h (nI_pos (by omega))
        subst hj0
        have e : cmpN z.natAbs y.natAbs = 0 := by
          unfold cmpN
          rw [← h6, ← g6, dv_congr (fun i hi => he i (by omega) hi), if_neg (by omega), if_pos rfl]
        rw [e] at hK
        exact hK
      · have hj0 : 0 < a := by
          rcases Nat.eq_zero_or_pos a with q | q
          · rw [q] at h; exact absurd (by decide) h
          · exact q
        have e6 : nI a - 1 = nI (a - 1) := pk_sub (b := 1) hj0
        have i1 : m_inb sh (rf b 0) 0 (nI a - 1) := by
          rw [e6]; exact m_inb_i hB.2.1 (vp_in_nI (by omega) (by omega))
        have i2 : m_inb sh (rf f 0) 0 (nI a - 1) := by
          rw [e6]; exact m_inb_i hF.2.1 (vp_in_nI (by omega) (by omega))
        refine ⟨hb, i1, hF.1, i2, fun h7 => ?_, fun h7 => ?_⟩
        · have h7 : I1 (rf b 0) (nI a - 1).toNatClampNeg = I1 (rf f 0) (nI a - 1).toNatClampNeg := h7
          rw [e6, nI_clamp (by omega)] at h7
          refine ⟨a - 1, 0, Or.inl (by omega), a - 1, ?_, rfl, rfl, rfl, rfl, rfl, by omega, fun i q1 q2 => ?_⟩
          · rw [← e6, Int32.sub_eq_add_neg (nI a - 1) 1]
          · rcases Nat.eq_or_lt_of_le q1 with q | q
            · unfold bdg
              rw [← q, h7]
            · exact he i (by omega) q2
        · have h7 : ¬ I1 (rf b 0) (nI a - 1).toNatClampNeg = I1 (rf f 0) (nI a - 1).toNatClampNeg := h7
          rw [e6, nI_clamp (by omega)] at h7
          refine ⟨hb, i1, hF.1, i2, _, _, rfl, ?_⟩
          show K (some (.inl (lg_cmp ((I1 (rf b 0) (nI a - 1).toNatClampNeg).toInt64 &&& 4294967295) ((I1 (rf f 0) (nI a - 1).toNatClampNeg).toInt64 &&& 4294967295)))) I1 J1
          rw [e6, nI_clamp (by omega), l_mask, l_mask]
          have d1 := hdg b (a - 1)
          have d2 := hdg f (a - 1)
          have hne : bdg rf I1 b (a - 1) ≠ bdg rf I1 f (a - 1) := fun q => h7 (u32_inj q)
          rw [show u32 (I1 (rf b 0) (a - 1)) = bdg rf I1 b (a - 1) from rfl, show u32 (I1 (rf f 0) (a - 1)) = bdg rf I1 f (a - 1) from rfl, lg_cmp_N (by omega) (by omega)]
          have e : cmpN z.natAbs y.natAbs = cmpN (bdg rf I1 b (a - 1)) (bdg rf I1 f (a - 1)) := by
            unfold cmpN
            rw [← h6, ← g6]
            rcases Nat.lt_or_gt_of_ne hne with q | q
            · have := dv_cmp (B := 2 ^ 32) (fun i _ => hdg b i) q (n := n2) (by omega) (fun i q1 q2 => he i (by omega) q2)
              rw [if_pos this, if_pos q]
            · have := dv_cmp (B := 2 ^ 32) (fun i _ => hdg f i) q (n := n2) (by omega) (fun i q1 q2 => (he i (by omega) q2).symm)
              rw [if_neg (by omega), if_neg (by omega), if_neg (by omega), if_neg (by omega)]
          rw [← e]
          exact hK
    · cases hc

def ct_X0_bitLength (sh : mSH) (rf : mRF) : Nat → Option (Nat × Bool × mPT) := fun k => match k with
  | 42 => some (1, false, pt_nlz sh rf)
  | _ => none
set_option maxRecDepth 20000 in
theorem ce_X0_bitLength : m_CE RX0 1 21 cX0_bitLength 1 ct_X0_bitLength := by
  intro p l e s m args below meth c Q D cs ad sh rf N hx hb hml hown hts hK hi hN k n vf pt h
  unfold ct_X0_bitLength at h
  split at h
  · cases h
    exact m_CG_S mt_J6_numberOfLeadingZeros_0f7a4 hx hb hml hown hts hK hi hN (m_wck_ok (l := [(Cond.methodLink RX0 42 yJ6_numberOfLeadingZeros_0f7a4, 383), (Cond.static yJ6_numberOfLeadingZeros_0f7a4, 384), (Cond.initialized RJ6, 60), (Cond.code yJ6_numberOfLeadingZeros_0f7a4 cJ6_numberOfLeadingZeros_0f7a4 2 (some .int), 385)]) (by decide +kernel)) ⟨by decide +kernel, by decide +kernel, by decide +kernel⟩ ⟨Nat.le_of_ble_eq_true rfl, Nat.le_of_ble_eq_true rfl⟩
  · cases h
set_option maxHeartbeats 4000000 in
set_option maxRecDepth 100000 in
theorem mt_X0_bitLength : m_Mt yX0_bitLength cX0_bitLength 1 (some .int) 1 21 pt_bitLength := by
  refine m_method0 80 (fl := fl_X0) (kI := kI_X0) (kJ := kJ_X0) (ct := ct_X0_bitLength) (cd := cd_X0_bitLength) (rk := 1) (by decide +kernel) fl_X0_ok kI_X0_ok kJ_X0_ok ce_X0_bitLength rfl ck_X0_bitLength ⟨_, _, rfl, rfl⟩ ?_
  intro sh rf As I J K hpt
  obtain ⟨b, rest, rfl, hb, z, rfl, ⟨cap, n, hB, h1, h2, h4, h5, h6⟩, hK⟩ := hpt
  have hcap := hB.2.2.2
  have h0 := BIs.zero (sh := sh) h4 h6
  refine ⟨Nat.le_of_ble_eq_true rfl, hb, fun h => ?_, fun h => ?_⟩
  · have h : ¬ I b 1 = 0 := h
    rw [h1] at h
    have hn0 : 0 < n := by
      rcases Nat.eq_zero_or_pos n with q | q
      · rw [q] at h; exact absurd rfl h
      · exact q
    have e6 : I b 1 - 1 = nI (n - 1) := by rw [h1]; exact pk_sub (b := 1) hn0
    refine ⟨hb, hb, hb, ?_, I (rf b 0) (I b 1 - 1).toNatClampNeg, rfl, ?_, fun r hr hr1 hr2 => ?_⟩
    · show m_inb sh (rf b 0) 0 (I b 1 - 1)
      rw [e6]
      exact m_inb_i hB.2.1 (vp_in_nI (by omega) (by omega))
    · rw [e6, nI_clamp (by omega)]
      exact h4 hn0
    · rw [e6, nI_clamp (by omega)] at hr1 hr2
      show K (some (.inl (32 * I b 1 - nI r))) I J
      obtain ⟨k, rfl⟩ : ∃ k, n = k + 1 := ⟨n - 1, by omega⟩
      have e : 32 * I b 1 - nI r = nI (32 * (k + 1) - r) := by
        rw [h1, show (32 : Int32) = nI 32 from rfl, pk_mul, pk_sub (by omega)]
      have hv : blen z.natAbs = 32 * (k + 1) - r := by
        have d : dv (2 ^ 32) (bdg rf I b) (k + 1) = dv (2 ^ 32) (bdg rf I b) k + u32 (I (rf b 0) k) * 2 ^ (32 * k) := by
          rw [dv, ← Nat.pow_mul]
          rfl
        have dl : dv (2 ^ 32) (bdg rf I b) k < 2 ^ (32 * k) := by
          rw [Nat.pow_mul]
          exact dv_lt (fun i _ => bdg_lt rf I b i)
        rw [show k + 1 - 1 = k by omega] at hr1 hr2
        rw [← h6, show 32 * (k + 1) - r = (32 * k + (31 - r)) + 1 by omega]
        apply blen_of
        · rw [d, Nat.pow_add, Nat.mul_comm (2 ^ (32 * k))]
          have := Nat.mul_le_mul_right (2 ^ (32 * k)) hr1
          omega
        · rw [d, show 32 * k + (31 - r) + 1 = (32 - r) + 32 * k by omega, Nat.pow_add]
          have := Nat.mul_le_mul_right (2 ^ (32 * k)) (show u32 (I (rf b 0) k) + 1 ≤ 2 ^ (32 - r) from hr2)
          rw [Nat.add_mul, Nat.one_mul] at this
          omega
      rw [e, ← hv]
      exact hK
  · have h : I b 1 = nI 0 := h
    rw [h1] at h
    have hz := h0.mp ((nI_eq (by omega) (by decide)).mp h)
    subst hz
    exact hK

set_option maxHeartbeats 4000000 in
set_option maxRecDepth 100000 in
theorem mt_X0_sixteenBits : m_Mt yX0_sixteenBits cX0_sixteenBits 3 (some .int) 0 0 pt_sixteenBits := by
  refine m_method0 80 (fl := fl_X0) (kI := kI_X0) (kJ := kJ_X0) (ct := ct_none) (cd := cd_X0_sixteenBits) (rk := 1) (by decide +kernel) fl_X0_ok kI_X0_ok kJ_X0_ok (ce_none _ _ _ _ _) rfl ck_X0_sixteenBits ⟨_, _, rfl, rfl⟩ ?_
  intro sh rf As I J K hpt
  obtain ⟨b, rest, rfl, hb, z, k, rfl, hk, ⟨cap, n, hB, h1, h2, h4, h5, h6⟩, hK⟩ := hpt
  have hcap := hB.2.2.2
  have e1 : nI k >>> ((1 : Int32) &&& 31) = nI (k / 2) := pk_shrN hk _ 1 (by decide)
  have hdg : ∀ i, bdg rf I b i < 2 ^ 32 := fun i => bdg_lt rf I b i
  have ep : 2 ^ (16 * k) = (2 ^ 32) ^ (k / 2) * 2 ^ (16 * (k % 2)) := by
    rw [← Nat.pow_mul, ← Nat.pow_add]
    congr 1
    omega
  rw [ep, ← Nat.div_div_eq_div_mul, ← h6] at hK
  refine ⟨Nat.le_of_ble_eq_true rfl, fun h => ?_, fun h => ?_⟩
  · have h : nI k >>> ((1 : Int32) &&& 31) < 0 := h
    rw [e1] at h
    exact absurd h (nI_pos (by omega))
  · refine ⟨hb, fun h7 => ?_, fun h7 => ?_⟩
    · have h7 : nI k >>> ((1 : Int32) &&& 31) < I b 1 := h7
      rw [e1, h1] at h7
      have hlt := (nI_ltI (by omega) (by omega)).mp h7
      refine ⟨hb, ?_, ?_⟩
      · show m_inb sh (rf b 0) 0 (nI k >>> ((1 : Int32) &&& 31))
        rw [e1]
        exact m_inb_i hB.2.1 (vp_in_nI (by omega) (by omega))
      · show K (some (.inl (((I (rf b 0) (nI k >>> ((1 : Int32) &&& 31)).toNatClampNeg).toUInt32 >>> (((nI k &&& 1) <<< ((4 : Int32) &&& 31)).toUInt32 &&& Int32.toUInt32 31)).toInt32 &&& 65535))) I J
        rw [e1, nI_clamp (by omega)]
        have e2 : nI k &&& 1 = nI (k % 2) := pk_andN (by omega) 1 (by decide)
        have d1 := dv_digit (B := 2 ^ 32) (by decide) hdg hlt
        have d2 := hdg (k / 2)
        have e9 : I (rf b 0) (k / 2) = nI (bdg rf I b (k / 2)) := nI_of32 _
        rw [e2, e9]
        rcases (show k % 2 = 0 ∨ k % 2 = 1 by omega) with q | q
        · rw [q, show (nI 0 <<< ((4 : Int32) &&& 31)) = 0 by decide, pk_ushrN d2 0 0 (by decide), pk_andN (by omega) 16 (by decide)]
          rw [q] at hK
          have e : dv (2 ^ 32) (bdg rf I b) n / (2 ^ 32) ^ (k / 2) / 2 ^ (16 * 0) % 65536 = bdg rf I b (k / 2) / 2 ^ 0 % 2 ^ 16 := by omega
          rw [e] at hK
          exact hK
        · rw [q, show (nI 1 <<< ((4 : Int32) &&& 31)) = 16 by decide, pk_ushrN d2 16 16 (by decide), pk_andN (by omega) 16 (by decide)]
          rw [q] at hK
          have e : dv (2 ^ 32) (bdg rf I b) n / (2 ^ 32) ^ (k / 2) / 2 ^ (16 * 1) % 65536 = bdg rf I b (k / 2) / 2 ^ 16 % 2 ^ 16 := by omega
          rw [e] at hK
          exact hK
    · have h7 : ¬ nI k >>> ((1 : Int32) &&& 31) < I b 1 := h7
      rw [e1, h1] at h7
      have hge : n ≤ k / 2 := by
        rcases Nat.lt_or_ge (k / 2) n with q | q
        · exact absurd ((nI_ltI (by omega) (by omega)).mpr q) h7
        · exact q
      rw [dv_high (by decide) hdg hge, Nat.zero_div] at hK
      exact hK

theorem odd_part : ∀ v : Nat, 0 < v → ∃ r y, v = 2 ^ r * (2 * y + 1) := by
  intro v
  induction v using Nat.strongRecOn with
  | ind v ih =>
    intro h
    rcases (show v % 2 = 0 ∨ v % 2 = 1 by omega) with q | q
    · obtain ⟨r, y, e⟩ := ih (v / 2) (by omega) (by omega)
      refine ⟨r + 1, y, ?_⟩
      rw [Nat.pow_succ, Nat.mul_comm (2 ^ r) 2, Nat.mul_assoc, ← e]
      omega
    · exact ⟨0, v / 2, by omega⟩
def ct_X0_twos (sh : mSH) (rf : mRF) : Nat → Option (Nat × Bool × mPT) := fun k => match k with
  | 49 => some (1, false, pt_ntz sh rf)
  | _ => none
set_option maxRecDepth 20000 in
theorem ce_X0_twos : m_CE RX0 1 21 cX0_twos 2 ct_X0_twos := by
  intro p l e s m args below meth c Q D cs ad sh rf N hx hb hml hown hts hK hi hN k n vf pt h
  unfold ct_X0_twos at h
  split at h
  · cases h
    exact m_CG_S mt_J6_numberOfTrailingZeros_0f7a4 hx hb hml hown hts hK hi hN (m_wck_ok (l := [(Cond.methodLink RX0 49 yJ6_numberOfTrailingZeros_0f7a4, 544), (Cond.static yJ6_numberOfTrailingZeros_0f7a4, 545), (Cond.initialized RJ6, 60), (Cond.code yJ6_numberOfTrailingZeros_0f7a4 cJ6_numberOfTrailingZeros_0f7a4 2 (some .int), 546)]) (by decide +kernel)) ⟨by decide +kernel, by decide +kernel, by decide +kernel⟩ ⟨Nat.le_of_ble_eq_true rfl, Nat.le_of_ble_eq_true rfl⟩
  · cases h
set_option maxHeartbeats 4000000 in
set_option maxRecDepth 100000 in
theorem mt_X0_twos : m_Mt yX0_twos cX0_twos 2 (some .int) 1 21 pt_twos := by
  refine m_methodG (fl := fl_X0) (kI := kI_X0) (kJ := kJ_X0) (ct := ct_X0_twos) (cd := cd_X0_twos) (cut := [(2, [0, 1])]) (rk := 1) (fu := 80) (by decide +kernel) fl_X0_ok kI_X0_ok kJ_X0_ok ce_X0_twos rfl ck_X0_twos ⟨_, _, rfl, rfl⟩ ?_
  intro sh rf As I J K hpt
  obtain ⟨b, rest, rfl, hb, z, rfl, ⟨cap, n, hB, h1, h2, h4, h5, h6⟩, hK0, hK⟩ := hpt
  have hcap := hB.2.2.2
  have hdg : ∀ i, bdg rf I b i < 2 ^ 32 := fun i => bdg_lt rf I b i
  refine ⟨Nat.le_of_ble_eq_true rfl, fun a b9 pc vs st I1 J1 => ∃ i, vs = [.inr (.inr b), .inl (nI i)] ∧ st = [] ∧ I1 = I ∧ J1 = J ∧ a = n - i ∧ i ≤ n ∧ (∀ j, j < i → bdg rf I b j = 0), ?_, ?_⟩
  · exact ⟨n, 0, 0, rfl, rfl, rfl, rfl, by omega, Nat.zero_le _, fun j h => absurd h (Nat.not_lt_zero j)⟩
  · intro pc ks a b9 vs st I1 J1 hc hI
    rcases m_cu1 hc with ⟨rfl, rfl⟩ | hc
    · obtain ⟨i, rfl, rfl, rfl, rfl, rfl, hi, he⟩ := hI
      refine ⟨hb, fun h => ?_, fun h => ?_⟩
      · have h : I1 b 1 ≤ nI i := h
        rw [h1] at h
        have hge := (nI_leI (by omega) (by omega)).mp h
        have hz : z = 0 := by
          have e : dv (2 ^ 32) (bdg rf I1 b) n = dv (2 ^ 32) (bdg rf I1 b) 0 := dv_ext (Nat.zero_le _) (fun j _ hj => he j (by omega))
          rw [h6] at e
          have e : z.natAbs = 0 := e
          omega
        exact hK0 hz
      · have h : ¬ I1 b 1 ≤ nI i := h
        rw [h1] at h
        have hlt : i < n := by
          rcases Nat.lt_or_ge i n with q | q
          · exact q
          · exact absurd (nI_le q (by omega)) h
        have i1 : m_inb sh (rf b 0) 0 (nI i) := m_inb_i hB.2.1 (vp_in_nI (by omega) (by omega))
        refine ⟨hb, i1, fun h7 => ?_, fun h7 => ?_⟩
        · have h7 : I1 (rf b 0) (nI i).toNatClampNeg = 0 := h7
          rw [nI_clamp (by omega)] at h7
          refine ⟨n - (i + 1), 0, Or.inl (by omega), i + 1, ?_, rfl, rfl, rfl, rfl, by omega, fun j hj => ?_⟩
          · rw [← nI_1]
          · rcases Nat.eq_or_lt_of_le (Nat.le_of_lt_succ hj) with q | q
            · unfold bdg
              rw [q, h7]
              rfl
            · exact he j q
        · have h7 : ¬ I1 (rf b 0) (nI i).toNatClampNeg = 0 := h7
          rw [nI_clamp (by omega)] at h7
          have hp : 0 < u32 (I1 (rf b 0) i) := Nat.pos_of_ne_zero (fun q => h7 (u32_0.mp q))
          obtain ⟨r, y, hry⟩ := odd_part _ hp
          have d2 := hdg i
          have hr : r < 32 := by
            rcases Nat.lt_or_ge r 32 with q | q
            · exact q
            · exfalso
              have a1 : 2 ^ 32 ≤ 2 ^ r := Nat.pow_le_pow_right (by omega) q
              have a2 : 2 ^ r * 1 ≤ 2 ^ r * (2 * y + 1) := Nat.mul_le_mul_left _ (by omega)
              have a3 : u32 (I1 (rf b 0) i) < 2 ^ 32 := d2
              omega
          refine ⟨hb, i1, _, r, y, rfl, ?_, ?_⟩
          · rw [nI_clamp (by omega)]
            exact hry
          · show K (some (.inl (32 * nI i + nI r))) I1 J1
            rw [show (32 : Int32) = nI 32 from rfl, pk_mul, nI_add]
            obtain ⟨m, rfl⟩ : ∃ m, n = i + (m + 1) := ⟨n - i - 1, by omega⟩
            refine hK (32 * i + r) (y + 2 ^ (31 - r) * dv (2 ^ 32) (fun j => bdg rf I1 b (i + 1 + j)) m) ?_ (by omega)
            rw [← h6, dv_split i (m + 1), dv_ext (n := 0) (Nat.zero_le _) (fun j _ hj => he j hj)]
            rw [show dv (2 ^ 32) (bdg rf I1 b) 0 = 0 from rfl, Nat.zero_add, Nat.add_comm m 1, dv_split 1 m]
            have e1 : dv (2 ^ 32) (fun j => bdg rf I1 b (i + j)) 1 = 2 ^ r * (2 * y + 1) := by
              simp only [dv, Nat.pow_zero, Nat.mul_one, Nat.zero_add, Nat.add_zero]
              exact hry
            rw [e1, ← Nat.pow_mul, Nat.pow_add, Nat.mul_assoc]
            congr 1
            have e2 : (fun j => bdg rf I1 b (i + (1 + j))) = (fun j => bdg rf I1 b (i + 1 + j)) := by
              funext j
              rw [Nat.add_assoc]
            rw [show (fun j => (fun j => bdg rf I1 b (i + j)) (1 + j)) = (fun j => bdg rf I1 b (i + (1 + j))) from rfl, e2]
            generalize dv (2 ^ 32) (fun j => bdg rf I1 b (i + 1 + j)) m = X
            have e3 : (2 ^ 32) ^ 1 = 2 ^ r * (2 * 2 ^ (31 - r)) := by
              rw [Nat.pow_one, ← Nat.pow_succ', ← Nat.pow_add]
              congr 1
              omega
            rw [e3]
            generalize 2 ^ r = A
            generalize 2 ^ (31 - r) = C
            rw [Nat.mul_add 2, Nat.mul_add, Nat.mul_add, Nat.mul_add, Nat.mul_assoc, Nat.mul_assoc]
            omega
    · cases hc

theorem l_shl32 {a : Nat} : lN a <<< ((32 : Int32).toInt64 &&& 63) = lN (a * 2 ^ 32) := by
  apply u64_inj
  rw [u64_lN]
  unfold u64
  rw [show ((32 : Int32).toInt64 &&& 63) = 32 by decide]
  rw [Int64.toBitVec_shiftLeft]
  simp [lN, Int64.toBitVec_ofNat, Nat.shiftLeft_eq]
theorem l_or {a b : Nat} (hb : b < 2 ^ 32) (ha : a < 2 ^ 32) : lN (a * 2 ^ 32) ||| lN b = lN (a * 2 ^ 32 + b) := by
  apply u64_inj
  rw [u64_lN, Nat.mod_eq_of_lt (by omega)]
  unfold u64
  rw [Int64.toBitVec_or, BitVec.toNat_or]
  have e1 : (lN (a * 2 ^ 32)).toBitVec.toNat = a * 2 ^ 32 := by
    have := u64_lN (a * 2 ^ 32)
    rw [Nat.mod_eq_of_lt (by omega)] at this
    exact this
  have e2 : (lN b).toBitVec.toNat = b := by
    have := u64_lN b
    rw [Nat.mod_eq_of_lt (by omega)] at this
    exact this
  rw [e1, e2, Nat.mul_comm, Nat.two_pow_add_eq_or_of_lt hb]
set_option maxHeartbeats 4000000 in
set_option maxRecDepth 100000 in
theorem mt_X0_toLong : m_Mt yX0_toLong cX0_toLong 7 (some .long) 0 0 pt_toLong := by
  refine m_method0 80 (fl := fl_X0) (kI := kI_X0) (kJ := kJ_X0) (ct := ct_none) (cd := cd_X0_toLong) (rk := 2) (by decide +kernel) fl_X0_ok kI_X0_ok kJ_X0_ok (ce_none _ _ _ _ _) rfl ck_X0_toLong ⟨_, _, rfl, rfl⟩ ?_
  intro sh rf As I J K hpt
  obtain ⟨b, rest, rfl, hb, z, rfl, ⟨cap, n, hB, h1, h2, h4, h5, h6⟩, hlim, hK⟩ := hpt
  have hcap := hB.2.2
  have hn := BIs.lim (sh := sh) (cap := 0) (m := 2) h4 h6 (by omega)
  have hdg : ∀ i, bdg rf I b i < 2 ^ 32 := fun i => bdg_lt rf I b i
  have fin : ∀ lo hi : Nat, lo < 2 ^ 32 → hi < 2 ^ 32 → hi * 2 ^ 32 + lo = z.natAbs → sh b = .inl 0 ∧ ((I b 2 = 0 → K (some (.inr (.inl (lN hi <<< ((32 : Int32).toInt64 &&& 63) ||| lN lo)))) I J) ∧ (¬ I b 2 = 0 → K (some (.inr (.inl (-(lN hi <<< ((32 : Int32).toInt64 &&& 63) ||| lN lo))))) I J)) := by
    intro lo hi a1 a2 a3
    rw [l_shl32, l_or a1 a2, a3, lN_int, h5]
    refine ⟨hb, fun h => ?_, fun h => ?_⟩
    · have hz : ¬ z < 0 := fun q => by rw [if_pos q] at h; exact absurd h (by decide)
      rw [Int.natAbs_of_nonneg (by omega)]
      exact hK
    · have hz : z < 0 := by
        rcases Int.lt_or_le z 0 with q | q
        · exact q
        · rw [if_neg (by omega)] at h; exact absurd rfl h
      rw [← Int64.ofInt_neg, Int.ofNat_natAbs_of_nonpos (by omega), Int.neg_neg]
      exact hK
  refine ⟨Nat.le_of_ble_eq_true rfl, hb, fun h => ?_, fun h => ?_⟩
  · have h : I b 1 ≤ nI 0 := h
    rw [h1] at h
    have hn0 : n = 0 := by have := (nI_leI (by omega) (by decide)).mp h; omega
    subst hn0
    refine ⟨hb, fun _ => fin 0 0 (by decide) (by decide) h6, fun h7 => ?_⟩
    have h7 : ¬ I b 1 ≤ nI 1 := h7
    rw [h1] at h7
    exact absurd (nI_le (by omega) (by decide)) h7
  · have h : ¬ I b 1 ≤ nI 0 := h
    rw [h1] at h
    have hn0 : 0 < n := by
      rcases Nat.eq_zero_or_pos n with q | q
      · rw [q] at h; exact absurd (nI_le (Nat.le_refl _) (by decide)) h
      · exact q
    refine ⟨hb, m_inb_i hB.2.1 (vp_in_nI (n := 0) (by omega) (by omega)), hb, fun h7 => ?_, fun h7 => ?_⟩
    · have h7 : I b 1 ≤ nI 1 := h7
      rw [h1] at h7
      have hn1 : n = 1 := by have := (nI_leI (by omega) (by decide)).mp h7; omega
      subst hn1
      have e : bdg rf I b 0 = z.natAbs := by
        rw [← h6]
        simp [dv]
      have f1 := fin (bdg rf I b 0) 0 (hdg 0) (by decide) (by omega)
      rw [show lN (bdg rf I b 0) = (I (rf b 0) 0).toInt64 &&& 4294967295 from (l_mask _).symm] at f1
      exact f1
    · have h7 : ¬ I b 1 ≤ nI 1 := h7
      rw [h1] at h7
      have hn1 : n = 2 := by
        rcases Nat.lt_or_ge 1 n with q | q
        · omega
        · exact absurd (nI_le q (by decide)) h7
      subst hn1
      have e : bdg rf I b 1 * 2 ^ 32 + bdg rf I b 0 = z.natAbs := by
        rw [← h6]
        simp only [dv]
        omega
      have f1 := fin (bdg rf I b 0) (bdg rf I b 1) (hdg 0) (hdg 1) e
      rw [show lN (bdg rf I b 0) = (I (rf b 0) 0).toInt64 &&& 4294967295 from (l_mask _).symm, show lN (bdg rf I b 1) = (I (rf b 0) 1).toInt64 &&& 4294967295 from (l_mask _).symm] at f1
      exact ⟨hb, m_inb_i hB.2.1 (vp_in_nI (n := 1) (by omega) (by omega)), f1⟩
end
section
/-! ===== addition and subtraction of sizes ===== -/
theorem add_step {P B c x y D X Y : Nat} (h : D + c * P = X + Y) : (D + (c + (x + y)) % B * P) + (c + (x + y)) / B * (P * B) = (X + x * P) + (Y + y * P) := by
  have e := Nat.div_add_mod (c + (x + y)) B
  generalize (c + (x + y)) / B = q at e ⊢
  generalize (c + (x + y)) % B = r at e ⊢
  have e2 : (B * q + r) * P = (c + (x + y)) * P := by rw [e]
  grind
theorem sub_step {P B bw x y D X Y : Nat} (h : D + Y = X + bw * P) : (y + bw ≤ x → (D + (x - y - bw) * P) + (Y + y * P) = (X + x * P) + 0 * (P * B)) ∧ (x < y + bw → y + bw ≤ x + B → (D + (x + B - y - bw) * P) + (Y + y * P) = (X + x * P) + 1 * (P * B)) := by
  refine ⟨fun h1 => ?_, fun h1 h2 => ?_⟩
  · obtain ⟨k, rfl⟩ : ∃ k, x = y + bw + k := ⟨x - (y + bw), by omega⟩
    rw [show y + bw + k - y - bw = k by omega]
    grind
  · obtain ⟨k, hk⟩ : ∃ k, x + B = y + bw + k := ⟨x + B - (y + bw), by omega⟩
    rw [show x + B - y - bw = k by omega]
    have e2 : (x + B) * P = (y + bw + k) * P := by rw [hk]
    grind
/-- a borrow as a long -/
def cN (bw : Nat) : Int64 := if bw = 0 then 0 else -1
theorem cN_sum {bw x y : Nat} (hb : bw ≤ 1) : cN bw + (lN x - lN y) = Int64.ofInt ((x : Int) - y - bw) := by
  rw [lN_int, lN_int, ← Int64.ofInt_sub]
  have e : cN bw = Int64.ofInt (-(bw : Int)) := by
    rcases (show bw = 0 ∨ bw = 1 by omega) with rfl | rfl <;> rfl
  rw [e, ← Int64.ofInt_add]
  congr 1
  omega
theorem l_ofInt_i (t : Int) : (Int64.ofInt t).toInt32 = Int32.ofInt t := by
  apply Int32.toBitVec_inj.mp
  rw [Int64.toBitVec_toInt32, Int64.toBitVec_ofInt, Int32.toBitVec_ofInt]
  apply BitVec.eq_of_toNat_eq
  rw [BitVec.signExtend_eq_setWidth_of_le _ (by decide), BitVec.toNat_setWidth, BitVec.toNat_ofInt, BitVec.toNat_ofInt]
  omega
theorem u32_ofInt (t : Int) : (u32 (Int32.ofInt t) : Int) = t % 4294967296 := by
  unfold u32
  rw [Int32.toBitVec_ofInt, BitVec.toNat_ofInt]
  omega
theorem l_sar {t : Int} (h1 : -4294967296 ≤ t) (h2 : t < 4294967296) : Int64.ofInt t >>> ((32 : Int32).toInt64 &&& 63) = cN (if t < 0 then 1 else 0) := by
  rw [show ((32 : Int32).toInt64 &&& 63) = 32 by decide]
  apply Int64.toInt_inj.mp
  have e : (Int64.ofInt t >>> (32 : Int64)).toInt = (Int64.ofInt t).toInt >>> 32 := by
    show (Int64.ofInt t >>> (32 : Int64)).toBitVec.toInt = _
    rw [Int64.toBitVec_shiftRight, BitVec.sshiftRight', BitVec.toInt_sshiftRight]
    rfl
  have e2 : (Int64.ofInt t).toInt = t := by
    rw [Int64.toInt_ofInt_of_le (by omega) (by omega)]
  rw [e, e2, Int.shiftRight_eq_div_pow]
  by_cases q : t < 0
  · rw [if_pos q, show (cN 1).toInt = -1 by decide]
    omega
  · rw [if_neg q, show (cN 0).toInt = 0 by decide]
    omega
def pt_addSize : mSH → mRF → mPT := m_pv 0 (fun sh rf b rest I J K => ∃ (cap f m : Nat) (z y : Int), rest = [.inr (.inr f)] ∧ BSh sh rf b cap ∧ BL sh rf ∧ f ≠ b ∧ BIs sh rf I b z ∧ BIs sh rf I f y ∧ z.natAbs < 2 ^ (32 * m) ∧ y.natAbs < 2 ^ (32 * m) ∧ m + 1 ≤ cap ∧ ∀ I1, BCh rf I I1 b → BIs sh rf I1 b (if z < 0 then -((z.natAbs + y.natAbs : Nat) : Int) else ((z.natAbs + y.natAbs : Nat) : Int)) → K none I1 J)
def pt_takeSize : mSH → mRF → mPT := m_pv 0 (fun sh rf b rest I J K => ∃ (f : Nat) (z y : Int), rest = [.inr (.inr f)] ∧ BL sh rf ∧ f ≠ b ∧ BIs sh rf I b z ∧ BIs sh rf I f y ∧ y.natAbs ≤ z.natAbs ∧ ∀ I1, BCh rf I I1 b → BIs sh rf I1 b (if z < 0 then -((z.natAbs - y.natAbs : Nat) : Int) else ((z.natAbs - y.natAbs : Nat) : Int)) → K none I1 J)
def pt_takeSizeFrom : mSH → mRF → mPT := m_pv 0 (fun sh rf b rest I J K => ∃ (cap f : Nat) (z y : Int), rest = [.inr (.inr f)] ∧ BSh sh rf b cap ∧ BL sh rf ∧ f ≠ b ∧ BIs sh rf I b z ∧ BIs sh rf I f y ∧ z.natAbs ≤ y.natAbs ∧ y.natAbs < 2 ^ (32 * cap) ∧ ∀ I1, BCh rf I I1 b → BIs sh rf I1 b (if z < 0 then -((y.natAbs - z.natAbs : Nat) : Int) else ((y.natAbs - z.natAbs : Nat) : Int)) → K none I1 J)
/-- digits, 0 beyond n -/
def dz (g : Nat → Nat) (n : Nat) : Nat → Nat := fun k => if k < n then g k else 0
theorem dz_val {B : Nat} {g : Nat → Nat} {n m : Nat} (h : n ≤ m) : dv B (dz g n) m = dv B g n := by
  rw [dv_ext (n := n) h (fun i h1 _ => by unfold dz; rw [if_neg (by omega)])]
  exact dv_congr (fun i hi => by unfold dz; rw [if_pos hi])
def ct_X0_addSize (sh : mSH) (rf : mRF) : Nat → Option (Nat × Bool × mPT) := fun k => match k with
  | 7 => some (2, false, pt_max sh rf)
  | 30 => some (2, true, pt_makeRoom sh rf)
  | 27 => some (1, true, pt_trim sh rf)
  | _ => none
set_option maxRecDepth 20000 in
theorem ce_X0_addSize : m_CE RX0 1 21 cX0_addSize 6 ct_X0_addSize := by
  intro p l e s m args below meth c Q D cs ad sh rf N hx hb hml hown hts hK hi hN k n vf pt h
  unfold ct_X0_addSize at h
  split at h
  · cases h
    exact m_CG_max hx hb hml hown hts hK hi hN (m_wck_ok (l := [(Cond.methodLink RX0 7 Lib.Math.max.name, 93), (Cond.static Lib.Math.max.name, 94), (Cond.initialized "java/lang/Math", 59), (Cond.code Lib.Math.max.name Lib.Math.max.code 2 (some .int), 95)]) (by decide +kernel)) ⟨Nat.le_of_ble_eq_true rfl, Nat.le_of_ble_eq_true rfl⟩
  · cases h
    exact m_CG_V mt_X0_makeRoom hx hb hml hown hts hK hi hN (ci := 0) m_pv_rec rfl rfl (m_wck_ok (l := [(Cond.methodLink RX0 30 yX0_makeRoom, 320), (Cond.instanceMethod yX0_makeRoom, 322), (Cond.selects RX0 yX0_makeRoom yX0_makeRoom, 2), (Cond.initialized RX0, 58), (Cond.code yX0_makeRoom cX0_makeRoom 2 none, 323)]) (by decide +kernel)) ⟨rfl, by decide +kernel, by decide +kernel, by decide +kernel⟩ ⟨Nat.le_of_ble_eq_true rfl, Nat.le_of_ble_eq_true rfl⟩
  · cases h
    exact m_CG_V mt_X0_trim hx hb hml hown hts hK hi hN (ci := 0) m_pv_rec rfl rfl (m_wck_ok (l := [(Cond.methodLink RX0 27 yX0_trim, 179), (Cond.instanceMethod yX0_trim, 181), (Cond.selects RX0 yX0_trim yX0_trim, 0), (Cond.initialized RX0, 58), (Cond.code yX0_trim cX0_trim 1 none, 182)]) (by decide +kernel)) ⟨rfl, by decide +kernel, by decide +kernel, by decide +kernel⟩ ⟨Nat.le_of_ble_eq_true rfl, Nat.le_of_ble_eq_true rfl⟩
  · cases h
set_option maxHeartbeats 4000000 in
set_option maxRecDepth 100000 in
theorem mt_X0_addSize : m_Mt yX0_addSize cX0_addSize 6 none 1 21 pt_addSize := by
  refine m_methodG (fl := fl_X0) (kI := kI_X0) (kJ := kJ_X0) (ct := ct_X0_addSize) (cd := cd_X0_addSize) (cut := [(24, [0, 1, 2, 3, 5]), (56, [0, 1, 2, 3, 5]), (81, [0, 1, 2, 3, 5])]) (rk := 0) (fu := 80) (by decide +kernel) fl_X0_ok kI_X0_ok kJ_X0_ok ce_X0_addSize rfl ck_X0_addSize ⟨_, _, rfl, rfl⟩ ?_
  intro sh rf As I J K hpt
  obtain ⟨b, rest, rfl, hb, cap, f, m, z, y, rfl, hB, hL, hfb, ⟨cap1, n, hB', h1, h2, h4, h5, h6⟩, ⟨cap2, n2, hF, g1, g2, g4, g5, g6⟩, hm1, hm2, hmc, hK⟩ := hpt
  obtain rfl := hB.cap hB'
  have hcap := hB.2.2.2
  have hcap2 := hF.2.2.2
  have hne := hB.ne
  have hpp : rf f 0 ≠ rf b 0 := fun e => hfb (hL f b hF.1 hB.1 e)
  have hfp : f ≠ rf b 0 := hF.nex hB
  have hn := BIs.lim (sh := sh) (cap := 0) h4 h6 hm1
  have hn2 := BIs.lim (sh := sh) (cap := 0) g4 g6 hm2
  obtain ⟨wh, hwh⟩ : ∃ wh, wh = max n n2 := ⟨_, rfl⟩
  have w1 : n ≤ wh := by omega
  have w2 : n2 ≤ wh := by omega
  have w3 : wh ≤ m := by omega
  refine ⟨Nat.le_of_ble_eq_true rfl, fun a b9 pc vs st I1 J1 => ∃ i c, vs = [.inr (.inr b), .inr (.inr f), .inl (nI wh), .inr (.inl (lN c)), .inl (nI i)] ∧ J1 = J ∧ a = wh - i ∧ i ≤ wh ∧ c ≤ 1 ∧ (∀ q, q ≠ rf b 0 → I1 q = I q) ∧ (∀ k, i ≤ k → I1 (rf b 0) k = I (rf b 0) k) ∧ dv (2 ^ 32) (bdg rf I1 b) i + c * (2 ^ 32) ^ i = dv (2 ^ 32) (dz (bdg rf I b) n) i + dv (2 ^ 32) (dz (bdg rf I f) n2) i ∧ (pc = 24 ∧ b9 = 2 ∧ st = [] ∨ pc = 56 ∧ b9 = 1 ∧ i < wh ∧ st = [.inr (.inl (lN (dz (bdg rf I b) n i))), .inr (.inl (lN c))] ∨ pc = 81 ∧ b9 = 0 ∧ i < wh ∧ st = [.inr (.inl (lN (dz (bdg rf I f) n2 i))), .inr (.inl (lN (dz (bdg rf I b) n i))), .inr (.inl (lN c))]), ?_, ?_⟩
  · refine ⟨hb, hF.1, I b 1, I f 1, rfl, ?_⟩
    have e1 : (if I b 1 < I f 1 then I f 1 else I b 1) = nI wh := by
      rw [h1, g1]
      by_cases q : n < n2
      · rw [if_pos ((nI_ltI (by omega) (by omega)).mpr q)]
        congr 1
        omega
      · rw [if_neg (fun z => q ((nI_ltI (by omega) (by omega)).mp z))]
        congr 1
        omega
    rw [e1]
    refine ⟨b, [.inl (nI wh + 1)], rfl, hb, cap, wh + 1, by rw [nI_1], hB, by omega, wh, 2, 0, 0, rfl, rfl, by omega, Nat.zero_le _, by omega, fun _ _ => rfl, fun _ _ => rfl, rfl, Or.inl ⟨rfl, rfl, rfl⟩⟩
  · intro pc ks a b9 vs st I1 J1 hc hI
    obtain ⟨i, c, rfl, rfl, rfl, hi, hc1, e1, e2, e3, e5⟩ := hI
    have hIb : I1 b = I b := e1 b hne
    have hIf : I1 f = I f := e1 f hfp
    rcases m_cu1 hc with ⟨rfl, rfl⟩ | hc
    · obtain ⟨rfl, rfl⟩ : b9 = 2 ∧ st = [] := by
        rcases e5 with ⟨-, q1, q2⟩ | ⟨q, -⟩ | ⟨q, -⟩
        · exact ⟨q1, q2⟩
        · cases q
        · cases q
      refine ⟨fun h => ?_, fun h => ?_⟩
      · have hge := (nI_leI (by omega) (by omega)).mp h
        obtain rfl : i = wh := by omega
        refine ⟨hb, m_inb_i hB.2.1 (vp_in_nI (by omega) (by omega)), hb, b, [], rfl, hb, cap, i + 1, (if z < 0 then -((z.natAbs + y.natAbs : Nat) : Int) else ((z.natAbs + y.natAbs : Nat) : Int)), rfl, hB, ?_, by omega, ?_, ?_, ?_, ?_⟩
        · rw [uI_s, nI_1]
        · rw [dz_val w1, dz_val w2, h6, g6] at e3
          rw [dv, dv_congr (h := bdg rf I1 b) (fun k hk => by
            unfold bdg
            rw [uI_a _ _ _ hne.symm, nI_clamp (by omega), uI_k _ _ _ (by omega)])]
          have e6 : bdg rf (m_uI (m_uI I1 (rf b 0) (nI i).toNatClampNeg (lN c).toInt32) b 1 (nI i + 1)) b i = c := by
            unfold bdg
            rw [uI_a _ _ _ hne.symm, nI_clamp (by omega), uI_s, lN_i, u32_nI, Nat.mod_eq_of_lt (by omega)]
          rw [e6, e3]
          split <;> omega
        · intro hz
          rw [uI_k _ _ _ (by decide), uI_a _ _ _ hne, hIb, h5]
          split at hz
          · rename_i q; rw [if_pos q]
          · omega
        · intro hz
          rw [uI_k _ _ _ (by decide), uI_a _ _ _ hne, hIb, h5]
          split at hz
          · omega
          · rename_i q; rw [if_neg q]
        · intro I2 k1 k2
          refine hK I2 (fun q k3 k4 => ?_) k2
          rw [k1 q k3, uI_a _ _ _ k3, uI_a _ _ _ k4, e1 q k4]
      · have hlt : i < wh := by
          rcases Nat.lt_or_ge i wh with q | q
          · exact q
          · exact absurd (nI_le q (by omega)) h
        refine ⟨hb, fun h7 => ?_, fun h7 => ?_⟩
        · have h7 : I1 b 1 ≤ nI i := h7
          rw [hIb, h1] at h7
          have h8 := (nI_leI (by omega) (by omega)).mp h7
          refine ⟨wh - i, 1, Or.inr ⟨rfl, by omega⟩, i, c, rfl, rfl, rfl, hi, hc1, e1, e2, e3, Or.inr (Or.inl ⟨rfl, rfl, hlt, ?_⟩)⟩
          unfold dz
          rw [if_neg (by omega)]
          rfl
        · have h7 : ¬ I1 b 1 ≤ nI i := h7
          rw [hIb, h1] at h7
          have h8 : i < n := by
            rcases Nat.lt_or_ge i n with q | q
            · exact q
            · exact absurd (nI_le q (by omega)) h7
          refine ⟨hb, m_inb_i hB.2.1 (vp_in_nI (by omega) (by omega)), wh - i, 1, Or.inr ⟨rfl, by omega⟩, i, c, rfl, rfl, rfl, hi, hc1, e1, e2, e3, Or.inr (Or.inl ⟨rfl, rfl, hlt, ?_⟩)⟩
          unfold dz
          rw [if_pos h8, nI_clamp (by omega), l_mask, e2 i (Nat.le_refl _)]
          rfl
    rcases m_cu1 hc with ⟨rfl, rfl⟩ | hc
    · obtain ⟨rfl, hlt, rfl⟩ : b9 = 1 ∧ i < wh ∧ st = [.inr (.inl (lN (dz (bdg rf I b) n i))), .inr (.inl (lN c))] := by
        rcases e5 with ⟨q, -⟩ | ⟨-, q1, q2, q3⟩ | ⟨q, -⟩
        · cases q
        · exact ⟨q1, q2, q3⟩
        · cases q
      refine ⟨hF.1, fun h7 => ?_, fun h7 => ?_⟩
      · have h7 : I1 f 1 ≤ nI i := h7
        rw [hIf, g1] at h7
        have h8 := (nI_leI (by omega) (by omega)).mp h7
        refine ⟨wh - i, 0, Or.inr ⟨rfl, by omega⟩, i, c, rfl, rfl, rfl, hi, hc1, e1, e2, e3, Or.inr (Or.inr ⟨rfl, rfl, hlt, ?_⟩)⟩
        have e8 : dz (bdg rf I f) n2 i = 0 := by unfold dz; rw [if_neg (by omega)]
        rw [e8]
        rfl
      · have h7 : ¬ I1 f 1 ≤ nI i := h7
        rw [hIf, g1] at h7
        have h8 : i < n2 := by
          rcases Nat.lt_or_ge i n2 with q | q
          · exact q
          · exact absurd (nI_le q (by omega)) h7
        refine ⟨hF.1, m_inb_i hF.2.1 (vp_in_nI (by omega) (by omega)), wh - i, 0, Or.inr ⟨rfl, by omega⟩, i, c, rfl, rfl, rfl, hi, hc1, e1, e2, e3, Or.inr (Or.inr ⟨rfl, rfl, hlt, ?_⟩)⟩
        have e8 : dz (bdg rf I f) n2 i = bdg rf I f i := by unfold dz; rw [if_pos h8]
        rw [e8, nI_clamp (by omega), l_mask, e1 _ hpp]
        rfl
    rcases m_cu1 hc with ⟨rfl, rfl⟩ | hc
    · obtain ⟨rfl, hlt, rfl⟩ : b9 = 0 ∧ i < wh ∧ st = [.inr (.inl (lN (dz (bdg rf I f) n2 i))), .inr (.inl (lN (dz (bdg rf I b) n i))), .inr (.inl (lN c))] := by
        rcases e5 with ⟨q, -⟩ | ⟨q, -⟩ | ⟨-, q1, q2, q3⟩
        · cases q
        · cases q
        · exact ⟨q1, q2, q3⟩
      have hx : dz (bdg rf I b) n i < 2 ^ 32 := by
        unfold dz; split
        · exact bdg_lt rf I b i
        · decide
      have hy : dz (bdg rf I f) n2 i < 2 ^ 32 := by
        unfold dz; split
        · exact bdg_lt rf I f i
        · decide
      have es : lN c + (lN (dz (bdg rf I b) n i) + lN (dz (bdg rf I f) n2 i)) = lN (c + (dz (bdg rf I b) n i + dz (bdg rf I f) n2 i)) := by rw [lN_add, lN_add]
      refine ⟨hb, m_inb_i hB.2.1 (vp_in_nI (by omega) (by omega)), wh - (i + 1), 2, Or.inl (by omega), i + 1, (c + (dz (bdg rf I b) n i + dz (bdg rf I f) n2 i)) / 2 ^ 32, ?_, rfl, rfl, by omega, by omega, ?_, ?_, ?_, Or.inl ⟨rfl, rfl, rfl⟩⟩
      · rw [es, l_shr32 (by omega), ← nI_1]
      · intro q hq
        rw [uI_a _ _ _ hq, e1 q hq]
      · intro k hk
        rw [nI_clamp (by omega), uI_k _ _ _ (by omega), e2 k (by omega)]
      · rw [es, lN_i, nI_clamp (by omega)]
        have e9 : bdg rf (m_uI I1 (rf b 0) i (nI (c + (dz (bdg rf I b) n i + dz (bdg rf I f) n2 i)))) b i = (c + (dz (bdg rf I b) n i + dz (bdg rf I f) n2 i)) % 2 ^ 32 := by
          unfold bdg
          rw [uI_s, u32_nI]
        rw [dv, e9, dv_congr (h := bdg rf I1 b) (fun k hk => by
          unfold bdg
          rw [uI_k _ _ _ (by omega)]), dv, dv, Nat.pow_succ]
        exact add_step e3
    · cases hc

/-- one step of a subtraction, on the machine's numbers -/
theorem sub_m {bw x y : Nat} (hb : bw ≤ 1) (hx : x < 2 ^ 32) (hy : y < 2 ^ 32) {P D X Y : Nat} (h : D + Y = X + bw * P) : ∃ bw' : Nat, bw' ≤ 1 ∧ (cN bw + (lN x - lN y)) >>> ((32 : Int32).toInt64 &&& 63) = cN bw' ∧ (D + u32 (cN bw + (lN x - lN y)).toInt32 * P) + (Y + y * P) = (X + x * P) + bw' * (P * 2 ^ 32) := by
  rw [cN_sum hb]
  have e1 : (u32 (Int64.ofInt ((x : Int) - y - bw)).toInt32 : Int) = ((x : Int) - y - bw) % 4294967296 := by rw [l_ofInt_i, u32_ofInt]
  have h2 := sub_step (B := 2 ^ 32) (x := x) (y := y) h
  rcases Nat.lt_or_ge x (y + bw) with q | q
  · refine ⟨1, by omega, ?_, ?_⟩
    · rw [l_sar (by omega) (by omega), if_pos (by omega)]
    · rw [show u32 (Int64.ofInt ((x : Int) - y - bw)).toInt32 = x + 2 ^ 32 - y - bw by omega]
      exact h2.2 q (by omega)
  · refine ⟨0, by omega, ?_, ?_⟩
    · rw [l_sar (by omega) (by omega), if_neg (by omega)]
    · rw [show u32 (Int64.ofInt ((x : Int) - y - bw)).toInt32 = x - y - bw by omega]
      exact h2.1 q
def ct_X0_takeSize (sh : mSH) (rf : mRF) : Nat → Option (Nat × Bool × mPT) := fun k => match k with
  | 27 => some (1, true, pt_trim sh rf)
  | _ => none
set_option maxRecDepth 20000 in
theorem ce_X0_takeSize : m_CE RX0 1 20 cX0_takeSize 5 ct_X0_takeSize := by
  intro p l e s m args below meth c Q D cs ad sh rf N hx hb hml hown hts hK hi hN k n vf pt h
  unfold ct_X0_takeSize at h
  split at h
  · cases h
    exact m_CG_V mt_X0_trim hx hb hml hown hts hK hi hN (ci := 0) m_pv_rec rfl rfl (m_wck_ok (l := [(Cond.methodLink RX0 27 yX0_trim, 179), (Cond.instanceMethod yX0_trim, 181), (Cond.selects RX0 yX0_trim yX0_trim, 0), (Cond.initialized RX0, 58), (Cond.code yX0_trim cX0_trim 1 none, 182)]) (by decide +kernel)) ⟨rfl, by decide +kernel, by decide +kernel, by decide +kernel⟩ ⟨Nat.le_of_ble_eq_true rfl, Nat.le_of_ble_eq_true rfl⟩
  · cases h
set_option maxHeartbeats 4000000 in
set_option maxRecDepth 100000 in
theorem mt_X0_takeSize : m_Mt yX0_takeSize cX0_takeSize 5 none 1 20 pt_takeSize := by
  refine m_methodG (fl := fl_X0) (kI := kI_X0) (kJ := kJ_X0) (ct := ct_X0_takeSize) (cd := cd_X0_takeSize) (cut := [(5, [0, 1, 2, 4]), (52, [0, 1, 2, 4])]) (rk := 0) (fu := 80) (by decide +kernel) fl_X0_ok kI_X0_ok kJ_X0_ok ce_X0_takeSize rfl ck_X0_takeSize ⟨_, _, rfl, rfl⟩ ?_
  intro sh rf As I J K hpt
  obtain ⟨b, rest, rfl, hb, f, z, y, rfl, hL, hfb, ⟨cap, n, hB, h1, h2, h4, h5, h6⟩, ⟨cap2, n2, hF, g1, g2, g4, g5, g6⟩, hle, hK⟩ := hpt
  have hcap := hB.2.2.2
  have hcap2 := hF.2.2.2
  have hne := hB.ne
  have hpp : rf f 0 ≠ rf b 0 := fun e => hfb (hL f b hF.1 hB.1 e)
  have hfp : f ≠ rf b 0 := hF.nex hB
  have hzl : z.natAbs < 2 ^ (32 * n) := by
    rw [← h6, Nat.pow_mul]
    exact dv_lt (fun i _ => bdg_lt rf I b i)
  have w2 := BIs.lim (sh := sh) (cap := 0) (m := n) g4 g6 (by omega)
  refine ⟨Nat.le_of_ble_eq_true rfl, fun a b9 pc vs st I1 J1 => ∃ i c, vs = [.inr (.inr b), .inr (.inr f), .inr (.inl (cN c)), .inl (nI i)] ∧ J1 = J ∧ a = n - i ∧ i ≤ n ∧ c ≤ 1 ∧ (∀ q, q ≠ rf b 0 → I1 q = I q) ∧ (∀ k, i ≤ k → I1 (rf b 0) k = I (rf b 0) k) ∧ dv (2 ^ 32) (bdg rf I1 b) i + dv (2 ^ 32) (dz (bdg rf I f) n2) i = dv (2 ^ 32) (bdg rf I b) i + c * (2 ^ 32) ^ i ∧ (pc = 5 ∧ b9 = 2 ∧ st = [] ∨ pc = 52 ∧ b9 = 1 ∧ i < n ∧ st = [.inr (.inl (lN (dz (bdg rf I f) n2 i))), .inr (.inl (lN (bdg rf I b i))), .inr (.inl (cN c))]), ?_, ?_⟩
  · exact ⟨n, 2, 0, 0, rfl, rfl, by omega, Nat.zero_le _, by omega, fun _ _ => rfl, fun _ _ => rfl, rfl, Or.inl ⟨rfl, rfl, rfl⟩⟩
  · intro pc ks a b9 vs st I1 J1 hc hI
    obtain ⟨i, c, rfl, rfl, rfl, hi, hc1, e1, e2, e3, e5⟩ := hI
    have hIb : I1 b = I b := e1 b hne
    have hIf : I1 f = I f := e1 f hfp
    rcases m_cu1 hc with ⟨rfl, rfl⟩ | hc
    · obtain ⟨rfl, rfl⟩ : b9 = 2 ∧ st = [] := by
        rcases e5 with ⟨-, q1, q2⟩ | ⟨q, -⟩
        · exact ⟨q1, q2⟩
        · cases q
      refine ⟨hb, fun h => ?_, fun h => ?_⟩
      · have h : I1 b 1 ≤ nI i := h
        rw [hIb, h1] at h
        have hge := (nI_leI (by omega) (by omega)).mp h
        obtain rfl : i = n := by omega
        rw [dz_val w2, h6, g6] at e3
        have hlt : dv (2 ^ 32) (bdg rf I1 b) i < (2 ^ 32) ^ i := dv_lt (fun k _ => bdg_lt rf I1 b k)
        have hval : dv (2 ^ 32) (bdg rf I1 b) i = z.natAbs - y.natAbs := by
          rcases (show c = 0 ∨ c = 1 by omega) with rfl | rfl <;> omega
        refine ⟨b, [], rfl, hb, cap, i, (if z < 0 then -((z.natAbs - y.natAbs : Nat) : Int) else ((z.natAbs - y.natAbs : Nat) : Int)), rfl, hB, ?_, h2, ?_, ?_, ?_, ?_⟩
        · rw [hIb, h1]
        · rw [hval]
          split <;> omega
        · intro hz
          rw [hIb, h5]
          split at hz
          · rename_i q; rw [if_pos q]
          · omega
        · intro hz
          rw [hIb, h5]
          split at hz
          · omega
          · rename_i q; rw [if_neg q]
        · intro I2 k1 k2
          refine hK I2 (fun q k3 k4 => ?_) k2
          rw [k1 q k3, e1 q k4]
      · have h : ¬ I1 b 1 ≤ nI i := h
        rw [hIb, h1] at h
        have hlt : i < n := by
          rcases Nat.lt_or_ge i n with q | q
          · exact q
          · exact absurd (nI_le q (by omega)) h
        refine ⟨hb, m_inb_i hB.2.1 (vp_in_nI (by omega) (by omega)), hF.1, fun h7 => ?_, fun h7 => ?_⟩
        · have h7 : I1 f 1 ≤ nI i := h7
          rw [hIf, g1] at h7
          have h8 := (nI_leI (by omega) (by omega)).mp h7
          refine ⟨n - i, 1, Or.inr ⟨rfl, by omega⟩, i, c, rfl, rfl, rfl, hi, hc1, e1, e2, e3, Or.inr ⟨rfl, rfl, hlt, ?_⟩⟩
          have e8 : dz (bdg rf I f) n2 i = 0 := by unfold dz; rw [if_neg (by omega)]
          rw [e8, nI_clamp (by omega), l_mask, e2 i (Nat.le_refl _)]
          rfl
        · have h7 : ¬ I1 f 1 ≤ nI i := h7
          rw [hIf, g1] at h7
          have h8 : i < n2 := by
            rcases Nat.lt_or_ge i n2 with q | q
            · exact q
            · exact absurd (nI_le q (by omega)) h7
          refine ⟨hF.1, m_inb_i hF.2.1 (vp_in_nI (by omega) (by omega)), n - i, 1, Or.inr ⟨rfl, by omega⟩, i, c, rfl, rfl, rfl, hi, hc1, e1, e2, e3, Or.inr ⟨rfl, rfl, hlt, ?_⟩⟩
          have e8 : dz (bdg rf I f) n2 i = bdg rf I f i := by unfold dz; rw [if_pos h8]
          rw [e8, nI_clamp (by omega), l_mask, l_mask, e1 _ hpp, e2 i (Nat.le_refl _)]
          rfl
    rcases m_cu1 hc with ⟨rfl, rfl⟩ | hc
    · obtain ⟨rfl, hlt, rfl⟩ : b9 = 1 ∧ i < n ∧ st = [.inr (.inl (lN (dz (bdg rf I f) n2 i))), .inr (.inl (lN (bdg rf I b i))), .inr (.inl (cN c))] := by
        rcases e5 with ⟨q, -⟩ | ⟨-, q1, q2, q3⟩
        · cases q
        · exact ⟨q1, q2, q3⟩
      have hx : bdg rf I b i < 2 ^ 32 := bdg_lt rf I b i
      have hy : dz (bdg rf I f) n2 i < 2 ^ 32 := by
        unfold dz; split
        · exact bdg_lt rf I f i
        · decide
      obtain ⟨c', hc', k1, k2⟩ := sub_m hc1 hx hy e3
      refine ⟨hb, m_inb_i hB.2.1 (vp_in_nI (by omega) (by omega)), n - (i + 1), 2, Or.inl (by omega), i + 1, c', ?_, rfl, rfl, by omega, hc', ?_, ?_, ?_, Or.inl ⟨rfl, rfl, rfl⟩⟩
      · rw [← k1, ← nI_1]
      · intro q hq
        rw [uI_a _ _ _ hq, e1 q hq]
      · intro k hk
        rw [nI_clamp (by omega), uI_k _ _ _ (by omega), e2 k (by omega)]
      · rw [nI_clamp (by omega)]
        have e9 : bdg rf (m_uI I1 (rf b 0) i (cN c + (lN (bdg rf I b i) - lN (dz (bdg rf I f) n2 i))).toInt32) b i = u32 (cN c + (lN (bdg rf I b i) - lN (dz (bdg rf I f) n2 i))).toInt32 := by
          unfold bdg
          rw [uI_s]
        rw [dv, e9, dv_congr (h := bdg rf I1 b) (fun k hk => by
          unfold bdg
          rw [uI_k _ _ _ (by omega)]), dv, dv, Nat.pow_succ]
        exact k2
    · cases hc

def ct_X0_takeSizeFrom (sh : mSH) (rf : mRF) : Nat → Option (Nat × Bool × mPT) := fun k => match k with
  | 30 => some (2, true, pt_makeRoom sh rf)
  | 27 => some (1, true, pt_trim sh rf)
  | _ => none
set_option maxRecDepth 20000 in
theorem ce_X0_takeSizeFrom : m_CE RX0 1 21 cX0_takeSizeFrom 5 ct_X0_takeSizeFrom := by
  intro p l e s m args below meth c Q D cs ad sh rf N hx hb hml hown hts hK hi hN k n vf pt h
  unfold ct_X0_takeSizeFrom at h
  split at h
  · cases h
    exact m_CG_V mt_X0_makeRoom hx hb hml hown hts hK hi hN (ci := 0) m_pv_rec rfl rfl (m_wck_ok (l := [(Cond.methodLink RX0 30 yX0_makeRoom, 320), (Cond.instanceMethod yX0_makeRoom, 322), (Cond.selects RX0 yX0_makeRoom yX0_makeRoom, 2), (Cond.initialized RX0, 58), (Cond.code yX0_makeRoom cX0_makeRoom 2 none, 323)]) (by decide +kernel)) ⟨rfl, by decide +kernel, by decide +kernel, by decide +kernel⟩ ⟨Nat.le_of_ble_eq_true rfl, Nat.le_of_ble_eq_true rfl⟩
  · cases h
    exact m_CG_V mt_X0_trim hx hb hml hown hts hK hi hN (ci := 0) m_pv_rec rfl rfl (m_wck_ok (l := [(Cond.methodLink RX0 27 yX0_trim, 179), (Cond.instanceMethod yX0_trim, 181), (Cond.selects RX0 yX0_trim yX0_trim, 0), (Cond.initialized RX0, 58), (Cond.code yX0_trim cX0_trim 1 none, 182)]) (by decide +kernel)) ⟨rfl, by decide +kernel, by decide +kernel, by decide +kernel⟩ ⟨Nat.le_of_ble_eq_true rfl, Nat.le_of_ble_eq_true rfl⟩
  · cases h
set_option maxHeartbeats 4000000 in
set_option maxRecDepth 100000 in
theorem mt_X0_takeSizeFrom : m_Mt yX0_takeSizeFrom cX0_takeSizeFrom 5 none 1 21 pt_takeSizeFrom := by
  refine m_methodG (fl := fl_X0) (kI := kI_X0) (kJ := kJ_X0) (ct := ct_X0_takeSizeFrom) (cd := cd_X0_takeSizeFrom) (cut := [(13, [0, 1, 2, 4]), (60, [0, 1, 2, 4])]) (rk := 0) (fu := 80) (by decide +kernel) fl_X0_ok kI_X0_ok kJ_X0_ok ce_X0_takeSizeFrom rfl ck_X0_takeSizeFrom ⟨_, _, rfl, rfl⟩ ?_
  intro sh rf As I J K hpt
  obtain ⟨b, rest, rfl, hb, cap, f, z, y, rfl, hB, hL, hfb, ⟨cap1, n, hB', h1, h2, h4, h5, h6⟩, ⟨cap2, n2, hF, g1, g2, g4, g5, g6⟩, hle, hyc, hK⟩ := hpt
  obtain rfl := hB.cap hB'
  have hcap := hB.2.2.2
  have hcap2 := hF.2.2.2
  have hne := hB.ne
  have hpp : rf f 0 ≠ rf b 0 := fun e => hfb (hL f b hF.1 hB.1 e)
  have hfp : f ≠ rf b 0 := hF.nex hB
  have hyl : y.natAbs < 2 ^ (32 * n2) := by
    rw [← g6, Nat.pow_mul]
    exact dv_lt (fun i _ => bdg_lt rf I f i)
  have w1 := BIs.lim (sh := sh) (cap := 0) (m := n2) h4 h6 (by omega)
  have w3 := BIs.lim (sh := sh) (cap := 0) (m := cap) g4 g6 hyc
  refine ⟨Nat.le_of_ble_eq_true rfl, fun a b9 pc vs st I1 J1 => ∃ i c, vs = [.inr (.inr b), .inr (.inr f), .inr (.inl (cN c)), .inl (nI i)] ∧ J1 = J ∧ a = n2 - i ∧ i ≤ n2 ∧ c ≤ 1 ∧ (∀ q, q ≠ rf b 0 → I1 q = I q) ∧ (∀ k, i ≤ k → I1 (rf b 0) k = I (rf b 0) k) ∧ dv (2 ^ 32) (bdg rf I1 b) i + dv (2 ^ 32) (dz (bdg rf I b) n) i = dv (2 ^ 32) (bdg rf I f) i + c * (2 ^ 32) ^ i ∧ (pc = 13 ∧ b9 = 2 ∧ st = [] ∨ pc = 60 ∧ b9 = 1 ∧ i < n2 ∧ st = [.inr (.inl (lN (dz (bdg rf I b) n i))), .inr (.inl (lN (bdg rf I f i))), .inr (.inl (cN c))]), ?_, ?_⟩
  · exact ⟨hF.1, b, [.inl (I f 1)], rfl, hb, cap, n2, by rw [g1], hB, w3, n2, 2, 0, 0, rfl, rfl, by omega, Nat.zero_le _, by omega, fun _ _ => rfl, fun _ _ => rfl, rfl, Or.inl ⟨rfl, rfl, rfl⟩⟩
  · intro pc ks a b9 vs st I1 J1 hc hI
    obtain ⟨i, c, rfl, rfl, rfl, hi, hc1, e1, e2, e3, e5⟩ := hI
    have hIb : I1 b = I b := e1 b hne
    have hIf : I1 f = I f := e1 f hfp
    rcases m_cu1 hc with ⟨rfl, rfl⟩ | hc
    · obtain ⟨rfl, rfl⟩ : b9 = 2 ∧ st = [] := by
        rcases e5 with ⟨-, q1, q2⟩ | ⟨q, -⟩
        · exact ⟨q1, q2⟩
        · cases q
      refine ⟨hF.1, fun h => ?_, fun h => ?_⟩
      · have h : I1 f 1 ≤ nI i := h
        rw [hIf, g1] at h
        have hge := (nI_leI (by omega) (by omega)).mp h
        obtain rfl : i = n2 := by omega
        rw [dz_val w1, h6, g6] at e3
        have hlt : dv (2 ^ 32) (bdg rf I1 b) i < (2 ^ 32) ^ i := dv_lt (fun k _ => bdg_lt rf I1 b k)
        have hval : dv (2 ^ 32) (bdg rf I1 b) i = y.natAbs - z.natAbs := by
          rcases (show c = 0 ∨ c = 1 by omega) with rfl | rfl <;> omega
        refine ⟨hF.1, hb, b, [], rfl, hb, cap, i, (if z < 0 then -((y.natAbs - z.natAbs : Nat) : Int) else ((y.natAbs - z.natAbs : Nat) : Int)), rfl, hB, ?_, w3, ?_, ?_, ?_, ?_⟩
        · rw [uI_s]
          show I1 f 1 = nI i
          rw [hIf, g1]
        · rw [dv_congr (h := bdg rf I1 b) (fun k hk => by
            unfold bdg
            rw [uI_a _ _ _ hne.symm]), hval]
          split <;> omega
        · intro hz
          rw [uI_k _ _ _ (by decide), hIb, h5]
          split at hz
          · rename_i q; rw [if_pos q]
          · omega
        · intro hz
          rw [uI_k _ _ _ (by decide), hIb, h5]
          split at hz
          · omega
          · rename_i q; rw [if_neg q]
        · intro I2 k1 k2
          refine hK I2 (fun q k3 k4 => ?_) k2
          rw [k1 q k3, uI_a _ _ _ k3, e1 q k4]
      · have h : ¬ I1 f 1 ≤ nI i := h
        rw [hIf, g1] at h
        have hlt : i < n2 := by
          rcases Nat.lt_or_ge i n2 with q | q
          · exact q
          · exact absurd (nI_le q (by omega)) h
        refine ⟨hF.1, m_inb_i hF.2.1 (vp_in_nI (by omega) (by omega)), hb, fun h7 => ?_, fun h7 => ?_⟩
        · have h7 : I1 b 1 ≤ nI i := h7
          rw [hIb, h1] at h7
          have h8 := (nI_leI (by omega) (by omega)).mp h7
          refine ⟨n2 - i, 1, Or.inr ⟨rfl, by omega⟩, i, c, rfl, rfl, rfl, hi, hc1, e1, e2, e3, Or.inr ⟨rfl, rfl, hlt, ?_⟩⟩
          have e8 : dz (bdg rf I b) n i = 0 := by unfold dz; rw [if_neg (by omega)]
          rw [e8, nI_clamp (by omega), l_mask, e1 _ hpp]
          rfl
        · have h7 : ¬ I1 b 1 ≤ nI i := h7
          rw [hIb, h1] at h7
          have h8 : i < n := by
            rcases Nat.lt_or_ge i n with q | q
            · exact q
            · exact absurd (nI_le q (by omega)) h7
          refine ⟨hb, m_inb_i hB.2.1 (vp_in_nI (by omega) (by omega)), n2 - i, 1, Or.inr ⟨rfl, by omega⟩, i, c, rfl, rfl, rfl, hi, hc1, e1, e2, e3, Or.inr ⟨rfl, rfl, hlt, ?_⟩⟩
          have e8 : dz (bdg rf I b) n i = bdg rf I b i := by unfold dz; rw [if_pos h8]
          rw [e8, nI_clamp (by omega), l_mask, l_mask, e1 _ hpp, e2 i (Nat.le_refl _)]
          rfl
    rcases m_cu1 hc with ⟨rfl, rfl⟩ | hc
    · obtain ⟨rfl, hlt, rfl⟩ : b9 = 1 ∧ i < n2 ∧ st = [.inr (.inl (lN (dz (bdg rf I b) n i))), .inr (.inl (lN (bdg rf I f i))), .inr (.inl (cN c))] := by
        rcases e5 with ⟨q, -⟩ | ⟨-, q1, q2, q3⟩
        · cases q
        · exact ⟨q1, q2, q3⟩
      have hx : bdg rf I f i < 2 ^ 32 := bdg_lt rf I f i
      have hy : dz (bdg rf I b) n i < 2 ^ 32 := by
        unfold dz; split
        · exact bdg_lt rf I b i
        · decide
      obtain ⟨c', hc', k1, k2⟩ := sub_m hc1 hx hy e3
      refine ⟨hb, m_inb_i hB.2.1 (vp_in_nI (by omega) (by omega)), n2 - (i + 1), 2, Or.inl (by omega), i + 1, c', ?_, rfl, rfl, by omega, hc', ?_, ?_, ?_, Or.inl ⟨rfl, rfl, rfl⟩⟩
      · rw [← k1, ← nI_1]
      · intro q hq
        rw [uI_a _ _ _ hq, e1 q hq]
      · intro k hk
        rw [nI_clamp (by omega), uI_k _ _ _ (by omega), e2 k (by omega)]
      · rw [nI_clamp (by omega)]
        have e9 : bdg rf (m_uI I1 (rf b 0) i (cN c + (lN (bdg rf I f i) - lN (dz (bdg rf I b) n i))).toInt32) b i = u32 (cN c + (lN (bdg rf I f i) - lN (dz (bdg rf I b) n i))).toInt32 := by
          unfold bdg
          rw [uI_s]
        rw [dv, e9, dv_congr (h := bdg rf I1 b) (fun k hk => by
          unfold bdg
          rw [uI_k _ _ _ (by omega)]), dv, dv, Nat.pow_succ]
        exact k2
    · cases hc
end
section
/-! ===== addSigned, take, setProduct, addProduct, times, timesInt ===== -/
def BCh2 (rf : mRF) (I I1 : mPI) (b s : Nat) : Prop := ∀ a, a ≠ b → a ≠ rf b 0 → a ≠ s → a ≠ rf s 0 → I1 a = I a
theorem BIs.sh {sh : mSH} {rf : mRF} {I : mPI} {b : Nat} {z : Int} (h : BIs sh rf I b z) : ∃ cap, BSh sh rf b cap := by
  obtain ⟨cap, n, h1, -⟩ := h
  exact ⟨cap, h1⟩
theorem BIs.flag {sh : mSH} {rf : mRF} {I : mPI} {b : Nat} {y : Int} {s : Int32} (h : BIs sh rf I b y) (hy : y ≠ 0) (hs : s = 0 ∨ s = 1) : BIs sh rf (m_uI I b 2 s) b (if s = 1 then -(y.natAbs : Int) else (y.natAbs : Int)) := by
  obtain ⟨cap, n, hB, h1, h2, h4, h5, h6⟩ := h
  have hne := hB.ne
  refine ⟨cap, n, hB, by rw [uI_k _ _ _ (by decide)]; exact h1, h2, by rw [uI_a _ _ _ hne.symm]; exact h4, ?_, ?_⟩
  · rw [uI_s]
    rcases hs with rfl | rfl
    · rw [if_neg (show ¬ (0 : Int32) = 1 by decide), if_neg (by omega)]
    · rw [if_pos rfl, if_pos (by omega)]
  · rw [dv_congr (h := bdg rf I b) (fun k hk => by unfold bdg; rw [uI_a _ _ _ hne.symm]), h6]
    split <;> omega
theorem BIs.neg {sh : mSH} {rf : mRF} {I : mPI} {b : Nat} {z : Int} (h : BIs sh rf I b z) : I b 2 = (if z < 0 then 1 else 0) := by
  obtain ⟨cap, n, hB, h1, h2, h4, h5, h6⟩ := h
  exact h5
theorem BIs.nil {sh : mSH} {rf : mRF} {I : mPI} {b : Nat} {z : Int} (h : BIs sh rf I b z) : I b 1 = 0 ↔ z = 0 := by
  obtain ⟨cap, n, hB, h1, h2, h4, h5, h6⟩ := h
  have hcap := hB.2.2.2
  rw [h1, ← BIs.zero (sh := sh) h4 h6]
  constructor
  · intro e
    exact (nI_eq (b := 0) (by omega) (by decide)).mp e
  · intro e
    rw [e]; rfl
def pt_addSigned : mSH → mRF → mPT := m_pv 0 (fun sh rf b rest I J K => ∃ (cap f m : Nat) (z y : Int) (s : Int32), rest = [.inr (.inr f), .inl s] ∧ (s = 0 ∨ s = 1) ∧ BSh sh rf b cap ∧ BL sh rf ∧ f ≠ b ∧ BIs sh rf I b z ∧ BIs sh rf I f y ∧ z.natAbs < 2 ^ (32 * m) ∧ y.natAbs < 2 ^ (32 * m) ∧ m + 1 ≤ cap ∧ ∀ I1, BCh rf I I1 b → BIs sh rf I1 b (z + (if s = 1 then -(y.natAbs : Int) else (y.natAbs : Int))) → K none I1 J)
def pt_take : mSH → mRF → mPT := m_pv 0 (fun sh rf b rest I J K => ∃ (cap f m : Nat) (z y : Int), rest = [.inr (.inr f)] ∧ BSh sh rf b cap ∧ BL sh rf ∧ f ≠ b ∧ BIs sh rf I b z ∧ BIs sh rf I f y ∧ z.natAbs < 2 ^ (32 * m) ∧ y.natAbs < 2 ^ (32 * m) ∧ m + 1 ≤ cap ∧ ∀ I1, BCh rf I I1 b → BIs sh rf I1 b (z - y) → K none I1 J)
def pt_setProduct : mSH → mRF → mPT := m_pv 0 (fun sh rf b rest I J K => ∃ (cap f g m1 m2 : Nat) (x y : Int), rest = [.inr (.inr f), .inr (.inr g)] ∧ BSh sh rf b cap ∧ BL sh rf ∧ f ≠ b ∧ g ≠ b ∧ BIs sh rf I f x ∧ BIs sh rf I g y ∧ x.natAbs < 2 ^ (32 * m1) ∧ y.natAbs < 2 ^ (32 * m2) ∧ m1 + m2 ≤ cap ∧ ∀ I1, BCh rf I I1 b → BIs sh rf I1 b (x * y) → K none I1 J)
def pt_addProduct : mSH → mRF → mPT := m_pv 0 (fun sh rf b rest I J K => ∃ (cap f g s caps m1 m2 m : Nat) (z x y : Int), rest = [.inr (.inr f), .inr (.inr g), .inr (.inr s)] ∧ BSh sh rf b cap ∧ BSh sh rf s caps ∧ BL sh rf ∧ f ≠ s ∧ g ≠ s ∧ b ≠ s ∧ BIs sh rf I b z ∧ BIs sh rf I f x ∧ BIs sh rf I g y ∧ x.natAbs < 2 ^ (32 * m1) ∧ y.natAbs < 2 ^ (32 * m2) ∧ m1 + m2 ≤ caps ∧ z.natAbs < 2 ^ (32 * m) ∧ (x * y).natAbs < 2 ^ (32 * m) ∧ m + 1 ≤ cap ∧ ∀ I1, BCh2 rf I I1 b s → BIs sh rf I1 b (z + x * y) → K none I1 J)
def pt_times : mSH → mRF → mPT := m_pv 0 (fun sh rf b rest I J K => ∃ (cap f s caps m1 m2 : Nat) (x y : Int), rest = [.inr (.inr f), .inr (.inr s)] ∧ BSh sh rf b cap ∧ BSh sh rf s caps ∧ BL sh rf ∧ f ≠ s ∧ b ≠ s ∧ BIs sh rf I b x ∧ BIs sh rf I f y ∧ x.natAbs < 2 ^ (32 * m1) ∧ y.natAbs < 2 ^ (32 * m2) ∧ m1 + m2 ≤ caps ∧ (x * y).natAbs < 2 ^ (32 * cap) ∧ ∀ I1, BCh2 rf I I1 b s → BIs sh rf I1 b (x * y) → K none I1 J)
def pt_timesInt : mSH → mRF → mPT := m_pv 0 (fun sh rf b rest I J K => ∃ (cap m : Nat) (z : Int) (f : Int32), rest = [.inl f] ∧ BSh sh rf b cap ∧ BIs sh rf I b z ∧ z.natAbs < 2 ^ (32 * m) ∧ m + 1 ≤ cap ∧ ∀ I1, BCh rf I I1 b → BIs sh rf I1 b (z * f.toInt) → K none I1 J)
def ct_X0_addSigned (sh : mSH) (rf : mRF) : Nat → Option (Nat × Bool × mPT) := fun k => match k with
  | 66 => some (2, true, pt_setBig sh rf)
  | 70 => some (2, true, pt_addSize sh rf)
  | 73 => some (2, true, pt_compareSize sh rf)
  | 77 => some (2, true, pt_takeSize sh rf)
  | 80 => some (2, true, pt_takeSizeFrom sh rf)
  | _ => none
set_option maxRecDepth 20000 in
theorem ce_X0_addSigned : m_CE RX0 2 81 cX0_addSigned 3 ct_X0_addSigned := by
  intro p l e s m args below meth c Q D cs ad sh rf N hx hb hml hown hts hK hi hN k n vf pt h
  unfold ct_X0_addSigned at h
  split at h
  · cases h
    exact m_CG_V mt_X0_setBig hx hb hml hown hts hK hi hN (ci := 0) m_pv_rec rfl rfl (m_wck_ok (l := [(Cond.methodLink RX0 66 yX0_setBig, 351), (Cond.instanceMethod yX0_setBig, 352), (Cond.selects RX0 yX0_setBig yX0_setBig, 353), (Cond.initialized RX0, 58), (Cond.code yX0_setBig cX0_setBig 2 none, 354)]) (by decide +kernel)) ⟨rfl, by decide +kernel, by decide +kernel, by decide +kernel⟩ ⟨Nat.le_of_ble_eq_true rfl, Nat.le_of_ble_eq_true rfl⟩
  · cases h
    exact m_CG_V mt_X0_addSize hx hb hml hown hts hK hi hN (ci := 0) m_pv_rec rfl rfl (m_wck_ok (l := [(Cond.methodLink RX0 70 yX0_addSize, 356), (Cond.instanceMethod yX0_addSize, 358), (Cond.selects RX0 yX0_addSize yX0_addSize, 3), (Cond.initialized RX0, 58), (Cond.code yX0_addSize cX0_addSize 6 none, 359)]) (by decide +kernel)) ⟨rfl, by decide +kernel, by decide +kernel, by decide +kernel⟩ ⟨Nat.le_of_ble_eq_true rfl, Nat.le_of_ble_eq_true rfl⟩
  · cases h
    exact m_CG_V mt_X0_compareSize hx hb hml hown hts hK hi hN (ci := 0) m_pv_rec rfl rfl (m_wck_ok (l := [(Cond.methodLink RX0 73 yX0_compareSize, 360), (Cond.instanceMethod yX0_compareSize, 361), (Cond.selects RX0 yX0_compareSize yX0_compareSize, 362), (Cond.initialized RX0, 58), (Cond.code yX0_compareSize cX0_compareSize 3 (some .int), 363)]) (by decide +kernel)) ⟨rfl, by decide +kernel, by decide +kernel, by decide +kernel⟩ ⟨Nat.le_of_ble_eq_true rfl, Nat.le_of_ble_eq_true rfl⟩
  · cases h
    exact m_CG_V mt_X0_takeSize hx hb hml hown hts hK hi hN (ci := 0) m_pv_rec rfl rfl (m_wck_ok (l := [(Cond.methodLink RX0 77 yX0_takeSize, 367), (Cond.instanceMethod yX0_takeSize, 368), (Cond.selects RX0 yX0_takeSize yX0_takeSize, 369), (Cond.initialized RX0, 58), (Cond.code yX0_takeSize cX0_takeSize 5 none, 370)]) (by decide +kernel)) ⟨rfl, by decide +kernel, by decide +kernel, by decide +kernel⟩ ⟨Nat.le_of_ble_eq_true rfl, Nat.le_of_ble_eq_true rfl⟩
  · cases h
    exact m_CG_V mt_X0_takeSizeFrom hx hb hml hown hts hK hi hN (ci := 0) m_pv_rec rfl rfl (m_wck_ok (l := [(Cond.methodLink RX0 80 yX0_takeSizeFrom, 371), (Cond.instanceMethod yX0_takeSizeFrom, 373), (Cond.selects RX0 yX0_takeSizeFrom yX0_takeSizeFrom, 4), (Cond.initialized RX0, 58), (Cond.code yX0_takeSizeFrom cX0_takeSizeFrom 5 none, 374)]) (by decide +kernel)) ⟨rfl, by decide +kernel, by decide +kernel, by decide +kernel⟩ ⟨Nat.le_of_ble_eq_true rfl, Nat.le_of_ble_eq_true rfl⟩
  · cases h
set_option maxHeartbeats 4000000 in
set_option maxRecDepth 100000 in
theorem mt_X0_addSigned : m_Mt yX0_addSigned cX0_addSigned 3 none 2 81 pt_addSigned := by
  refine m_method0 80 (fl := fl_X0) (kI := kI_X0) (kJ := kJ_X0) (ct := ct_X0_addSigned) (cd := cd_X0_addSigned) (rk := 0) (by decide +kernel) fl_X0_ok kI_X0_ok kJ_X0_ok ce_X0_addSigned rfl ck_X0_addSigned ⟨_, _, rfl, rfl⟩ ?_
  intro sh rf As I J K hpt
  obtain ⟨b, rest, rfl, hb, cap, f, m, z, y, s, rfl, hs, hB, hL, hfb, hz, hy, hm1, hm2, hmc, hK⟩ := hpt
  obtain ⟨cap2, hF⟩ := hy.sh
  refine ⟨Nat.le_of_ble_eq_true rfl, hF.1, fun h => ?_, fun h => ?_⟩
  · have hy0 : y ≠ 0 := fun q => h (hy.nil.mpr q)
    refine ⟨hb, fun h7 => ?_, fun h7 => ?_⟩
    · have hz0 : z ≠ 0 := fun q => h7 (hz.nil.mpr q)
      have hzf := hz.neg
      refine ⟨hb, fun h8 => ?_, fun h8 => ?_⟩
      · have h8 : ¬ I b 2 = s := h8
        rw [hzf] at h8
        refine ⟨b, [.inr (.inr f)], rfl, hb, f, z, y, rfl, hz, hy, fun h9 => ?_, fun h9 => ?_⟩
        · have hlt : z.natAbs < y.natAbs := by
            have h9 : cmpN z.natAbs y.natAbs < 0 := h9
            unfold cmpN at h9
            rcases Nat.lt_or_ge z.natAbs y.natAbs with q | q
            · exact q
            · rw [if_neg (by omega)] at h9
              split at h9 <;> exact absurd h9 (by decide)
          refine ⟨b, [.inr (.inr f)], rfl, hb, cap, f, z, y, rfl, hB, hL, hfb, hz, hy, by omega, Nat.lt_of_lt_of_le hm2 (Nat.pow_le_pow_right (by decide) (by omega)), fun I1 k1 k2 => ⟨hb, hs, ?_⟩⟩
          have k3 := k2.flag (s := s) (by split <;> omega) hs
          refine hK _ (fun a h1 h2 => by rw [uI_a _ _ _ h1, k1 a h1 h2]) ?_
          have e : z + (if s = 1 then -(y.natAbs : Int) else (y.natAbs : Int)) = (if s = 1 then -((if z < 0 then -((y.natAbs - z.natAbs : Nat) : Int) else ((y.natAbs - z.natAbs : Nat) : Int)).natAbs : Int) else ((if z < 0 then -((y.natAbs - z.natAbs : Nat) : Int) else ((y.natAbs - z.natAbs : Nat) : Int)).natAbs : Int)) := by
            rcases hs with rfl | rfl
            · rw [if_neg (by decide), if_neg (by decide)]
              by_cases q : z < 0
              · rw [if_pos q]; omega
              · rw [if_neg q] at h8; exact absurd rfl h8
            · rw [if_pos rfl, if_pos rfl]
              by_cases q : z < 0
              · rw [if_pos q] at h8; exact absurd rfl h8
              · rw [if_neg q]; omega
          rw [e]
          exact k3
        · have hge : y.natAbs ≤ z.natAbs := by
            have h9 : ¬ cmpN z.natAbs y.natAbs < 0 := h9
            unfold cmpN at h9
            rcases Nat.lt_or_ge z.natAbs y.natAbs with q | q
            · rw [if_pos q] at h9; exact absurd (by decide) h9
            · exact q
          refine ⟨b, [.inr (.inr f)], rfl, hb, f, z, y, rfl, hL, hfb, hz, hy, hge, fun I1 k1 k2 => hK I1 k1 ?_⟩
          have e : z + (if s = 1 then -(y.natAbs : Int) else (y.natAbs : Int)) = (if z < 0 then -((z.natAbs - y.natAbs : Nat) : Int) else ((z.natAbs - y.natAbs : Nat) : Int)) := by
            rcases hs with rfl | rfl
            · rw [if_neg (by decide)]
              by_cases q : z < 0
              · rw [if_pos q]; omega
              · rw [if_neg q] at h8; exact absurd rfl h8
            · rw [if_pos rfl]
              by_cases q : z < 0
              · rw [if_pos q] at h8; exact absurd rfl h8
              · rw [if_neg q]; omega
          rw [e]
          exact k2
      · have h8 : I b 2 = s := h8
        rw [hzf] at h8
        refine ⟨b, [.inr (.inr f)], rfl, hb, cap, f, m, z, y, rfl, hB, hL, hfb, hz, hy, hm1, hm2, hmc, fun I1 k1 k2 => hK I1 k1 ?_⟩
        have e : z + (if s = 1 then -(y.natAbs : Int) else (y.natAbs : Int)) = (if z < 0 then -((z.natAbs + y.natAbs : Nat) : Int) else ((z.natAbs + y.natAbs : Nat) : Int)) := by
          by_cases q : z < 0
          · rw [if_pos q] at h8
            rw [if_pos h8.symm, if_pos q]
            omega
          · rw [if_neg q] at h8
            rw [if_neg (by rw [← h8]; decide), if_neg q]
            omega
        rw [e]
        exact k2
    · have hz0 : z = 0 := hz.nil.mp h7
      refine ⟨b, [.inr (.inr f)], rfl, hb, cap, f, y, rfl, hB, hL, hfb, hy, Nat.lt_of_lt_of_le hm2 (Nat.pow_le_pow_right (by decide) (by omega)), fun I1 k1 k2 => ⟨hb, hs, ?_⟩⟩
      refine hK _ (fun a h1 h2 => by rw [uI_a _ _ _ h1, k1 a h1 h2]) ?_
      rw [hz0, Int.zero_add]
      exact k2.flag hy0 hs
  · have hy0 : y = 0 := hy.nil.mp h
    refine hK I (BCh.rfl' rf I b) ?_
    rw [hy0]
    have e : z + (if s = 1 then -((0 : Int).natAbs : Int) else ((0 : Int).natAbs : Int)) = z := by
      split <;> simp
    rw [e]
    exact hz

def ct_X0_take (sh : mSH) (rf : mRF) : Nat → Option (Nat × Bool × mPT) := fun k => match k with
  | 58 => some (3, true, pt_addSigned sh rf)
  | _ => none
set_option maxRecDepth 20000 in
theorem ce_X0_take : m_CE RX0 3 103 cX0_take 2 ct_X0_take := by
  intro p l e s m args below meth c Q D cs ad sh rf N hx hb hml hown hts hK hi hN k n vf pt h
  unfold ct_X0_take at h
  split at h
  · cases h
    exact m_CG_V mt_X0_addSigned hx hb hml hown hts hK hi hN (ci := 0) m_pv_rec rfl rfl (m_wck_ok (l := [(Cond.methodLink RX0 58 yX0_addSigned, 347), (Cond.instanceMethod yX0_addSigned, 348), (Cond.selects RX0 yX0_addSigned yX0_addSigned, 349), (Cond.initialized RX0, 58), (Cond.code yX0_addSigned cX0_addSigned 3 none, 350)]) (by decide +kernel)) ⟨rfl, by decide +kernel, by decide +kernel, by decide +kernel⟩ ⟨Nat.le_of_ble_eq_true rfl, Nat.le_of_ble_eq_true rfl⟩
  · cases h
set_option maxHeartbeats 4000000 in
set_option maxRecDepth 100000 in
theorem mt_X0_take : m_Mt yX0_take cX0_take 2 none 3 103 pt_take := by
  refine m_method0 80 (fl := fl_X0) (kI := kI_X0) (kJ := kJ_X0) (ct := ct_X0_take) (cd := cd_X0_take) (rk := 0) (by decide +kernel) fl_X0_ok kI_X0_ok kJ_X0_ok ce_X0_take rfl ck_X0_take ⟨_, _, rfl, rfl⟩ ?_
  intro sh rf As I J K hpt
  obtain ⟨b, rest, rfl, hb, cap, f, m, z, y, rfl, hB, hL, hfb, hz, hy, hm1, hm2, hmc, hK⟩ := hpt
  obtain ⟨cap2, hF⟩ := hy.sh
  have hyf := hy.neg
  refine ⟨Nat.le_of_ble_eq_true rfl, hF.1, fun h => ?_, fun h => ?_⟩
  · have h : ¬ I f 2 = 0 := h
    rw [hyf] at h
    have hn : y < 0 := by
      rcases Int.lt_or_le y 0 with q | q
      · exact q
      · rw [if_neg (by omega)] at h; exact absurd rfl h
    refine ⟨b, [.inr (.inr f), .inl 0], rfl, hb, cap, f, m, z, y, 0, rfl, Or.inl rfl, hB, hL, hfb, hz, hy, hm1, hm2, hmc, fun I1 k1 k2 => hK I1 k1 ?_⟩
    rw [if_neg (by decide)] at k2
    rw [show z - y = z + (y.natAbs : Int) by omega]
    exact k2
  · have h : I f 2 = 0 := h
    rw [hyf] at h
    have hn : ¬ y < 0 := fun q => by rw [if_pos q] at h; exact absurd h (by decide)
    refine ⟨b, [.inr (.inr f), .inl 1], rfl, hb, cap, f, m, z, y, 1, rfl, Or.inr rfl, hB, hL, hfb, hz, hy, hm1, hm2, hmc, fun I1 k1 k2 => hK I1 k1 ?_⟩
    rw [if_pos rfl] at k2
    rw [show z - y = z + -(y.natAbs : Int) by omega]
    exact k2

theorem dv_upd {B : Nat} {g g' : Nat → Nat} {k v : Nat} (h1 : g' k = v) (h2 : ∀ i, i ≠ k → g' i = g i) : ∀ {N : Nat}, k < N → dv B g' N + g k * B ^ k = dv B g N + v * B ^ k
  | 0, h => absurd h (Nat.not_lt_zero k)
  | N + 1, h => by
    rw [dv, dv]
    rcases Nat.lt_or_ge k N with q | q
    · have := dv_upd (B := B) h1 h2 q
      rw [h2 N (by omega)]
      omega
    · obtain rfl : N = k := by omega
      rw [h1, dv_congr (fun i hi => h2 i (by omega))]
      omega
theorem mul_step {B P Q c x y g T T' A D : Nat} (h : T + c * (P * Q) = A + x * P * D) (hu : T' + g * (P * Q) = T + (c + (x * y + g)) % B * (P * Q)) : T' + (c + (x * y + g)) / B * (P * Q * B) = A + x * P * (D + y * Q) := by
  have e := Nat.div_add_mod (c + (x * y + g)) B
  generalize (c + (x * y + g)) / B = q at e ⊢
  generalize (c + (x * y + g)) % B = r at e hu
  have e2 : (B * q + r) * (P * Q) = (c + (x * y + g)) * (P * Q) := by rw [e]
  grind
def ct_X0_setProduct (sh : mSH) (rf : mRF) : Nat → Option (Nat × Bool × mPT) := fun k => match k with
  | 30 => some (2, true, pt_makeRoom sh rf)
  | 83 => some (4, false, pt_fillR sh rf)
  | 27 => some (1, true, pt_trim sh rf)
  | _ => none
set_option maxRecDepth 20000 in
theorem ce_X0_setProduct : m_CE RX0 2 46 cX0_setProduct 10 ct_X0_setProduct := by
  intro p l e s m args below meth c Q D cs ad sh rf N hx hb hml hown hts hK hi hN k n vf pt h
  unfold ct_X0_setProduct at h
  split at h
  · cases h
    exact m_CG_V mt_X0_makeRoom hx hb hml hown hts hK hi hN (ci := 0) m_pv_rec rfl rfl (m_wck_ok (l := [(Cond.methodLink RX0 30 yX0_makeRoom, 320), (Cond.instanceMethod yX0_makeRoom, 322), (Cond.selects RX0 yX0_makeRoom yX0_makeRoom, 2), (Cond.initialized RX0, 58), (Cond.code yX0_makeRoom cX0_makeRoom 2 none, 323)]) (by decide +kernel)) ⟨rfl, by decide +kernel, by decide +kernel, by decide +kernel⟩ ⟨Nat.le_of_ble_eq_true rfl, Nat.le_of_ble_eq_true rfl⟩
  · cases h
    exact m_CG_S mt_J7_fill_fda19 hx hb hml hown hts hK hi hN (m_wck_ok (l := [(Cond.methodLink RX0 83 yJ7_fill_fda19, 340), (Cond.static yJ7_fill_fda19, 341), (Cond.initialized RJ7, 63), (Cond.code yJ7_fill_fda19 cJ7_fill_fda19 5 none, 342)]) (by decide +kernel)) ⟨by decide +kernel, by decide +kernel, by decide +kernel⟩ ⟨Nat.le_of_ble_eq_true rfl, Nat.le_of_ble_eq_true rfl⟩
  · cases h
    exact m_CG_V mt_X0_trim hx hb hml hown hts hK hi hN (ci := 0) m_pv_rec rfl rfl (m_wck_ok (l := [(Cond.methodLink RX0 27 yX0_trim, 179), (Cond.instanceMethod yX0_trim, 181), (Cond.selects RX0 yX0_trim yX0_trim, 0), (Cond.initialized RX0, 58), (Cond.code yX0_trim cX0_trim 1 none, 182)]) (by decide +kernel)) ⟨rfl, by decide +kernel, by decide +kernel, by decide +kernel⟩ ⟨Nat.le_of_ble_eq_true rfl, Nat.le_of_ble_eq_true rfl⟩
  · cases h
set_option maxHeartbeats 4000000 in
set_option maxRecDepth 100000 in
theorem mt_X0_setProduct : m_Mt yX0_setProduct cX0_setProduct 10 none 2 46 pt_setProduct := by
  refine m_methodG (fl := fl_X0) (kI := kI_X0) (kJ := kJ_X0) (ct := ct_X0_setProduct) (cd := cd_X0_setProduct) (cut := [(28, [0, 1, 2, 3, 4]), (57, [0, 1, 2, 3, 4, 5, 7, 9])]) (rk := 0) (fu := 100) (by decide +kernel) fl_X0_ok kI_X0_ok kJ_X0_ok ce_X0_setProduct rfl ck_X0_setProduct ⟨_, _, rfl, rfl⟩ ?_
  intro sh rf As I J K hpt
  obtain ⟨b, rest, rfl, hb, cap, f, g, m1, m2, x, y, rfl, hB, hL, hfb, hgb, ⟨cap1, n1, hF, f1, f2, f4, f5, f6⟩, ⟨cap2, n2, hG, g1, g2, g4, g5, g6⟩, hm1, hm2, hmc, hK⟩ := hpt
  have hcap := hB.2.2
  have hcap1 := hF.2.2
  have hcap2 := hG.2.2
  have hne := hB.ne
  have hfp : rf f 0 ≠ rf b 0 := fun e => hfb (hL f b hF.1 hB.1 e)
  have hgp : rf g 0 ≠ rf b 0 := fun e => hgb (hL g b hG.1 hB.1 e)
  have hf0 : f ≠ rf b 0 := hF.nex hB
  have hg0 : g ≠ rf b 0 := hG.nex hB
  have w1 := BIs.lim (sh := sh) (cap := 0) f4 f6 hm1
  have w2 := BIs.lim (sh := sh) (cap := 0) g4 g6 hm2
  obtain ⟨wh, hwh⟩ : ∃ wh, wh = n1 + n2 := ⟨_, rfl⟩
  refine ⟨Nat.le_of_ble_eq_true rfl, fun a b9 pc vs st I1 J1 => ∃ i, st = [] ∧ J1 = J ∧ a = n1 - i ∧ i ≤ n1 ∧ (∀ q, q ≠ rf b 0 → I1 q = I q) ∧ ((pc = 28 ∧ b9 = n2 + 1 ∧ vs = [.inr (.inr b), .inr (.inr f), .inr (.inr g), .inl (nI wh), .inl (nI i)] ∧ (∀ k, i + n2 ≤ k → k < wh → I1 (rf b 0) k = 0) ∧ dv (2 ^ 32) (bdg rf I1 b) wh = dv (2 ^ 32) (bdg rf I f) i * y.natAbs) ∨ (pc = 57 ∧ i < n1 ∧ ∃ j c, b9 = n2 - j ∧ j ≤ n2 ∧ c < 2 ^ 32 ∧ vs = [.inr (.inr b), .inr (.inr f), .inr (.inr g), .inl (nI wh), .inl (nI i), .inr (.inl (lN (bdg rf I f i))), .inr (.inl (lN c)), .inl (nI j)] ∧ (∀ k, i + n2 ≤ k → k < wh → I1 (rf b 0) k = 0) ∧ dv (2 ^ 32) (bdg rf I1 b) wh + c * ((2 ^ 32) ^ i * (2 ^ 32) ^ j) = dv (2 ^ 32) (bdg rf I f) i * y.natAbs + bdg rf I f i * (2 ^ 32) ^ i * dv (2 ^ 32) (bdg rf I g) j)), ?_, ?_⟩
  · have e0 : I f 1 + I g 1 = nI wh := by rw [f1, g1, nI_add, hwh]
    refine ⟨hF.1, hG.1, b, [.inl (I f 1 + I g 1)], rfl, hb, cap, wh, by rw [e0], hB, by omega, hb, rf b 0, 0, wh, 0, cap, ?_, hB.2.1, Nat.zero_le _, by omega, by omega, fun I1 k1 k2 k3 => ?_⟩
    · show [_, _, Sum.inl (I f 1 + I g 1), _] = _
      rw [e0]
      rfl
    · refine ⟨n1, n2 + 1, 0, rfl, rfl, by omega, Nat.zero_le _, k1, Or.inl ⟨rfl, rfl, ?_, fun k _ hk => k2 k (Nat.zero_le _) hk, ?_⟩⟩
      · rw [← e0]
        rfl
      · rw [dv_ext (n := 0) (Nat.zero_le _) (fun k _ hk => by unfold bdg; rw [k2 k (Nat.zero_le _) hk]; rfl)]
        simp [dv]
  · intro pc ks a b9 vs st I1 J1 hc hI
    obtain ⟨i, rfl, rfl, rfl, hi, e1, e5⟩ := hI
    have hIb : I1 b = I b := e1 b hne
    have hIf : I1 f = I f := e1 f hf0
    have hIg : I1 g = I g := e1 g hg0
    rcases m_cu1 hc with ⟨rfl, rfl⟩ | hc
    · obtain ⟨rfl, rfl, e2, e3⟩ : b9 = n2 + 1 ∧ vs = [.inr (.inr b), .inr (.inr f), .inr (.inr g), .inl (nI wh), .inl (nI i)] ∧ (∀ k, i + n2 ≤ k → k < wh → I1 (rf b 0) k = 0) ∧ dv (2 ^ 32) (bdg rf I1 b) wh = dv (2 ^ 32) (bdg rf I f) i * y.natAbs := by
        rcases e5 with ⟨-, q1⟩ | ⟨q, -⟩
        · exact q1
        · cases q
      refine ⟨hF.1, fun h => ?_, fun h => ?_⟩
      · have h : I1 f 1 ≤ nI i := h
        rw [hIf, f1] at h
        have hge := (nI_leI (by omega) (by omega)).mp h
        obtain rfl : i = n1 := by omega
        rw [f6] at e3
        have fin : ∀ s : Int32, (x * y < 0 → s = 1) → (0 < x * y → s = 0) → pt_trim sh rf [.inr (.inr b)] (m_uI (m_uI I1 b 1 (nI wh)) b 2 s) J1 K := by
          intro s s1 s2
          refine ⟨b, [], rfl, hb, cap, wh, x * y, rfl, hB, ?_, by omega, ?_, ?_, ?_, ?_⟩
          · rw [uI_k _ _ _ (by decide), uI_s]
          · rw [dv_congr (h := bdg rf I1 b) (fun k hk => by unfold bdg; rw [uI_a _ _ _ hne.symm, uI_a _ _ _ hne.symm]), e3, Int.natAbs_mul]
          · intro q; rw [uI_s]; exact s1 q
          · intro q; rw [uI_s]; exact s2 q
          · intro I2 k1 k2
            refine hK I2 (fun q k3 k4 => ?_) k2
            rw [k1 q k3, uI_a _ _ _ k3, uI_a _ _ _ k3, e1 q k4]
        refine ⟨hb, hF.1, hG.1, fun h7 => ?_, fun h7 => ?_⟩
        · have h7 : m_uI I1 b 1 (nI wh) f 2 = m_uI I1 b 1 (nI wh) g 2 := h7
          rw [uI_a _ _ _ hfb, uI_a _ _ _ hgb, hIf, hIg, f5, g5] at h7
          refine ⟨hb, Or.inl rfl, fin 0 (fun q => ?_) (fun _ => rfl)⟩
          exfalso
          by_cases q1 : x < 0 <;> by_cases q2 : y < 0
          · exact absurd (Int.mul_pos_of_neg_of_neg q1 q2) (by omega)
          · rw [if_pos q1, if_neg q2] at h7; exact absurd h7 (by decide)
          · rw [if_neg q1, if_pos q2] at h7; exact absurd h7 (by decide)
          · exact absurd (Int.mul_nonneg (show 0 ≤ x by omega) (show 0 ≤ y by omega)) (by omega)
        · have h7 : ¬ m_uI I1 b 1 (nI wh) f 2 = m_uI I1 b 1 (nI wh) g 2 := h7
          rw [uI_a _ _ _ hfb, uI_a _ _ _ hgb, hIf, hIg, f5, g5] at h7
          refine ⟨hb, Or.inr rfl, fin 1 (fun _ => rfl) (fun q => ?_)⟩
          exfalso
          by_cases q1 : x < 0 <;> by_cases q2 : y < 0
          · rw [if_pos q1, if_pos q2] at h7; exact absurd rfl h7
          · have := Int.mul_nonpos_of_nonpos_of_nonneg (show x ≤ 0 by omega) (show 0 ≤ y by omega); omega
          · have := Int.mul_nonpos_of_nonneg_of_nonpos (show 0 ≤ x by omega) (show y ≤ 0 by omega); omega
          · rw [if_neg q1, if_neg q2] at h7; exact absurd rfl h7
      · have h : ¬ I1 f 1 ≤ nI i := h
        rw [hIf, f1] at h
        have hlt : i < n1 := by
          rcases Nat.lt_or_ge i n1 with q | q
          · exact q
          · exact absurd (nI_le q (by omega)) h
        refine ⟨hF.1, m_inb_i hF.2.1 (vp_in_nI (by omega) (by omega)), n1 - i, n2, Or.inr ⟨rfl, by omega⟩, i, rfl, rfl, rfl, hi, e1, Or.inr ⟨rfl, hlt, 0, 0, by omega, Nat.zero_le _, by decide, ?_, e2, ?_⟩⟩
        · rw [nI_clamp (by omega), l_mask, e1 _ hfp]
          rfl
        · rw [e3]
          simp [dv]
    rcases m_cu1 hc with ⟨rfl, rfl⟩ | hc
    · obtain ⟨hlt, j, c, rfl, hj, hc32, rfl, e2, e3⟩ : i < n1 ∧ ∃ j c, b9 = n2 - j ∧ j ≤ n2 ∧ c < 2 ^ 32 ∧ vs = [.inr (.inr b), .inr (.inr f), .inr (.inr g), .inl (nI wh), .inl (nI i), .inr (.inl (lN (bdg rf I f i))), .inr (.inl (lN c)), .inl (nI j)] ∧ (∀ k, i + n2 ≤ k → k < wh → I1 (rf b 0) k = 0) ∧ dv (2 ^ 32) (bdg rf I1 b) wh + c * ((2 ^ 32) ^ i * (2 ^ 32) ^ j) = dv (2 ^ 32) (bdg rf I f) i * y.natAbs + bdg rf I f i * (2 ^ 32) ^ i * dv (2 ^ 32) (bdg rf I g) j := by
        rcases e5 with ⟨q, -⟩ | ⟨-, q1⟩
        · cases q
        · exact q1
      refine ⟨hG.1, fun h => ?_, fun h => ?_⟩
      · have h : I1 g 1 ≤ nI j := h
        rw [hIg, g1] at h
        have hge := (nI_leI (by omega) (by omega)).mp h
        obtain rfl : j = n2 := by omega
        have e6 : nI i + I1 g 1 = nI (i + j) := by rw [hIg, g1, nI_add]
        refine ⟨hb, hG.1, ?_, n1 - (i + 1), j + 1, Or.inl (by omega), i + 1, rfl, rfl, rfl, by omega, ?_, Or.inl ⟨rfl, rfl, ?_, ?_, ?_⟩⟩
        · show m_inb sh (rf b 0) 0 (nI i + I1 g 1)
          rw [e6]
          exact m_inb_i hB.2.1 (vp_in_nI (by omega) (by omega))
        · intro q hq
          rw [uI_a _ _ _ hq, e1 q hq]
        · rw [← nI_1]
        · intro k k1 k2
          show m_uI I1 (rf b 0) (nI i + I1 g 1).toNatClampNeg _ (rf b 0) k = 0
          rw [e6, nI_clamp (by omega), uI_k _ _ _ (by omega)]
          exact e2 k (by omega) k2
        · show dv (2 ^ 32) (bdg rf (m_uI I1 (rf b 0) (nI i + I1 g 1).toNatClampNeg (lN c).toInt32) b) wh = _
          rw [e6, nI_clamp (by omega), lN_i]
          have hu := dv_upd (B := 2 ^ 32) (g := bdg rf I1 b) (g' := bdg rf (m_uI I1 (rf b 0) (i + j) (nI c)) b) (k := i + j) (v := c) (by unfold bdg; rw [uI_s, u32_nI, Nat.mod_eq_of_lt hc32]) (fun q hq => by unfold bdg; rw [uI_k _ _ _ hq]) (N := wh) (by omega)
          have h0 : bdg rf I1 b (i + j) = 0 := by unfold bdg; rw [e2 (i + j) (Nat.le_refl _) (by omega)]; rfl
          rw [h0, Nat.zero_mul, Nat.add_zero] at hu
          rw [hu, dv, Nat.pow_add, e3, g6]
          grind
      · have h : ¬ I1 g 1 ≤ nI j := h
        rw [hIg, g1] at h
        have hjl : j < n2 := by
          rcases Nat.lt_or_ge j n2 with q | q
          · exact q
          · exact absurd (nI_le q (by omega)) h
        have e6 : nI i + nI j = nI (i + j) := nI_add i j
        have i1 : m_inb sh (rf b 0) 0 (nI i + nI j) := by
          rw [e6]
          exact m_inb_i hB.2.1 (vp_in_nI (by omega) (by omega))
        have d1 := bdg_lt rf I f i
        have d2 := bdg_lt rf I g j
        have d3 := bdg_lt rf I1 b (i + j)
        have hpr : bdg rf I f i * bdg rf I g j ≤ (2 ^ 32 - 1) * (2 ^ 32 - 1) := Nat.mul_le_mul (by omega) (by omega)
        have es : lN c + (lN (bdg rf I f i) * ((I1 (rf g 0) (nI j).toNatClampNeg).toInt64 &&& 4294967295) + ((I1 (rf b 0) (nI i + nI j).toNatClampNeg).toInt64 &&& 4294967295)) = lN (c + (bdg rf I f i * bdg rf I g j + bdg rf I1 b (i + j))) := by
          rw [e6, nI_clamp (by omega), nI_clamp (by omega), l_mask, l_mask, e1 _ hgp, lN_mul, lN_add, lN_add]
          rfl
        refine ⟨hG.1, m_inb_i hG.2.1 (vp_in_nI (by omega) (by omega)), hb, i1, hb, i1, n1 - i, n2 - (j + 1), Or.inr ⟨rfl, by omega⟩, i, rfl, rfl, rfl, hi, ?_, Or.inr ⟨rfl, hlt, j + 1, (c + (bdg rf I f i * bdg rf I g j + bdg rf I1 b (i + j))) / 2 ^ 32, rfl, by omega, by omega, ?_, ?_, ?_⟩⟩
        · intro q hq
          rw [uI_a _ _ _ hq, e1 q hq]
        · rw [es, l_shr32 (by omega), ← nI_1]
        · intro k k1 k2
          rw [e6, nI_clamp (by omega), uI_k _ _ _ (by omega)]
          exact e2 k k1 k2
        · rw [es, lN_i, e6, nI_clamp (by omega)]
          have hu := dv_upd (B := 2 ^ 32) (g := bdg rf I1 b) (g' := bdg rf (m_uI I1 (rf b 0) (i + j) (nI (c + (bdg rf I f i * bdg rf I g j + bdg rf I1 b (i + j))))) b) (k := i + j) (v := (c + (bdg rf I f i * bdg rf I g j + bdg rf I1 b (i + j))) % 2 ^ 32) (by unfold bdg; rw [uI_s, u32_nI]) (fun q hq => by unfold bdg; rw [uI_k _ _ _ hq]) (N := wh) (by omega)
          rw [Nat.pow_add] at hu
          rw [dv, show (2 ^ 32) ^ (j + 1) = (2 ^ 32) ^ j * 2 ^ 32 from Nat.pow_succ _ _, ← Nat.mul_assoc ((2 ^ 32) ^ i) ((2 ^ 32) ^ j) (2 ^ 32)]
          exact mul_step e3 hu
    · cases hc

def ct_X0_addProduct (sh : mSH) (rf : mRF) : Nat → Option (Nat × Bool × mPT) := fun k => match k with
  | 62 => some (3, true, pt_setProduct sh rf)
  | 58 => some (3, true, pt_addSigned sh rf)
  | _ => none
set_option maxRecDepth 20000 in
theorem ce_X0_addProduct : m_CE RX0 3 103 cX0_addProduct 4 ct_X0_addProduct := by
  intro p l e s m args below meth c Q D cs ad sh rf N hx hb hml hown hts hK hi hN k n vf pt h
  unfold ct_X0_addProduct at h
  split at h
  · cases h
    exact m_CG_V mt_X0_setProduct hx hb hml hown hts hK hi hN (ci := 0) m_pv_rec rfl rfl (m_wck_ok (l := [(Cond.methodLink RX0 62 yX0_setProduct, 316), (Cond.instanceMethod yX0_setProduct, 317), (Cond.selects RX0 yX0_setProduct yX0_setProduct, 318), (Cond.initialized RX0, 58), (Cond.code yX0_setProduct cX0_setProduct 10 none, 319)]) (by decide +kernel)) ⟨rfl, by decide +kernel, by decide +kernel, by decide +kernel⟩ ⟨Nat.le_of_ble_eq_true rfl, Nat.le_of_ble_eq_true rfl⟩
  · cases h
    exact m_CG_V mt_X0_addSigned hx hb hml hown hts hK hi hN (ci := 0) m_pv_rec rfl rfl (m_wck_ok (l := [(Cond.methodLink RX0 58 yX0_addSigned, 347), (Cond.instanceMethod yX0_addSigned, 348), (Cond.selects RX0 yX0_addSigned yX0_addSigned, 349), (Cond.initialized RX0, 58), (Cond.code yX0_addSigned cX0_addSigned 3 none, 350)]) (by decide +kernel)) ⟨rfl, by decide +kernel, by decide +kernel, by decide +kernel⟩ ⟨Nat.le_of_ble_eq_true rfl, Nat.le_of_ble_eq_true rfl⟩
  · cases h
set_option maxHeartbeats 4000000 in
set_option maxRecDepth 100000 in
theorem mt_X0_addProduct : m_Mt yX0_addProduct cX0_addProduct 4 none 3 103 pt_addProduct := by
  refine m_method0 80 (fl := fl_X0) (kI := kI_X0) (kJ := kJ_X0) (ct := ct_X0_addProduct) (cd := cd_X0_addProduct) (rk := 0) (by decide +kernel) fl_X0_ok kI_X0_ok kJ_X0_ok ce_X0_addProduct rfl ck_X0_addProduct ⟨_, _, rfl, rfl⟩ ?_
  intro sh rf As I J K hpt
  obtain ⟨b, rest, rfl, hb, cap, f, g, s, caps, m1, m2, m, z, x, y, rfl, hB, hS, hL, hfs, hgs, hbs, hz, hx, hy, hm1, hm2, hmc, hm3, hm4, hmc2, hK⟩ := hpt
  refine ⟨Nat.le_of_ble_eq_true rfl, s, [.inr (.inr f), .inr (.inr g)], rfl, hS.1, caps, f, g, m1, m2, x, y, rfl, hS, hL, hfs, hgs, hx, hy, hm1, hm2, hmc, fun I1 k1 k2 => ?_⟩
  have hz1 := hz.other hL hS hbs k1
  have hf := k2.neg
  refine ⟨hS.1, b, [.inr (.inr s), .inl (I1 s 2)], rfl, hb, cap, s, m, z, x * y, I1 s 2, rfl, ?_, hB, hL, hbs.symm, hz1, k2, hm3, hm4, hmc2, fun I2 k3 k4 => ?_⟩
  · rw [hf]
    split
    · exact Or.inr rfl
    · exact Or.inl rfl
  · refine hK I2 (fun a a1 a2 a3 a4 => by rw [k3 a a1 a2, k1 a a3 a4]) ?_
    have e : (if I1 s 2 = 1 then -((x * y).natAbs : Int) else ((x * y).natAbs : Int)) = x * y := by
      rw [hf]
      by_cases q : x * y < 0
      · rw [if_pos q, if_pos rfl]; omega
      · rw [if_neg q, if_neg (by decide)]; omega
    rw [e] at k4
    exact k4

def ct_X0_times (sh : mSH) (rf : mRF) : Nat → Option (Nat × Bool × mPT) := fun k => match k with
  | 62 => some (3, true, pt_setProduct sh rf)
  | 66 => some (2, true, pt_setBig sh rf)
  | _ => none
set_option maxRecDepth 20000 in
theorem ce_X0_times : m_CE RX0 3 81 cX0_times 3 ct_X0_times := by
  intro p l e s m args below meth c Q D cs ad sh rf N hx hb hml hown hts hK hi hN k n vf pt h
  unfold ct_X0_times at h
  split at h
  · cases h
    exact m_CG_V mt_X0_setProduct hx hb hml hown hts hK hi hN (ci := 0) m_pv_rec rfl rfl (m_wck_ok (l := [(Cond.methodLink RX0 62 yX0_setProduct, 316), (Cond.instanceMethod yX0_setProduct, 317), (Cond.selects RX0 yX0_setProduct yX0_setProduct, 318), (Cond.initialized RX0, 58), (Cond.code yX0_setProduct cX0_setProduct 10 none, 319)]) (by decide +kernel)) ⟨rfl, by decide +kernel, by decide +kernel, by decide +kernel⟩ ⟨Nat.le_of_ble_eq_true rfl, Nat.le_of_ble_eq_true rfl⟩
  · cases h
    exact m_CG_V mt_X0_setBig hx hb hml hown hts hK hi hN (ci := 0) m_pv_rec rfl rfl (m_wck_ok (l := [(Cond.methodLink RX0 66 yX0_setBig, 351), (Cond.instanceMethod yX0_setBig, 352), (Cond.selects RX0 yX0_setBig yX0_setBig, 353), (Cond.initialized RX0, 58), (Cond.code yX0_setBig cX0_setBig 2 none, 354)]) (by decide +kernel)) ⟨rfl, by decide +kernel, by decide +kernel, by decide +kernel⟩ ⟨Nat.le_of_ble_eq_true rfl, Nat.le_of_ble_eq_true rfl⟩
  · cases h
set_option maxHeartbeats 4000000 in
set_option maxRecDepth 100000 in
theorem mt_X0_times : m_Mt yX0_times cX0_times 3 none 3 81 pt_times := by
  refine m_method0 80 (fl := fl_X0) (kI := kI_X0) (kJ := kJ_X0) (ct := ct_X0_times) (cd := cd_X0_times) (rk := 0) (by decide +kernel) fl_X0_ok kI_X0_ok kJ_X0_ok ce_X0_times rfl ck_X0_times ⟨_, _, rfl, rfl⟩ ?_
  intro sh rf As I J K hpt
  obtain ⟨b, rest, rfl, hb, cap, f, s, caps, m1, m2, x, y, rfl, hB, hS, hL, hfs, hbs, hx, hy, hm1, hm2, hmc, hm3, hK⟩ := hpt
  refine ⟨Nat.le_of_ble_eq_true rfl, s, [.inr (.inr b), .inr (.inr f)], rfl, hS.1, caps, b, f, m1, m2, x, y, rfl, hS, hL, hbs, hfs, hx, hy, hm1, hm2, hmc, fun I1 k1 k2 => ?_⟩
  exact ⟨b, [.inr (.inr s)], rfl, hb, cap, s, x * y, rfl, hB, hL, hbs.symm, k2, hm3, fun I2 k3 k4 => hK I2 (fun a a1 a2 a3 a4 => by rw [k3 a a1 a2, k1 a a3 a4]) k4⟩

theorem ti_step {B P c F g D X : Nat} (h : D + c * P = F * X) : (D + (c + F * g) % B * P) + (c + F * g) / B * (P * B) = F * (X + g * P) := by
  have e := Nat.div_add_mod (c + F * g) B
  generalize (c + F * g) / B = q at e ⊢
  generalize (c + F * g) % B = r at e ⊢
  have e2 : (B * q + r) * P = (c + F * g) * P := by rw [e]
  grind
theorem i_absl (f : Int32) : (if 0 < f.toInt64 then f.toInt64 else -f.toInt64) = lN f.toInt.natAbs := by
  have e : f.toInt64.toInt = f.toInt := Int32.toInt_toInt64 f
  by_cases h : 0 < f.toInt64
  · rw [if_pos h]
    have h1 : (0 : Int) < f.toInt64.toInt := by simpa using Int64.lt_iff_toInt_lt.mp h
    have := l_of_nonneg (v := f.toInt64) (by omega)
    rw [e] at this
    exact this
  · rw [if_neg h]
    have h1 : ¬ (0 : Int) < f.toInt64.toInt := fun q => h (by rw [Int64.lt_iff_toInt_lt]; simpa using q)
    rcases Int.lt_or_eq_of_le (Int.not_lt.mp h1) with q | q
    · have := l_neg_abs (v := f.toInt64) q
      rw [e] at this
      exact this
    · have e0 : f.toInt64 = 0 := Int64.toInt_inj.mp (by rw [q]; rfl)
      rw [e0, ← e, q]
      rfl
def ct_X0_timesInt (sh : mSH) (rf : mRF) : Nat → Option (Nat × Bool × mPT) := fun k => match k with
  | 89 => some (1, false, pt_absJ sh rf)
  | 30 => some (2, true, pt_makeRoom sh rf)
  | 27 => some (1, true, pt_trim sh rf)
  | _ => none
set_option maxRecDepth 20000 in
theorem ce_X0_timesInt : m_CE RX0 1 21 cX0_timesInt 7 ct_X0_timesInt := by
  intro p l e s m args below meth c Q D cs ad sh rf N hx hb hml hown hts hK hi hN k n vf pt h
  unfold ct_X0_timesInt at h
  split at h
  · cases h
    exact m_CG_absJ hx hb hml hown hts hK hi hN (m_wck_ok (l := [(Cond.methodLink RX0 89 Lib.MathLoose.abs_long.x, 505), (Cond.static Lib.MathLoose.abs_long.x, 506), (Cond.initialized "java/lang/Math", 59), (Cond.code Lib.MathLoose.abs_long.x Lib.MathLoose.abs_long.code 2 (some .long), 507)]) (by decide +kernel)) ⟨Nat.le_of_ble_eq_true rfl, Nat.le_of_ble_eq_true rfl⟩
  · cases h
    exact m_CG_V mt_X0_makeRoom hx hb hml hown hts hK hi hN (ci := 0) m_pv_rec rfl rfl (m_wck_ok (l := [(Cond.methodLink RX0 30 yX0_makeRoom, 320), (Cond.instanceMethod yX0_makeRoom, 322), (Cond.selects RX0 yX0_makeRoom yX0_makeRoom, 2), (Cond.initialized RX0, 58), (Cond.code yX0_makeRoom cX0_makeRoom 2 none, 323)]) (by decide +kernel)) ⟨rfl, by decide +kernel, by decide +kernel, by decide +kernel⟩ ⟨Nat.le_of_ble_eq_true rfl, Nat.le_of_ble_eq_true rfl⟩
  · cases h
    exact m_CG_V mt_X0_trim hx hb hml hown hts hK hi hN (ci := 0) m_pv_rec rfl rfl (m_wck_ok (l := [(Cond.methodLink RX0 27 yX0_trim, 179), (Cond.instanceMethod yX0_trim, 181), (Cond.selects RX0 yX0_trim yX0_trim, 0), (Cond.initialized RX0, 58), (Cond.code yX0_trim cX0_trim 1 none, 182)]) (by decide +kernel)) ⟨rfl, by decide +kernel, by decide +kernel, by decide +kernel⟩ ⟨Nat.le_of_ble_eq_true rfl, Nat.le_of_ble_eq_true rfl⟩
  · cases h
set_option maxHeartbeats 4000000 in
set_option maxRecDepth 100000 in
theorem mt_X0_timesInt : m_Mt yX0_timesInt cX0_timesInt 7 none 1 21 pt_timesInt := by
  refine m_methodG (fl := fl_X0) (kI := kI_X0) (kJ := kJ_X0) (ct := ct_X0_timesInt) (cd := cd_X0_timesInt) (cut := [(22, [0, 1, 2, 4, 6])]) (rk := 0) (fu := 80) (by decide +kernel) fl_X0_ok kI_X0_ok kJ_X0_ok ce_X0_timesInt rfl ck_X0_timesInt ⟨_, _, rfl, rfl⟩ ?_
  intro sh rf As I J K hpt
  obtain ⟨b, rest, rfl, hb, cap, m, z, f, rfl, hB, ⟨cap1, n, hB', h1, h2, h4, h5, h6⟩, hm, hmc, hK⟩ := hpt
  obtain rfl := hB.cap hB'
  have hcap := hB.2.2
  have hne := hB.ne
  have hn := BIs.lim (sh := sh) (cap := 0) h4 h6 hm
  have hF : f.toInt.natAbs ≤ 2 ^ 31 := by
    have a1 := f.le_toInt
    have a2 := f.toInt_lt
    omega
  refine ⟨Nat.le_of_ble_eq_true rfl, fun a b9 pc vs st I1 J1 => ∃ i c, vs = [.inr (.inr b), .inl f, .inr (.inl (lN f.toInt.natAbs)), .inr (.inl (lN c)), .inl (nI i)] ∧ st = [] ∧ J1 = J ∧ a = n - i ∧ i ≤ n ∧ c ≤ f.toInt.natAbs ∧ (∀ q, q ≠ rf b 0 → I1 q = I q) ∧ (∀ k, i ≤ k → I1 (rf b 0) k = I (rf b 0) k) ∧ dv (2 ^ 32) (bdg rf I1 b) i + c * (2 ^ 32) ^ i = f.toInt.natAbs * dv (2 ^ 32) (bdg rf I b) i, ?_, ?_⟩
  · refine ⟨f.toInt64, rfl, hb, b, [.inl (I b 1 + 1)], rfl, hb, cap, n + 1, by rw [h1, nI_1], hB, by omega, n, 0, 0, 0, ?_, rfl, rfl, by omega, Nat.zero_le _, Nat.zero_le _, fun _ _ => rfl, fun _ _ => rfl, by simp [dv]⟩
    rw [i_absl]
    rfl
  · intro pc ks a b9 vs st I1 J1 hc hI
    rcases m_cu1 hc with ⟨rfl, rfl⟩ | hc
    · obtain ⟨i, c, rfl, rfl, rfl, rfl, hi, hc1, e1, e2, e3⟩ := hI
      have hIb : I1 b = I b := e1 b hne
      refine ⟨hb, fun h => ?_, fun h => ?_⟩
      · have h : I1 b 1 ≤ nI i := h
        rw [hIb, h1] at h
        have hge := (nI_leI (by omega) (by omega)).mp h
        obtain rfl : i = n := by omega
        rw [h6] at e3
        have hIb1 : I1 b 1 = nI i := by rw [hIb, h1]
        have fin : ∀ s : Int32, (z * f.toInt < 0 → s = 1) → (0 < z * f.toInt → s = 0) → pt_trim sh rf [.inr (.inr b)] (m_uI (m_uI (m_uI I1 (rf b 0) (I1 b 1).toNatClampNeg (lN c).toInt32) b 1 (m_uI I1 (rf b 0) (I1 b 1).toNatClampNeg (lN c).toInt32 b 1 + 1)) b 2 s) J1 K := by
          intro s s1 s2
          rw [uI_a _ _ _ hne, hIb1, nI_clamp (by omega), lN_i, nI_1]
          refine ⟨b, [], rfl, hb, cap, i + 1, z * f.toInt, rfl, hB, ?_, by omega, ?_, ?_, ?_, ?_⟩
          · rw [uI_k _ _ _ (by decide), uI_s]
          · rw [dv, dv_congr (h := bdg rf I1 b) (fun k hk => by unfold bdg; rw [uI_a _ _ _ hne.symm, uI_a _ _ _ hne.symm, uI_k _ _ _ (by omega)])]
            have e6 : bdg rf (m_uI (m_uI (m_uI I1 (rf b 0) i (nI c)) b 1 (nI (i + 1))) b 2 s) b i = c := by
              unfold bdg
              rw [uI_a _ _ _ hne.symm, uI_a _ _ _ hne.symm, uI_s, u32_nI, Nat.mod_eq_of_lt (by omega)]
            rw [e6, e3, Int.natAbs_mul, Nat.mul_comm]
          · intro q; rw [uI_s]; exact s1 q
          · intro q; rw [uI_s]; exact s2 q
          · intro I2 k1 k2
            refine hK I2 (fun q k3 k4 => ?_) k2
            rw [k1 q k3, uI_a _ _ _ k3, uI_a _ _ _ k3, uI_a _ _ _ k4, e1 q k4]
        have hflag : m_uI (m_uI I1 (rf b 0) (I1 b 1).toNatClampNeg (lN c).toInt32) b 1 (m_uI I1 (rf b 0) (I1 b 1).toNatClampNeg (lN c).toInt32 b 1 + 1) b 2 = (if z < 0 then 1 else 0) := by
          rw [uI_k _ _ _ (by decide), uI_a _ _ _ hne, hIb, h5]
        refine ⟨hb, hb, ?_, hb, hb, hb, fun h7 => ⟨fun h8 => ?_, fun h8 => ?_⟩, fun h7 => ⟨fun h8 => ?_, fun h8 => ?_⟩⟩
        · show m_inb sh (rf b 0) 0 (I1 b 1)
          rw [hIb1]
          exact m_inb_i hB.2.1 (vp_in_nI (by omega) (by omega))
        · have h7 : 0 ≤ f := h7
          have h7' : (0 : Int) ≤ f.toInt := by simpa using Int32.le_iff_toInt_le.mp h7
          have h8 : m_uI (m_uI I1 (rf b 0) (I1 b 1).toNatClampNeg (lN c).toInt32) b 1 (m_uI I1 (rf b 0) (I1 b 1).toNatClampNeg (lN c).toInt32 b 1 + 1) b 2 = 0 := h8
          rw [hflag] at h8
          have q1 : ¬ z < 0 := fun q => by rw [if_pos q] at h8; exact absurd h8 (by decide)
          refine ⟨hb, Or.inl rfl, fin 0 (fun q => ?_) (fun _ => rfl)⟩
          have := Int.mul_nonneg (show 0 ≤ z by omega) h7'
          omega
        · have h7 : 0 ≤ f := h7
          have h7' : (0 : Int) ≤ f.toInt := by simpa using Int32.le_iff_toInt_le.mp h7
          have h8 : ¬ m_uI (m_uI I1 (rf b 0) (I1 b 1).toNatClampNeg (lN c).toInt32) b 1 (m_uI I1 (rf b 0) (I1 b 1).toNatClampNeg (lN c).toInt32 b 1 + 1) b 2 = 0 := h8
          rw [hflag] at h8
          have q1 : z < 0 := by
            rcases Int.lt_or_le z 0 with q | q
            · exact q
            · rw [if_neg (by omega)] at h8; exact absurd rfl h8
          refine ⟨hb, Or.inr rfl, fin 1 (fun _ => rfl) (fun q => ?_)⟩
          have := Int.mul_nonpos_of_nonpos_of_nonneg (show z ≤ 0 by omega) h7'
          omega
        · have h7 : ¬ 0 ≤ f := h7
          have h7' : f.toInt < 0 := by
            rcases Int.lt_or_le f.toInt 0 with q | q
            · exact q
            · exact absurd (by rw [Int32.le_iff_toInt_le]; simpa using q) h7
          have h8 : m_uI (m_uI I1 (rf b 0) (I1 b 1).toNatClampNeg (lN c).toInt32) b 1 (m_uI I1 (rf b 0) (I1 b 1).toNatClampNeg (lN c).toInt32 b 1 + 1) b 2 = 1 := h8
          rw [hflag] at h8
          have q1 : z < 0 := by
            rcases Int.lt_or_le z 0 with q | q
            · exact q
            · rw [if_neg (by omega)] at h8; exact absurd h8 (by decide)
          refine ⟨hb, Or.inl rfl, fin 0 (fun q => ?_) (fun _ => rfl)⟩
          have := Int.mul_pos_of_neg_of_neg q1 h7'
          omega
        · have h7 : ¬ 0 ≤ f := h7
          have h7' : f.toInt < 0 := by
            rcases Int.lt_or_le f.toInt 0 with q | q
            · exact q
            · exact absurd (by rw [Int32.le_iff_toInt_le]; simpa using q) h7
          have h8 : ¬ m_uI (m_uI I1 (rf b 0) (I1 b 1).toNatClampNeg (lN c).toInt32) b 1 (m_uI I1 (rf b 0) (I1 b 1).toNatClampNeg (lN c).toInt32 b 1 + 1) b 2 = 1 := h8
          rw [hflag] at h8
          have q1 : ¬ z < 0 := fun q => by rw [if_pos q] at h8; exact absurd rfl h8
          refine ⟨hb, Or.inr rfl, fin 1 (fun _ => rfl) (fun q => ?_)⟩
          have := Int.mul_nonpos_of_nonneg_of_nonpos (show 0 ≤ z by omega) (show f.toInt ≤ 0 by omega)
          omega
      · have h : ¬ I1 b 1 ≤ nI i := h
        rw [hIb, h1] at h
        have hlt : i < n := by
          rcases Nat.lt_or_ge i n with q | q
          · exact q
          · exact absurd (nI_le q (by omega)) h
        have d1 := bdg_lt rf I b i
        have hpr : f.toInt.natAbs * bdg rf I b i ≤ f.toInt.natAbs * (2 ^ 32 - 1) := Nat.mul_le_mul_left _ (by omega)
        have es : lN c + lN f.toInt.natAbs * ((I1 (rf b 0) (nI i).toNatClampNeg).toInt64 &&& 4294967295) = lN (c + f.toInt.natAbs * bdg rf I b i) := by
          rw [nI_clamp (by omega), l_mask, e2 i (Nat.le_refl _), lN_mul, lN_add]
          rfl
        refine ⟨hb, m_inb_i hB.2.1 (vp_in_nI (by omega) (by omega)), hb, m_inb_i hB.2.1 (vp_in_nI (by omega) (by omega)), n - (i + 1), 0, Or.inl (by omega), i + 1, (c + f.toInt.natAbs * bdg rf I b i) / 2 ^ 32, ?_, rfl, rfl, rfl, by omega, by omega, ?_, ?_, ?_⟩
        · rw [es, l_shr32 (by omega), ← nI_1]
        · intro q hq
          rw [uI_a _ _ _ hq, e1 q hq]
        · intro k hk
          rw [nI_clamp (by omega), uI_k _ _ _ (by omega), e2 k (by omega)]
        · rw [es, lN_i, nI_clamp (by omega)]
          have e9 : bdg rf (m_uI I1 (rf b 0) i (nI (c + f.toInt.natAbs * bdg rf I b i))) b i = (c + f.toInt.natAbs * bdg rf I b i) % 2 ^ 32 := by
            unfold bdg
            rw [uI_s, u32_nI]
          rw [dv, e9, dv_congr (h := bdg rf I1 b) (fun k hk => by
            unfold bdg
            rw [uI_k _ _ _ (by omega)]), dv, Nat.pow_succ]
          exact ti_step e3
    · cases hc
end
section
/-! ===== shiftRight, inverseOf, divideByOdd, divideWhole ===== -/
theorem shr_lem {X P Y r : Nat} (h : X = P + 2 ^ 64 * Y) (hr : r ≤ 32) : X / 2 ^ r % 2 ^ 32 = P / 2 ^ r % 2 ^ 32 := by
  have e1 : 2 ^ 64 = 2 ^ r * (2 ^ 32 * 2 ^ (32 - r)) := by
    rw [← Nat.pow_add, ← Nat.pow_add]
    congr 1
    omega
  rw [h, e1, Nat.mul_assoc, Nat.add_mul_div_left _ _ (Nat.two_pow_pos r), Nat.mul_assoc, Nat.add_mul_mod_self_left]
theorem dv_of {B : Nat} (v : Nat) : ∀ m, dv B (fun i => v / B ^ i % B) m = v % B ^ m
  | 0 => by simp [dv, Nat.mod_one]
  | m + 1 => by rw [dv, dv_of v m, Nat.mod_pow_succ, Nat.mul_comm]
theorem l_shl32i (x : Int32) : x.toInt64 <<< ((32 : Int32).toInt64 &&& 63) = lN (u32 x * 2 ^ 32) := by
  apply u64_inj
  rw [u64_lN, Nat.mod_eq_of_lt (by have := u32_lt x; omega)]
  unfold u64 u32
  rw [show ((32 : Int32).toInt64 &&& 63) = 32 by decide, Int64.toBitVec_shiftLeft, Int32.toBitVec_toInt64]
  rw [show ((32 : Int64).toBitVec.smod 64) = 32#64 by decide]
  show ((x.toBitVec.signExtend 64) <<< (32 : Nat)).toNat = _
  rw [BitVec.toNat_shiftLeft, BitVec.toNat_signExtend, BitVec.toNat_setWidth, Nat.shiftLeft_eq]
  have h := x.toBitVec.isLt
  split <;> omega
theorem l_ushr {P r : Nat} (hP : P < 2 ^ 64) (hr : r < 32) : ((lN P).toUInt64 >>> ((nI r).toInt64.toUInt64 &&& Int64.toUInt64 63)).toInt64 = lN (P / 2 ^ r) := by
  have e : ∀ r, r < 32 → ((nI r).toInt64.toUInt64 &&& Int64.toUInt64 63) = UInt64.ofNat r := by decide +kernel
  rw [e r hr]
  apply u64_inj
  rw [u64_lN, Nat.mod_eq_of_lt (Nat.lt_of_le_of_lt (Nat.div_le_self _ _) hP)]
  unfold u64
  have h3 : r % 64 = r := Nat.mod_eq_of_lt (by omega)
  simp [lN, Int64.toBitVec_ofNat, Nat.mod_eq_of_lt hP, Nat.shiftRight_eq_div_pow, h3]
def pt_shiftRight : mSH → mRF → mPT := m_pv 0 (fun sh rf b rest I J K => ∃ (k : Nat) (z q : Int), rest = [.inl (nI k)] ∧ k < 2 ^ 26 ∧ BIs sh rf I b z ∧ z = 2 ^ k * q ∧ ∀ I1, BCh rf I I1 b → BIs sh rf I1 b q → K none I1 J)
def ct_X0_shiftRight (sh : mSH) (rf : mRF) : Nat → Option (Nat × Bool × mPT) := fun k => match k with
  | 7 => some (2, false, pt_max sh rf)
  | 27 => some (1, true, pt_trim sh rf)
  | _ => none
set_option maxRecDepth 20000 in
theorem ce_X0_shiftRight : m_CE RX0 1 21 cX0_shiftRight 8 ct_X0_shiftRight := by
  intro p l e s m args below meth c Q D cs ad sh rf N hx hb hml hown hts hK hi hN k n vf pt h
  unfold ct_X0_shiftRight at h
  split at h
  · cases h
    exact m_CG_max hx hb hml hown hts hK hi hN (m_wck_ok (l := [(Cond.methodLink RX0 7 Lib.Math.max.name, 93), (Cond.static Lib.Math.max.name, 94), (Cond.initialized "java/lang/Math", 59), (Cond.code Lib.Math.max.name Lib.Math.max.code 2 (some .int), 95)]) (by decide +kernel)) ⟨Nat.le_of_ble_eq_true rfl, Nat.le_of_ble_eq_true rfl⟩
  · cases h
    exact m_CG_V mt_X0_trim hx hb hml hown hts hK hi hN (ci := 0) m_pv_rec rfl rfl (m_wck_ok (l := [(Cond.methodLink RX0 27 yX0_trim, 179), (Cond.instanceMethod yX0_trim, 181), (Cond.selects RX0 yX0_trim yX0_trim, 0), (Cond.initialized RX0, 58), (Cond.code yX0_trim cX0_trim 1 none, 182)]) (by decide +kernel)) ⟨rfl, by decide +kernel, by decide +kernel, by decide +kernel⟩ ⟨Nat.le_of_ble_eq_true rfl, Nat.le_of_ble_eq_true rfl⟩
  · cases h
set_option maxHeartbeats 4000000 in
set_option maxRecDepth 100000 in
theorem mt_X0_shiftRight : m_Mt yX0_shiftRight cX0_shiftRight 8 none 1 21 pt_shiftRight := by
  refine m_methodG (fl := fl_X0) (kI := kI_X0) (kJ := kJ_X0) (ct := ct_X0_shiftRight) (cd := cd_X0_shiftRight) (cut := [(12, [0, 2, 3, 4]), (51, [0, 2, 3, 4])]) (rk := 0) (fu := 80) (by decide +kernel) fl_X0_ok kI_X0_ok kJ_X0_ok ce_X0_shiftRight rfl ck_X0_shiftRight ⟨_, _, rfl, rfl⟩ ?_
  intro sh rf As I J K hpt
  obtain ⟨b, rest, rfl, hb, k, z, q, rfl, hk, ⟨cap, n, hB, h1, h2, h4, h5, h6⟩, hzq, hK⟩ := hpt
  have hcap := hB.2.2
  have hne := hB.ne
  have hp2 : (0 : Int) < 2 ^ k := Int.pow_pos (by decide)
  obtain ⟨wh, hwh⟩ : ∃ wh, wh = k / 32 := ⟨_, rfl⟩
  obtain ⟨r, hr⟩ : ∃ r, r = k % 32 := ⟨_, rfl⟩
  have ew : nI k >>> ((5 : Int32) &&& 31) = nI wh := by rw [hwh]; exact pk_shrN (by omega) _ 5 (by decide)
  have er : nI k &&& 31 = nI r := by rw [hr]; exact pk_andN (by omega) 5 (by decide)
  have hZ : z.natAbs = 2 ^ k * q.natAbs := by
    rw [hzq, Int.natAbs_mul, Int.natAbs_pow]
    rfl
  have hV : z.natAbs / 2 ^ k = q.natAbs := by
    rw [hZ, Nat.mul_div_cancel_left _ (Nat.two_pow_pos k)]
  have hdg : ∀ i, bdg rf I b i < 2 ^ 32 := fun i => bdg_lt rf I b i
  refine ⟨Nat.le_of_ble_eq_true rfl, fun a b9 pc vs st I1 J1 => ∃ i, vs = [.inr (.inr b), .inl (nI wh), .inl (nI r), .inl (nI i)] ∧ J1 = J ∧ a = n - wh - i ∧ i ≤ n - wh ∧ (∀ q, q ≠ rf b 0 → I1 q = I q) ∧ (∀ j, i ≤ j → I1 (rf b 0) j = I (rf b 0) j) ∧ (∀ j, j < i → u32 (I1 (rf b 0) j) = q.natAbs / (2 ^ 32) ^ j % 2 ^ 32) ∧ (pc = 12 ∧ st = [] ∧ b9 = 1 ∨ pc = 51 ∧ b9 = 0 ∧ i + wh < n ∧ ∃ ab : Int32, st = [.inl ab] ∧ u32 ab = dz (bdg rf I b) n (i + wh + 1)), ?_, ?_⟩
  · refine ⟨n - wh - 0, 1, 0, ?_, rfl, rfl, Nat.zero_le _, fun _ _ => rfl, fun _ _ => rfl, fun j h => absurd h (Nat.not_lt_zero j), Or.inl ⟨rfl, rfl, rfl⟩⟩
    rw [← ew, ← er]
    rfl
  · intro pc ks a b9 vs st I1 J1 hc hI
    obtain ⟨i, rfl, rfl, rfl, hi, e1, e2, e3, e5⟩ := hI
    have hIb : I1 b = I b := e1 b hne
    rcases m_cu1 hc with ⟨rfl, rfl⟩ | hc
    · obtain ⟨rfl, rfl⟩ : st = [] ∧ b9 = 1 := by
        rcases e5 with ⟨-, q1⟩ | ⟨q, -⟩
        · exact q1
        · cases q
      refine ⟨hb, fun h => ?_, fun h => ?_⟩
      · have h : I1 b 1 ≤ nI i + nI wh := h
        rw [hIb, h1, nI_add] at h
        have hge := (nI_leI (by omega) (by omega)).mp h
        obtain rfl : i = n - wh := by omega
        refine ⟨hb, I1 b 1 - nI wh, 0, rfl, hb, ?_⟩
        have es : (if I1 b 1 - nI wh < 0 then (0 : Int32) else I1 b 1 - nI wh) = nI (n - wh) := by
          rw [hIb, h1]
          rcases Nat.lt_or_ge n wh with q | q
          · rw [if_pos (pk_sneg (by omega) q), show n - wh = 0 by omega]
            rfl
          · rw [pk_sub q, if_neg (nI_pos (by omega))]
        rw [es]
        refine ⟨b, [], rfl, hb, cap, n - wh, q, rfl, hB, ?_, by omega, ?_, ?_, ?_, ?_⟩
        · rw [uI_s]
        · rw [dv_congr (h := fun j => q.natAbs / (2 ^ 32) ^ j % 2 ^ 32) (fun j hj => by
            unfold bdg
            rw [uI_a _ _ _ hne.symm]
            exact e3 j hj), dv_of]
          apply Nat.mod_eq_of_lt
          have hzl : z.natAbs < (2 ^ 32) ^ n := by
            rw [← h6]
            exact dv_lt (fun j _ => hdg j)
          rw [← hV, Nat.div_lt_iff_lt_mul (Nat.two_pow_pos k)]
          refine Nat.lt_of_lt_of_le hzl ?_
          rw [← Nat.pow_mul, ← Nat.pow_mul, ← Nat.pow_add]
          exact Nat.pow_le_pow_right (by decide) (by omega)
        · intro hq
          rw [uI_k _ _ _ (by decide), hIb, h5, if_pos]
          rw [hzq]
          exact Int.mul_neg_of_pos_of_neg hp2 hq
        · intro hq
          rw [uI_k _ _ _ (by decide), hIb, h5, if_neg]
          rw [hzq]
          have := Int.mul_pos hp2 hq
          omega
        · intro I2 k1 k2
          refine hK I2 (fun a k3 k4 => ?_) k2
          rw [k1 a k3, uI_a _ _ _ k3, e1 a k4]
      · have h : ¬ I1 b 1 ≤ nI i + nI wh := h
        rw [hIb, h1, nI_add] at h
        have hlt : i + wh < n := by
          rcases Nat.lt_or_ge (i + wh) n with q | q
          · exact q
          · exact absurd (nI_le q (by omega)) h
        refine ⟨hb, fun h7 => ?_, fun h7 => ?_⟩
        · have h7 : I1 b 1 ≤ nI i + nI wh + 1 := h7
          rw [hIb, h1, nI_add, nI_1] at h7
          have h8 := (nI_leI (by omega) (by omega)).mp h7
          refine ⟨n - wh - i, 0, Or.inr ⟨rfl, by omega⟩, i, rfl, rfl, rfl, hi, e1, e2, e3, Or.inr ⟨rfl, rfl, hlt, 0, rfl, ?_⟩⟩
          unfold dz
          rw [if_neg (by omega)]
          rfl
        · have h7 : ¬ I1 b 1 ≤ nI i + nI wh + 1 := h7
          rw [hIb, h1, nI_add, nI_1] at h7
          have h8 : i + wh + 1 < n := by
            rcases Nat.lt_or_ge (i + wh + 1) n with q | q
            · exact q
            · exact absurd (nI_le q (by omega)) h7
          have e6 : nI i + nI wh + 1 = nI (i + wh + 1) := by rw [nI_add, nI_1]
          refine ⟨hb, ?_, n - wh - i, 0, Or.inr ⟨rfl, by omega⟩, i, rfl, rfl, rfl, hi, e1, e2, e3, Or.inr ⟨rfl, rfl, hlt, _, rfl, ?_⟩⟩
          · show m_inb sh (rf b 0) 0 (nI i + nI wh + 1)
            rw [e6]
            exact m_inb_i hB.2.1 (vp_in_nI (by omega) (by omega))
          · show u32 (I1 (rf b 0) (nI i + nI wh + 1).toNatClampNeg) = _
            rw [e6, nI_clamp (by omega), e2 _ (by omega)]
            unfold dz
            rw [if_pos h8]
            rfl
    rcases m_cu1 hc with ⟨rfl, rfl⟩ | hc
    · obtain ⟨rfl, hlt, ab, rfl, hab⟩ : b9 = 0 ∧ i + wh < n ∧ ∃ ab : Int32, st = [.inl ab] ∧ u32 ab = dz (bdg rf I b) n (i + wh + 1) := by
        rcases e5 with ⟨q, -⟩ | ⟨-, q1⟩
        · cases q
        · exact q1
      have e6 : nI i + nI wh = nI (i + wh) := nI_add i wh
      have d1 := hdg (i + wh)
      have d2 := u32_lt ab
      have es : ab.toInt64 <<< ((32 : Int32).toInt64 &&& 63) ||| ((I1 (rf b 0) (nI i + nI wh).toNatClampNeg).toInt64 &&& 4294967295) = lN (u32 ab * 2 ^ 32 + bdg rf I b (i + wh)) := by
        rw [e6, nI_clamp (by omega), l_mask, e2 _ (by omega), l_shl32i]
        exact l_or d1 d2
      refine ⟨hb, ?_, hb, m_inb_i hB.2.1 (vp_in_nI (by omega) (by omega)), n - wh - (i + 1), 1, Or.inl (by omega), i + 1, ?_, rfl, rfl, by omega, ?_, ?_, ?_, Or.inl ⟨rfl, rfl, rfl⟩⟩
      · show m_inb sh (rf b 0) 0 (nI i + nI wh)
        rw [e6]
        exact m_inb_i hB.2.1 (vp_in_nI (by omega) (by omega))
      · rw [← nI_1]
      · intro a ha
        rw [uI_a _ _ _ ha, e1 a ha]
      · intro j hj
        rw [nI_clamp (by omega), uI_k _ _ _ (by omega), e2 j (by omega)]
      · intro j hj
        rw [nI_clamp (by omega)]
        by_cases hji : j = i
        · subst hji
          rw [uI_s, es, l_ushr (by omega) (by omega), lN_i, u32_nI, ← hV, Nat.div_div_eq_div_mul]
          have ep : 2 ^ k * (2 ^ 32) ^ j = (2 ^ 32) ^ (j + wh) * 2 ^ r := by
            rw [← Nat.pow_mul, ← Nat.pow_mul, ← Nat.pow_add, ← Nat.pow_add]
            congr 1
            omega
          rw [ep, ← Nat.div_div_eq_div_mul, ← h6]
          obtain ⟨m, hm⟩ : ∃ m, n = j + wh + (m + 1) := ⟨n - (j + wh) - 1, by omega⟩
          have ex : dv (2 ^ 32) (bdg rf I b) n / (2 ^ 32) ^ (j + wh) = (u32 ab * 2 ^ 32 + bdg rf I b (j + wh)) + 2 ^ 64 * dv (2 ^ 32) (fun t => bdg rf I b (j + wh + 2 + t)) (m - 1) := by
            rw [hm, dv_div (by decide) hdg]
            rcases Nat.eq_zero_or_pos m with q0 | q0
            · subst q0
              have : u32 ab = 0 := by rw [hab]; unfold dz; rw [if_neg (by omega)]
              rw [this]
              simp [dv]
            · obtain ⟨m', rfl⟩ : ∃ m', m = m' + 1 := ⟨m - 1, by omega⟩
              have : u32 ab = bdg rf I b (j + wh + 1) := by rw [hab]; unfold dz; rw [if_pos (by omega)]
              rw [this, show m' + 1 + 1 = 2 + m' by omega, dv_split 2 m', show m' + 1 - 1 = m' by omega]
              have e9 : (fun t => (fun t => bdg rf I b (j + wh + t)) (2 + t)) = (fun t => bdg rf I b (j + wh + 2 + t)) := by
                funext t
                show bdg rf I b (j + wh + (2 + t)) = _
                rw [Nat.add_assoc (j + wh) 2 t]
              rw [e9]
              simp only [dv, Nat.pow_zero, Nat.pow_one, Nat.mul_one, Nat.zero_add, Nat.add_zero]
              omega
          exact (shr_lem ex (by omega)).symm
        · rw [uI_k _ _ _ hji]
          exact e3 j (by omega)
    · cases hc

def pt_inverseOf (_ : mSH) (_ : mRF) : mPT := fun As I J K => ∃ x : Int32, As = [.inl x] ∧ u32 x % 2 = 1 ∧ ∀ v : Int32, x * v = 1 → K (some (.inl v)) I J
def ee : Nat → Int32
  | 0 => 8
  | s + 1 => ee s * ee s
theorem ee_step {x v t e : Int32} (h : x * v = 1 + t * e) : x * (v * (2 - x * v)) = 1 + (-(t * t)) * (e * e) := by
  have e1 : x * (v * (2 - x * v)) = (x * v) * (2 - x * v) := by rw [Int32.mul_assoc]
  rw [e1, h]
  grind
theorem odd_sq {x : Int32} (h : u32 x % 2 = 1) : ∃ t : Int32, x * x = 1 + t * ee 0 := by
  obtain ⟨m, hm⟩ : ∃ m, u32 x = 2 * m + 1 := ⟨u32 x / 2, by omega⟩
  obtain ⟨s, hs⟩ : ∃ s, m * (m + 1) = 2 * s := by
    refine ⟨m * (m + 1) / 2, ?_⟩
    have : m * (m + 1) % 2 = 0 := by
      rcases (show m % 2 = 0 ∨ m % 2 = 1 by omega) with q | q
      · rw [Nat.mul_mod, q]; simp
      · rw [Nat.mul_mod, show (m + 1) % 2 = 0 by omega]; simp
    omega
  refine ⟨nI s, ?_⟩
  rw [nI_of32 x, hm, pk_mul, show (1 : Int32) = nI 1 from rfl, show ee 0 = nI 8 from rfl, pk_mul, nI_add]
  congr 1
  have : (2 * m + 1) * (2 * m + 1) = 4 * (m * (m + 1)) + 1 := by grind
  omega
set_option maxHeartbeats 4000000 in
set_option maxRecDepth 100000 in
theorem mt_X0_inverseOf : m_Mt yX0_inverseOf cX0_inverseOf 3 (some .int) 0 0 pt_inverseOf := by
  refine m_methodG (fl := fl_X0) (kI := kI_X0) (kJ := kJ_X0) (ct := ct_none) (cd := cd_X0_inverseOf) (cut := [(4, [0, 1, 2])]) (rk := 1) (fu := 80) (by decide +kernel) fl_X0_ok kI_X0_ok kJ_X0_ok (ce_none _ _ _ _ _) rfl ck_X0_inverseOf ⟨_, _, rfl, rfl⟩ ?_
  intro sh rf As I J K hpt
  obtain ⟨x, rfl, hx, hK⟩ := hpt
  refine ⟨Nat.le_of_ble_eq_true rfl, fun a b9 pc vs st I1 J1 => ∃ (s : Nat) (v t : Int32), vs = [.inl x, .inl v, .inl (nI s)] ∧ st = [] ∧ I1 = I ∧ J1 = J ∧ a = 4 - s ∧ s ≤ 4 ∧ x * v = 1 + t * ee s, ?_, ?_⟩
  · obtain ⟨t, ht⟩ := odd_sq hx
    exact ⟨4, 0, 0, x, t, rfl, rfl, rfl, rfl, rfl, by omega, ht⟩
  · intro pc ks a b9 vs st I1 J1 hc hI
    rcases m_cu1 hc with ⟨rfl, rfl⟩ | hc
    · obtain ⟨s, v, t, rfl, rfl, rfl, rfl, rfl, hs, ht⟩ := hI
      refine ⟨fun h => ?_, fun h => ?_⟩
      · have hge := (nI_leI (a := 4) (b := s) (by decide) (by omega)).mp h
        obtain rfl : s = 4 := by omega
        refine hK v ?_
        rw [ht, show ee 4 = 0 by decide, Int32.mul_zero, Int32.add_zero]
      · have hlt : s < 4 := by
          rcases Nat.lt_or_ge s 4 with q | q
          · exact q
          · exact absurd (nI_le q (by omega)) h
        refine ⟨4 - (s + 1), 0, Or.inl (by omega), s + 1, v * (2 - x * v), -(t * t), ?_, rfl, rfl, rfl, rfl, by omega, ee_step ht⟩
        rw [← nI_1]
    · cases hc
end
section
/-! ===== division without rest ===== -/
theorem u32_mul (a b : Int32) : u32 (a * b) = u32 a * u32 b % 2 ^ 32 := by
  unfold u32
  rw [Int32.toBitVec_mul, BitVec.toNat_mul]
theorem l_and32 {s : Nat} (h : s < 2 ^ 64) : lN s &&& 4294967295 = lN (s % 2 ^ 32) := by
  apply u64_inj
  rw [u64_lN, Nat.mod_eq_of_lt (by omega)]
  unfold u64
  rw [Int64.toBitVec_and, show (4294967295 : Int64).toBitVec = BitVec.ofNat 64 (2 ^ 32 - 1) by decide, BitVec.toNat_and, BitVec.toNat_ofNat, Nat.mod_eq_of_lt (by decide), Nat.and_two_pow_sub_one_eq_mod]
  have := u64_lN s
  rw [Nat.mod_eq_of_lt h] at this
  unfold u64 at this
  rw [this]
/-- g less L, on the machine -/
theorem dif_m {g L : Nat} (hg : g < 2 ^ 32) (hL : L < 2 ^ 33) (hl : L ≤ g + 2 ^ 32) : (0 ≤ lg_cmp (lN g - lN L) 0 ↔ L ≤ g) ∧ u32 (lN g - lN L).toInt32 = (if L ≤ g then g - L else (g + 2 ^ 32 - L) % 2 ^ 32) := by
  have e : lN g - lN L = Int64.ofInt ((g : Int) - L) := by rw [lN_int, lN_int, ← Int64.ofInt_sub]
  have e2 : (Int64.ofInt ((g : Int) - L)).toInt = (g : Int) - L := by
    rw [Int64.toInt_ofInt_of_le (by omega) (by omega)]
  refine ⟨?_, ?_⟩
  · rw [l_ge0, e, e2]
    omega
  · rw [e, l_ofInt_i]
    have := u32_ofInt ((g : Int) - L)
    split <;> omega
theorem odd_cancel {D T q k : Int} {W : Nat} (hD : D % 2 = 1) (h : T * D = D * q + k * (2 ^ 32) ^ W) (hT0 : 0 ≤ T) (hT : T < (2 ^ 32) ^ W) (hq0 : 0 ≤ q) (hq : q < (2 ^ 32) ^ W) : T = q := by
  have h1 : D * (T - q) = k * (2 ^ 32) ^ W := by grind
  have h2 : ((2 ^ 32) ^ W : Int) ∣ D * (T - q) := ⟨k, by rw [h1, Int.mul_comm]⟩
  have h3 : (2 ^ 32) ^ W ∣ D.natAbs * (T - q).natAbs := by
    have := Int.natAbs_dvd_natAbs.mpr h2
    rw [Int.natAbs_mul] at this
    have e : ((2 ^ 32) ^ W : Int).natAbs = (2 ^ 32) ^ W := by rw [Int.natAbs_pow]; rfl
    rw [e] at this
    exact this
  have hc : Nat.Coprime ((2 ^ 32) ^ W) D.natAbs := by
    rw [← Nat.pow_mul]
    apply Nat.Coprime.pow_left
    show Nat.gcd 2 D.natAbs = 1
    rw [Nat.gcd_rec, show D.natAbs % 2 = 1 by omega]
    rfl
  have h4 := hc.dvd_of_dvd_mul_left h3
  have h5 : (T - q).natAbs < (2 ^ 32) ^ W := by
    have e : (((2 ^ 32) ^ W : Nat) : Int) = (2 ^ 32) ^ W := by
      rw [Int.natCast_pow]; rfl
    omega
  have h6 := Nat.eq_zero_of_dvd_of_lt h4 h5
  omega
theorem div_step1 {B P Q c x y g g' bo T T' T0 D s : Nat} (hs : s = c + x * y) (h : T + x * P * D = T0 + c * (P * Q)) (hu : T' + g * (P * Q) = T + g' * (P * Q)) (hg : g' + s % B = g + bo * B) : T' + x * P * (D + y * Q) = T0 + (s / B + bo) * (P * (Q * B)) := by
  have e := Nat.div_add_mod s B
  generalize s / B = u at e ⊢
  generalize s % B = r at e hg
  have e2 : (B * u + r) * (P * Q) = (c + x * y) * (P * Q) := by rw [e, hs]
  have e3 : (g' + r) * (P * Q) = (g + bo * B) * (P * Q) := by rw [hg]
  grind
def pt_divideByOdd : mSH → mRF → mPT := m_pv 0 (fun sh rf b rest I J K => ∃ (f : Nat) (z d q : Int), rest = [.inr (.inr f)] ∧ BL sh rf ∧ f ≠ b ∧ BIs sh rf I b z ∧ BIs sh rf I f d ∧ d.natAbs % 2 = 1 ∧ z = d * q ∧ ∀ I1, BCh rf I I1 b → BIs sh rf I1 b q → K none I1 J)
def dboInv (rf : mRF) (b f W nd : Nat) (z d : Int) (I : mPI) (J : mPJ) : Nat → Nat → mCV := fun a b9 pc vs st I1 J1 => ∃ (i T0 : Nat) (v : Int32) (k : Int), st = [] ∧ J1 = J ∧ I (rf f 0) 0 * v = 1 ∧ (∀ q, q ≠ rf b 0 → I1 q = I q) ∧ i ≤ W ∧ a = W - i ∧ (T0 : Int) - (dv (2 ^ 32) (bdg rf I1 b) i : Int) + (dv (2 ^ 32) (bdg rf I1 b) i : Int) * (d.natAbs : Int) = (z.natAbs : Int) + k * (2 ^ 32) ^ W ∧
      ((pc = 29 ∧ b9 = 2 * (nd + W + 1) + 2 ∧ vs = [.inr (.inr b), .inr (.inr f), .inl (nI W), .inl v, .inl (nI i)] ∧ dv (2 ^ 32) (bdg rf I1 b) W = T0) ∨
       (i < W ∧ ∃ (x c j : Nat) (dg : Int32), x = u32 dg ∧ c ≤ x ∧
        ((pc = 61 ∧ b9 = (nd + W + 1) + (nd - j) + 1 ∧ j ≤ nd ∧ i + j ≤ W ∧ vs = [.inr (.inr b), .inr (.inr f), .inl (nI W), .inl v, .inl (nI i), .inl dg, .inr (.inl (lN x)), .inr (.inl (lN c)), .inl (nI j)] ∧ (j = 0 → c = 0 ∧ x * bdg rf I f 0 % 2 ^ 32 = bdg rf I1 b i) ∧ (1 ≤ j → bdg rf I1 b i = 0) ∧ dv (2 ^ 32) (bdg rf I1 b) W + x * (2 ^ 32) ^ i * dv (2 ^ 32) (bdg rf I f) j = T0 + c * ((2 ^ 32) ^ i * (2 ^ 32) ^ j)) ∨
         (bdg rf I1 b i = 0 ∧ ∃ e : Int,
          ((pc = 172 ∧ i + 1 ≤ j ∧ j ≤ W + nd ∧ b9 = (W - j) + 1 ∧ vs = [.inr (.inr b), .inr (.inr f), .inl (nI W), .inl v, .inl (nI i), .inl dg, .inr (.inl (lN c)), .inl (nI j)] ∧ (dv (2 ^ 32) (bdg rf I1 b) W : Int) + x * (2 ^ 32) ^ i * (d.natAbs : Int) = T0 + c * (2 ^ 32) ^ j + e * (2 ^ 32) ^ W) ∨
           (pc = 232 ∧ b9 = 0 ∧ vs = [.inr (.inr b), .inr (.inr f), .inl (nI W), .inl v, .inl (nI i), .inl dg] ∧ (dv (2 ^ 32) (bdg rf I1 b) W : Int) + x * (2 ^ 32) ^ i * (d.natAbs : Int) = T0 + e * (2 ^ 32) ^ W))))))
def pt_divideWhole : mSH → mRF → mPT := m_pv 0 (fun sh rf b rest I J K => ∃ (f s caps : Nat) (z d q : Int), rest = [.inr (.inr f), .inr (.inr s)] ∧ BSh sh rf s caps ∧ BL sh rf ∧ f ≠ s ∧ b ≠ s ∧ BIs sh rf I b z ∧ BIs sh rf I f d ∧ d ≠ 0 ∧ z = d * q ∧ d.natAbs < 2 ^ (32 * caps) ∧ caps < 2 ^ 20 ∧ ∀ I1, BCh2 rf I I1 b s → BIs sh rf I1 b q → K none I1 J)
def ct_X0_divideByOdd (sh : mSH) (rf : mRF) : Nat → Option (Nat × Bool × mPT) := fun k => match k with
  | 7 => some (2, false, pt_max sh rf)
  | 103 => some (1, false, pt_inverseOf sh rf)
  | 27 => some (1, true, pt_trim sh rf)
  | _ => none
set_option maxRecDepth 20000 in
theorem ce_X0_divideByOdd : m_CE RX0 1 22 cX0_divideByOdd 13 ct_X0_divideByOdd := by
  intro p l e s m args below meth c Q D cs ad sh rf N hx hb hml hown hts hK hi hN k n vf pt h
  unfold ct_X0_divideByOdd at h
  split at h
  · cases h
    exact m_CG_max hx hb hml hown hts hK hi hN (m_wck_ok (l := [(Cond.methodLink RX0 7 Lib.Math.max.name, 93), (Cond.static Lib.Math.max.name, 94), (Cond.initialized "java/lang/Math", 59), (Cond.code Lib.Math.max.name Lib.Math.max.code 2 (some .int), 95)]) (by decide +kernel)) ⟨Nat.le_of_ble_eq_true rfl, Nat.le_of_ble_eq_true rfl⟩
  · cases h
    exact m_CG_S mt_X0_inverseOf hx hb hml hown hts hK hi hN (m_wck_ok (l := [(Cond.methodLink RX0 103 yX0_inverseOf, 555), (Cond.static yX0_inverseOf, 556), (Cond.initialized RX0, 58), (Cond.code yX0_inverseOf cX0_inverseOf 3 (some .int), 557)]) (by decide +kernel)) ⟨by decide +kernel, by decide +kernel, by decide +kernel⟩ ⟨Nat.le_of_ble_eq_true rfl, Nat.le_of_ble_eq_true rfl⟩
  · cases h
    exact m_CG_V mt_X0_trim hx hb hml hown hts hK hi hN (ci := 0) m_pv_rec rfl rfl (m_wck_ok (l := [(Cond.methodLink RX0 27 yX0_trim, 179), (Cond.instanceMethod yX0_trim, 181), (Cond.selects RX0 yX0_trim yX0_trim, 0), (Cond.initialized RX0, 58), (Cond.code yX0_trim cX0_trim 1 none, 182)]) (by decide +kernel)) ⟨rfl, by decide +kernel, by decide +kernel, by decide +kernel⟩ ⟨Nat.le_of_ble_eq_true rfl, Nat.le_of_ble_eq_true rfl⟩
  · cases h
set_option maxHeartbeats 4000000 in
set_option maxRecDepth 100000 in
theorem mt_X0_divideByOdd : m_Mt yX0_divideByOdd cX0_divideByOdd 13 none 1 22 pt_divideByOdd := by
  refine m_methodG (fl := fl_X0) (kI := kI_X0) (kJ := kJ_X0) (ct := ct_X0_divideByOdd) (cd := cd_X0_divideByOdd) (cut := [(29, [0, 1, 2, 3, 4]), (61, [0, 1, 2, 3, 4, 5, 6, 8, 10]), (172, [0, 1, 2, 3, 4, 5, 8, 10]), (232, [0, 1, 2, 3, 4, 5])]) (rk := 0) (fu := 120) (by decide +kernel) fl_X0_ok kI_X0_ok kJ_X0_ok ce_X0_divideByOdd rfl ck_X0_divideByOdd ⟨_, _, rfl, rfl⟩ ?_
  intro sh rf As I J K hpt
  obtain ⟨b, rest, rfl, hb, f, z, d, q, rfl, hL, hfb, ⟨cap, n, hB, h1, h2, h4, h5, h6⟩, ⟨cap2, nd, hF, g1, g2, g4, g5, g6⟩, hodd, hzq, hK⟩ := hpt
  have hcap := hB.2.2
  have hcap2 := hF.2.2
  have hne := hB.ne
  have hfp : rf f 0 ≠ rf b 0 := fun e => hfb (hL f b hF.1 hB.1 e)
  have hf0 : f ≠ rf b 0 := hF.nex hB
  have hdg : ∀ I c i, bdg rf I c i < 2 ^ 32 := fun I c i => bdg_lt rf I c i
  have hnd : 1 ≤ nd := by
    rcases Nat.eq_zero_or_pos nd with e | e
    · have := (BIs.zero (sh := sh) g4 g6).mp e
      omega
    · exact e
  have hd0 : u32 (I (rf f 0) 0) % 2 = 1 := by
    obtain ⟨m, rfl⟩ : ∃ m, nd = m + 1 := ⟨nd - 1, by omega⟩
    have := dv_low (B := 2 ^ 32) (by decide) (hdg I f) m
    rw [g6] at this
    have e : bdg rf I f 0 = u32 (I (rf f 0) 0) := rfl
    omega
  obtain ⟨W, hW⟩ : ∃ W, W = n + 1 - nd := ⟨_, rfl⟩
  have eW : (if I b 1 - I f 1 + 1 < 0 then (0 : Int32) else I b 1 - I f 1 + 1) = nI W := by
    rw [h1, g1, show nI n - nI nd + 1 = nI (n + 1) - nI nd by rw [← nI_1]; grind]
    rcases Nat.lt_or_ge (n + 1) nd with e | e
    · rw [if_pos (pk_sneg (by omega) e), show W = 0 by omega]
      rfl
    · rw [pk_sub e, if_neg (nI_pos (by omega)), hW]
  have hMpos : 0 < (2 ^ 32) ^ W := Nat.pow_pos (by decide)
  have hqW : q.natAbs < (2 ^ 32) ^ W := by
    rcases Nat.lt_or_ge q.natAbs ((2 ^ 32) ^ W) with e | e
    · exact e
    · exfalso
      obtain ⟨m, rfl⟩ : ∃ m, nd = m + 1 := ⟨nd - 1, by omega⟩
      have a1 : (2 ^ 32) ^ m ≤ d.natAbs := by rw [← g6]; exact dv_top (fun e => g4 (by omega) (u32_0.mp e))
      have a2 : z.natAbs < (2 ^ 32) ^ n := by rw [← h6]; exact dv_lt (fun i _ => hdg I b i)
      have a3 : z.natAbs = d.natAbs * q.natAbs := by rw [hzq, Int.natAbs_mul]
      have a4 : (2 ^ 32) ^ m * (2 ^ 32) ^ W ≤ d.natAbs * q.natAbs := Nat.mul_le_mul a1 e
      rw [← Nat.pow_add] at a4
      have a5 : (2 ^ 32) ^ n ≤ (2 ^ 32) ^ (m + W) := Nat.pow_le_pow_right (by decide) (by omega)
      omega
  refine ⟨Nat.le_of_ble_eq_true rfl, dboInv rf b f W nd z d I J, ?_, ?_⟩
  · refine ⟨hb, hF.1, I b 1 - I f 1 + 1, 0, rfl, hF.1, m_inb_i hF.2.1 (vp_in_nI (n := 0) (by omega) (by omega)), _, rfl, hd0, fun v hv => ?_⟩
    have hz1 : ∃ k : Int, ((dv (2 ^ 32) (bdg rf I b) W : Nat) : Int) = (z.natAbs : Int) + k * (2 ^ 32) ^ W := by
      obtain ⟨m, hm⟩ : ∃ m, n = W + m := ⟨n - W, by omega⟩
      refine ⟨-((dv (2 ^ 32) (fun j => bdg rf I b (W + j)) m : Nat) : Int), ?_⟩
      rw [← h6, hm, dv_split W m, Int.natCast_add, Int.natCast_mul, Int.natCast_pow]
      have : ((2 ^ 32 : Nat) : Int) = 2 ^ 32 := rfl
      rw [this]
      grind
    obtain ⟨k, hk⟩ := hz1
    refine ⟨W, 2 * (nd + W + 1) + 2, 0, dv (2 ^ 32) (bdg rf I b) W, v, k, rfl, rfl, hv, fun _ _ => rfl, Nat.zero_le _, rfl, ?_, Or.inl ⟨rfl, rfl, ?_, rfl⟩⟩
    · show ((dv (2 ^ 32) (bdg rf I b) W : Nat) : Int) - ((0 : Nat) : Int) + ((0 : Nat) : Int) * _ = _
      rw [hk]
      simp
    · rw [← eW]
      rfl
  · intro pc ks a b9 vs st I1 J1 hc hI
    obtain ⟨i, T0, v, k, rfl, rfl, hv, e1, hi, rfl, hE, e5⟩ := hI
    have hIb : I1 b = I b := e1 b hne
    have hIf : I1 f = I f := e1 f hf0
    rcases m_cu1 hc with ⟨rfl, rfl⟩ | hc
    · obtain ⟨rfl, rfl, e3⟩ : b9 = 2 * (nd + W + 1) + 2 ∧ vs = [.inr (.inr b), .inr (.inr f), .inl (nI W), .inl v, .inl (nI i)] ∧ dv (2 ^ 32) (bdg rf I1 b) W = T0 := by
        rcases e5 with ⟨-, e⟩ | ⟨-, x, c, j, dg, -, -, ⟨e, -⟩ | ⟨-, e0, ⟨e, -⟩ | ⟨e, -⟩⟩⟩
        · exact e
        · cases e
        · cases e
        · cases e
      clear e5
      refine ⟨fun h => ?_, fun h => ?_⟩
      · have hge := (nI_leI (by omega) (by omega)).mp h
        obtain rfl : i = W := by omega
        have hT : dv (2 ^ 32) (bdg rf I1 b) i = q.natAbs := by
          have hzN : (z.natAbs : Int) = (d.natAbs : Int) * (q.natAbs : Int) := by rw [hzq, Int.natAbs_mul, Int.natCast_mul]
          have hlt : dv (2 ^ 32) (bdg rf I1 b) i < (2 ^ 32) ^ i := dv_lt (fun k _ => hdg I1 b k)
          have e : (((2 ^ 32) ^ i : Nat) : Int) = (2 ^ 32) ^ i := by rw [Int.natCast_pow]; rfl
          have := odd_cancel (D := (d.natAbs : Int)) (T := (dv (2 ^ 32) (bdg rf I1 b) i : Int)) (q := (q.natAbs : Int)) (k := k) (W := i) (by omega) (by rw [← hzN, ← hE, ← e3]; grind) (by omega) (by omega) (by omega) (by omega)
          omega
        have fin : ∀ s : Int32, (q < 0 → s = 1) → (0 < q → s = 0) → pt_trim sh rf [.inr (.inr b)] (m_uI (m_uI I1 b 1 (nI i)) b 2 s) J1 K := by
          intro s s1 s2
          refine ⟨b, [], rfl, hb, cap, i, q, rfl, hB, ?_, by omega, ?_, ?_, ?_, ?_⟩
          · rw [uI_k _ _ _ (by decide), uI_s]
          · rw [dv_congr (h := bdg rf I1 b) (fun k hk => by unfold bdg; rw [uI_a _ _ _ hne.symm, uI_a _ _ _ hne.symm]), hT]
          · intro e; rw [uI_s]; exact s1 e
          · intro e; rw [uI_s]; exact s2 e
          · intro I2 k1 k2
            refine hK I2 (fun e k3 k4 => ?_) k2
            rw [k1 e k3, uI_a _ _ _ k3, uI_a _ _ _ k3, e1 e k4]
        refine ⟨hb, hb, hF.1, fun h7 => ?_, fun h7 => ?_⟩
        · have h7 : m_uI I1 b 1 (nI i) b 2 = m_uI I1 b 1 (nI i) f 2 := h7
          rw [uI_k _ _ _ (by decide), uI_a _ _ _ hfb, hIb, hIf, h5, g5] at h7
          refine ⟨hb, Or.inl rfl, fin 0 (fun e => ?_) (fun _ => rfl)⟩
          exfalso
          by_cases q2 : d < 0
          · rw [if_pos q2, if_neg (by rw [hzq]; have := Int.mul_pos_of_neg_of_neg q2 e; omega)] at h7; exact absurd h7 (by decide)
          · rw [if_neg q2, if_pos (by rw [hzq]; exact Int.mul_neg_of_pos_of_neg (by omega) e)] at h7; exact absurd h7 (by decide)
        · have h7 : ¬ m_uI I1 b 1 (nI i) b 2 = m_uI I1 b 1 (nI i) f 2 := h7
          rw [uI_k _ _ _ (by decide), uI_a _ _ _ hfb, hIb, hIf, h5, g5] at h7
          refine ⟨hb, Or.inr rfl, fin 1 (fun _ => rfl) (fun e => ?_)⟩
          exfalso
          by_cases q2 : d < 0
          · rw [if_pos q2, if_pos (by rw [hzq]; exact Int.mul_neg_of_neg_of_pos q2 e)] at h7; exact absurd rfl h7
          · rw [if_neg q2, if_neg (by rw [hzq]; have := Int.mul_pos (show 0 < d by omega) e; omega)] at h7; exact absurd rfl h7
      · have hlt : i < W := by
          rcases Nat.lt_or_ge i W with e | e
          · exact e
          · exact absurd (nI_le e (by omega)) h
        obtain ⟨dg, hdg9⟩ : ∃ dg, dg = I1 (rf b 0) (nI i).toNatClampNeg * v := ⟨_, rfl⟩
        refine ⟨hb, m_inb_i hB.2.1 (vp_in_nI (by omega) (by omega)), W - i, (nd + W + 1) + (nd - 0) + 1, Or.inr ⟨rfl, by omega⟩, i, T0, v, k, rfl, rfl, hv, e1, hi, rfl, hE, Or.inr ⟨hlt, u32 dg, 0, 0, dg, rfl, Nat.zero_le _, Or.inl ⟨rfl, rfl, Nat.zero_le _, by omega, ?_, fun _ => ⟨rfl, ?_⟩, fun e => absurd e (by omega), ?_⟩⟩⟩
        · rw [l_mask, ← hdg9]
          rfl
        · rw [hdg9, nI_clamp (by omega)]
          show u32 (I1 (rf b 0) i * v) * u32 (I (rf f 0) 0) % 2 ^ 32 = u32 (I1 (rf b 0) i)
          rw [← u32_mul, Int32.mul_assoc, Int32.mul_comm v, hv, Int32.mul_one]
        · rw [e3]
          simp [dv]
    rcases m_cu1 hc with ⟨rfl, rfl⟩ | hc
    · obtain ⟨hlt, x, c, j, dg, hx, hcx, rfl, hj, hij, rfl, e6, e7, e8⟩ : i < W ∧ ∃ (x c j : Nat) (dg : Int32), x = u32 dg ∧ c ≤ x ∧ b9 = (nd + W + 1) + (nd - j) + 1 ∧ j ≤ nd ∧ i + j ≤ W ∧ vs = [.inr (.inr b), .inr (.inr f), .inl (nI W), .inl v, .inl (nI i), .inl dg, .inr (.inl (lN x)), .inr (.inl (lN c)), .inl (nI j)] ∧ (j = 0 → c = 0 ∧ x * bdg rf I f 0 % 2 ^ 32 = bdg rf I1 b i) ∧ (1 ≤ j → bdg rf I1 b i = 0) ∧ dv (2 ^ 32) (bdg rf I1 b) W + x * (2 ^ 32) ^ i * dv (2 ^ 32) (bdg rf I f) j = T0 + c * ((2 ^ 32) ^ i * (2 ^ 32) ^ j) := by
        rcases e5 with ⟨e, -⟩ | ⟨e9, x, c, j, dg, e10, e11, ⟨-, e⟩ | ⟨-, e0, ⟨e, -⟩ | ⟨e, -⟩⟩⟩
        · cases e
        · exact ⟨e9, x, c, j, dg, e10, e11, e⟩
        · cases e
        · cases e
      clear e5
      have hx32 : x < 2 ^ 32 := by rw [hx]; exact u32_lt dg
      have hp : ∀ t, (((2 ^ 32) ^ t : Nat) : Int) = (2 ^ 32) ^ t := fun t => by rw [Int.natCast_pow]; rfl
      refine ⟨hF.1, fun h => ?_, fun h => ?_⟩
      · have h : I1 f 1 ≤ nI j := h
        rw [hIf, g1] at h
        have hge := (nI_leI (by omega) (by omega)).mp h
        obtain rfl : j = nd := by omega
        refine ⟨hF.1, W - i, (W - (i + j)) + 1, Or.inr ⟨rfl, by omega⟩, i, T0, v, k, rfl, rfl, hv, e1, hi, rfl, hE, Or.inr ⟨hlt, x, c, i + j, dg, hx, hcx, Or.inr ⟨e7 hnd, 0, Or.inl ⟨rfl, by omega, by omega, rfl, ?_, ?_⟩⟩⟩⟩
        · rw [← nI_add, ← g1, ← hIf]
        · rw [g6] at e8
          have e9 := congrArg (fun t : Nat => (t : Int)) e8
          simp only [Int.natCast_add, Int.natCast_mul, hp] at e9
          rw [Int.zero_mul, Int.add_zero, Int.pow_add]
          exact e9
      · have h : ¬ I1 f 1 ≤ nI j := h
        rw [hIf, g1] at h
        have hjl : j < nd := by
          rcases Nat.lt_or_ge j nd with e | e
          · exact e
          · exact absurd (nI_le e (by omega)) h
        refine ⟨fun h7 => ?_, fun h7 => ?_⟩
        · have h7 : nI W ≤ nI i + nI j := h7
          rw [nI_add] at h7
          have hge := (nI_leI (by omega) (by omega)).mp h7
          have hij' : i + j = W := by omega
          obtain ⟨m, hm⟩ : ∃ m, nd = j + m := ⟨nd - j, by omega⟩
          refine ⟨hF.1, W - i, (W - (i + nd)) + 1, Or.inr ⟨rfl, by omega⟩, i, T0, v, k, rfl, rfl, hv, e1, hi, rfl, hE, Or.inr ⟨hlt, x, c, i + nd, dg, hx, hcx, Or.inr ⟨e7 (by omega), (c : Int) + (x : Int) * ((dv (2 ^ 32) (fun t => bdg rf I f (j + t)) m : Nat) : Int) - (c : Int) * (2 ^ 32) ^ m, Or.inl ⟨rfl, by omega, by omega, rfl, ?_, ?_⟩⟩⟩⟩
          · rw [← nI_add, ← g1, ← hIf]
          · have hd : (d.natAbs : Int) = ((dv (2 ^ 32) (bdg rf I f) j : Nat) : Int) + (2 ^ 32) ^ j * ((dv (2 ^ 32) (fun t => bdg rf I f (j + t)) m : Nat) : Int) := by
              rw [← g6, hm, dv_split j m, Int.natCast_add, Int.natCast_mul, hp]
            have e9 := congrArg (fun t : Nat => (t : Int)) e8
            simp only [Int.natCast_add, Int.natCast_mul, hp] at e9
            rw [hd, hm, ← hij', ← Nat.add_assoc, Int.pow_add _ (i + j), Int.pow_add _ i]
            grind
        · have h7 : ¬ nI W ≤ nI i + nI j := h7
          rw [nI_add] at h7
          have hijl : i + j < W := by
            rcases Nat.lt_or_ge (i + j) W with e | e
            · exact e
            · exact absurd (nI_le e (by omega)) h7
          have e6' : nI i + nI j = nI (i + j) := nI_add i j
          have i1 : m_inb sh (rf b 0) 0 (nI i + nI j) := by
            rw [e6']
            exact m_inb_i hB.2.1 (vp_in_nI (by omega) (by omega))
          have d2 := hdg I f j
          have d3 := hdg I1 b (i + j)
          have hpr : x * bdg rf I f j ≤ x * (2 ^ 32 - 1) := Nat.mul_le_mul_left _ (by omega)
          have hpr2 : x * (2 ^ 32 - 1) ≤ (2 ^ 32 - 1) * (2 ^ 32 - 1) := Nat.mul_le_mul_right _ (by omega)
          obtain ⟨s, hs⟩ : ∃ s, s = c + x * bdg rf I f j := ⟨_, rfl⟩
          have hs64 : s < 2 ^ 64 := by omega
          have hsx : s ≤ x * 2 ^ 32 := by omega
          have es : lN c + lN x * ((I1 (rf f 0) (nI j).toNatClampNeg).toInt64 &&& 4294967295) = lN s := by
            rw [nI_clamp (by omega), l_mask, e1 _ hfp, lN_mul, lN_add, hs]
            rfl
          have ed : ((I1 (rf b 0) (nI i + nI j).toNatClampNeg).toInt64 &&& 4294967295) - (lN s &&& 4294967295) = lN (bdg rf I1 b (i + j)) - lN (s % 2 ^ 32) := by
            rw [e6', nI_clamp (by omega), l_mask, l_and32 hs64]
            rfl
          obtain ⟨m1, m2⟩ := dif_m (g := bdg rf I1 b (i + j)) (L := s % 2 ^ 32) d3 (by omega) (by omega)
          have main : ∀ (bo : Nat) (g' : Nat), u32 (lN (bdg rf I1 b (i + j)) - lN (s % 2 ^ 32)).toInt32 = g' → g' + s % 2 ^ 32 = bdg rf I1 b (i + j) + bo * 2 ^ 32 → bo ≤ 1 → (bo = 1 → 1 ≤ s % 2 ^ 32) →
              ∃ a1 b1, (a1 < W - i ∨ a1 = W - i ∧ b1 < (nd + W + 1) + (nd - j) + 1) ∧ dboInv rf b f W nd z d I J1 a1 b1 61 [.inr (.inr b), .inr (.inr f), .inl (nI W), .inl v, .inl (nI i), .inl dg, .inr (.inl (lN x)), .inr (.inl (lN (s / 2 ^ 32 + bo))), .inl (nI j + 1)] [] (m_uI I1 (rf b 0) (i + j) (lN (bdg rf I1 b (i + j)) - lN (s % 2 ^ 32)).toInt32) J1 := by
            intro bo g' hg1 hg2 hbo hbo1
            have hlow : ∀ t, t ≠ i + j → bdg rf (m_uI I1 (rf b 0) (i + j) (lN (bdg rf I1 b (i + j)) - lN (s % 2 ^ 32)).toInt32) b t = bdg rf I1 b t := fun t ht => by unfold bdg; rw [uI_k _ _ _ ht]
            have hu := dv_upd (B := 2 ^ 32) (g := bdg rf I1 b) (g' := bdg rf (m_uI I1 (rf b 0) (i + j) (lN (bdg rf I1 b (i + j)) - lN (s % 2 ^ 32)).toInt32) b) (k := i + j) (v := g') (by unfold bdg; rw [uI_s]; exact hg1) hlow (N := W) hijl
            rw [Nat.pow_add] at hu
            refine ⟨W - i, (nd + W + 1) + (nd - (j + 1)) + 1, Or.inr ⟨rfl, by omega⟩, i, T0, v, k, rfl, rfl, hv, fun t ht => by rw [uI_a _ _ _ ht, e1 t ht], hi, rfl, ?_, Or.inr ⟨hlt, x, s / 2 ^ 32 + bo, j + 1, dg, hx, ?_, Or.inl ⟨rfl, rfl, by omega, by omega, by rw [← nI_1], fun e => absurd e (by omega), fun _ => ?_, ?_⟩⟩⟩
            · rw [dv_congr (fun t ht => hlow t (by omega))]
              exact hE
            · rcases (show bo = 0 ∨ bo = 1 by omega) with e | e
              · omega
              · have := hbo1 e
                omega
            · rcases Nat.eq_zero_or_pos j with e | e
              · subst e
                obtain ⟨c0, c1⟩ := e6 rfl
                unfold bdg
                rw [Nat.add_zero, uI_s]
                have c2 : s % 2 ^ 32 = bdg rf I1 b i := by rw [hs, c0, Nat.zero_add]; exact c1
                have c3 : (lN (bdg rf I1 b (i + 0)) - lN (s % 2 ^ 32)).toInt32 = 0 := by
                  rw [c2, Nat.add_zero, lN_sub (Nat.le_refl _), Nat.sub_self]
                  rfl
                rw [Nat.add_zero] at c3
                show u32 (lN (bdg rf I1 b i) - lN (s % 2 ^ 32)).toInt32 = 0
                rw [c3]
                rfl
              · rw [hlow i (by omega)]
                exact e7 e
            · rw [dv, show (2 ^ 32) ^ (j + 1) = (2 ^ 32) ^ j * 2 ^ 32 from Nat.pow_succ _ _]
              exact div_step1 hs e8 hu hg2
          refine ⟨hF.1, m_inb_i hF.2.1 (vp_in_nI (by omega) (by omega)), hb, i1, hb, i1, fun h8 => ?_, fun h8 => ?_⟩
          · rw [es, ed] at h8
            have h9 := m1.mp h8
            rw [if_pos h9] at m2
            have := main 0 _ m2 (by omega) (by omega) (fun e => absurd e (by decide))
            rw [Nat.add_zero] at this
            obtain ⟨a1, b1, r1, r2⟩ := this
            refine ⟨a1, b1, r1, ?_⟩
            rw [es, ed, e6', nI_clamp (by omega), l_shr32 hs64]
            rw [show lN (s / 2 ^ 32) + (0 : Int32).toInt64 = lN (s / 2 ^ 32) from Int64.add_zero _]
            exact r2
          · rw [es, ed] at h8
            have h9 : ¬ s % 2 ^ 32 ≤ bdg rf I1 b (i + j) := fun e => h8 (m1.mpr e)
            rw [if_neg h9, show (bdg rf I1 b (i + j) + 2 ^ 32 - s % 2 ^ 32) % 2 ^ 32 = bdg rf I1 b (i + j) + 2 ^ 32 - s % 2 ^ 32 from Nat.mod_eq_of_lt (by omega)] at m2
            obtain ⟨a1, b1, r1, r2⟩ := main 1 _ m2 (by omega) (by omega) (fun _ => by omega)
            refine ⟨a1, b1, r1, ?_⟩
            rw [es, ed, e6', nI_clamp (by omega), l_shr32 hs64]
            rw [show lN (s / 2 ^ 32) + (1 : Int32).toInt64 = lN (s / 2 ^ 32 + 1) from lN_add _ 1]
            exact r2
    rcases m_cu1 hc with ⟨rfl, rfl⟩ | hc
    · obtain ⟨hlt, x, c, j, dg, hx, hcx, h0, e, hij, hjW, rfl, rfl, e8⟩ : i < W ∧ ∃ (x c j : Nat) (dg : Int32), x = u32 dg ∧ c ≤ x ∧ bdg rf I1 b i = 0 ∧ ∃ e : Int, i + 1 ≤ j ∧ j ≤ W + nd ∧ b9 = (W - j) + 1 ∧ vs = [.inr (.inr b), .inr (.inr f), .inl (nI W), .inl v, .inl (nI i), .inl dg, .inr (.inl (lN c)), .inl (nI j)] ∧ (dv (2 ^ 32) (bdg rf I1 b) W : Int) + x * (2 ^ 32) ^ i * (d.natAbs : Int) = T0 + c * (2 ^ 32) ^ j + e * (2 ^ 32) ^ W := by
        rcases e5 with ⟨e, -⟩ | ⟨e9, x, c, j, dg, e10, e11, ⟨e, -⟩ | ⟨e12, e0, ⟨-, e⟩ | ⟨e, -⟩⟩⟩
        · cases e
        · cases e
        · exact ⟨e9, x, c, j, dg, e10, e11, e12, e0, e⟩
        · cases e
      clear e5
      have hx32 : x < 2 ^ 32 := by rw [hx]; exact u32_lt dg
      have hp : ∀ t, (((2 ^ 32) ^ t : Nat) : Int) = (2 ^ 32) ^ t := fun t => by rw [Int.natCast_pow]; rfl
      refine ⟨fun h => ?_, fun h => ?_⟩
      · have hge := (nI_leI (by omega) (by omega)).mp h
        obtain ⟨m, hm⟩ : ∃ m, j = W + m := ⟨j - W, by omega⟩
        refine ⟨W - i, 0, Or.inr ⟨rfl, by omega⟩, i, T0, v, k, rfl, rfl, hv, e1, hi, rfl, hE, Or.inr ⟨hlt, x, c, j, dg, hx, hcx, Or.inr ⟨h0, (c : Int) * (2 ^ 32) ^ m + e, Or.inr ⟨rfl, rfl, rfl, ?_⟩⟩⟩⟩
        rw [e8, hm, Int.pow_add]
        grind
      · have hjl : j < W := by
          rcases Nat.lt_or_ge j W with q1 | q1
          · exact q1
          · exact absurd (nI_le q1 (by omega)) h
        refine ⟨fun h7 => ?_, fun h7 => ?_⟩
        · have hc0 : c = 0 := by
            have h7 : lg_cmp (lN c) (lN 0) = 0 := h7
            rw [lg_cmp_N (by omega) (by decide)] at h7
            unfold cmpN at h7
            rcases Nat.eq_zero_or_pos c with q1 | q1
            · exact q1
            · rw [if_neg (by omega), if_neg (by omega)] at h7
              exact absurd h7 (by decide)
          refine ⟨W - i, 0, Or.inr ⟨rfl, by omega⟩, i, T0, v, k, rfl, rfl, hv, e1, hi, rfl, hE, Or.inr ⟨hlt, x, c, j, dg, hx, hcx, Or.inr ⟨h0, e, Or.inr ⟨rfl, rfl, rfl, ?_⟩⟩⟩⟩
          rw [e8, hc0]
          simp
        · have hc0 : 1 ≤ c := by
            have h7 : ¬ lg_cmp (lN c) (lN 0) = 0 := h7
            rw [lg_cmp_N (by omega) (by decide)] at h7
            unfold cmpN at h7
            rcases Nat.eq_zero_or_pos c with q1 | q1
            · rw [if_neg (by omega), if_pos q1] at h7
              exact absurd rfl h7
            · exact q1
          have i1 : m_inb sh (rf b 0) 0 (nI j) := m_inb_i hB.2.1 (vp_in_nI (by omega) (by omega))
          have d3 := hdg I1 b j
          have ed : ((I1 (rf b 0) (nI j).toNatClampNeg).toInt64 &&& 4294967295) - lN c = lN (bdg rf I1 b j) - lN c := by
            rw [nI_clamp (by omega), l_mask]
            rfl
          obtain ⟨m1, m2⟩ := dif_m (g := bdg rf I1 b j) (L := c) d3 (by omega) (by omega)
          have hlow : ∀ t, t ≠ j → bdg rf (m_uI I1 (rf b 0) j (lN (bdg rf I1 b j) - lN c).toInt32) b t = bdg rf I1 b t := fun t ht => by unfold bdg; rw [uI_k _ _ _ ht]
          have hstep : ∀ (bo g' : Nat), u32 (lN (bdg rf I1 b j) - lN c).toInt32 = g' → g' + c = bdg rf I1 b j + bo * 2 ^ 32 → ((dv (2 ^ 32) (bdg rf (m_uI I1 (rf b 0) j (lN (bdg rf I1 b j) - lN c).toInt32) b) W : Nat) : Int) + x * (2 ^ 32) ^ i * (d.natAbs : Int) = T0 + bo * (2 ^ 32) ^ (j + 1) + e * (2 ^ 32) ^ W := by
            intro bo g' q1 q2
            have hu := dv_upd (B := 2 ^ 32) (g := bdg rf I1 b) (g' := bdg rf (m_uI I1 (rf b 0) j (lN (bdg rf I1 b j) - lN c).toInt32) b) (k := j) (v := g') (by unfold bdg; rw [uI_s]; exact q1) hlow (N := W) hjl
            have hu2 := congrArg (fun t : Nat => (t : Int)) hu
            have q3 := congrArg (fun t : Nat => (t : Int)) q2
            simp only [Int.natCast_add, Int.natCast_mul, hp] at hu2 q3
            rw [show ((2 ^ 32 : Nat) : Int) = 2 ^ 32 from rfl] at q3
            rw [show ((2 : Int) ^ 32) ^ (j + 1) = (2 ^ 32) ^ j * 2 ^ 32 from Int.pow_succ _ _]
            generalize ((2 : Int) ^ 32) ^ j = P at *
            generalize ((2 : Int) ^ 32) ^ i = P2 at *
            generalize ((2 : Int) ^ 32) ^ W = P3 at *
            have q4 : (g' + c : Int) * P = (bdg rf I1 b j + bo * 2 ^ 32) * P := by rw [q3]
            grind
          refine ⟨hb, i1, hb, i1, fun h8 => ?_, fun h8 => ?_⟩
          · rw [ed] at h8
            have h9 := m1.mp h8
            rw [if_pos h9] at m2
            refine ⟨W - i, (W - (j + 1)) + 1, Or.inr ⟨rfl, by omega⟩, i, T0, v, k, rfl, rfl, hv, fun t ht => by rw [uI_a _ _ _ ht, e1 t ht], hi, rfl, ?_, Or.inr ⟨hlt, x, 0, j + 1, dg, hx, Nat.zero_le _, Or.inr ⟨?_, e, Or.inl ⟨rfl, by omega, by omega, rfl, ?_, ?_⟩⟩⟩⟩
            · rw [ed, nI_clamp (by omega), dv_congr (fun t ht => hlow t (by omega))]
              exact hE
            · rw [ed, nI_clamp (by omega), hlow i (by omega)]
              exact h0
            · rw [← nI_1]
              rfl
            · rw [ed, nI_clamp (by omega)]
              exact hstep 0 _ m2 (by omega)
          · rw [ed] at h8
            have h9 : ¬ c ≤ bdg rf I1 b j := fun q1 => h8 (m1.mpr q1)
            rw [if_neg h9, Nat.mod_eq_of_lt (by omega)] at m2
            refine ⟨W - i, (W - (j + 1)) + 1, Or.inr ⟨rfl, by omega⟩, i, T0, v, k, rfl, rfl, hv, fun t ht => by rw [uI_a _ _ _ ht, e1 t ht], hi, rfl, ?_, Or.inr ⟨hlt, x, 1, j + 1, dg, hx, by omega, Or.inr ⟨?_, e, Or.inl ⟨rfl, by omega, by omega, rfl, ?_, ?_⟩⟩⟩⟩
            · rw [ed, nI_clamp (by omega), dv_congr (fun t ht => hlow t (by omega))]
              exact hE
            · rw [ed, nI_clamp (by omega), hlow i (by omega)]
              exact h0
            · rw [← nI_1]
              rfl
            · rw [ed, nI_clamp (by omega)]
              exact hstep 1 _ m2 (by omega)
    rcases m_cu1 hc with ⟨rfl, rfl⟩ | hc
    · obtain ⟨hlt, x, dg, hx, h0, e, rfl, rfl, e8⟩ : i < W ∧ ∃ (x : Nat) (dg : Int32), x = u32 dg ∧ bdg rf I1 b i = 0 ∧ ∃ e : Int, b9 = 0 ∧ vs = [.inr (.inr b), .inr (.inr f), .inl (nI W), .inl v, .inl (nI i), .inl dg] ∧ (dv (2 ^ 32) (bdg rf I1 b) W : Int) + x * (2 ^ 32) ^ i * (d.natAbs : Int) = T0 + e * (2 ^ 32) ^ W := by
        rcases e5 with ⟨e, -⟩ | ⟨e9, x, c, j, dg, e10, e11, ⟨e, -⟩ | ⟨e12, e0, ⟨e, -⟩ | ⟨-, e⟩⟩⟩
        · cases e
        · cases e
        · cases e
        · exact ⟨e9, x, dg, e10, e12, e0, e⟩
      clear e5
      have hp : ∀ t, (((2 ^ 32) ^ t : Nat) : Int) = (2 ^ 32) ^ t := fun t => by rw [Int.natCast_pow]; rfl
      have hlow : ∀ t, t ≠ i → bdg rf (m_uI I1 (rf b 0) i dg) b t = bdg rf I1 b t := fun t ht => by unfold bdg; rw [uI_k _ _ _ ht]
      have hu := dv_upd (B := 2 ^ 32) (g := bdg rf I1 b) (g' := bdg rf (m_uI I1 (rf b 0) i dg) b) (k := i) (v := x) (by unfold bdg; rw [uI_s, hx]) hlow (N := W) hlt
      rw [h0, Nat.zero_mul, Nat.add_zero] at hu
      refine ⟨hb, m_inb_i hB.2.1 (vp_in_nI (by omega) (by omega)), W - (i + 1), 2 * (nd + W + 1) + 2, Or.inl (by omega), i + 1, dv (2 ^ 32) (bdg rf (m_uI I1 (rf b 0) i dg) b) W, v, k + e, rfl, rfl, hv, ?_, by omega, rfl, ?_, Or.inl ⟨rfl, rfl, ?_, ?_⟩⟩
      · intro t ht
        rw [uI_a _ _ _ ht, e1 t ht]
      · rw [nI_clamp (by omega)]
        have e9 : bdg rf (m_uI I1 (rf b 0) i dg) b i = x := by unfold bdg; rw [uI_s, hx]
        have e10 : dv (2 ^ 32) (bdg rf (m_uI I1 (rf b 0) i dg) b) i = dv (2 ^ 32) (bdg rf I1 b) i := dv_congr (fun t ht => hlow t (by omega))
        rw [dv, e9, e10, hu, Int.natCast_add, Int.natCast_add, Int.natCast_mul, hp]
        grind
      · rw [← nI_1]
      · rw [nI_clamp (by omega)]
    · cases hc

def ct_X0_divideWhole (sh : mSH) (rf : mRF) : Nat → Option (Nat × Bool × mPT) := fun k => match k with
  | 93 => some (1, true, pt_twos sh rf)
  | 66 => some (2, true, pt_setBig sh rf)
  | 97 => some (2, true, pt_shiftRight sh rf)
  | 100 => some (2, true, pt_divideByOdd sh rf)
  | _ => none
set_option maxRecDepth 20000 in
theorem ce_X0_divideWhole : m_CE RX0 2 81 cX0_divideWhole 4 ct_X0_divideWhole := by
  intro p l e s m args below meth c Q D cs ad sh rf N hx hb hml hown hts hK hi hN k n vf pt h
  unfold ct_X0_divideWhole at h
  split at h
  · cases h
    exact m_CG_V mt_X0_twos hx hb hml hown hts hK hi hN (ci := 0) m_pv_rec rfl rfl (m_wck_ok (l := [(Cond.methodLink RX0 93 yX0_twos, 540), (Cond.instanceMethod yX0_twos, 541), (Cond.selects RX0 yX0_twos yX0_twos, 542), (Cond.initialized RX0, 58), (Cond.code yX0_twos cX0_twos 2 (some .int), 543)]) (by decide +kernel)) ⟨rfl, by decide +kernel, by decide +kernel, by decide +kernel⟩ ⟨Nat.le_of_ble_eq_true rfl, Nat.le_of_ble_eq_true rfl⟩
  · cases h
    exact m_CG_V mt_X0_setBig hx hb hml hown hts hK hi hN (ci := 0) m_pv_rec rfl rfl (m_wck_ok (l := [(Cond.methodLink RX0 66 yX0_setBig, 351), (Cond.instanceMethod yX0_setBig, 352), (Cond.selects RX0 yX0_setBig yX0_setBig, 353), (Cond.initialized RX0, 58), (Cond.code yX0_setBig cX0_setBig 2 none, 354)]) (by decide +kernel)) ⟨rfl, by decide +kernel, by decide +kernel, by decide +kernel⟩ ⟨Nat.le_of_ble_eq_true rfl, Nat.le_of_ble_eq_true rfl⟩
  · cases h
    exact m_CG_V mt_X0_shiftRight hx hb hml hown hts hK hi hN (ci := 0) m_pv_rec rfl rfl (m_wck_ok (l := [(Cond.methodLink RX0 97 yX0_shiftRight, 547), (Cond.instanceMethod yX0_shiftRight, 548), (Cond.selects RX0 yX0_shiftRight yX0_shiftRight, 549), (Cond.initialized RX0, 58), (Cond.code yX0_shiftRight cX0_shiftRight 8 none, 550)]) (by decide +kernel)) ⟨rfl, by decide +kernel, by decide +kernel, by decide +kernel⟩ ⟨Nat.le_of_ble_eq_true rfl, Nat.le_of_ble_eq_true rfl⟩
  · cases h
    exact m_CG_V mt_X0_divideByOdd hx hb hml hown hts hK hi hN (ci := 0) m_pv_rec rfl rfl (m_wck_ok (l := [(Cond.methodLink RX0 100 yX0_divideByOdd, 551), (Cond.instanceMethod yX0_divideByOdd, 552), (Cond.selects RX0 yX0_divideByOdd yX0_divideByOdd, 553), (Cond.initialized RX0, 58), (Cond.code yX0_divideByOdd cX0_divideByOdd 13 none, 554)]) (by decide +kernel)) ⟨rfl, by decide +kernel, by decide +kernel, by decide +kernel⟩ ⟨Nat.le_of_ble_eq_true rfl, Nat.le_of_ble_eq_true rfl⟩
  · cases h
set_option maxHeartbeats 4000000 in
set_option maxRecDepth 100000 in
theorem mt_X0_divideWhole : m_Mt yX0_divideWhole cX0_divideWhole 4 none 2 81 pt_divideWhole := by
  refine m_method0 80 (fl := fl_X0) (kI := kI_X0) (kJ := kJ_X0) (ct := ct_X0_divideWhole) (cd := cd_X0_divideWhole) (rk := 0) (by decide +kernel) fl_X0_ok kI_X0_ok kJ_X0_ok ce_X0_divideWhole rfl ck_X0_divideWhole ⟨_, _, rfl, rfl⟩ ?_
  intro sh rf As I J K hpt
  obtain ⟨b, rest, rfl, hb, f, s, caps, z, d, q, rfl, hS, hL, hfs, hbs, hz, hd, hd0, hzq, hlim, hcs, hK⟩ := hpt
  obtain ⟨capf, hF⟩ := hd.sh
  refine ⟨Nat.le_of_ble_eq_true rfl, f, [], rfl, hF.1, d, rfl, hd, fun e => absurd e hd0, fun t y hty ht => ?_⟩
  refine ⟨s, [.inr (.inr f)], rfl, hS.1, caps, f, d, rfl, hS, hL, hfs, hd, hlim, fun I1 k1 k2 => ?_⟩
  have hz1 := hz.other hL hS hbs k1
  obtain ⟨d', hd', hodd⟩ : ∃ d' : Int, d = 2 ^ t * d' ∧ d'.natAbs % 2 = 1 := by
    refine ⟨d.sign * ((2 * y + 1 : Nat) : Int), ?_, ?_⟩
    · have e1 := Int.sign_mul_natAbs d
      have e2 : ((2 : Nat) : Int) = 2 := rfl
      rw [hty, Int.natCast_mul, Int.natCast_pow, e2] at e1
      rw [Int.mul_left_comm]
      exact e1.symm
    · rw [Int.natAbs_mul, Int.natAbs_natCast]
      have : d.sign.natAbs = 1 := by
        rcases Int.lt_trichotomy d 0 with e | e | e
        · rw [Int.sign_eq_neg_one_of_neg e]; rfl
        · exact absurd e hd0
        · rw [Int.sign_eq_one_of_pos e]; rfl
      rw [this]
      omega
  refine ⟨s, [.inl (nI t)], rfl, hS.1, t, d, d', rfl, ht, k2, hd', fun I2 k3 k4 => ?_⟩
  have hz2 := hz1.other hL hS hbs k3
  refine ⟨b, [.inl (nI t)], rfl, hb, t, z, d' * q, rfl, ht, hz2, by rw [hzq, hd', Int.mul_assoc], fun I3 k5 k6 => ?_⟩
  obtain ⟨capb, hB⟩ := hz.sh
  have k7 := k4.other hL hB hbs.symm k5
  refine ⟨b, [.inr (.inr s)], rfl, hb, s, d' * q, d', q, rfl, hL, hbs.symm, k6, k7, hodd, rfl, fun I4 k8 k9 => hK I4 (fun a a1 a2 a3 a4 => ?_) k9⟩
  rw [k8 a a1 a2, k5 a a1 a2, k3 a a3 a4, k1 a a3 a4]
end
section
/-! ===== Hand: a fraction ===== -/
def HSh (sh : mSH) (rf : mRF) (h : Nat) : Prop := sh h = .inl 1 ∧ (∀ k, k < 4 → BSh sh rf (rf h k) 40) ∧ (∀ i j, i < 4 → j < 4 → rf h i = rf h j → i = j) ∧ BL sh rf
/-- nothing but the hand's own cells has changed -/
def HCh (rf : mRF) (I I1 : mPI) (h : Nat) : Prop := ∀ a, a ≠ h → (∀ k, k < 4 → a ≠ rf h k ∧ a ≠ rf (rf h k) 0) → I1 a = I a
/-- the hand holds the fraction U / L -/
def HIs (sh : mSH) (rf : mRF) (I : mPI) (h : Nat) (U L : Int) : Prop := ∃ u l : Int, BIs sh rf I (rf h 0) u ∧ BIs sh rf I (rf h 1) l ∧ 0 < l ∧ u * L = U * l ∧ (I h 4 = 0 ∨ I h 4 = 1 ∧ Nat.gcd u.natAbs l.natAbs = 1) ∧ u.natAbs < 2 ^ (32 * 38) ∧ l.natAbs < 2 ^ (32 * 38)
def sgA (z : Int) : Int32 := if z < 0 then 2 else if z = 0 then 0 else 1
theorem BIs.cap_lt {sh : mSH} {rf : mRF} {I : mPI} {b cap : Nat} {z : Int} (h : BIs sh rf I b z) (hb : BSh sh rf b cap) : z.natAbs < 2 ^ (32 * cap) := by
  obtain ⟨cap1, n, hB, h1, h2, h4, h5, h6⟩ := h
  obtain rfl := hB.cap hb
  rw [← h6]
  have a1 : dv (2 ^ 32) (bdg rf I b) n < (2 ^ 32) ^ n := dv_lt (fun i _ => bdg_lt rf I b i)
  rw [← Nat.pow_mul] at a1
  exact Nat.lt_of_lt_of_le a1 (Nat.pow_le_pow_right (by decide) (by omega))
theorem HSh.notbig {sh : mSH} {rf : mRF} {h b cap : Nat} (hh : HSh sh rf h) (hb : BSh sh rf b cap) : h ≠ b ∧ h ≠ rf b 0 := by
  refine ⟨fun e => ?_, fun e => ?_⟩
  · have := hb.1
    rw [← e, hh.1] at this
    cases this
  · have := hb.2.1
    rw [← e, hh.1] at this
    cases this
theorem odd_int {z : Int} {t y : Nat} (h : z.natAbs = 2 ^ t * (2 * y + 1)) : ∃ q : Int, z = 2 ^ t * q ∧ q.natAbs = 2 * y + 1 := by
  have hz : z ≠ 0 := by
    intro e
    rw [e] at h
    have h1 : 0 < 2 ^ t * (2 * y + 1) := Nat.mul_pos (Nat.two_pow_pos t) (by omega)
    have h2 : (0 : Int).natAbs = 0 := rfl
    omega
  refine ⟨z.sign * ((2 * y + 1 : Nat) : Int), ?_, ?_⟩
  · have e1 := Int.sign_mul_natAbs z
    have e2 : ((2 : Nat) : Int) = 2 := rfl
    rw [h, Int.natCast_mul, Int.natCast_pow, e2] at e1
    rw [Int.mul_left_comm]
    exact e1.symm
  · rw [Int.natAbs_mul, Int.natAbs_natCast]
    have : z.sign.natAbs = 1 := by
      rcases Int.lt_trichotomy z 0 with e | e | e
      · rw [Int.sign_eq_neg_one_of_neg e]; rfl
      · exact absurd e hz
      · rw [Int.sign_eq_one_of_pos e]; rfl
    rw [this, Nat.one_mul]
theorem gcd_odd2 {t m y : Nat} (hy : y % 2 = 1) : Nat.gcd (2 ^ t * m) y = Nat.gcd m y := by
  apply Nat.Coprime.gcd_mul_left_cancel
  apply Nat.Coprime.pow_left
  show Nat.gcd 2 y = 1
  rw [Nat.gcd_rec, hy]
  rfl
def pt_greatestOfOdd (sh : mSH) (rf : mRF) : mPT := fun As I J K => ∃ (f g : Nat) (x y : Int), As = [.inr (.inr f), .inr (.inr g)] ∧ f ≠ g ∧ BL sh rf ∧ BIs sh rf I f x ∧ BIs sh rf I g y ∧ x.natAbs % 2 = 1 ∧ y.natAbs % 2 = 1 ∧ blen x.natAbs + blen y.natAbs < 1000000 ∧ ∀ (r : Nat) (I1 : mPI) (v : Int), (r = f ∨ r = g) → BCh2 rf I I1 f g → BIs sh rf I1 r v → v.natAbs = Nat.gcd x.natAbs y.natAbs → K (some (.inr (.inr r))) I1 J
def gooInv (sh : mSH) (rf : mRF) (f g : Nat) (x y : Int) (I : mPI) (J : mPJ) : Nat → Nat → mCV := fun a b9 pc vs st I1 J1 => ∃ (gr sm s : Nat) (p q : Int), vs = [.inr (.inr gr), .inr (.inr sm), .inl (nI s)] ∧ st = [] ∧ J1 = J ∧ (gr = f ∧ sm = g ∨ gr = g ∧ sm = f) ∧ BCh2 rf I I1 f g ∧ BIs sh rf I1 gr p ∧ BIs sh rf I1 sm q ∧ p.natAbs % 2 = 1 ∧ q.natAbs % 2 = 1 ∧ Nat.gcd p.natAbs q.natAbs = Nat.gcd x.natAbs y.natAbs ∧ a = blen p.natAbs + blen q.natAbs ∧ s + a < 1000000 ∧ (pc = 7 ∧ b9 = 1 ∨ pc = 41 ∧ b9 = 0 ∧ q.natAbs < p.natAbs)
def ct_X1_greatestOfOdd (sh : mSH) (rf : mRF) : Nat → Option (Nat × Bool × mPT) := fun k => match k with
  | 77 => some (2, true, pt_compareSize sh rf)
  | 81 => some (2, true, pt_takeSize sh rf)
  | 54 => some (1, true, pt_twos sh rf)
  | 63 => some (2, true, pt_shiftRight sh rf)
  | _ => none
set_option maxRecDepth 20000 in
theorem ce_X1_greatestOfOdd : m_CE RX1 2 48 cX1_greatestOfOdd 7 ct_X1_greatestOfOdd := by
  intro p l e s m args below meth c Q D cs ad sh rf N hx hb hml hown hts hK hi hN k n vf pt h
  unfold ct_X1_greatestOfOdd at h
  split at h
  · cases h
    exact m_CG_V mt_X0_compareSize hx hb hml hown hts hK hi hN (ci := 0) m_pv_rec rfl rfl (m_wck_ok (l := [(Cond.methodLink RX1 77 yX0_compareSize, 592), (Cond.instanceMethod yX0_compareSize, 361), (Cond.selects RX0 yX0_compareSize yX0_compareSize, 362), (Cond.initialized RX0, 58), (Cond.code yX0_compareSize cX0_compareSize 3 (some .int), 363)]) (by decide +kernel)) ⟨rfl, by decide +kernel, by decide +kernel, by decide +kernel⟩ ⟨Nat.le_of_ble_eq_true rfl, Nat.le_of_ble_eq_true rfl⟩
  · cases h
    exact m_CG_V mt_X0_takeSize hx hb hml hown hts hK hi hN (ci := 0) m_pv_rec rfl rfl (m_wck_ok (l := [(Cond.methodLink RX1 81 yX0_takeSize, 593), (Cond.instanceMethod yX0_takeSize, 368), (Cond.selects RX0 yX0_takeSize yX0_takeSize, 369), (Cond.initialized RX0, 58), (Cond.code yX0_takeSize cX0_takeSize 5 none, 370)]) (by decide +kernel)) ⟨rfl, by decide +kernel, by decide +kernel, by decide +kernel⟩ ⟨Nat.le_of_ble_eq_true rfl, Nat.le_of_ble_eq_true rfl⟩
  · cases h
    exact m_CG_V mt_X0_twos hx hb hml hown hts hK hi hN (ci := 0) m_pv_rec rfl rfl (m_wck_ok (l := [(Cond.methodLink RX1 54 yX0_twos, 585), (Cond.instanceMethod yX0_twos, 541), (Cond.selects RX0 yX0_twos yX0_twos, 542), (Cond.initialized RX0, 58), (Cond.code yX0_twos cX0_twos 2 (some .int), 543)]) (by decide +kernel)) ⟨rfl, by decide +kernel, by decide +kernel, by decide +kernel⟩ ⟨Nat.le_of_ble_eq_true rfl, Nat.le_of_ble_eq_true rfl⟩
  · cases h
    exact m_CG_V mt_X0_shiftRight hx hb hml hown hts hK hi hN (ci := 0) m_pv_rec rfl rfl (m_wck_ok (l := [(Cond.methodLink RX1 63 yX0_shiftRight, 587), (Cond.instanceMethod yX0_shiftRight, 548), (Cond.selects RX0 yX0_shiftRight yX0_shiftRight, 549), (Cond.initialized RX0, 58), (Cond.code yX0_shiftRight cX0_shiftRight 8 none, 550)]) (by decide +kernel)) ⟨rfl, by decide +kernel, by decide +kernel, by decide +kernel⟩ ⟨Nat.le_of_ble_eq_true rfl, Nat.le_of_ble_eq_true rfl⟩
  · cases h
set_option maxHeartbeats 4000000 in
set_option maxRecDepth 100000 in
theorem mt_X1_greatestOfOdd : m_Mt yX1_greatestOfOdd cX1_greatestOfOdd 7 (some (.object "MomentDesk$Big")) 2 48 pt_greatestOfOdd := by
  refine m_methodG (fl := fl_X1) (kI := kI_X1) (kJ := kJ_X1) (ct := ct_X1_greatestOfOdd) (cd := cd_X1_greatestOfOdd) (cut := [(7, [2, 3, 4]), (41, [2, 3, 4])]) (rk := 4) (fu := 80) (by decide +kernel) fl_X1_ok kI_X1_ok kJ_X1_ok ce_X1_greatestOfOdd ⟨_, rfl, by first | exact Or.inl ⟨_, rfl⟩ | exact Or.inr ⟨_, rfl⟩⟩ ck_X1_greatestOfOdd ⟨_, _, rfl, rfl⟩ ?_
  intro sh rf As I J K hpt
  obtain ⟨f, g, x, y, rfl, hfg, hL, hx, hy, hox, hoy, hbl, hK⟩ := hpt
  obtain ⟨capf, hF⟩ := hx.sh
  obtain ⟨capg, hG⟩ := hy.sh
  refine ⟨Nat.le_of_ble_eq_true rfl, gooInv sh rf f g x y I J, ?_, ?_⟩
  · exact ⟨blen x.natAbs + blen y.natAbs, 1, f, g, 0, x, y, rfl, rfl, rfl, Or.inl ⟨rfl, rfl⟩, fun _ _ _ _ _ => rfl, hx, hy, hox, hoy, rfl, rfl, by omega, Or.inl ⟨rfl, rfl⟩⟩
  · intro pc ks a b9 vs st I1 J1 hc hI
    obtain ⟨gr, sm, s, p, q, rfl, rfl, rfl, hgs, hch, hp, hq, hop, hoq, hgcd, ha, hs, h5⟩ := hI
    obtain ⟨capp, hP⟩ := hp.sh
    obtain ⟨capq, hQ⟩ := hq.sh
    have hne : gr ≠ sm := by
      rcases hgs with ⟨rfl, rfl⟩ | ⟨rfl, rfl⟩
      · exact hfg
      · exact hfg.symm
    rcases m_cu1 hc with ⟨rfl, rfl⟩ | hc
    · obtain rfl : b9 = 1 := by omega
      refine ⟨fun h => ?_, fun h => ?_⟩
      · have h : nI 1000000 ≤ nI s := h
        have := (nI_leI (a := 1000000) (by decide) (by omega)).mp h
        omega
      · refine ⟨gr, [.inr (.inr sm)], rfl, hP.1, sm, p, q, rfl, hp, hq, fun h1 => ?_, fun h1 => ?_⟩
        · have h1 : ¬ cmpN p.natAbs q.natAbs = 0 := h1
          refine ⟨fun h2 => ?_, fun h2 => ?_⟩
          · have h2 : 0 ≤ cmpN p.natAbs q.natAbs := h2
            have hlt : q.natAbs < p.natAbs := by
              unfold cmpN at h1 h2
              rcases Nat.lt_or_ge p.natAbs q.natAbs with e | e
              · rw [if_pos e] at h2; exact absurd h2 (by decide)
              · rw [if_neg (by omega)] at h1
                rcases Nat.eq_or_lt_of_le e with e2 | e2
                · rw [if_pos e2.symm] at h1; exact absurd rfl h1
                · exact e2
            exact ⟨a, 0, Or.inr ⟨rfl, by omega⟩, gr, sm, s, p, q, rfl, rfl, rfl, hgs, hch, hp, hq, hop, hoq, hgcd, ha, hs, Or.inr ⟨rfl, rfl, hlt⟩⟩
          · have h2 : ¬ 0 ≤ cmpN p.natAbs q.natAbs := h2
            have hlt : p.natAbs < q.natAbs := by
              unfold cmpN at h2
              rcases Nat.lt_or_ge p.natAbs q.natAbs with e | e
              · exact e
              · rw [if_neg (by omega)] at h2
                split at h2 <;> exact absurd (by decide) h2
            exact ⟨a, 0, Or.inr ⟨rfl, by omega⟩, sm, gr, s, q, p, rfl, rfl, rfl, by rcases hgs with ⟨rfl, rfl⟩ | ⟨rfl, rfl⟩ <;> simp, hch, hq, hp, hoq, hop, by rw [Nat.gcd_comm]; exact hgcd, by omega, hs, Or.inr ⟨rfl, rfl, hlt⟩⟩
        · have h1 : cmpN p.natAbs q.natAbs = 0 := h1
          have he : p.natAbs = q.natAbs := by
            unfold cmpN at h1
            rcases Nat.lt_or_ge p.natAbs q.natAbs with e | e
            · rw [if_pos e] at h1; exact absurd h1 (by decide)
            · rw [if_neg (by omega)] at h1
              rcases Nat.eq_or_lt_of_le e with e2 | e2
              · exact e2.symm
              · rw [if_neg (by omega)] at h1; exact absurd h1 (by decide)
          refine hK sm I1 q (by rcases hgs with ⟨rfl, rfl⟩ | ⟨rfl, rfl⟩ <;> simp) hch hq ?_
          rw [← hgcd, he, Nat.gcd_self]
    rcases m_cu1 hc with ⟨rfl, rfl⟩ | hc
    · obtain ⟨rfl, hlt⟩ : b9 = 0 ∧ q.natAbs < p.natAbs := by
        rcases h5 with ⟨e, -⟩ | ⟨-, e1, e2⟩
        · cases e
        · exact ⟨e1, e2⟩
      refine ⟨gr, [.inr (.inr sm)], rfl, hP.1, sm, p, q, rfl, hL, hne.symm, hp, hq, by omega, fun I2 k1 k2 => ?_⟩
      have hq2 := hq.other hL hP hne.symm k1
      have hab : (if p < 0 then -((p.natAbs - q.natAbs : Nat) : Int) else ((p.natAbs - q.natAbs : Nat) : Int)).natAbs = p.natAbs - q.natAbs := by split <;> omega
      refine ⟨gr, [], rfl, hP.1, _, rfl, k2, fun e => ?_, fun t y0 hty ht => ?_⟩
      · exfalso
        rw [e] at hab
        have h2 : (0 : Int).natAbs = 0 := rfl
        omega
      · obtain ⟨q9, hq9, hq8⟩ := odd_int hty
        rw [hab] at hty
        refine ⟨gr, [.inl (nI t)], rfl, hP.1, t, _, q9, rfl, ht, k2, hq9, fun I3 k3 k4 => ?_⟩
        have hq3 := hq2.other hL hP hne.symm k3
        have ht1 : 1 ≤ t := by
          rcases Nat.eq_zero_or_pos t with e | e
          · rw [e] at hty
            omega
          · exact e
        have hle : 2 * (2 * y0 + 1) ≤ p.natAbs - q.natAbs := by
          rw [hty]
          exact Nat.mul_le_mul_right _ (by
            have : 2 ^ 1 ≤ 2 ^ t := Nat.pow_le_pow_right (by decide) ht1
            omega)
        have hb : blen q9.natAbs + 1 ≤ blen p.natAbs := by
          rw [hq8]
          have e1 := lt_blen p.natAbs
          have e2 : 1 ≤ blen p.natAbs := by
            rcases Nat.eq_zero_or_pos (blen p.natAbs) with e | e
            · rw [e] at e1; omega
            · exact e
          have e3 : 2 ^ blen p.natAbs = 2 * 2 ^ (blen p.natAbs - 1) := by
            rw [← Nat.pow_succ']
            congr 1
            omega
          have := blen_le (v := 2 * y0 + 1) (L := blen p.natAbs - 1) (by omega)
          omega
        refine ⟨blen q9.natAbs + blen q.natAbs, 1, Or.inl (by omega), gr, sm, s + 1, q9, q, by rw [← nI_1], rfl, rfl, hgs, ?_, k4, hq3, by omega, hoq, ?_, rfl, by omega, Or.inl ⟨rfl, rfl⟩⟩
        · intro c a1 a2 a3 a4
          have b1 : c ≠ gr ∧ c ≠ rf gr 0 := by
            rcases hgs with ⟨rfl, rfl⟩ | ⟨rfl, rfl⟩
            · exact ⟨a1, a2⟩
            · exact ⟨a3, a4⟩
          rw [k3 c b1.1 b1.2, k1 c b1.1 b1.2, hch c a1 a2 a3 a4]
        · rw [← hgcd, hq8]
          have e1 : Nat.gcd (p.natAbs - q.natAbs) q.natAbs = Nat.gcd p.natAbs q.natAbs := Nat.gcd_sub_self_left (by omega)
          rw [← e1, hty, gcd_odd2 hoq]
    · cases hc

def pt_signAnswer : mSH → mRF → mPT := m_pv 1 (fun sh rf h rest I J K => ∃ u : Int, rest = [] ∧ HSh sh rf h ∧ BIs sh rf I (rf h 0) u ∧ K (some (.inl (sgA u))) I J)
def pt_layWhole : mSH → mRF → mPT := m_pv 1 (fun sh rf h rest I J K => ∃ v : Int64, rest = [.inr (.inl v)] ∧ HSh sh rf h ∧ ∀ I1, HCh rf I I1 h → HIs sh rf I1 h v.toInt 1 → K (some (.inl (sgA v.toInt))) I1 J)
def pt_lay : mSH → mRF → mPT := m_pv 1 (fun sh rf h rest I J K => ∃ (f g : Nat) (U L : Int), rest = [.inr (.inr f), .inr (.inr g)] ∧ HSh sh rf h ∧ (∀ k, k < 4 → f ≠ rf h k ∧ g ≠ rf h k) ∧ BIs sh rf I f U ∧ BIs sh rf I g L ∧ U.natAbs < 2 ^ (32 * 38) ∧ L.natAbs < 2 ^ (32 * 38) ∧ L ≠ 0 ∧ ∀ I1, HCh rf I I1 h → HIs sh rf I1 h U L → K (some (.inl (sgA (U * L)))) I1 J)
def ct_X1_signAnswer (sh : mSH) (rf : mRF) : Nat → Option (Nat × Bool × mPT) := fun k => match k with
  | 45 => some (1, true, pt_signum sh rf)
  | _ => none
set_option maxRecDepth 20000 in
theorem ce_X1_signAnswer : m_CE RX1 1 20 cX1_signAnswer 2 ct_X1_signAnswer := by
  intro p l e s m args below meth c Q D cs ad sh rf N hx hb hml hown hts hK hi hN k n vf pt h
  unfold ct_X1_signAnswer at h
  split at h
  · cases h
    exact m_CG_V mt_X0_signum hx hb hml hown hts hK hi hN (ci := 0) m_pv_rec rfl rfl (m_wck_ok (l := [(Cond.methodLink RX1 45 yX0_signum, 412), (Cond.instanceMethod yX0_signum, 413), (Cond.selects RX0 yX0_signum yX0_signum, 414), (Cond.initialized RX0, 58), (Cond.code yX0_signum cX0_signum 1 (some .int), 415)]) (by decide +kernel)) ⟨rfl, by decide +kernel, by decide +kernel, by decide +kernel⟩ ⟨Nat.le_of_ble_eq_true rfl, Nat.le_of_ble_eq_true rfl⟩
  · cases h
set_option maxHeartbeats 4000000 in
set_option maxRecDepth 100000 in
theorem mt_X1_signAnswer : m_Mt yX1_signAnswer cX1_signAnswer 2 (some .int) 1 20 pt_signAnswer := by
  refine m_method0 80 (fl := fl_X1) (kI := kI_X1) (kJ := kJ_X1) (ct := ct_X1_signAnswer) (cd := cd_X1_signAnswer) (rk := 1) (by decide +kernel) fl_X1_ok kI_X1_ok kJ_X1_ok ce_X1_signAnswer rfl ck_X1_signAnswer ⟨_, _, rfl, rfl⟩ ?_
  intro sh rf As I J K hpt
  obtain ⟨h, rest, rfl, hh, u, rfl, hH, hu, hK⟩ := hpt
  have hU := hH.2.1 0 (by decide)
  refine ⟨Nat.le_of_ble_eq_true rfl, hh, rf h 0, [], rfl, hU.1, u, rfl, hu, fun h1 => ⟨fun h2 => ?_, fun h2 => ?_⟩, fun h1 => ?_⟩
  · have h1 : 0 ≤ sgI u := h1
    have h2 : sgI u ≤ 0 := h2
    have e : sgA u = 0 := by
      unfold sgI at h1 h2
      unfold sgA
      by_cases q : u < 0
      · rw [if_pos q] at h1; exact absurd h1 (by decide)
      · rw [if_neg q] at h2 ⊢
        by_cases q2 : u = 0
        · rw [if_pos q2]
        · rw [if_neg q2] at h2; exact absurd h2 (by decide)
    rw [e] at hK
    exact hK
  · have h1 : 0 ≤ sgI u := h1
    have h2 : ¬ sgI u ≤ 0 := h2
    have e : sgA u = 1 := by
      unfold sgI at h1 h2
      unfold sgA
      by_cases q : u < 0
      · rw [if_pos q] at h1; exact absurd h1 (by decide)
      · rw [if_neg q] at h2 ⊢
        by_cases q2 : u = 0
        · rw [if_pos q2] at h2; exact absurd (by decide) h2
        · rw [if_neg q2]
    rw [e] at hK
    exact hK
  · have h1 : ¬ 0 ≤ sgI u := h1
    have e : sgA u = 2 := by
      unfold sgI at h1
      unfold sgA
      by_cases q : u < 0
      · rw [if_pos q]
      · rw [if_neg q] at h1
        split at h1 <;> exact absurd (by decide) h1
    rw [e] at hK
    exact hK

theorem hand_40 {z : Int} (h : z.natAbs < 2 ^ (32 * 38)) : z.natAbs < 2 ^ (32 * 40) := Nat.lt_of_lt_of_le h (Nat.pow_le_pow_right (by decide) (by decide))
theorem hand_v (v : Int64) : v.toInt.natAbs < 2 ^ (32 * 38) := by
  have h1 := v.toInt_lt
  have h2 := v.le_toInt
  have h3 : v.toInt.natAbs < 2 ^ 64 := by omega
  exact Nat.lt_of_lt_of_le h3 (Nat.pow_le_pow_right (by decide) (by decide))
theorem HCh.of {rf : mRF} {I I1 : mPI} {h k : Nat} (hk : k < 4) (hc : BCh rf I I1 (rf h k)) : HCh rf I I1 h := fun a _ a2 => hc a (a2 k hk).1 (a2 k hk).2
theorem HCh.trans {rf : mRF} {I I1 I2 : mPI} {h : Nat} (h1 : HCh rf I I1 h) (h2 : HCh rf I1 I2 h) : HCh rf I I2 h := fun a a1 a2 => (h2 a a1 a2).trans (h1 a a1 a2)
theorem HCh.fld (rf : mRF) (I : mPI) (h k : Nat) (v : Int32) : HCh rf I (m_uI I h k v) h := fun _ a1 _ => uI_a _ _ _ a1
theorem BIs.fld {sh : mSH} {rf : mRF} {I : mPI} {h b k : Nat} {z : Int} {v : Int32} (hz : BIs sh rf I b z) (hh : HSh sh rf h) : BIs sh rf (m_uI I h k v) b z := by
  obtain ⟨cap, hB⟩ := hz.sh
  obtain ⟨n1, n2⟩ := hh.notbig hB
  exact hz.keep (uI_a _ _ _ n1.symm) (uI_a _ _ _ n2.symm)
def ct_X1_layWhole (sh : mSH) (rf : mRF) : Nat → Option (Nat × Bool × mPT) := fun k => match k with
  | 33 => some (2, true, pt_setLong sh rf)
  | 37 => some (1, true, pt_signAnswer sh rf)
  | _ => none
set_option maxRecDepth 20000 in
theorem ce_X1_layWhole : m_CE RX1 2 44 cX1_layWhole 3 ct_X1_layWhole := by
  intro p l e s m args below meth c Q D cs ad sh rf N hx hb hml hown hts hK hi hN k n vf pt h
  unfold ct_X1_layWhole at h
  split at h
  · cases h
    exact m_CG_V mt_X0_setLong hx hb hml hown hts hK hi hN (ci := 0) m_pv_rec rfl rfl (m_wck_ok (l := [(Cond.methodLink RX1 33 yX0_setLong, 175), (Cond.instanceMethod yX0_setLong, 176), (Cond.selects RX0 yX0_setLong yX0_setLong, 177), (Cond.initialized RX0, 58), (Cond.code yX0_setLong cX0_setLong 5 none, 178)]) (by decide +kernel)) ⟨rfl, by decide +kernel, by decide +kernel, by decide +kernel⟩ ⟨Nat.le_of_ble_eq_true rfl, Nat.le_of_ble_eq_true rfl⟩
  · cases h
    exact m_CG_V mt_X1_signAnswer hx hb hml hown hts hK hi hN (ci := 1) m_pv_rec rfl rfl (m_wck_ok (l := [(Cond.methodLink RX1 37 yX1_signAnswer, 408), (Cond.instanceMethod yX1_signAnswer, 409), (Cond.selects RX1 yX1_signAnswer yX1_signAnswer, 410), (Cond.initialized RX1, 61), (Cond.code yX1_signAnswer cX1_signAnswer 2 (some .int), 411)]) (by decide +kernel)) ⟨rfl, by decide +kernel, by decide +kernel, by decide +kernel⟩ ⟨Nat.le_of_ble_eq_true rfl, Nat.le_of_ble_eq_true rfl⟩
  · cases h
set_option maxHeartbeats 4000000 in
set_option maxRecDepth 100000 in
theorem mt_X1_layWhole : m_Mt yX1_layWhole cX1_layWhole 3 (some .int) 2 44 pt_layWhole := by
  refine m_method0 80 (fl := fl_X1) (kI := kI_X1) (kJ := kJ_X1) (ct := ct_X1_layWhole) (cd := cd_X1_layWhole) (rk := 1) (by decide +kernel) fl_X1_ok kI_X1_ok kJ_X1_ok ce_X1_layWhole rfl ck_X1_layWhole ⟨_, _, rfl, rfl⟩ ?_
  intro sh rf As I J K hpt
  obtain ⟨h, rest, rfl, hh, v, rfl, hH, hK⟩ := hpt
  have hU := hH.2.1 0 (by decide)
  have hLo := hH.2.1 1 (by decide)
  have hul : rf h 0 ≠ rf h 1 := fun e => absurd (hH.2.2.1 0 1 (by decide) (by decide) e) (by decide)
  refine ⟨Nat.le_of_ble_eq_true rfl, hh, rf h 0, _, rfl, hU.1, 40, v, rfl, hU, fun I1 k1 k2 => ?_⟩
  refine ⟨hh, rf h 1, _, rfl, hLo.1, 40, 1, rfl, hLo, fun I2 k3 k4 => ?_⟩
  have k5 := k2.other hH.2.2.2 hLo hul k3
  refine ⟨hh, Or.inr rfl, h, [], rfl, hh, v.toInt, rfl, hH, k5.fld hH, hK _ (((HCh.of (by decide) k1).trans (HCh.of (by decide) k3)).trans (HCh.fld rf I2 h 4 1)) ⟨v.toInt, 1, k5.fld hH, k4.fld hH, by decide, rfl, ⟨Or.inr ⟨uI_s _ _ _ _, Nat.gcd_one_right _⟩, hand_v v, by decide⟩⟩⟩

def ct_X1_lay (sh : mSH) (rf : mRF) : Nat → Option (Nat × Bool × mPT) := fun k => match k with
  | 41 => some (2, true, pt_setBig sh rf)
  | 45 => some (1, true, pt_signum sh rf)
  | 48 => some (1, true, pt_negate sh rf)
  | 37 => some (1, true, pt_signAnswer sh rf)
  | _ => none
set_option maxRecDepth 20000 in
theorem ce_X1_lay : m_CE RX1 2 81 cX1_lay 3 ct_X1_lay := by
  intro p l e s m args below meth c Q D cs ad sh rf N hx hb hml hown hts hK hi hN k n vf pt h
  unfold ct_X1_lay at h
  split at h
  · cases h
    exact m_CG_V mt_X0_setBig hx hb hml hown hts hK hi hN (ci := 0) m_pv_rec rfl rfl (m_wck_ok (l := [(Cond.methodLink RX1 41 yX0_setBig, 454), (Cond.instanceMethod yX0_setBig, 352), (Cond.selects RX0 yX0_setBig yX0_setBig, 353), (Cond.initialized RX0, 58), (Cond.code yX0_setBig cX0_setBig 2 none, 354)]) (by decide +kernel)) ⟨rfl, by decide +kernel, by decide +kernel, by decide +kernel⟩ ⟨Nat.le_of_ble_eq_true rfl, Nat.le_of_ble_eq_true rfl⟩
  · cases h
    exact m_CG_V mt_X0_signum hx hb hml hown hts hK hi hN (ci := 0) m_pv_rec rfl rfl (m_wck_ok (l := [(Cond.methodLink RX1 45 yX0_signum, 412), (Cond.instanceMethod yX0_signum, 413), (Cond.selects RX0 yX0_signum yX0_signum, 414), (Cond.initialized RX0, 58), (Cond.code yX0_signum cX0_signum 1 (some .int), 415)]) (by decide +kernel)) ⟨rfl, by decide +kernel, by decide +kernel, by decide +kernel⟩ ⟨Nat.le_of_ble_eq_true rfl, Nat.le_of_ble_eq_true rfl⟩
  · cases h
    exact m_CG_V mt_X0_negate hx hb hml hown hts hK hi hN (ci := 0) m_pv_rec rfl rfl (m_wck_ok (l := [(Cond.methodLink RX1 48 yX0_negate, 455), (Cond.instanceMethod yX0_negate, 456), (Cond.selects RX0 yX0_negate yX0_negate, 457), (Cond.initialized RX0, 58), (Cond.code yX0_negate cX0_negate 1 none, 458)]) (by decide +kernel)) ⟨rfl, by decide +kernel, by decide +kernel, by decide +kernel⟩ ⟨Nat.le_of_ble_eq_true rfl, Nat.le_of_ble_eq_true rfl⟩
  · cases h
    exact m_CG_V mt_X1_signAnswer hx hb hml hown hts hK hi hN (ci := 1) m_pv_rec rfl rfl (m_wck_ok (l := [(Cond.methodLink RX1 37 yX1_signAnswer, 408), (Cond.instanceMethod yX1_signAnswer, 409), (Cond.selects RX1 yX1_signAnswer yX1_signAnswer, 410), (Cond.initialized RX1, 61), (Cond.code yX1_signAnswer cX1_signAnswer 2 (some .int), 411)]) (by decide +kernel)) ⟨rfl, by decide +kernel, by decide +kernel, by decide +kernel⟩ ⟨Nat.le_of_ble_eq_true rfl, Nat.le_of_ble_eq_true rfl⟩
  · cases h
set_option maxHeartbeats 4000000 in
set_option maxRecDepth 100000 in
theorem mt_X1_lay : m_Mt yX1_lay cX1_lay 3 (some .int) 2 81 pt_lay := by
  refine m_method0 80 (fl := fl_X1) (kI := kI_X1) (kJ := kJ_X1) (ct := ct_X1_lay) (cd := cd_X1_lay) (rk := 1) (by decide +kernel) fl_X1_ok kI_X1_ok kJ_X1_ok ce_X1_lay rfl ck_X1_lay ⟨_, _, rfl, rfl⟩ ?_
  intro sh rf As I J K hpt
  obtain ⟨h, rest, rfl, hh, f, g, U, L, rfl, hH, hfg, hf, hg, hm1, hm2, hL0, hK⟩ := hpt
  have hU := hH.2.1 0 (by decide)
  have hLo := hH.2.1 1 (by decide)
  have hBL := hH.2.2.2
  have hul : rf h 0 ≠ rf h 1 := fun e => absurd (hH.2.2.1 0 1 (by decide) (by decide) e) (by decide)
  refine ⟨Nat.le_of_ble_eq_true rfl, hh, rf h 0, _, rfl, hU.1, 40, f, U, rfl, hU, hBL, (hfg 0 (by decide)).1, hf, hand_40 hm1, fun I1 k1 k2 => ?_⟩
  have hg1 := hg.other hBL hU (hfg 0 (by decide)).2 k1
  refine ⟨hh, rf h 1, _, rfl, hLo.1, 40, g, L, rfl, hLo, hBL, (hfg 1 (by decide)).2, hg1, hand_40 hm2, fun I2 k3 k4 => ?_⟩
  have k5 := k2.other hBL hLo hul k3
  refine ⟨hh, rf h 1, [], rfl, hLo.1, L, rfl, k4, fun h1 => ?_, fun h1 => ?_⟩
  · have h1 : 0 ≤ sgI L := h1
    have hpos : 0 < L := by
      unfold sgI at h1
      by_cases q : L < 0
      · rw [if_pos q] at h1; exact absurd h1 (by decide)
      · omega
    refine ⟨hh, Or.inl rfl, h, [], rfl, hh, U, rfl, hH, k5.fld hH, ?_⟩
    have e : sgA (U * L) = sgA U := by
      unfold sgA
      rcases Int.lt_trichotomy U 0 with q | q | q
      · rw [if_pos q, if_pos (Int.mul_neg_of_neg_of_pos q hpos)]
      · rw [q, Int.zero_mul]
      · have := Int.mul_pos q hpos
        rw [if_neg (by omega), if_neg (by omega), if_neg (by omega), if_neg (by omega)]
    rw [e] at hK
    exact hK _ (((HCh.of (by decide) k1).trans (HCh.of (by decide) k3)).trans (HCh.fld rf I2 h 4 0)) ⟨U, L, k5.fld hH, k4.fld hH, hpos, rfl, Or.inl (uI_s _ _ _ _), hm1, hm2⟩
  · have h1 : ¬ 0 ≤ sgI L := h1
    have hneg : L < 0 := by
      unfold sgI at h1
      by_cases q : L < 0
      · exact q
      · rw [if_neg q] at h1
        split at h1 <;> exact absurd (by decide) h1
    refine ⟨hh, rf h 0, [], rfl, hU.1, U, rfl, k5, fun I3 k6 k7 => ?_⟩
    have c6 : BCh rf I2 I3 (rf h 0) := fun a a1 _ => k6 a a1
    have k8 := k4.other hBL hU hul.symm c6
    refine ⟨hh, rf h 1, [], rfl, hLo.1, L, rfl, k8, fun I4 k9 k10 => ?_⟩
    have c9 : BCh rf I3 I4 (rf h 1) := fun a a1 _ => k9 a a1
    have k11 := k7.other hBL hLo hul c9
    refine ⟨hh, Or.inl rfl, h, [], rfl, hh, -U, rfl, hH, k11.fld hH, ?_⟩
    have e : sgA (U * L) = sgA (-U) := by
      unfold sgA
      rcases Int.lt_trichotomy U 0 with q | q | q
      · have := Int.mul_pos_of_neg_of_neg q hneg
        rw [if_neg (by omega), if_neg (by omega), if_neg (by omega), if_neg (by omega)]
      · rw [q, Int.zero_mul]
        rfl
      · have := Int.mul_neg_of_pos_of_neg q hneg
        rw [if_pos (by omega), if_pos (by omega)]
    rw [e] at hK
    exact hK _ (((((HCh.of (by decide) k1).trans (HCh.of (by decide) k3)).trans (HCh.of (by decide) c6)).trans (HCh.of (by decide) c9)).trans (HCh.fld rf I4 h 4 0)) ⟨-U, -L, k11.fld hH, k10.fld hH, by omega, by rw [Int.neg_mul, Int.mul_neg], Or.inl (uI_s _ _ _ _), by rw [Int.natAbs_neg]; exact hm1, by rw [Int.natAbs_neg]; exact hm2⟩
end
section
/-! ===== Hand: lowest terms ===== -/
theorem gcd_parts {A B a b m n : Nat} (hA : A = 2 ^ a * m) (hB : B = 2 ^ b * n) (hm : m % 2 = 1) (hn : n % 2 = 1) (ho : A % 2 = 1 ∨ B % 2 = 1) : Nat.gcd A B = Nat.gcd m n := by
  have key : ∀ {X c k : Nat}, X = 2 ^ c * k → X % 2 = 1 → X = k := by
    intro X c k h1 h2
    rcases Nat.eq_zero_or_pos c with e | e
    · rw [h1, e]; simp
    · exfalso
      obtain ⟨d, rfl⟩ : ∃ d, c = d + 1 := ⟨c - 1, by omega⟩
      rw [Nat.pow_succ, Nat.mul_comm (2 ^ d) 2, Nat.mul_assoc] at h1
      omega
  rcases ho with e | e
  · rw [key hA e, hB, Nat.gcd_comm, gcd_odd2 hm, Nat.gcd_comm]
  · rw [key hB e, hA, gcd_odd2 hn]
theorem BIs.other2 {sh : mSH} {rf : mRF} {I I1 : mPI} {f g c capf capg : Nat} {z : Int} (hB : BL sh rf) (hf : BSh sh rf f capf) (hg : BSh sh rf g capg) (h : BIs sh rf I c z) (h1 : c ≠ f) (h2 : c ≠ g) (hc : BCh2 rf I I1 f g) : BIs sh rf I1 c z := by
  obtain ⟨cap2, n, a1, ar⟩ := id h
  exact h.keep (hc c h1 (a1.nex hf) h2 (a1.nex hg)) (hc (rf c 0) (fun e => hf.nex a1 e.symm) (fun e => h1 (hB c f a1.1 hf.1 e)) (fun e => hg.nex a1 e.symm) (fun e => h2 (hB c g a1.1 hg.1 e)))
theorem HSh.stay {sh : mSH} {rf : mRF} {I I1 : mPI} {h b cap : Nat} (hh : HSh sh rf h) (hb : BSh sh rf b cap) (hc : BCh rf I I1 b) : I1 h = I h := hc h (hh.notbig hb).1 (hh.notbig hb).2
def pt_bring : mSH → mRF → mPT := m_pv 1 (fun sh rf h rest I J K => ∃ u l : Int, rest = [] ∧ HSh sh rf h ∧ BIs sh rf I (rf h 0) u ∧ BIs sh rf I (rf h 1) l ∧ 0 < l ∧ ∀ I1, HCh rf I I1 h → I1 h = I h → BIs sh rf I1 (rf h 0) (u / ((Nat.gcd u.natAbs l.natAbs : Nat) : Int)) → BIs sh rf I1 (rf h 1) (l / ((Nat.gcd u.natAbs l.natAbs : Nat) : Int)) → K none I1 J)
def pt_lowestPart : mSH → mRF → mPT := m_pv 1 (fun sh rf h rest I J K => ∃ (wh : Int32) (U L : Int), rest = [.inl wh] ∧ HSh sh rf h ∧ L ≠ 0 ∧ HIs sh rf I h U L ∧ ∀ I1 (p q : Int), HCh rf I I1 h → HIs sh rf I1 h U L → BIs sh rf I1 (rf h 0) p → BIs sh rf I1 (rf h 1) q → 0 < q → Nat.gcd p.natAbs q.natAbs = 1 → p * L = U * q → K (some (.inr (.inr (if wh = 0 then rf h 0 else rf h 1)))) I1 J)
def ct_X1_bringToLowest (sh : mSH) (rf : mRF) : Nat → Option (Nat × Bool × mPT) := fun k => match k with
  | 45 => some (1, true, pt_signum sh rf)
  | 33 => some (2, true, pt_setLong sh rf)
  | 54 => some (1, true, pt_twos sh rf)
  | 57 => some (2, false, pt_min sh rf)
  | 63 => some (2, true, pt_shiftRight sh rf)
  | 41 => some (2, true, pt_setBig sh rf)
  | 66 => some (2, false, pt_greatestOfOdd sh rf)
  | 70 => some (1, true, pt_dropSign sh rf)
  | 73 => some (2, true, pt_divideByOdd sh rf)
  | _ => none
set_option maxRecDepth 20000 in
theorem ce_X1_bringToLowest : m_CE RX1 3 81 cX1_bringToLowest 3 ct_X1_bringToLowest := by
  intro p l e s m args below meth c Q D cs ad sh rf N hx hb hml hown hts hK hi hN k n vf pt h
  unfold ct_X1_bringToLowest at h
  split at h
  · cases h
    exact m_CG_V mt_X0_signum hx hb hml hown hts hK hi hN (ci := 0) m_pv_rec rfl rfl (m_wck_ok (l := [(Cond.methodLink RX1 45 yX0_signum, 412), (Cond.instanceMethod yX0_signum, 413), (Cond.selects RX0 yX0_signum yX0_signum, 414), (Cond.initialized RX0, 58), (Cond.code yX0_signum cX0_signum 1 (some .int), 415)]) (by decide +kernel)) ⟨rfl, by decide +kernel, by decide +kernel, by decide +kernel⟩ ⟨Nat.le_of_ble_eq_true rfl, Nat.le_of_ble_eq_true rfl⟩
  · cases h
    exact m_CG_V mt_X0_setLong hx hb hml hown hts hK hi hN (ci := 0) m_pv_rec rfl rfl (m_wck_ok (l := [(Cond.methodLink RX1 33 yX0_setLong, 175), (Cond.instanceMethod yX0_setLong, 176), (Cond.selects RX0 yX0_setLong yX0_setLong, 177), (Cond.initialized RX0, 58), (Cond.code yX0_setLong cX0_setLong 5 none, 178)]) (by decide +kernel)) ⟨rfl, by decide +kernel, by decide +kernel, by decide +kernel⟩ ⟨Nat.le_of_ble_eq_true rfl, Nat.le_of_ble_eq_true rfl⟩
  · cases h
    exact m_CG_V mt_X0_twos hx hb hml hown hts hK hi hN (ci := 0) m_pv_rec rfl rfl (m_wck_ok (l := [(Cond.methodLink RX1 54 yX0_twos, 585), (Cond.instanceMethod yX0_twos, 541), (Cond.selects RX0 yX0_twos yX0_twos, 542), (Cond.initialized RX0, 58), (Cond.code yX0_twos cX0_twos 2 (some .int), 543)]) (by decide +kernel)) ⟨rfl, by decide +kernel, by decide +kernel, by decide +kernel⟩ ⟨Nat.le_of_ble_eq_true rfl, Nat.le_of_ble_eq_true rfl⟩
  · cases h
    exact m_CG_min hx hb hml hown hts hK hi hN (m_wck_ok (l := [(Cond.methodLink RX1 57 Lib.Math.min.name, 586), (Cond.static Lib.Math.min.name, 335), (Cond.initialized "java/lang/Math", 59), (Cond.code Lib.Math.min.name Lib.Math.min.code 2 (some .int), 336)]) (by decide +kernel)) ⟨Nat.le_of_ble_eq_true rfl, Nat.le_of_ble_eq_true rfl⟩
  · cases h
    exact m_CG_V mt_X0_shiftRight hx hb hml hown hts hK hi hN (ci := 0) m_pv_rec rfl rfl (m_wck_ok (l := [(Cond.methodLink RX1 63 yX0_shiftRight, 587), (Cond.instanceMethod yX0_shiftRight, 548), (Cond.selects RX0 yX0_shiftRight yX0_shiftRight, 549), (Cond.initialized RX0, 58), (Cond.code yX0_shiftRight cX0_shiftRight 8 none, 550)]) (by decide +kernel)) ⟨rfl, by decide +kernel, by decide +kernel, by decide +kernel⟩ ⟨Nat.le_of_ble_eq_true rfl, Nat.le_of_ble_eq_true rfl⟩
  · cases h
    exact m_CG_V mt_X0_setBig hx hb hml hown hts hK hi hN (ci := 0) m_pv_rec rfl rfl (m_wck_ok (l := [(Cond.methodLink RX1 41 yX0_setBig, 454), (Cond.instanceMethod yX0_setBig, 352), (Cond.selects RX0 yX0_setBig yX0_setBig, 353), (Cond.initialized RX0, 58), (Cond.code yX0_setBig cX0_setBig 2 none, 354)]) (by decide +kernel)) ⟨rfl, by decide +kernel, by decide +kernel, by decide +kernel⟩ ⟨Nat.le_of_ble_eq_true rfl, Nat.le_of_ble_eq_true rfl⟩
  · cases h
    exact m_CG_S mt_X1_greatestOfOdd hx hb hml hown hts hK hi hN (m_wck_ok (l := [(Cond.methodLink RX1 66 yX1_greatestOfOdd, 588), (Cond.static yX1_greatestOfOdd, 589), (Cond.initialized RX1, 61), (Cond.code yX1_greatestOfOdd cX1_greatestOfOdd 7 (some (.object "MomentDesk$Big")), 590)]) (by decide +kernel)) ⟨by decide +kernel, by decide +kernel, by decide +kernel⟩ ⟨Nat.le_of_ble_eq_true rfl, Nat.le_of_ble_eq_true rfl⟩
  · cases h
    exact m_CG_V mt_X0_dropSign hx hb hml hown hts hK hi hN (ci := 0) m_pv_rec rfl rfl (m_wck_ok (l := [(Cond.methodLink RX1 70 yX0_dropSign, 594), (Cond.instanceMethod yX0_dropSign, 595), (Cond.selects RX0 yX0_dropSign yX0_dropSign, 596), (Cond.initialized RX0, 58), (Cond.code yX0_dropSign cX0_dropSign 1 none, 597)]) (by decide +kernel)) ⟨rfl, by decide +kernel, by decide +kernel, by decide +kernel⟩ ⟨Nat.le_of_ble_eq_true rfl, Nat.le_of_ble_eq_true rfl⟩
  · cases h
    exact m_CG_V mt_X0_divideByOdd hx hb hml hown hts hK hi hN (ci := 0) m_pv_rec rfl rfl (m_wck_ok (l := [(Cond.methodLink RX1 73 yX0_divideByOdd, 598), (Cond.instanceMethod yX0_divideByOdd, 552), (Cond.selects RX0 yX0_divideByOdd yX0_divideByOdd, 553), (Cond.initialized RX0, 58), (Cond.code yX0_divideByOdd cX0_divideByOdd 13 none, 554)]) (by decide +kernel)) ⟨rfl, by decide +kernel, by decide +kernel, by decide +kernel⟩ ⟨Nat.le_of_ble_eq_true rfl, Nat.le_of_ble_eq_true rfl⟩
  · cases h
set_option maxHeartbeats 4000000 in
set_option maxRecDepth 100000 in
theorem mt_X1_bringToLowest : m_Mt yX1_bringToLowest cX1_bringToLowest 3 none 3 81 pt_bring := by
  refine m_method0 120 (fl := fl_X1) (kI := kI_X1) (kJ := kJ_X1) (ct := ct_X1_bringToLowest) (cd := cd_X1_bringToLowest) (rk := 0) (by decide +kernel) fl_X1_ok kI_X1_ok kJ_X1_ok ce_X1_bringToLowest rfl ck_X1_bringToLowest ⟨_, _, rfl, rfl⟩ ?_
  intro sh rf As I J K hpt
  obtain ⟨h, rest, rfl, hh, u, l, rfl, hH, hu, hl, hl0, hK⟩ := hpt
  have hBL := hH.2.2.2
  have hU := hH.2.1 0 (by decide)
  have hLo := hH.2.1 1 (by decide)
  have hLf := hH.2.1 2 (by decide)
  have hRt := hH.2.1 3 (by decide)
  have n01 : rf h 0 ≠ rf h 1 := fun e => absurd (hH.2.2.1 0 1 (by decide) (by decide) e) (by decide)
  have n02 : rf h 0 ≠ rf h 2 := fun e => absurd (hH.2.2.1 0 2 (by decide) (by decide) e) (by decide)
  have n03 : rf h 0 ≠ rf h 3 := fun e => absurd (hH.2.2.1 0 3 (by decide) (by decide) e) (by decide)
  have n12 : rf h 1 ≠ rf h 2 := fun e => absurd (hH.2.2.1 1 2 (by decide) (by decide) e) (by decide)
  have n13 : rf h 1 ≠ rf h 3 := fun e => absurd (hH.2.2.1 1 3 (by decide) (by decide) e) (by decide)
  have n23 : rf h 2 ≠ rf h 3 := fun e => absurd (hH.2.2.1 2 3 (by decide) (by decide) e) (by decide)
  refine ⟨Nat.le_of_ble_eq_true rfl, hh, rf h 0, [], rfl, hU.1, u, rfl, hu, fun h1 => ?_, fun h1 => ?_⟩
  · have h1 : ¬ sgI u = 0 := h1
    have hu0 : u ≠ 0 := fun e => h1 (by rw [e]; rfl)
    refine ⟨hh, rf h 0, [], rfl, hU.1, u, rfl, hu, fun e => absurd e hu0, fun t1 y1 e1 b1 => ?_⟩
    refine ⟨hh, rf h 1, [], rfl, hLo.1, l, rfl, hl, fun e => absurd e (by omega), fun t2 y2 e2 b2 => ?_⟩
    obtain ⟨q1, g1, g2⟩ := odd_int e1
    obtain ⟨q2, g3, g4⟩ := odd_int e2
    obtain ⟨t, ht⟩ : ∃ t, t = min t1 t2 := ⟨_, rfl⟩
    refine ⟨nI t1, nI t2, rfl, ?_⟩
    have em : (if nI t2 < nI t1 then nI t2 else nI t1) = nI t := by
      by_cases q : t2 < t1
      · rw [if_pos ((nI_ltI (by omega) (by omega)).mpr q)]
        congr 1
        omega
      · rw [if_neg (fun z => q ((nI_ltI (by omega) (by omega)).mp z))]
        congr 1
        omega
    rw [em]
    have hu1 : u = 2 ^ t * (2 ^ (t1 - t) * q1) := by
      rw [g1, ← Int.mul_assoc, ← Int.pow_add]
      congr 2
      omega
    have hl1 : l = 2 ^ t * (2 ^ (t2 - t) * q2) := by
      rw [g3, ← Int.mul_assoc, ← Int.pow_add]
      congr 2
      omega
    have hodd : (2 ^ (t1 - t) * q1 : Int).natAbs % 2 = 1 ∨ (2 ^ (t2 - t) * q2 : Int).natAbs % 2 = 1 := by
      rcases (show t = t1 ∨ t = t2 by omega) with e | e
      · left
        rw [e, Nat.sub_self, Int.pow_zero, Int.one_mul, g2]
        omega
      · right
        rw [e, Nat.sub_self, Int.pow_zero, Int.one_mul, g4]
        omega
    have hl1p : (2 ^ (t2 - t) * q2 : Int) ≠ 0 := by
      intro e
      rw [e, Int.mul_zero] at hl1
      omega
    have hu1p : (2 ^ (t1 - t) * q1 : Int) ≠ 0 := by
      intro e
      rw [e, Int.mul_zero] at hu1
      exact hu0 hu1
    generalize (2 ^ (t1 - t) * q1 : Int) = u1 at hu1 hodd hu1p
    generalize (2 ^ (t2 - t) * q2 : Int) = l1 at hl1 hodd hl1p
    refine ⟨hh, rf h 0, [.inl (nI t)], rfl, hU.1, t, u, u1, rfl, by omega, hu, hu1, fun I1 c1 k1 => ?_⟩
    have l_1 := hl.other hBL hU n01.symm c1
    refine ⟨hh, rf h 1, [.inl (nI t)], rfl, hLo.1, t, l, l1, rfl, by omega, l_1, hl1, fun I2 c2 k2 => ?_⟩
    have u_2 := k1.other hBL hLo n01 c2
    refine ⟨hh, hh, rf h 2, _, rfl, hLf.1, 40, rf h 0, u1, rfl, hLf, hBL, n02, u_2, u_2.cap_lt hU, fun I3 c3 k3 => ?_⟩
    have u_3 := u_2.other hBL hLf n02 c3
    have l_3 := k2.other hBL hLf n12 c3
    refine ⟨hh, hh, rf h 3, _, rfl, hRt.1, 40, rf h 1, l1, rfl, hRt, hBL, n13, l_3, l_3.cap_lt hLo, fun I4 c4 k4 => ?_⟩
    have u_4 := u_3.other hBL hRt n03 c4
    have l_4 := l_3.other hBL hRt n13 c4
    have f_4 := k3.other hBL hRt n23 c4
    refine ⟨hh, hh, rf h 2, [], rfl, hLf.1, u1, rfl, f_4, fun e => absurd e hu1p, fun t3 y3 e3 b3 => ?_⟩
    obtain ⟨q3, g5, g6⟩ := odd_int e3
    refine ⟨rf h 2, [.inl (nI t3)], rfl, hLf.1, t3, u1, q3, rfl, b3, f_4, g5, fun I5 c5 k5 => ?_⟩
    have u_5 := u_4.other hBL hLf n02 c5
    have l_5 := l_4.other hBL hLf n12 c5
    have r_5 := k4.other hBL hLf n23.symm c5
    refine ⟨hh, hh, rf h 3, [], rfl, hRt.1, l1, rfl, r_5, fun e => absurd e hl1p, fun t4 y4 e4 b4 => ?_⟩
    obtain ⟨q4, g7, g8⟩ := odd_int e4
    refine ⟨rf h 3, [.inl (nI t4)], rfl, hRt.1, t4, l1, q4, rfl, b4, r_5, g7, fun I6 c6 k6 => ?_⟩
    have u_6 := u_5.other hBL hRt n03 c6
    have l_6 := l_5.other hBL hRt n13 c6
    have f_6 := k5.other hBL hRt n23 c6
    have bl3 := blen_le (f_6.cap_lt hLf)
    have bl4 := blen_le (k6.cap_lt hRt)
    refine ⟨hh, hh, rf h 2, rf h 3, q3, q4, rfl, n23, hBL, f_6, k6, by omega, by omega, by omega, fun r I7 v hr c7 k7 hv => ?_⟩
    have u_7 := u_6.other2 hBL hLf hRt n02 n03 c7
    have l_7 := l_6.other2 hBL hLf hRt n12 n13 c7
    have hR : BSh sh rf r 40 := by rcases hr with rfl | rfl <;> assumption
    have hr0 : rf h 0 ≠ r := by rcases hr with rfl | rfl <;> assumption
    have hr1 : rf h 1 ≠ r := by rcases hr with rfl | rfl <;> assumption
    refine ⟨r, [], rfl, hR.1, v, rfl, k7, fun I8 c8' k8 => ?_⟩
    have c8 : BCh rf I7 I8 r := fun a a1 _ => c8' a a1
    have u_8 := u_7.other hBL hR hr0 c8
    have l_8 := l_7.other hBL hR hr1 c8
    have hG : Nat.gcd u.natAbs l.natAbs = 2 ^ t * v.natAbs := by
      have e5 : u.natAbs = 2 ^ t * u1.natAbs := by rw [hu1, Int.natAbs_mul, Int.natAbs_pow]; rfl
      have e6 : l.natAbs = 2 ^ t * l1.natAbs := by rw [hl1, Int.natAbs_mul, Int.natAbs_pow]; rfl
      rw [e5, e6, Nat.gcd_mul_left, hv, gcd_parts e3 e4 (by omega) (by omega) hodd, g6, g8]
    have hvo : v.natAbs % 2 = 1 := by
      have d1 : v.natAbs ∣ q3.natAbs := by rw [hv]; exact Nat.gcd_dvd_left _ _
      obtain ⟨c, hc⟩ := d1
      rcases (show v.natAbs % 2 = 0 ∨ v.natAbs % 2 = 1 by omega) with e | e
      · have : v.natAbs * c % 2 = 0 := by rw [Nat.mul_mod, e]; simp
        omega
      · exact e
    have hdu : ∃ qu : Int, u1 = (v.natAbs : Int) * qu := by
      have d1 : v.natAbs ∣ q3.natAbs := by rw [hv]; exact Nat.gcd_dvd_left _ _
      have d2 : (v.natAbs : Int) ∣ q3 := Int.natAbs_dvd_natAbs.mp (by rw [Int.natAbs_natCast]; exact d1)
      obtain ⟨c, hc⟩ := d2
      exact ⟨2 ^ t3 * c, by rw [g5, hc]; grind⟩
    have hdl : ∃ ql : Int, l1 = (v.natAbs : Int) * ql := by
      have d1 : v.natAbs ∣ q4.natAbs := by rw [hv]; exact Nat.gcd_dvd_right _ _
      have d2 : (v.natAbs : Int) ∣ q4 := Int.natAbs_dvd_natAbs.mp (by rw [Int.natAbs_natCast]; exact d1)
      obtain ⟨c, hc⟩ := d2
      exact ⟨2 ^ t4 * c, by rw [g7, hc]; grind⟩
    obtain ⟨qu, hqu⟩ := hdu
    obtain ⟨ql, hql⟩ := hdl
    refine ⟨hh, rf h 0, _, rfl, hU.1, r, u1, (v.natAbs : Int), qu, rfl, hBL, hr0.symm, u_8, k8, by rw [Int.natAbs_natCast]; exact hvo, hqu, fun I9 c9 k9 => ?_⟩
    have l_9 := l_8.other hBL hU n01.symm c9
    have r_9 := k8.other hBL hU hr0.symm c9
    refine ⟨hh, rf h 1, _, rfl, hLo.1, r, l1, (v.natAbs : Int), ql, rfl, hBL, hr1.symm, l_9, r_9, by rw [Int.natAbs_natCast]; exact hvo, hql, fun I10 c10 k10 => ?_⟩
    have u_10 := k9.other hBL hLo n01 c10
    have c7h : HCh rf I6 I7 h := fun a a1 a2 => c7 a (a2 2 (by decide)).1 (a2 2 (by decide)).2 (a2 3 (by decide)).1 (a2 3 (by decide)).2
    have c8h : HCh rf I7 I8 h := by
      rcases hr with rfl | rfl
      · exact HCh.of (by decide) c8
      · exact HCh.of (by decide) c8
    have hgp : ((Nat.gcd u.natAbs l.natAbs : Nat) : Int) ≠ 0 := by
      have : 0 < Nat.gcd u.natAbs l.natAbs := Nat.gcd_pos_of_pos_right _ (by omega)
      omega
    have hGi : ((Nat.gcd u.natAbs l.natAbs : Nat) : Int) = 2 ^ t * (v.natAbs : Int) := by
      rw [hG, Int.natCast_mul, Int.natCast_pow]
      rfl
    have eu : u / ((Nat.gcd u.natAbs l.natAbs : Nat) : Int) = qu := by
      have : u = ((Nat.gcd u.natAbs l.natAbs : Nat) : Int) * qu := by rw [hGi, Int.mul_assoc, ← hqu]; exact hu1
      conv => lhs; lhs; rw [this]
      exact Int.mul_ediv_cancel_left _ hgp
    have el : l / ((Nat.gcd u.natAbs l.natAbs : Nat) : Int) = ql := by
      have : l = ((Nat.gcd u.natAbs l.natAbs : Nat) : Int) * ql := by rw [hGi, Int.mul_assoc, ← hql]; exact hl1
      conv => lhs; lhs; rw [this]
      exact Int.mul_ediv_cancel_left _ hgp
    rw [eu, el] at hK
    refine hK I10 ?_ ?_ u_10 k10
    · exact ((((((((((HCh.of (by decide) c1).trans (HCh.of (by decide) c2)).trans (HCh.of (by decide) c3)).trans (HCh.of (by decide) c4)).trans (HCh.of (by decide) c5)).trans (HCh.of (by decide) c6)).trans c7h).trans c8h).trans (HCh.of (by decide) c9)).trans (HCh.of (by decide) c10))
    · have hn2 := hH.notbig hLf
      have hn3 := hH.notbig hRt
      rw [hH.stay hLo c10, hH.stay hU c9, hH.stay hR c8, c7 h hn2.1 hn2.2 hn3.1 hn3.2, hH.stay hRt c6, hH.stay hLf c5, hH.stay hRt c4, hH.stay hLf c3, hH.stay hLo c2, hH.stay hU c1]
  · have h1 : sgI u = 0 := h1
    have hu0 : u = 0 := by
      unfold sgI at h1
      by_cases q : u < 0
      · rw [if_pos q] at h1; exact absurd h1 (by decide)
      · rw [if_neg q] at h1
        by_cases q2 : u = 0
        · exact q2
        · rw [if_neg q2] at h1; exact absurd h1 (by decide)
    subst hu0
    refine ⟨hh, rf h 1, _, rfl, hLo.1, 40, 1, rfl, hLo, fun I1 c1 k1 => ?_⟩
    have u_1 := hu.other hBL hLo n01 c1
    have e0 : Nat.gcd (0 : Int).natAbs l.natAbs = l.natAbs := Nat.gcd_zero_left _
    have e1 : ((l.natAbs : Nat) : Int) = l := by omega
    rw [e0, e1, Int.zero_ediv, Int.ediv_self (by omega)] at hK
    exact hK I1 (HCh.of (by decide) c1) (hH.stay hLo c1) u_1 k1

theorem hand_d {G : Nat} {u a : Int} (hG : 0 < G) (h : u = (G : Int) * a) (hu : u.natAbs < 2 ^ (32 * 38)) : a.natAbs < 2 ^ (32 * 38) := by
  rw [h, Int.natAbs_mul, Int.natAbs_natCast] at hu
  exact Nat.lt_of_le_of_lt (Nat.le_mul_of_pos_left _ hG) hu
def ct_X1_lowestPart (sh : mSH) (rf : mRF) : Nat → Option (Nat × Bool × mPT) := fun k => match k with
  | 51 => some (1, true, pt_bring sh rf)
  | _ => none
set_option maxRecDepth 20000 in
theorem ce_X1_lowestPart : m_CE RX1 4 103 cX1_lowestPart 2 ct_X1_lowestPart := by
  intro p l e s m args below meth c Q D cs ad sh rf N hx hb hml hown hts hK hi hN k n vf pt h
  unfold ct_X1_lowestPart at h
  split at h
  · cases h
    exact m_CG_V mt_X1_bringToLowest hx hb hml hown hts hK hi hN (ci := 1) m_pv_rec rfl rfl (m_wck_ok (l := [(Cond.methodLink RX1 51 yX1_bringToLowest, 581), (Cond.instanceMethod yX1_bringToLowest, 583), (Cond.selects RX1 yX1_bringToLowest yX1_bringToLowest, 10), (Cond.initialized RX1, 61), (Cond.code yX1_bringToLowest cX1_bringToLowest 3 none, 584)]) (by decide +kernel)) ⟨rfl, by decide +kernel, by decide +kernel, by decide +kernel⟩ ⟨Nat.le_of_ble_eq_true rfl, Nat.le_of_ble_eq_true rfl⟩
  · cases h
set_option maxHeartbeats 4000000 in
set_option maxRecDepth 100000 in
theorem mt_X1_lowestPart : m_Mt yX1_lowestPart cX1_lowestPart 2 (some (.object "MomentDesk$Big")) 4 103 pt_lowestPart := by
  refine m_method0 80 (fl := fl_X1) (kI := kI_X1) (kJ := kJ_X1) (ct := ct_X1_lowestPart) (cd := cd_X1_lowestPart) (rk := 4) (by decide +kernel) fl_X1_ok kI_X1_ok kJ_X1_ok ce_X1_lowestPart ⟨_, rfl, by first | exact Or.inl ⟨_, rfl⟩ | exact Or.inr ⟨_, rfl⟩⟩ ck_X1_lowestPart ⟨_, _, rfl, rfl⟩ ?_
  intro sh rf As I J K hpt
  obtain ⟨h, rest, rfl, hh, wh, U, L, rfl, hH, hL0, ⟨u, l, hu, hl, hl0, hul, hfl, hb1, hb2⟩, hK⟩ := hpt
  have fin : ∀ (I1 : mPI) (p q : Int), HCh rf I I1 h → BIs sh rf I1 (rf h 0) p → BIs sh rf I1 (rf h 1) q → 0 < q → Nat.gcd p.natAbs q.natAbs = 1 → p * L = U * q → I1 h 4 = 1 → p.natAbs < 2 ^ (32 * 38) → q.natAbs < 2 ^ (32 * 38) → (¬ wh = 0 → sh h = .inl 1 ∧ K (some (.inr (.inr (rf h 1)))) I1 J) ∧ (wh = 0 → sh h = .inl 1 ∧ K (some (.inr (.inr (rf h 0)))) I1 J) := by
    intro I1 p q c1 k1 k2 k3 k4 k5 k6 k8 k9
    have k7 := hK I1 p q c1 ⟨p, q, k1, k2, k3, k5, Or.inr ⟨k6, k4⟩, k8, k9⟩ k1 k2 k3 k4 k5
    refine ⟨fun e => ⟨hh, ?_⟩, fun e => ⟨hh, ?_⟩⟩
    · rw [if_neg e] at k7
      exact k7
    · rw [if_pos e] at k7
      exact k7
  refine ⟨Nat.le_of_ble_eq_true rfl, hh, fun h1 => ?_, fun h1 => ?_⟩
  · have h1 : ¬ I h 4 = 0 := h1
    obtain ⟨f1, f2⟩ := hfl.resolve_left h1
    exact fin I u l (fun _ _ _ => rfl) hu hl hl0 f2 hul f1 hb1 hb2
  · refine ⟨h, [], rfl, hh, u, l, rfl, hH, hu, hl, hl0, fun I1 c1 c2 k1 k2 => ?_⟩
    have hg : 0 < Nat.gcd u.natAbs l.natAbs := Nat.gcd_pos_of_pos_right _ (by omega)
    obtain ⟨a, ha⟩ : ((Nat.gcd u.natAbs l.natAbs : Nat) : Int) ∣ u := Int.natAbs_dvd_natAbs.mp (by rw [Int.natAbs_natCast]; exact Nat.gcd_dvd_left _ _)
    obtain ⟨b, hb⟩ : ((Nat.gcd u.natAbs l.natAbs : Nat) : Int) ∣ l := Int.natAbs_dvd_natAbs.mp (by rw [Int.natAbs_natCast]; exact Nat.gcd_dvd_right _ _)
    obtain ⟨G, hG⟩ : ∃ G, G = Nat.gcd u.natAbs l.natAbs := ⟨_, rfl⟩
    rw [← hG] at k1 k2 hg ha hb
    have hG0 : (G : Int) ≠ 0 := by omega
    have ea : u / (G : Int) = a := by rw [ha]; exact Int.mul_ediv_cancel_left _ hG0
    have eb : l / (G : Int) = b := by rw [hb]; exact Int.mul_ediv_cancel_left _ hG0
    rw [ea] at k1
    rw [eb] at k2
    have hbp : 0 < b := by
      rcases Int.lt_or_le 0 b with e | e
      · exact e
      · have := Int.mul_nonpos_of_nonneg_of_nonpos (show (0 : Int) ≤ G by omega) e
        omega
    have hco : Nat.gcd a.natAbs b.natAbs = 1 := by
      have e1 : u.natAbs = G * a.natAbs := by rw [ha, Int.natAbs_mul, Int.natAbs_natCast]
      have e2 : l.natAbs = G * b.natAbs := by rw [hb, Int.natAbs_mul, Int.natAbs_natCast]
      rw [e1, e2, Nat.gcd_mul_left] at hG
      have e3 : G * 1 = G * Nat.gcd a.natAbs b.natAbs := by rw [Nat.mul_one]; exact hG
      exact (Nat.eq_of_mul_eq_mul_left hg e3).symm
    have hpq : a * L = U * b := by
      apply Int.eq_of_mul_eq_mul_left hG0
      rw [ha, hb] at hul
      grind
    refine ⟨hh, Or.inr rfl, ?_⟩
    exact fin _ a b (c1.trans (HCh.fld rf I1 h 4 1)) (k1.fld hH) (k2.fld hH) hbp hco hpq (uI_s _ _ _ _) (hand_d hg ha hb1) (hand_d hg hb hb2)
end
section
/-! ===== Polys: minors of the moments ===== -/
/-- columns left out of c before j -/
def zb (c : Nat) : Nat → Nat
  | 0 => 0
  | j + 1 => zb c j + (if c.testBit j then 0 else 1)
/-- by the last row, the columns before j -/
def mnS (mo : Nat → Int) (M : Nat → Int) (c : Nat) : Nat → Int
  | 0 => 0
  | j + 1 => mnS mo M c j + (if c.testBit j then (if zb c j % 2 = 1 then -(M (c ^^^ 2 ^ j) * mo (popc c - 1 + j)) else M (c ^^^ 2 ^ j) * mo (popc c - 1 + j)) else 0)
def mnT (mo : Nat → Int) : Nat → Nat → Int
  | 0 => fun _ => 0
  | c + 1 => fun x => if x = c then (if c = 0 then 1 else mnS mo (mnT mo c) c 6) else mnT mo c x
/-- the minor of the columns c (a bit each), with its sign -/
def mn (mo : Nat → Int) (c : Nat) : Int := mnT mo (c + 1) c
theorem mnS_congr {mo M M' : Nat → Int} {c : Nat} : ∀ {j : Nat}, (∀ i, i < j → c.testBit i = true → M (c ^^^ 2 ^ i) = M' (c ^^^ 2 ^ i)) → mnS mo M c j = mnS mo M' c j
  | 0, _ => rfl
  | j + 1, h => by
    rw [mnS, mnS, mnS_congr (fun i hi => h i (by omega))]
    by_cases q : c.testBit j = true
    · rw [if_pos q, if_pos q, h j (by omega) q]
    · rw [if_neg q, if_neg q]
theorem mnT_ge (mo : Nat → Int) {x : Nat} : ∀ {c : Nat}, x < c → mnT mo c x = mn mo x
  | 0, h => absurd h (Nat.not_lt_zero x)
  | c + 1, h => by
    by_cases e : x = c
    · subst e
      rfl
    · rw [mnT]
      show (if x = c then _ else mnT mo c x) = _
      rw [if_neg e]
      exact mnT_ge mo (by omega)
theorem xor_lt : ∀ c, c < 64 → ∀ j, j < 6 → c.testBit j = true → c ^^^ 2 ^ j < c := by decide +kernel
theorem mn_0 (mo : Nat → Int) : mn mo 0 = 1 := rfl
theorem mn_eq (mo : Nat → Int) {c : Nat} (h0 : c ≠ 0) (h : c < 64) : mn mo c = mnS mo (mn mo) c 6 := by
  show (if c = c then (if c = 0 then 1 else mnS mo (mnT mo c) c 6) else mnT mo c c) = _
  rw [if_pos rfl, if_neg h0]
  exact mnS_congr (fun i hi hb => mnT_ge mo (xor_lt c h i hi hb))
def fac : Nat → Nat
  | 0 => 1
  | n + 1 => (n + 1) * fac n
theorem popc_xor : ∀ c, c < 64 → ∀ j, j < 6 → c.testBit j = true → popc (c ^^^ 2 ^ j) + 1 = popc c := by decide +kernel
theorem popc_pos : ∀ c, c < 64 → c ≠ 0 → 1 ≤ popc c ∧ popc c ≤ 6 := by decide +kernel
/-- ones of c before j -/
def ob (c : Nat) : Nat → Nat
  | 0 => 0
  | j + 1 => ob c j + (if c.testBit j then 1 else 0)
theorem ob_pc : ∀ c, c < 64 → ob c 6 = popc c := by decide +kernel
theorem mnS_le {mo M : Nat → Int} {c B P : Nat} (hm : ∀ k, k < 12 → (mo k).natAbs ≤ B) (hp : popc c ≤ 6) : ∀ {j : Nat}, j ≤ 6 → (∀ i, i < 6 → c.testBit i = true → (M (c ^^^ 2 ^ i)).natAbs ≤ P) → (mnS mo M c j).natAbs ≤ ob c j * (P * B)
  | 0, _, _ => by simp [mnS, ob]
  | j + 1, hj, h => by
    have ih := mnS_le (M := M) (P := P) hm hp (j := j) (by omega) h
    rw [mnS, ob]
    by_cases q : c.testBit j = true
    · rw [if_pos q, if_pos q]
      have a1 : (M (c ^^^ 2 ^ j) * mo (popc c - 1 + j)).natAbs ≤ P * B := by
        rw [Int.natAbs_mul]
        exact Nat.mul_le_mul (h j (by omega) q) (hm _ (by omega))
      rw [Nat.add_mul, Nat.one_mul]
      split
      · refine Nat.le_trans (Int.natAbs_add_le _ _) ?_
        rw [Int.natAbs_neg]
        omega
      · refine Nat.le_trans (Int.natAbs_add_le _ _) ?_
        omega
    · rw [if_neg q, if_neg q, Int.add_zero, Nat.add_zero]
      exact ih
/-- the size of a minor of k columns: at most k! B^k -/
theorem mn_le {mo : Nat → Int} {B : Nat} (hm : ∀ k, k < 12 → (mo k).natAbs ≤ B) : ∀ c, c < 64 → (mn mo c).natAbs ≤ fac (popc c) * B ^ popc c := by
  intro c
  induction c using Nat.strongRecOn with
  | ind c ih =>
    intro h
    by_cases h0 : c = 0
    · subst h0
      show (1 : Int).natAbs ≤ 1 * B ^ 0
      rw [Nat.pow_zero]
      decide
    · obtain ⟨p1, p2⟩ := popc_pos c h h0
      rw [mn_eq mo h0 h]
      have key := mnS_le (M := mn mo) (c := c) (P := fac (popc c - 1) * B ^ (popc c - 1)) hm p2 (j := 6) (by omega) (fun i hi hb => by
        have e := popc_xor c h i hi hb
        have := ih _ (xor_lt c h i hi hb) (by have := xor_lt c h i hi hb; omega)
        rw [show popc (c ^^^ 2 ^ i) = popc c - 1 by omega] at this
        exact this)
      rw [ob_pc c h] at key
      refine Nat.le_trans key ?_
      obtain ⟨k, hk⟩ : ∃ k, popc c = k + 1 := ⟨popc c - 1, by omega⟩
      rw [hk, Nat.add_sub_cancel, fac, Nat.pow_succ, Nat.mul_assoc, Nat.mul_assoc]
      exact Nat.le_refl _
def MB : Nat := 2 ^ 62 - 1
theorem fac_lt : ∀ k, k < 7 → 1 ≤ k → fac k * (2 ^ 62) ^ k < 2 ^ (32 * (2 * k)) := by decide +kernel
theorem fac_lt2 : ∀ k, k < 7 → fac k * (2 ^ 62) ^ k < 2 ^ (32 * 12) := by decide +kernel
/-! ===== its cells ===== -/
def pbg (rf : mRF) (p j : Nat) : Nat := if j < 64 then rf (rf p 0) j else if j < 76 then rf (rf p 1) (j - 64) else if j = 76 then rf p 2 else rf p 3
def pcap (j : Nat) : Nat := if j < 64 then max (2 * popc j + 1) 2 else if j < 76 then 2 else 14
def PSh (sh : mSH) (rf : mRF) (p : Nat) : Prop := sh p = .inl 2 ∧ sh (rf p 0) = .inr (3, 64) ∧ sh (rf p 1) = .inr (3, 12) ∧ (∀ j, j < 78 → BSh sh rf (pbg rf p j) (pcap j)) ∧ (∀ i j, i < 78 → j < 78 → pbg rf p i = pbg rf p j → i = j) ∧ BL sh rf
/-- nothing but the Bigs of p, and p, changed -/
def PCh (rf : mRF) (I I1 : mPI) (p : Nat) : Prop := ∀ a, a ≠ p → (∀ j, j < 78 → a ≠ pbg rf p j ∧ a ≠ rf (pbg rf p j) 0) → I1 a = I a
def pw (last : Nat) : Nat := min 6 ((last + 1) / 2 + 1)
def tpF (mo : Nat → Int) (last : Nat) : Nat → Nat → Nat
  | 0, k => k
  | n + 1, k => if k < 5 ∧ 2 * k + 1 ≤ last ∧ mn mo (2 ^ (k + 1) - 1) ≠ 0 then tpF mo last n (k + 1) else k
def tpf (mo : Nat → Int) (last : Nat) : Nat := tpF mo last 6 0
def PIs (sh : mSH) (rf : mRF) (I : mPI) (p : Nat) (mo : Nat → Int) (last : Nat) : Prop := I p 4 = nI last ∧ I p 5 = nI (tpf mo last) ∧ last ≤ 11 ∧ (∀ k, k < 12 → (mo k).natAbs ≤ MB) ∧ (∀ k, k < 12 → BIs sh rf I (pbg rf p (64 + k)) (mo k)) ∧ (∀ c, c < 2 ^ pw last → BIs sh rf I (pbg rf p c) (mn mo c))
theorem tpF_le (mo : Nat → Int) (last : Nat) : ∀ n k, k ≤ 5 → tpF mo last n k ≤ 5 ∧ (tpF mo last n k = k ∨ 2 * (tpF mo last n k - 1) + 1 ≤ last)
  | 0, k, h => ⟨h, Or.inl rfl⟩
  | n + 1, k, h => by
    rw [tpF]
    split
    · rename_i q
      obtain ⟨a1, a2⟩ := tpF_le mo last n (k + 1) (by omega)
      refine ⟨a1, Or.inr ?_⟩
      rcases a2 with e | e
      · rw [e]; omega
      · exact e
    · exact ⟨h, Or.inl rfl⟩
theorem tpf_le (mo : Nat → Int) (last : Nat) : tpf mo last ≤ 5 ∧ 2 * tpf mo last ≤ last + 1 := by
  obtain ⟨a1, a2⟩ := tpF_le mo last 6 0 (by omega)
  unfold tpf
  refine ⟨a1, ?_⟩
  rcases a2 with e | e
  · rw [e]; omega
  · omega
theorem PSh.notbig {sh : mSH} {rf : mRF} {h b cap : Nat} (hh : sh h = .inl 2) (hb : BSh sh rf b cap) : h ≠ b ∧ h ≠ rf b 0 := by
  refine ⟨fun e => ?_, fun e => ?_⟩
  · have := hb.1
    rw [← e, hh] at this
    cases this
  · have := hb.2.1
    rw [← e, hh] at this
    cases this
/-! contracts -/
def pt_phas : mSH → mRF → mPT := m_pv 2 (fun _ _ p rest I J K => ∃ (k : Int32) (t : Nat), rest = [.inl k] ∧ I p 5 = nI t ∧ t ≤ 5 ∧ (∀ j, j ≤ t → k = nI j → K (some (.inl 1)) I J) ∧ ((∀ j, j ≤ t → k ≠ nI j) → K (some (.inl 0)) I J))
def pt_phasWorth : mSH → mRF → mPT := m_pv 2 (fun _ _ p rest I J K => ∃ (k : Int32) (t last : Nat), rest = [.inl k] ∧ I p 5 = nI t ∧ t ≤ 5 ∧ I p 4 = nI last ∧ last ≤ 11 ∧ (∀ j, j ≤ t → 2 * j ≤ last → k = nI j → K (some (.inl 1)) I J) ∧ ((∀ j, j ≤ t → 2 * j ≤ last → k ≠ nI j) → K (some (.inl 0)) I J))
def pt_pdet : mSH → mRF → mPT := m_pv 2 (fun sh rf p rest I J K => ∃ k : Nat, rest = [.inl (nI k)] ∧ k ≤ 6 ∧ PSh sh rf p ∧ K (some (.inr (.inr (pbg rf p (2 ^ k - 1))))) I J)
def pt_pnum : mSH → mRF → mPT := m_pv 2 (fun sh rf p rest I J K => ∃ k i : Nat, rest = [.inl (nI k), .inl (nI i)] ∧ k ≤ 5 ∧ i ≤ k ∧ PSh sh rf p ∧ K (some (.inr (.inr (pbg rf p ((2 ^ (k + 1) - 1) ^^^ 2 ^ i))))) I J)
def pt_pwsign : mSH → mRF → mPT := m_pv 2 (fun sh rf p rest I J K => ∃ (k : Nat) (x y : Int), rest = [.inl (nI k)] ∧ k ≤ 5 ∧ PSh sh rf p ∧ BIs sh rf I (pbg rf p (2 ^ (k + 1) - 1)) x ∧ BIs sh rf I (pbg rf p (2 ^ k - 1)) y ∧ K (some (.inl (sgI x * sgI y))) I J)
theorem shl_det : ∀ k, k ≤ 6 → (1 : Int32) <<< (nI k &&& 31) - 1 = nI (2 ^ k - 1) ∧ 2 ^ k - 1 < 64 := by decide +kernel
theorem shl_num : ∀ k, k ≤ 5 → ∀ i, i ≤ k → ((1 : Int32) <<< ((nI k + 1) &&& 31) - 1) ^^^ ((1 : Int32) <<< (nI i &&& 31)) = nI ((2 ^ (k + 1) - 1) ^^^ 2 ^ i) ∧ (2 ^ (k + 1) - 1) ^^^ 2 ^ i < 64 := by decide +kernel
set_option maxHeartbeats 4000000 in
set_option maxRecDepth 100000 in
theorem mt_X2_has : m_Mt yX2_has cX2_has 2 (some .boolean) 0 0 pt_phas := by
  refine m_method0 80 (fl := fl_X2) (kI := kI_X2) (kJ := kJ_X2) (ct := ct_none) (cd := cd_X2_has) (rk := 3) (by decide +kernel) fl_X2_ok kI_X2_ok kJ_X2_ok (ce_none _ _ _ _ _) rfl ck_X2_has ⟨_, _, rfl, rfl⟩ ?_
  intro sh rf As I J K hpt
  obtain ⟨p, rest, rfl, hp, k, t, rfl, h5, ht, hK1, hK0⟩ := hpt
  refine ⟨Nat.le_of_ble_eq_true rfl, fun h => ?_, fun h => ?_⟩
  · exact ⟨Or.inl rfl, hK0 (fun j hj e => by rw [e] at h; exact absurd h (nI_pos (by omega)))⟩
  · obtain ⟨j, hj, rfl⟩ := nI_of h
    refine ⟨hp, fun h7 => ?_, fun h7 => ?_⟩
    · have h7 : I p 5 < nI j := h7
      rw [h5] at h7
      have := (nI_ltI (by omega) (by omega)).mp h7
      refine ⟨Or.inl rfl, hK0 (fun i hi e => ?_)⟩
      have := (nI_eq (by omega) (by omega)).mp e
      omega
    · have h7 : ¬ I p 5 < nI j := h7
      rw [h5] at h7
      have hjt : j ≤ t := by
        rcases Nat.lt_or_ge t j with q | q
        · exact absurd ((nI_ltI (by omega) (by omega)).mpr q) h7
        · exact q
      exact ⟨Or.inr rfl, hK1 j hjt rfl⟩

def ct_X2_hasWorth (sh : mSH) (rf : mRF) : Nat → Option (Nat × Bool × mPT) := fun k => match k with
  | 76 => some (2, true, pt_phas sh rf)
  | _ => none
set_option maxRecDepth 20000 in
theorem ce_X2_hasWorth : m_CE RX2 1 21 cX2_hasWorth 2 ct_X2_hasWorth := by
  intro p l e s m args below meth c Q D cs ad sh rf N hx hb hml hown hts hK hi hN k n vf pt h
  unfold ct_X2_hasWorth at h
  split at h
  · cases h
    exact m_CG_V mt_X2_has hx hb hml hown hts hK hi hN (ci := 2) m_pv_rec rfl rfl (m_wck_ok (l := [(Cond.methodLink RX2 76 yX2_has, 445), (Cond.instanceMethod yX2_has, 446), (Cond.selects RX2 yX2_has yX2_has, 447), (Cond.initialized RX2, 57), (Cond.code yX2_has cX2_has 2 (some .boolean), 448)]) (by decide +kernel)) ⟨rfl, by decide +kernel, by decide +kernel, by decide +kernel⟩ ⟨Nat.le_of_ble_eq_true rfl, Nat.le_of_ble_eq_true rfl⟩
  · cases h
set_option maxHeartbeats 4000000 in
set_option maxRecDepth 100000 in
theorem mt_X2_hasWorth : m_Mt yX2_hasWorth cX2_hasWorth 2 (some .boolean) 1 21 pt_phasWorth := by
  refine m_method0 80 (fl := fl_X2) (kI := kI_X2) (kJ := kJ_X2) (ct := ct_X2_hasWorth) (cd := cd_X2_hasWorth) (rk := 3) (by decide +kernel) fl_X2_ok kI_X2_ok kJ_X2_ok ce_X2_hasWorth rfl ck_X2_hasWorth ⟨_, _, rfl, rfl⟩ ?_
  intro sh rf As I J K hpt
  obtain ⟨p, rest, rfl, hp, k, t, last, rfl, h5, ht, h4, hl, hK1, hK0⟩ := hpt
  refine ⟨Nat.le_of_ble_eq_true rfl, p, [.inl k], rfl, hp, k, t, rfl, h5, ht, fun j hj e => ?_, fun h => ?_⟩
  · subst e
    refine ⟨fun h => absurd h (by decide), fun _ => ⟨hp, fun h7 => ?_, fun h7 => ?_⟩⟩
    · have h7 : I p 4 < nI 2 * nI j := h7
      rw [h4, pk_mul] at h7
      have := (nI_ltI (by omega) (by omega)).mp h7
      refine ⟨Or.inl rfl, hK0 (fun i hi h9 e => ?_)⟩
      have := (nI_eq (by omega) (by omega)).mp e
      omega
    · have h7 : ¬ I p 4 < nI 2 * nI j := h7
      rw [h4, pk_mul] at h7
      have : 2 * j ≤ last := by
        rcases Nat.lt_or_ge last (2 * j) with q | q
        · exact absurd ((nI_ltI (by omega) (by omega)).mpr q) h7
        · exact q
      exact ⟨Or.inr rfl, hK1 j hj this rfl⟩
  · refine ⟨fun _ => ⟨Or.inl rfl, hK0 (fun j hj _ => h j hj)⟩, fun h7 => absurd rfl h7⟩

set_option maxHeartbeats 4000000 in
set_option maxRecDepth 100000 in
theorem mt_X2_determinant : m_Mt yX2_determinant cX2_determinant 2 (some (.object "MomentDesk$Big")) 0 0 pt_pdet := by
  refine m_method0 80 (fl := fl_X2) (kI := kI_X2) (kJ := kJ_X2) (ct := ct_none) (cd := cd_X2_determinant) (rk := 4) (by decide +kernel) fl_X2_ok kI_X2_ok kJ_X2_ok (ce_none _ _ _ _ _) ⟨_, rfl, by first | exact Or.inl ⟨_, rfl⟩ | exact Or.inr ⟨_, rfl⟩⟩ ck_X2_determinant ⟨_, _, rfl, rfl⟩ ?_
  intro sh rf As I J K hpt
  obtain ⟨p, rest, rfl, hp, k, rfl, hk, hP, hK⟩ := hpt
  obtain ⟨e1, e2⟩ := shl_det k hk
  have e3 : pbg rf p (2 ^ k - 1) = rf (rf p 0) (2 ^ k - 1) := by unfold pbg; rw [if_pos e2]
  rw [e3] at hK
  refine ⟨Nat.le_of_ble_eq_true rfl, hp, ?_, ?_⟩
  · show m_inr sh (rf p 0) ((1 : Int32) <<< (nI k &&& 31) - 1)
    rw [e1]
    exact m_inr_i hP.2.1 (Or.inl rfl) (vp_in_nI e2 (by decide))
  · show K (some (.inr (.inr (rf (rf p 0) ((1 : Int32) <<< (nI k &&& 31) - 1).toNatClampNeg)))) I J
    rw [e1, nI_clamp (by omega)]
    exact hK

set_option maxHeartbeats 4000000 in
set_option maxRecDepth 100000 in
theorem mt_X2_number : m_Mt yX2_number cX2_number 3 (some (.object "MomentDesk$Big")) 0 0 pt_pnum := by
  refine m_method0 80 (fl := fl_X2) (kI := kI_X2) (kJ := kJ_X2) (ct := ct_none) (cd := cd_X2_number) (rk := 4) (by decide +kernel) fl_X2_ok kI_X2_ok kJ_X2_ok (ce_none _ _ _ _ _) ⟨_, rfl, by first | exact Or.inl ⟨_, rfl⟩ | exact Or.inr ⟨_, rfl⟩⟩ ck_X2_number ⟨_, _, rfl, rfl⟩ ?_
  intro sh rf As I J K hpt
  obtain ⟨p, rest, rfl, hp, k, i, rfl, hk, hi, hP, hK⟩ := hpt
  obtain ⟨e1, e2⟩ := shl_num k hk i hi
  have e3 : pbg rf p ((2 ^ (k + 1) - 1) ^^^ 2 ^ i) = rf (rf p 0) ((2 ^ (k + 1) - 1) ^^^ 2 ^ i) := by unfold pbg; rw [if_pos e2]
  rw [e3] at hK
  refine ⟨Nat.le_of_ble_eq_true rfl, hp, ?_, ?_⟩
  · show m_inr sh (rf p 0) (((1 : Int32) <<< ((nI k + 1) &&& 31) - 1) ^^^ ((1 : Int32) <<< (nI i &&& 31)))
    rw [e1]
    exact m_inr_i hP.2.1 (Or.inl rfl) (vp_in_nI e2 (by decide))
  · show K (some (.inr (.inr (rf (rf p 0) (((1 : Int32) <<< ((nI k + 1) &&& 31) - 1) ^^^ ((1 : Int32) <<< (nI i &&& 31))).toNatClampNeg)))) I J
    rw [e1, nI_clamp (by omega)]
    exact hK

def ct_X2_worthSign (sh : mSH) (rf : mRF) : Nat → Option (Nat × Bool × mPT) := fun k => match k with
  | 56 => some (2, true, pt_pdet sh rf)
  | 60 => some (1, true, pt_signum sh rf)
  | _ => none
set_option maxRecDepth 20000 in
theorem ce_X2_worthSign : m_CE RX2 1 21 cX2_worthSign 2 ct_X2_worthSign := by
  intro p l e s m args below meth c Q D cs ad sh rf N hx hb hml hown hts hK hi hN k n vf pt h
  unfold ct_X2_worthSign at h
  split at h
  · cases h
    exact m_CG_V mt_X2_determinant hx hb hml hown hts hK hi hN (ci := 2) m_pv_rec rfl rfl (m_wck_ok (l := [(Cond.methodLink RX2 56 yX2_determinant, 437), (Cond.instanceMethod yX2_determinant, 438), (Cond.selects RX2 yX2_determinant yX2_determinant, 439), (Cond.initialized RX2, 57), (Cond.code yX2_determinant cX2_determinant 2 (some (.object "MomentDesk$Big")), 440)]) (by decide +kernel)) ⟨rfl, by decide +kernel, by decide +kernel, by decide +kernel⟩ ⟨Nat.le_of_ble_eq_true rfl, Nat.le_of_ble_eq_true rfl⟩
  · cases h
    exact m_CG_V mt_X0_signum hx hb hml hown hts hK hi hN (ci := 0) m_pv_rec rfl rfl (m_wck_ok (l := [(Cond.methodLink RX2 60 yX0_signum, 434), (Cond.instanceMethod yX0_signum, 413), (Cond.selects RX0 yX0_signum yX0_signum, 414), (Cond.initialized RX0, 58), (Cond.code yX0_signum cX0_signum 1 (some .int), 415)]) (by decide +kernel)) ⟨rfl, by decide +kernel, by decide +kernel, by decide +kernel⟩ ⟨Nat.le_of_ble_eq_true rfl, Nat.le_of_ble_eq_true rfl⟩
  · cases h
set_option maxHeartbeats 4000000 in
set_option maxRecDepth 100000 in
theorem mt_X2_worthSign : m_Mt yX2_worthSign cX2_worthSign 2 (some .int) 1 21 pt_pwsign := by
  refine m_method0 80 (fl := fl_X2) (kI := kI_X2) (kJ := kJ_X2) (ct := ct_X2_worthSign) (cd := cd_X2_worthSign) (rk := 1) (by decide +kernel) fl_X2_ok kI_X2_ok kJ_X2_ok ce_X2_worthSign rfl ck_X2_worthSign ⟨_, _, rfl, rfl⟩ ?_
  intro sh rf As I J K hpt
  obtain ⟨p, rest, rfl, hp, k, x, y, rfl, hk, hP, hx, hy, hK⟩ := hpt
  have s1 := hP.2.2.2.1 (2 ^ (k + 1) - 1) (by have := (shl_det (k + 1) (by omega)).2; omega)
  have s2 := hP.2.2.2.1 (2 ^ k - 1) (by have := (shl_det k (by omega)).2; omega)
  refine ⟨Nat.le_of_ble_eq_true rfl, p, [.inl (nI k + 1)], rfl, hp, k + 1, by rw [nI_1], by omega, hP, _, [], rfl, s1.1, x, rfl, hx, p, [.inl (nI k)], rfl, hp, k, rfl, by omega, hP, _, [], rfl, s2.1, y, rfl, hy, hK⟩

/-- worths above 0, from the first on -/
def gwF (mo : Nat → Int) (last : Nat) : Nat → Nat → Nat
  | 0, k => k
  | n + 1, k => if k ≤ tpf mo last ∧ 2 * k ≤ last ∧ 0 < mn mo (2 ^ (k + 1) - 1) * mn mo (2 ^ k - 1) then gwF mo last n (k + 1) else k
def gwf (mo : Nat → Int) (last : Nat) : Nat := gwF mo last 7 0
theorem sgI_mul (x y : Int) : sgI x * sgI y ≤ 0 ↔ ¬ 0 < x * y := by
  unfold sgI
  rcases Int.lt_trichotomy x 0 with q | q | q <;> rcases Int.lt_trichotomy y 0 with r | r | r
  · have := Int.mul_pos_of_neg_of_neg q r
    rw [if_pos q, if_pos r]
    simp [this]
  · rw [r]; simp
  · have := Int.mul_neg_of_neg_of_pos q r
    rw [if_pos q, if_neg (by omega), if_neg (by omega)]
    constructor
    · intro _; omega
    · intro _; decide
  · rw [q]; simp
  · rw [q]; simp
  · rw [q]; simp
  · have := Int.mul_neg_of_pos_of_neg q r
    rw [if_neg (by omega), if_neg (by omega), if_pos r]
    constructor
    · intro _; omega
    · intro _; decide
  · rw [r]; simp
  · have := Int.mul_pos q r
    rw [if_neg (by omega), if_neg (by omega), if_neg (by omega), if_neg (by omega)]
    constructor
    · intro h; exact absurd h (by decide)
    · intro h; omega
theorem pw_det {mo : Nat → Int} {last k : Nat} (hk : 2 * k ≤ last + 2) (h6 : k ≤ 6) : 2 ^ k - 1 < 2 ^ pw last := by
  have h1 : k ≤ pw last := by unfold pw; omega
  have h2 : 2 ^ k ≤ 2 ^ pw last := Nat.pow_le_pow_right (by decide) h1
  have h3 : 0 < 2 ^ k := Nat.two_pow_pos k
  omega
def pt_pgood : mSH → mRF → mPT := m_pv 2 (fun sh rf p rest I J K => ∃ (mo : Nat → Int) (last : Nat), rest = [] ∧ PSh sh rf p ∧ PIs sh rf I p mo last ∧ K (some (.inl (nI (gwf mo last)))) I J)
def ct_X2_goodWorths (sh : mSH) (rf : mRF) : Nat → Option (Nat × Bool × mPT) := fun k => match k with
  | 80 => some (2, true, pt_phasWorth sh rf)
  | 83 => some (2, true, pt_pwsign sh rf)
  | _ => none
set_option maxRecDepth 20000 in
theorem ce_X2_goodWorths : m_CE RX2 2 42 cX2_goodWorths 2 ct_X2_goodWorths := by
  intro p l e s m args below meth c Q D cs ad sh rf N hx hb hml hown hts hK hi hN k n vf pt h
  unfold ct_X2_goodWorths at h
  split at h
  · cases h
    exact m_CG_V mt_X2_hasWorth hx hb hml hown hts hK hi hN (ci := 2) m_pv_rec rfl rfl (m_wck_ok (l := [(Cond.methodLink RX2 80 yX2_hasWorth, 621), (Cond.instanceMethod yX2_hasWorth, 442), (Cond.selects RX2 yX2_hasWorth yX2_hasWorth, 443), (Cond.initialized RX2, 57), (Cond.code yX2_hasWorth cX2_hasWorth 2 (some .boolean), 444)]) (by decide +kernel)) ⟨rfl, by decide +kernel, by decide +kernel, by decide +kernel⟩ ⟨Nat.le_of_ble_eq_true rfl, Nat.le_of_ble_eq_true rfl⟩
  · cases h
    exact m_CG_V mt_X2_worthSign hx hb hml hown hts hK hi hN (ci := 2) m_pv_rec rfl rfl (m_wck_ok (l := [(Cond.methodLink RX2 83 yX2_worthSign, 622), (Cond.instanceMethod yX2_worthSign, 521), (Cond.selects RX2 yX2_worthSign yX2_worthSign, 522), (Cond.initialized RX2, 57), (Cond.code yX2_worthSign cX2_worthSign 2 (some .int), 523)]) (by decide +kernel)) ⟨rfl, by decide +kernel, by decide +kernel, by decide +kernel⟩ ⟨Nat.le_of_ble_eq_true rfl, Nat.le_of_ble_eq_true rfl⟩
  · cases h
set_option maxHeartbeats 4000000 in
set_option maxRecDepth 100000 in
theorem mt_X2_goodWorths : m_Mt yX2_goodWorths cX2_goodWorths 2 (some .int) 2 42 pt_pgood := by
  refine m_methodG (fl := fl_X2) (kI := kI_X2) (kJ := kJ_X2) (ct := ct_X2_goodWorths) (cd := cd_X2_goodWorths) (cut := [(2, [0, 1])]) (rk := 1) (fu := 80) (by decide +kernel) fl_X2_ok kI_X2_ok kJ_X2_ok ce_X2_goodWorths rfl ck_X2_goodWorths ⟨_, _, rfl, rfl⟩ ?_
  intro sh rf As I J K hpt
  obtain ⟨p, rest, rfl, hp, mo, last, rfl, hP, hI0, hK⟩ := hpt
  obtain ⟨i4, i5, i6, i7, i8, i9⟩ := id hI0
  have ht := tpf_le mo last
  refine ⟨Nat.le_of_ble_eq_true rfl, fun a b9 pc vs st I1 J1 => ∃ k n, vs = [.inr (.inr p), .inl (nI k)] ∧ st = [] ∧ I1 = I ∧ J1 = J ∧ a = n ∧ k + n = 7 ∧ k ≤ 6 ∧ gwF mo last n k = gwf mo last, ?_, ?_⟩
  · exact ⟨7, 0, 0, 7, rfl, rfl, rfl, rfl, rfl, rfl, by omega, rfl⟩
  · intro pc ks a b9 vs st I1 J1 hc hI
    rcases m_cu1 hc with ⟨rfl, rfl⟩ | hc
    · obtain ⟨k, n, rfl, rfl, rfl, rfl, rfl, hkn, hk6, hg⟩ := hI
      obtain ⟨n, rfl⟩ : ∃ m, a = m + 1 := ⟨a - 1, by omega⟩
      rw [gwF] at hg
      have stop : ¬ (k ≤ tpf mo last ∧ 2 * k ≤ last ∧ 0 < mn mo (2 ^ (k + 1) - 1) * mn mo (2 ^ k - 1)) → K (some (.inl (nI k))) I1 J1 := by
        intro q
        rw [if_neg q] at hg
        rw [hg]
        exact hK
      refine ⟨fun h => ?_, fun h => ?_⟩
      · have h : nI 5 < nI k := h
        have := (nI_ltI (by decide) (by omega)).mp h
        exact stop (fun q => by omega)
      · have h : ¬ nI 5 < nI k := h
        have hk5 : k ≤ 5 := by
          rcases Nat.lt_or_ge 5 k with q | q
          · exact absurd ((nI_ltI (by decide) (by omega)).mpr q) h
          · exact q
        refine ⟨p, [.inl (nI k)], rfl, hp, nI k, tpf mo last, last, rfl, i5, ht.1, i4, i6, fun j hj hj2 e => ?_, fun q => ?_⟩
        · obtain rfl : k = j := (nI_eq (by omega) (by omega)).mp e
          refine ⟨fun h7 => absurd h7 (by decide), fun _ => ⟨p, [.inl (nI k)], rfl, hp, k, _, _, rfl, hk5, hP, i9 _ (pw_det (mo := mo) (by omega) (by omega)), i9 _ (pw_det (mo := mo) (by omega) (by omega)), fun h8 => ?_, fun h8 => ?_⟩⟩
          · have h8 := (sgI_mul _ _).mp h8
            exact stop (fun q => h8 q.2.2)
          · have h8 : 0 < mn mo (2 ^ (k + 1) - 1) * mn mo (2 ^ k - 1) := by
              rcases Int.lt_or_le 0 (mn mo (2 ^ (k + 1) - 1) * mn mo (2 ^ k - 1)) with q | q
              · exact q
              · exact absurd ((sgI_mul _ _).mpr (by omega)) h8
            rw [if_pos ⟨hj, hj2, h8⟩] at hg
            exact ⟨n, 0, Or.inl (by omega), k + 1, n, by rw [← nI_1], rfl, rfl, rfl, rfl, by omega, by omega, hg⟩
        · exact ⟨fun _ => stop (fun q2 => q k q2.1 q2.2.1 rfl), fun h7 => absurd rfl h7⟩
    · cases hc
end
section
/-! ===== Polys: setMinor, take ===== -/
theorem mn_lt {mo : Nat → Int} (hm : ∀ k, k < 12 → (mo k).natAbs ≤ MB) {c : Nat} (h : c < 64) : (mn mo c).natAbs < 2 ^ (32 * 12) ∧ (c ≠ 0 → (mn mo c).natAbs < 2 ^ (32 * (2 * popc c))) := by
  have h1 : ∀ k, k < 12 → (mo k).natAbs ≤ 2 ^ 62 := fun k hk => Nat.le_trans (hm k hk) (by unfold MB; omega)
  have h2 := mn_le h1 c h
  by_cases h0 : c = 0
  · subst h0
    exact ⟨by show (1 : Int).natAbs < _; decide, fun e => absurd rfl e⟩
  · obtain ⟨p1, p2⟩ := popc_pos c h h0
    exact ⟨Nat.lt_of_le_of_lt h2 (fac_lt2 _ (by omega)), fun _ => Nat.lt_of_le_of_lt h2 (fac_lt _ (by omega) p1)⟩
theorem ob_le : ∀ c, c < 64 → ∀ j, j < 7 → ob c j ≤ popc c := by decide +kernel
theorem mnS_lt {mo : Nat → Int} (hm : ∀ k, k < 12 → (mo k).natAbs ≤ MB) {c j : Nat} (h0 : c ≠ 0) (h : c < 64) (hj : j ≤ 6) : (mnS mo (mn mo) c j).natAbs < 2 ^ (32 * (2 * popc c)) ∧ (j < 6 → c.testBit j = true → (mn mo (c ^^^ 2 ^ j) * mo (popc c - 1 + j)).natAbs < 2 ^ (32 * (2 * popc c))) := by
  have h1 : ∀ k, k < 12 → (mo k).natAbs ≤ 2 ^ 62 := fun k hk => Nat.le_trans (hm k hk) (by unfold MB; omega)
  obtain ⟨p1, p2⟩ := popc_pos c h h0
  have hP : ∀ i, i < 6 → c.testBit i = true → (mn mo (c ^^^ 2 ^ i)).natAbs ≤ fac (popc c - 1) * (2 ^ 62) ^ (popc c - 1) := by
    intro i hi hb
    have e := popc_xor c h i hi hb
    have := mn_le h1 (c ^^^ 2 ^ i) (by have := xor_lt c h i hi hb; omega)
    rw [show popc (c ^^^ 2 ^ i) = popc c - 1 by omega] at this
    exact this
  have hf := fac_lt (popc c) (by omega) p1
  obtain ⟨k, hk⟩ : ∃ k, popc c = k + 1 := ⟨popc c - 1, by omega⟩
  have hfk : fac (popc c) * (2 ^ 62) ^ popc c = popc c * (fac (popc c - 1) * (2 ^ 62) ^ (popc c - 1) * 2 ^ 62) := by
    rw [hk, Nat.add_sub_cancel, fac, show (2 ^ 62) ^ (k + 1) = (2 ^ 62) ^ k * 2 ^ 62 from Nat.pow_succ _ _, Nat.mul_assoc, Nat.mul_assoc]
  refine ⟨?_, fun hj6 hb => ?_⟩
  · have key := mnS_le (M := mn mo) (c := c) (P := fac (popc c - 1) * (2 ^ 62) ^ (popc c - 1)) h1 p2 hj hP
    have h3 := Nat.mul_le_mul_right (fac (popc c - 1) * (2 ^ 62) ^ (popc c - 1) * 2 ^ 62) (ob_le c h j (by omega))
    rw [← hfk] at h3
    omega
  · rw [Int.natAbs_mul]
    have h3 := Nat.mul_le_mul (hP j hj6 hb) (h1 (popc c - 1 + j) (by omega))
    have h4 := Nat.mul_le_mul_right (fac (popc c - 1) * (2 ^ 62) ^ (popc c - 1) * 2 ^ 62) p1
    rw [← hfk, Nat.one_mul] at h4
    omega
theorem bit_t : ∀ c, c < 64 → ∀ j, j < 6 → (nI c &&& ((1 : Int32) <<< (nI j &&& 31)) = 0 ↔ c.testBit j = false) ∧ nI c ^^^ ((1 : Int32) <<< (nI j &&& 31)) = nI (c ^^^ 2 ^ j) := by decide +kernel
def pt_psetMinor : mSH → mRF → mPT := m_pv 2 (fun sh rf p rest I J K => ∃ (c : Nat) (mo : Nat → Int), rest = [.inl (nI c)] ∧ 1 ≤ c ∧ c < 64 ∧ PSh sh rf p ∧ (∀ k, k < 12 → (mo k).natAbs ≤ MB) ∧ (∀ k, k < 12 → BIs sh rf I (pbg rf p (64 + k)) (mo k)) ∧ (∀ c', c' < c → BIs sh rf I (pbg rf p c') (mn mo c')) ∧ ∀ I1, BCh2 rf I I1 (pbg rf p c) (pbg rf p 76) → BIs sh rf I1 (pbg rf p c) (mn mo c) → K none I1 J)
def ct_X2_setMinor (sh : mSH) (rf : mRF) : Nat → Option (Nat × Bool × mPT) := fun k => match k with
  | 34 => some (1, false, pt_bitCount sh rf)
  | 40 => some (2, true, pt_setLong sh rf)
  | 60 => some (1, true, pt_signum sh rf)
  | 64 => some (3, true, pt_setProduct sh rf)
  | 72 => some (3, true, pt_addSigned sh rf)
  | _ => none
set_option maxRecDepth 20000 in
theorem ce_X2_setMinor : m_CE RX2 3 103 cX2_setMinor 7 ct_X2_setMinor := by
  intro p l e s m args below meth c Q D cs ad sh rf N hx hb hml hown hts hK hi hN k n vf pt h
  unfold ct_X2_setMinor at h
  split at h
  · cases h
    exact m_CG_S mt_J6_bitCount_0f7a4 hx hb hml hown hts hK hi hN (m_wck_ok (l := [(Cond.methodLink RX2 34 yJ6_bitCount_0f7a4, 109), (Cond.static yJ6_bitCount_0f7a4, 110), (Cond.initialized RJ6, 60), (Cond.code yJ6_bitCount_0f7a4 cJ6_bitCount_0f7a4 1 (some .int), 111)]) (by decide +kernel)) ⟨by decide +kernel, by decide +kernel, by decide +kernel⟩ ⟨Nat.le_of_ble_eq_true rfl, Nat.le_of_ble_eq_true rfl⟩
  · cases h
    exact m_CG_V mt_X0_setLong hx hb hml hown hts hK hi hN (ci := 0) m_pv_rec rfl rfl (m_wck_ok (l := [(Cond.methodLink RX2 40 yX0_setLong, 428), (Cond.instanceMethod yX0_setLong, 176), (Cond.selects RX0 yX0_setLong yX0_setLong, 177), (Cond.initialized RX0, 58), (Cond.code yX0_setLong cX0_setLong 5 none, 178)]) (by decide +kernel)) ⟨rfl, by decide +kernel, by decide +kernel, by decide +kernel⟩ ⟨Nat.le_of_ble_eq_true rfl, Nat.le_of_ble_eq_true rfl⟩
  · cases h
    exact m_CG_V mt_X0_signum hx hb hml hown hts hK hi hN (ci := 0) m_pv_rec rfl rfl (m_wck_ok (l := [(Cond.methodLink RX2 60 yX0_signum, 434), (Cond.instanceMethod yX0_signum, 413), (Cond.selects RX0 yX0_signum yX0_signum, 414), (Cond.initialized RX0, 58), (Cond.code yX0_signum cX0_signum 1 (some .int), 415)]) (by decide +kernel)) ⟨rfl, by decide +kernel, by decide +kernel, by decide +kernel⟩ ⟨Nat.le_of_ble_eq_true rfl, Nat.le_of_ble_eq_true rfl⟩
  · cases h
    exact m_CG_V mt_X0_setProduct hx hb hml hown hts hK hi hN (ci := 0) m_pv_rec rfl rfl (m_wck_ok (l := [(Cond.methodLink RX2 64 yX0_setProduct, 435), (Cond.instanceMethod yX0_setProduct, 317), (Cond.selects RX0 yX0_setProduct yX0_setProduct, 318), (Cond.initialized RX0, 58), (Cond.code yX0_setProduct cX0_setProduct 10 none, 319)]) (by decide +kernel)) ⟨rfl, by decide +kernel, by decide +kernel, by decide +kernel⟩ ⟨Nat.le_of_ble_eq_true rfl, Nat.le_of_ble_eq_true rfl⟩
  · cases h
    exact m_CG_V mt_X0_addSigned hx hb hml hown hts hK hi hN (ci := 0) m_pv_rec rfl rfl (m_wck_ok (l := [(Cond.methodLink RX2 72 yX0_addSigned, 436), (Cond.instanceMethod yX0_addSigned, 348), (Cond.selects RX0 yX0_addSigned yX0_addSigned, 349), (Cond.initialized RX0, 58), (Cond.code yX0_addSigned cX0_addSigned 3 none, 350)]) (by decide +kernel)) ⟨rfl, by decide +kernel, by decide +kernel, by decide +kernel⟩ ⟨Nat.le_of_ble_eq_true rfl, Nat.le_of_ble_eq_true rfl⟩
  · cases h
set_option maxHeartbeats 4000000 in
set_option maxRecDepth 100000 in
theorem mt_X2_setMinor : m_Mt yX2_setMinor cX2_setMinor 7 none 3 103 pt_psetMinor := by
  refine m_methodG (fl := fl_X2) (kI := kI_X2) (kJ := kJ_X2) (ct := ct_X2_setMinor) (cd := cd_X2_setMinor) (cut := [(25, [0, 1, 2, 3, 4, 5])]) (rk := 0) (fu := 100) (by decide +kernel) fl_X2_ok kI_X2_ok kJ_X2_ok ce_X2_setMinor rfl ck_X2_setMinor ⟨_, _, rfl, rfl⟩ ?_
  intro sh rf As I J K hpt
  obtain ⟨p, rest, rfl, hp, c, mo, rfl, hc1, hc64, hP, hmo, hI2, hI3, hK⟩ := hpt
  obtain ⟨-, hsA, hsB, hBS, hinj, hBL⟩ := id hP
  have hc0 : c ≠ 0 := by omega
  obtain ⟨pp1, pp2⟩ := popc_pos c hc64 hc0
  have ebg : ∀ x, x < 64 → pbg rf p x = rf (rf p 0) x := fun x hx => by unfold pbg; rw [if_pos hx]
  have emo : ∀ x, x < 12 → pbg rf p (64 + x) = rf (rf p 1) x := fun x hx => by
    unfold pbg
    rw [if_neg (by omega), if_pos (by omega), show 64 + x - 64 = x by omega]
  have esp : pbg rf p 76 = rf p 2 := rfl
  have hbc := hBS c (by omega)
  have hsp := hBS 76 (by decide)
  have hcapc : pcap c = 2 * popc c + 1 := by unfold pcap; rw [if_pos hc64]; omega
  have hcap76 : pcap 76 = 14 := rfl
  have ncs : pbg rf p c ≠ pbg rf p 76 := fun e => absurd (hinj c 76 (by omega) (by decide) e) (by omega)
  have ir : ∀ x, x < 64 → m_inr sh (rf p 0) (nI x) := fun x hx => m_inr_i hsA (Or.inl rfl) (vp_in_nI hx (by decide))
  have ir2 : ∀ x, x < 12 → m_inr sh (rf p 1) (nI x) := fun x hx => m_inr_i hsB (Or.inl rfl) (vp_in_nI hx (by decide))
  have erow : nI (popc c) - 1 = nI (popc c - 1) := pk_sub (b := 1) pp1
  refine ⟨Nat.le_of_ble_eq_true rfl, fun a b9 pc vs st I1 J1 => ∃ (j : Nat) (fl : Int32), vs = [.inr (.inr p), .inl (nI c), .inr (.inr (pbg rf p c)), .inl (nI (popc c - 1)), .inl fl, .inl (nI j)] ∧ st = [] ∧ J1 = J ∧ a = 6 - j ∧ j ≤ 6 ∧ fl = (if zb c j % 2 = 1 then 1 else 0) ∧ BCh2 rf I I1 (pbg rf p c) (pbg rf p 76) ∧ BIs sh rf I1 (pbg rf p c) (mnS mo (mn mo) c j), ?_, ?_⟩
  · refine ⟨hp, ir c hc64, c, rfl, hc64, pbg rf p c, [.inr (.inl 0)], ?_, hbc.1, pcap c, 0, rfl, hbc, fun I1 k1 k2 => ?_⟩
    · show ([.inr (.inr (rf (rf p 0) (nI c).toNatClampNeg)), .inr (.inl 0)] : List mPV) = _
      rw [nI_clamp (by omega), ebg c hc64]
    · refine ⟨6, 0, 0, 0, ?_, rfl, rfl, rfl, by omega, rfl, fun x a1 a2 _ _ => k1 x a1 a2, k2⟩
      rw [ebg c hc64, ← erow, nI_clamp (by omega)]
      rfl
  · intro pc ks a b9 vs st I1 J1 hc hI
    rcases m_cu1 hc with ⟨rfl, rfl⟩ | hc
    · obtain ⟨j, fl, rfl, rfl, rfl, rfl, hj, hfl, hch, hz⟩ := hI
      refine ⟨fun h => ?_, fun h => ?_⟩
      · have hge := (nI_leI (a := 6) (b := j) (by decide) (by omega)).mp h
        obtain rfl : j = 6 := by omega
        rw [← mn_eq mo hc0 hc64] at hz
        exact hK I1 hch hz
      · have hjl : j < 6 := by
          rcases Nat.lt_or_ge j 6 with q | q
          · exact q
          · exact absurd (nI_le q (by omega)) h
        obtain ⟨b1, b2⟩ := bit_t c hc64 j hjl
        have next : ∀ (I2 : mPI) (fl2 : Int32), fl2 = (if zb c (j + 1) % 2 = 1 then 1 else 0) → BCh2 rf I I2 (pbg rf p c) (pbg rf p 76) → BIs sh rf I2 (pbg rf p c) (mnS mo (mn mo) c (j + 1)) → ∃ a1 b1, (a1 < 6 - j ∨ a1 = 6 - j ∧ b1 < b9) ∧ ∃ (j' : Nat) (fl' : Int32), ([.inr (.inr p), .inl (nI c), .inr (.inr (pbg rf p c)), .inl (nI (popc c - 1)), .inl fl2, .inl (nI j + 1)] : List mPV) = [.inr (.inr p), .inl (nI c), .inr (.inr (pbg rf p c)), .inl (nI (popc c - 1)), .inl fl', .inl (nI j')] ∧ ([] : List mPV) = [] ∧ J1 = J1 ∧ a1 = 6 - j' ∧ j' ≤ 6 ∧ fl' = (if zb c j' % 2 = 1 then 1 else 0) ∧ BCh2 rf I I2 (pbg rf p c) (pbg rf p 76) ∧ BIs sh rf I2 (pbg rf p c) (mnS mo (mn mo) c j') := fun I2 fl2 q1 q2 q3 => ⟨6 - (j + 1), 0, Or.inl (by omega), j + 1, fl2, by rw [← nI_1], rfl, rfl, rfl, by omega, q1, q2, q3⟩
        refine ⟨fun h7 => ?_, fun h7 => ?_⟩
        · have hb : c.testBit j = true := by
            cases q : c.testBit j
            · exact absurd (b1.mpr q) h7
            · rfl
          have hxl := xor_lt c hc64 j hjl hb
          have hz1 : zb c (j + 1) = zb c j := by rw [zb, if_pos hb, Nat.add_zero]
          have erj : nI (popc c - 1) + nI j = nI (popc c - 1 + j) := nI_add _ _
          have hmj := hI2 (popc c - 1 + j) (by omega)
          have n1 : pbg rf p (64 + (popc c - 1 + j)) ≠ pbg rf p c := fun e => absurd (hinj _ c (by omega) (by omega) e) (by omega)
          have n2 : pbg rf p (64 + (popc c - 1 + j)) ≠ pbg rf p 76 := fun e => absurd (hinj _ 76 (by omega) (by decide) e) (by omega)
          have n3 : pbg rf p (c ^^^ 2 ^ j) ≠ pbg rf p c := fun e => absurd (hinj _ c (by omega) (by omega) e) (by omega)
          have n4 : pbg rf p (c ^^^ 2 ^ j) ≠ pbg rf p 76 := fun e => absurd (hinj _ 76 (by omega) (by decide) e) (by omega)
          have hm1 := hmj.other2 hBL hbc hsp n1 n2 hch
          have hx1 := (hI3 _ hxl).other2 hBL hbc hsp n3 n4 hch
          have hmS := hBS (64 + (popc c - 1 + j)) (by omega)
          have i1 : m_inr sh (rf p 1) (nI (popc c - 1) + nI j) := by rw [erj]; exact ir2 _ (by omega)
          have e1 : rf (rf p 1) (nI (popc c - 1) + nI j).toNatClampNeg = pbg rf p (64 + (popc c - 1 + j)) := by rw [erj, nI_clamp (by omega), emo _ (by omega)]
          have i2 : m_inr sh (rf p 0) (nI c ^^^ ((1 : Int32) <<< (nI j &&& 31))) := by rw [b2]; exact ir _ (by omega)
          have e2 : rf (rf p 0) (nI c ^^^ ((1 : Int32) <<< (nI j &&& 31))).toNatClampNeg = pbg rf p (c ^^^ 2 ^ j) := by rw [b2, nI_clamp (by omega), ebg _ (by omega)]
          refine ⟨hp, i1, pbg rf p (64 + (popc c - 1 + j)), [], ?_, hmS.1, mo (popc c - 1 + j), rfl, hm1, fun h8 => ?_, fun h8 => ?_⟩
          · show ([.inr (.inr (rf (rf p 1) (nI (popc c - 1) + nI j).toNatClampNeg))] : List mPV) = _
            rw [e1]
          · have h8 : sgI (mo (popc c - 1 + j)) = 0 := h8
            have h0 : mo (popc c - 1 + j) = 0 := by
              unfold sgI at h8
              by_cases q : mo (popc c - 1 + j) < 0
              · rw [if_pos q] at h8; exact absurd h8 (by decide)
              · rw [if_neg q] at h8
                by_cases q2 : mo (popc c - 1 + j) = 0
                · exact q2
                · rw [if_neg q2] at h8; exact absurd h8 (by decide)
            refine next I1 fl (by rw [hz1]; exact hfl) hch ?_
            rw [mnS, if_pos hb, h0, Int.mul_zero]
            have : (if zb c j % 2 = 1 then -(0 : Int) else 0) = 0 := by split <;> rfl
            rw [this, Int.add_zero]
            exact hz
          · have hlim := mn_lt hmo (c := c ^^^ 2 ^ j) (by omega)
            have hlm := hmo (popc c - 1 + j) (by omega)
            have hbd := mnS_lt hmo hc0 hc64 (j := j) (by omega)
            refine ⟨hp, hp, i2, hp, i1, pbg rf p 76, [.inr (.inr (pbg rf p (c ^^^ 2 ^ j))), .inr (.inr (pbg rf p (64 + (popc c - 1 + j))))], ?_, hsp.1, 14, pbg rf p (c ^^^ 2 ^ j), pbg rf p (64 + (popc c - 1 + j)), 12, 2, mn mo (c ^^^ 2 ^ j), mo (popc c - 1 + j), rfl, hsp, hBL, n4, n2, hx1, hm1, hlim.1, by unfold MB at hlm; omega, by omega, fun I2 k1 k2 => ?_⟩
            · show ([.inr (.inr (rf p 2)), .inr (.inr (rf (rf p 0) (nI c ^^^ ((1 : Int32) <<< (nI j &&& 31))).toNatClampNeg)), .inr (.inr (rf (rf p 1) (nI (popc c - 1) + nI j).toNatClampNeg))] : List mPV) = _
              rw [e1, e2]
              rfl
            · have hz2 := hz.other hBL hsp ncs k1
              have hng := k2.neg
              have ncs' : pbg rf p 76 ≠ pbg rf p c := ncs.symm
              have step : ∀ (s : Int32) (I3 : mPI), (if s = 1 then -((mn mo (c ^^^ 2 ^ j) * mo (popc c - 1 + j)).natAbs : Int) else ((mn mo (c ^^^ 2 ^ j) * mo (popc c - 1 + j)).natAbs : Int)) = (if zb c j % 2 = 1 then -(mn mo (c ^^^ 2 ^ j) * mo (popc c - 1 + j)) else mn mo (c ^^^ 2 ^ j) * mo (popc c - 1 + j)) → BCh rf I2 I3 (pbg rf p c) → BIs sh rf I3 (pbg rf p c) (mnS mo (mn mo) c j + (if s = 1 then -((mn mo (c ^^^ 2 ^ j) * mo (popc c - 1 + j)).natAbs : Int) else ((mn mo (c ^^^ 2 ^ j) * mo (popc c - 1 + j)).natAbs : Int))) → BCh2 rf I I3 (pbg rf p c) (pbg rf p 76) ∧ BIs sh rf I3 (pbg rf p c) (mnS mo (mn mo) c (j + 1)) := by
                intro s I3 he k3 k4
                refine ⟨fun x a1 a2 a3 a4 => ?_, ?_⟩
                · rw [k3 x a1 a2, k1 x a3 a4, hch x a1 a2 a3 a4]
                · rw [mnS, if_pos hb, ← he]
                  exact k4
              refine ⟨hp, hp, hsp.1, fun h9 => ?_, fun h9 => ?_⟩
              · have h9 : I2 (pbg rf p 76) 2 = fl := h9
                rw [hng, hfl] at h9
                refine ⟨pbg rf p c, _, rfl, hbc.1, pcap c, pbg rf p 76, 2 * popc c, mnS mo (mn mo) c j, mn mo (c ^^^ 2 ^ j) * mo (popc c - 1 + j), 0, rfl, Or.inl rfl, hbc, hBL, ncs', hz2, k2, hbd.1, hbd.2 hjl hb, by omega, fun I3 k3 k4 => ?_⟩
                suffices he : (if (0 : Int32) = 1 then -((mn mo (c ^^^ 2 ^ j) * mo (popc c - 1 + j)).natAbs : Int) else ((mn mo (c ^^^ 2 ^ j) * mo (popc c - 1 + j)).natAbs : Int)) = (if zb c j % 2 = 1 then -(mn mo (c ^^^ 2 ^ j) * mo (popc c - 1 + j)) else mn mo (c ^^^ 2 ^ j) * mo (popc c - 1 + j)) by
                  obtain ⟨q8, q9⟩ := step 0 I3 he k3 k4
                  exact next I3 fl (by rw [hz1]; exact hfl) q8 q9
                rw [if_neg (show ¬ (0 : Int32) = 1 by decide)]
                by_cases q : mn mo (c ^^^ 2 ^ j) * mo (popc c - 1 + j) < 0
                · rw [if_pos q] at h9
                  by_cases q2 : zb c j % 2 = 1
                  · rw [if_pos q2]; omega
                  · rw [if_neg q2] at h9; exact absurd h9 (by decide)
                · rw [if_neg q] at h9
                  by_cases q2 : zb c j % 2 = 1
                  · rw [if_pos q2] at h9; exact absurd h9 (by decide)
                  · rw [if_neg q2]; omega
              · have h9 : ¬ I2 (pbg rf p 76) 2 = fl := h9
                rw [hng, hfl] at h9
                refine ⟨pbg rf p c, _, rfl, hbc.1, pcap c, pbg rf p 76, 2 * popc c, mnS mo (mn mo) c j, mn mo (c ^^^ 2 ^ j) * mo (popc c - 1 + j), 1, rfl, Or.inr rfl, hbc, hBL, ncs', hz2, k2, hbd.1, hbd.2 hjl hb, by omega, fun I3 k3 k4 => ?_⟩
                suffices he : (if (1 : Int32) = 1 then -((mn mo (c ^^^ 2 ^ j) * mo (popc c - 1 + j)).natAbs : Int) else ((mn mo (c ^^^ 2 ^ j) * mo (popc c - 1 + j)).natAbs : Int)) = (if zb c j % 2 = 1 then -(mn mo (c ^^^ 2 ^ j) * mo (popc c - 1 + j)) else mn mo (c ^^^ 2 ^ j) * mo (popc c - 1 + j)) by
                  obtain ⟨q8, q9⟩ := step 1 I3 he k3 k4
                  exact next I3 fl (by rw [hz1]; exact hfl) q8 q9
                rw [if_pos (show (1 : Int32) = 1 from rfl)]
                by_cases q : mn mo (c ^^^ 2 ^ j) * mo (popc c - 1 + j) < 0
                · rw [if_pos q] at h9
                  by_cases q2 : zb c j % 2 = 1
                  · rw [if_pos q2] at h9; exact absurd rfl h9
                  · rw [if_neg q2]; omega
                · rw [if_neg q] at h9
                  by_cases q2 : zb c j % 2 = 1
                  · rw [if_pos q2]; omega
                  · rw [if_neg q2] at h9; exact absurd rfl h9
        · have hb : ¬ c.testBit j = true := by
            have := b1.mp h7
            rw [this]
            decide
          have hz1 : zb c (j + 1) = zb c j + 1 := by rw [zb, if_neg hb]
          have hs1 : mnS mo (mn mo) c (j + 1) = mnS mo (mn mo) c j := by rw [mnS, if_neg hb, Int.add_zero]
          refine ⟨fun h8 => ?_, fun h8 => ?_⟩
          · have h8 : ¬ fl = 0 := h8
            rw [hfl] at h8
            have q : zb c j % 2 = 1 := by
              by_cases q : zb c j % 2 = 1
              · exact q
              · rw [if_neg q] at h8; exact absurd rfl h8
            exact next I1 0 (by rw [hz1, if_neg (by omega)]) hch (by rw [hs1]; exact hz)
          · have h8 : fl = 0 := h8
            rw [hfl] at h8
            have q : ¬ zb c j % 2 = 1 := fun q => by rw [if_pos q] at h8; exact absurd h8 (by decide)
            exact next I1 1 (by rw [hz1, if_pos (by omega)]) hch (by rw [hs1]; exact hz)
    · cases hc

def pt_ptake : mSH → mRF → mPT := m_pv 2 (fun sh rf p rest I J K => ∃ a last : Nat, rest = [.inr (.inr a), .inl (nI last)] ∧ PSh sh rf p ∧ sh a = .inr (1, 12) ∧ last ≤ 11 ∧ (∀ k, k < 12 → (J a k).toInt.natAbs ≤ MB) ∧ ∀ I1, PCh rf I I1 p → PIs sh rf I1 p (fun k => (J a k).toInt) last → K none I1 J)
theorem PCh.rfl' (rf : mRF) (I : mPI) (p : Nat) : PCh rf I I p := fun _ _ _ => rfl
theorem PCh.trans {rf : mRF} {I I1 I2 : mPI} {p : Nat} (h1 : PCh rf I I1 p) (h2 : PCh rf I1 I2 p) : PCh rf I I2 p := fun a a1 a2 => (h2 a a1 a2).trans (h1 a a1 a2)
theorem PCh.of {rf : mRF} {I I1 : mPI} {p j : Nat} (hj : j < 78) (h : BCh rf I I1 (pbg rf p j)) : PCh rf I I1 p := fun a _ a2 => h a (a2 j hj).1 (a2 j hj).2
theorem PCh.of2 {rf : mRF} {I I1 : mPI} {p j k : Nat} (hj : j < 78) (hk : k < 78) (h : BCh2 rf I I1 (pbg rf p j) (pbg rf p k)) : PCh rf I I1 p := fun a _ a2 => h a (a2 j hj).1 (a2 j hj).2 (a2 k hk).1 (a2 k hk).2
theorem PCh.fld (rf : mRF) (I : mPI) (p k : Nat) (v : Int32) : PCh rf I (m_uI I p k v) p := fun _ a1 _ => uI_a _ _ _ a1
theorem BIs.fldP {sh : mSH} {rf : mRF} {I : mPI} {p b k : Nat} {z : Int} {v : Int32} (hz : BIs sh rf I b z) (hp : sh p = .inl 2) : BIs sh rf (m_uI I p k v) b z := by
  obtain ⟨cap, hB⟩ := hz.sh
  obtain ⟨n1, n2⟩ := PSh.notbig hp hB
  exact hz.keep (uI_a _ _ _ n1.symm) (uI_a _ _ _ n2.symm)
theorem pw_t : ∀ last, last ≤ 11 → (if (nI last + 1) / 2 + 1 < (6 : Int32) then (nI last + 1) / 2 + 1 else 6) = nI (pw last) ∧ (1 : Int32) <<< (nI (pw last) &&& 31) = nI (2 ^ pw last) ∧ 2 ^ pw last ≤ 64 ∧ 1 ≤ 2 ^ pw last := by decide +kernel
def ptkInv (sh : mSH) (rf : mRF) (p a last : Nat) (I : mPI) (J : mPJ) : Nat → Nat → mCV := fun a9 b9 pc vs st I1 J1 => st = [] ∧ J1 = J ∧ PCh rf I I1 p ∧ I1 p 4 = nI last ∧
  ((pc = 7 ∧ a9 = 3 ∧ ∃ k, k ≤ 12 ∧ b9 = 12 - k ∧ vs = [.inr (.inr p), .inr (.inr a), .inl (nI k)] ∧ ∀ j, j < k → BIs sh rf I1 (pbg rf p (64 + j)) (J a j).toInt) ∨
   ((∀ j, j < 12 → BIs sh rf I1 (pbg rf p (64 + j)) (J a j).toInt) ∧
    ((pc = 63 ∧ a9 = 2 ∧ ∃ c, 1 ≤ c ∧ c ≤ 2 ^ pw last ∧ b9 = 64 - c ∧ vs = [.inr (.inr p), .inl (nI (pw last)), .inl (nI c)] ∧ ∀ x, x < c → BIs sh rf I1 (pbg rf p x) (mn (fun k => (J a k).toInt) x)) ∨
     (pc = 88 ∧ a9 = 1 ∧ vs = [.inr (.inr p)] ∧ (∀ x, x < 2 ^ pw last → BIs sh rf I1 (pbg rf p x) (mn (fun k => (J a k).toInt) x)) ∧ ∃ k, b9 + k = 6 ∧ k ≤ 5 ∧ 2 * k ≤ last + 1 ∧ I1 p 5 = nI k ∧ tpF (fun k => (J a k).toInt) last b9 k = tpf (fun k => (J a k).toInt) last))))
def ct_X2_take (sh : mSH) (rf : mRF) : Nat → Option (Nat × Bool × mPT) := fun k => match k with
  | 40 => some (2, true, pt_setLong sh rf)
  | 44 => some (2, false, pt_min sh rf)
  | 50 => some (2, true, pt_psetMinor sh rf)
  | 56 => some (2, true, pt_pdet sh rf)
  | 60 => some (1, true, pt_signum sh rf)
  | _ => none
set_option maxRecDepth 20000 in
theorem ce_X2_take : m_CE RX2 4 129 cX2_take 5 ct_X2_take := by
  intro p l e s m args below meth c Q D cs ad sh rf N hx hb hml hown hts hK hi hN k n vf pt h
  unfold ct_X2_take at h
  split at h
  · cases h
    exact m_CG_V mt_X0_setLong hx hb hml hown hts hK hi hN (ci := 0) m_pv_rec rfl rfl (m_wck_ok (l := [(Cond.methodLink RX2 40 yX0_setLong, 428), (Cond.instanceMethod yX0_setLong, 176), (Cond.selects RX0 yX0_setLong yX0_setLong, 177), (Cond.initialized RX0, 58), (Cond.code yX0_setLong cX0_setLong 5 none, 178)]) (by decide +kernel)) ⟨rfl, by decide +kernel, by decide +kernel, by decide +kernel⟩ ⟨Nat.le_of_ble_eq_true rfl, Nat.le_of_ble_eq_true rfl⟩
  · cases h
    exact m_CG_min hx hb hml hown hts hK hi hN (m_wck_ok (l := [(Cond.methodLink RX2 44 Lib.Math.min.name, 429), (Cond.static Lib.Math.min.name, 335), (Cond.initialized "java/lang/Math", 59), (Cond.code Lib.Math.min.name Lib.Math.min.code 2 (some .int), 336)]) (by decide +kernel)) ⟨Nat.le_of_ble_eq_true rfl, Nat.le_of_ble_eq_true rfl⟩
  · cases h
    exact m_CG_V mt_X2_setMinor hx hb hml hown hts hK hi hN (ci := 2) m_pv_rec rfl rfl (m_wck_ok (l := [(Cond.methodLink RX2 50 yX2_setMinor, 430), (Cond.instanceMethod yX2_setMinor, 432), (Cond.selects RX2 yX2_setMinor yX2_setMinor, 6), (Cond.initialized RX2, 57), (Cond.code yX2_setMinor cX2_setMinor 7 none, 433)]) (by decide +kernel)) ⟨rfl, by decide +kernel, by decide +kernel, by decide +kernel⟩ ⟨Nat.le_of_ble_eq_true rfl, Nat.le_of_ble_eq_true rfl⟩
  · cases h
    exact m_CG_V mt_X2_determinant hx hb hml hown hts hK hi hN (ci := 2) m_pv_rec rfl rfl (m_wck_ok (l := [(Cond.methodLink RX2 56 yX2_determinant, 437), (Cond.instanceMethod yX2_determinant, 438), (Cond.selects RX2 yX2_determinant yX2_determinant, 439), (Cond.initialized RX2, 57), (Cond.code yX2_determinant cX2_determinant 2 (some (.object "MomentDesk$Big")), 440)]) (by decide +kernel)) ⟨rfl, by decide +kernel, by decide +kernel, by decide +kernel⟩ ⟨Nat.le_of_ble_eq_true rfl, Nat.le_of_ble_eq_true rfl⟩
  · cases h
    exact m_CG_V mt_X0_signum hx hb hml hown hts hK hi hN (ci := 0) m_pv_rec rfl rfl (m_wck_ok (l := [(Cond.methodLink RX2 60 yX0_signum, 434), (Cond.instanceMethod yX0_signum, 413), (Cond.selects RX0 yX0_signum yX0_signum, 414), (Cond.initialized RX0, 58), (Cond.code yX0_signum cX0_signum 1 (some .int), 415)]) (by decide +kernel)) ⟨rfl, by decide +kernel, by decide +kernel, by decide +kernel⟩ ⟨Nat.le_of_ble_eq_true rfl, Nat.le_of_ble_eq_true rfl⟩
  · cases h
set_option maxHeartbeats 4000000 in
set_option maxRecDepth 100000 in
theorem mt_X2_take : m_Mt yX2_take cX2_take 5 none 4 129 pt_ptake := by
  refine m_methodG (fl := fl_X2) (kI := kI_X2) (kJ := kJ_X2) (ct := ct_X2_take) (cd := cd_X2_take) (cut := [(7, [0, 1, 3]), (63, [0, 3, 4]), (88, [0])]) (rk := 0) (fu := 100) (by decide +kernel) fl_X2_ok kI_X2_ok kJ_X2_ok ce_X2_take rfl ck_X2_take ⟨_, _, rfl, rfl⟩ ?_
  intro sh rf As I J K hpt
  obtain ⟨p, rest, rfl, hp, a, last, rfl, hP, hsa, hl, hmo, hK⟩ := hpt
  obtain ⟨-, hsA, hsB, hBS, hinj, hBL⟩ := id hP
  obtain ⟨w1, w2, w3, w4⟩ := pw_t last hl
  have ebg : ∀ x, x < 64 → pbg rf p x = rf (rf p 0) x := fun x hx => by unfold pbg; rw [if_pos hx]
  have emo : ∀ x, x < 12 → pbg rf p (64 + x) = rf (rf p 1) x := fun x hx => by
    unfold pbg
    rw [if_neg (by omega), if_pos (by omega), show 64 + x - 64 = x by omega]
  refine ⟨Nat.le_of_ble_eq_true rfl, ptkInv sh rf p a last I J, ?_, ?_⟩
  · exact ⟨hp, 3, 12, rfl, rfl, PCh.fld rf I p 4 _, uI_s _ _ _ _, Or.inl ⟨rfl, rfl, 0, Nat.zero_le _, rfl, rfl, fun j h => absurd h (Nat.not_lt_zero j)⟩⟩
  · intro pc ks a9 b9 vs st I1 J1 hc hI
    obtain ⟨rfl, rfl, hch, h4, h5⟩ := hI
    rcases m_cu1 hc with ⟨rfl, rfl⟩ | hc
    · obtain ⟨rfl, k, hk, rfl, rfl, hm⟩ : a9 = 3 ∧ ∃ k, k ≤ 12 ∧ b9 = 12 - k ∧ vs = [.inr (.inr p), .inr (.inr a), .inl (nI k)] ∧ ∀ j, j < k → BIs sh rf I1 (pbg rf p (64 + j)) (J1 a j).toInt := by
        rcases h5 with ⟨-, e⟩ | ⟨-, ⟨e, -⟩ | ⟨e, -⟩⟩
        · exact e
        · cases e
        · cases e
      clear h5
      refine ⟨hp, m_isa_i hsB (by decide), fun h => ?_, fun h => ?_⟩
      · have h : m_len sh (rf p 1) ≤ nI k := h
        rw [m_len_i hsB] at h
        have hge := (nI_leI (by decide) (by omega)).mp h
        obtain rfl : k = 12 := by omega
        have hb0 := hBS 0 (by decide)
        refine ⟨hp, by decide, 6, (I1 p 4 + 1) / 2 + 1, rfl, ?_⟩
        rw [h4, w1]
        refine ⟨hp, m_inr_i hsA (Or.inl rfl) (vp_in_nI (n := 0) (by decide) (by decide)), pbg rf p 0, [.inr (.inl 1)], rfl, hb0.1, pcap 0, 1, rfl, hb0, fun I2 k1 k2 => ?_⟩
        refine ⟨2, 64 - 1, Or.inl (by omega), rfl, rfl, hch.trans (PCh.of (by decide) k1), ?_, Or.inr ⟨fun j hj => ?_, Or.inl ⟨rfl, rfl, 1, by omega, w4, rfl, rfl, fun x hx => ?_⟩⟩⟩
        · rw [k1 p (PSh.notbig hp hb0).1 (PSh.notbig hp hb0).2]
          exact h4
        · exact (hm j hj).other hBL hb0 (fun e => absurd (hinj _ 0 (by omega) (by decide) e) (by omega)) k1
        · obtain rfl : x = 0 := by omega
          exact k2
      · have h : ¬ m_len sh (rf p 1) ≤ nI k := h
        rw [m_len_i hsB] at h
        have hkl : k < 12 := by
          rcases Nat.lt_or_ge k 12 with q | q
          · exact q
          · exact absurd (nI_le q (by omega)) h
        have hbk := hBS (64 + k) (by omega)
        refine ⟨hp, m_inr_i hsB (Or.inl rfl) (vp_in_nI hkl (by decide)), m_inb_i hsa (vp_in_nI hkl (by decide)), pbg rf p (64 + k), [.inr (.inl (J1 a k))], ?_, hbk.1, pcap (64 + k), J1 a k, rfl, hbk, fun I2 k1 k2 => ?_⟩
        · show ([.inr (.inr (rf (rf p 1) (nI k).toNatClampNeg)), .inr (.inl (J1 a (nI k).toNatClampNeg))] : List mPV) = _
          rw [nI_clamp (by omega), emo k hkl]
        · refine ⟨3, 12 - (k + 1), Or.inr ⟨rfl, by omega⟩, rfl, rfl, hch.trans (PCh.of (by omega) k1), ?_, Or.inl ⟨rfl, rfl, k + 1, by omega, rfl, by rw [← nI_1], fun j hj => ?_⟩⟩
          · rw [k1 p (PSh.notbig hp hbk).1 (PSh.notbig hp hbk).2]
            exact h4
          · by_cases e : j = k
            · subst e
              exact k2
            · exact (hm j (by omega)).other hBL hbk (fun e2 => absurd (hinj _ _ (by omega) (by omega) e2) (by omega)) k1
    rcases m_cu1 hc with ⟨rfl, rfl⟩ | hc
    · obtain ⟨hm, rfl, c, hc1, hcw, rfl, rfl, hx⟩ : (∀ j, j < 12 → BIs sh rf I1 (pbg rf p (64 + j)) (J1 a j).toInt) ∧ a9 = 2 ∧ ∃ c, 1 ≤ c ∧ c ≤ 2 ^ pw last ∧ b9 = 64 - c ∧ vs = [.inr (.inr p), .inl (nI (pw last)), .inl (nI c)] ∧ ∀ x, x < c → BIs sh rf I1 (pbg rf p x) (mn (fun k => (J1 a k).toInt) x) := by
        rcases h5 with ⟨e, -⟩ | ⟨e1, ⟨-, e⟩ | ⟨e, -⟩⟩
        · cases e
        · exact ⟨e1, e⟩
        · cases e
      clear h5
      refine ⟨fun h => ?_, fun h => ?_⟩
      · have h : (1 : Int32) <<< (nI (pw last) &&& 31) ≤ nI c := h
        rw [w2] at h
        have hge := (nI_leI (by omega) (by omega)).mp h
        obtain rfl : c = 2 ^ pw last := by omega
        refine ⟨hp, 1, 6, Or.inl (by omega), rfl, rfl, hch.trans (PCh.fld rf I1 p 5 0), ?_, Or.inr ⟨fun j hj => (hm j hj).fldP hp, Or.inr ⟨rfl, rfl, rfl, fun x h9 => (hx x h9).fldP hp, 0, rfl, by omega, by omega, uI_s _ _ _ _, rfl⟩⟩⟩
        rw [uI_k _ _ _ (by decide)]
        exact h4
      · have h : ¬ (1 : Int32) <<< (nI (pw last) &&& 31) ≤ nI c := h
        rw [w2] at h
        have hcl : c < 2 ^ pw last := by
          rcases Nat.lt_or_ge c (2 ^ pw last) with q | q
          · exact q
          · exact absurd (nI_le q (by omega)) h
        have hbc := hBS c (by omega)
        have hsp := hBS 76 (by decide)
        refine ⟨p, [.inl (nI c)], rfl, hp, c, (fun k => (J1 a k).toInt), rfl, hc1, by omega, hP, hmo, hm, hx, fun I2 k1 k2 => ?_⟩
        have hpc := PSh.notbig hp hbc
        have hps := PSh.notbig hp hsp
        refine ⟨2, 64 - (c + 1), Or.inr ⟨rfl, by omega⟩, rfl, rfl, hch.trans (PCh.of2 (by omega) (by decide) k1), ?_, Or.inr ⟨fun j hj => ?_, Or.inl ⟨rfl, rfl, c + 1, by omega, by omega, rfl, by rw [← nI_1], fun x h9 => ?_⟩⟩⟩
        · rw [k1 p hpc.1 hpc.2 hps.1 hps.2]
          exact h4
        · exact (hm j hj).other2 hBL hbc hsp (fun e => absurd (hinj _ c (by omega) (by omega) e) (by omega)) (fun e => absurd (hinj _ 76 (by omega) (by decide) e) (by omega)) k1
        · by_cases e : x = c
          · subst e
            exact k2
          · exact (hx x (by omega)).other2 hBL hbc hsp (fun e2 => absurd (hinj _ c (by omega) (by omega) e2) e) (fun e2 => absurd (hinj _ 76 (by omega) (by decide) e2) (by omega)) k1
    rcases m_cu1 hc with ⟨rfl, rfl⟩ | hc
    · obtain ⟨hm, rfl, rfl, hx, k, hbk, hk5, hkl, h55, htp⟩ : (∀ j, j < 12 → BIs sh rf I1 (pbg rf p (64 + j)) (J1 a j).toInt) ∧ a9 = 1 ∧ vs = [.inr (.inr p)] ∧ (∀ x, x < 2 ^ pw last → BIs sh rf I1 (pbg rf p x) (mn (fun k => (J1 a k).toInt) x)) ∧ ∃ k, b9 + k = 6 ∧ k ≤ 5 ∧ 2 * k ≤ last + 1 ∧ I1 p 5 = nI k ∧ tpF (fun k => (J1 a k).toInt) last b9 k = tpf (fun k => (J1 a k).toInt) last := by
        rcases h5 with ⟨e, -⟩ | ⟨e1, ⟨e, -⟩ | ⟨-, e⟩⟩
        · cases e
        · cases e
        · exact ⟨e1, e⟩
      clear h5
      obtain ⟨b, rfl⟩ : ∃ b, b9 = b + 1 := ⟨b9 - 1, by omega⟩
      rw [tpF] at htp
      have stop : ¬ (k < 5 ∧ 2 * k + 1 ≤ last ∧ mn (fun k => (J1 a k).toInt) (2 ^ (k + 1) - 1) ≠ 0) → K none I1 J1 := by
        intro q
        rw [if_neg q] at htp
        exact hK I1 hch ⟨h4, by rw [← htp]; exact h55, hl, hmo, hm, hx⟩
      refine ⟨hp, fun h => ?_, fun h => ?_⟩
      · have h : nI 5 ≤ I1 p 5 := h
        rw [h55] at h
        have := (nI_leI (by decide) (by omega)).mp h
        exact stop (fun q => by omega)
      · have h : ¬ nI 5 ≤ I1 p 5 := h
        rw [h55] at h
        have hk4 : k < 5 := by
          rcases Nat.lt_or_ge k 5 with q | q
          · exact q
          · exact absurd (nI_le q (by omega)) h
        refine ⟨hp, hp, fun h7 => ?_, fun h7 => ?_⟩
        · have h7 : I1 p 4 < nI 2 * I1 p 5 + 1 := h7
          rw [h4, h55, pk_mul, nI_1] at h7
          have := (nI_ltI (by omega) (by omega)).mp h7
          exact stop (fun q => by omega)
        · have h7 : ¬ I1 p 4 < nI 2 * I1 p 5 + 1 := h7
          rw [h4, h55, pk_mul, nI_1] at h7
          have hkl2 : 2 * k + 1 ≤ last := by
            rcases Nat.lt_or_ge last (2 * k + 1) with q | q
            · exact absurd ((nI_ltI (by omega) (by omega)).mpr q) h7
            · exact q
          have hd := hx (2 ^ (k + 1) - 1) (pw_det (mo := fun _ => 0) (by omega) (by omega))
          have hds := hBS (2 ^ (k + 1) - 1) (by have := (shl_det (k + 1) (by omega)).2; omega)
          refine ⟨hp, p, [.inl (I1 p 5 + 1)], rfl, hp, k + 1, by rw [h55, nI_1], by omega, hP, _, [], rfl, hds.1, _, rfl, hd, fun h8 => ?_, fun h8 => ?_⟩
          · have h8 : sgI (mn (fun k => (J1 a k).toInt) (2 ^ (k + 1) - 1)) = 0 := h8
            refine stop (fun q => q.2.2 ?_)
            unfold sgI at h8
            by_cases q1 : mn (fun k => (J1 a k).toInt) (2 ^ (k + 1) - 1) < 0
            · rw [if_pos q1] at h8; exact absurd h8 (by decide)
            · rw [if_neg q1] at h8
              by_cases q2 : mn (fun k => (J1 a k).toInt) (2 ^ (k + 1) - 1) = 0
              · exact q2
              · rw [if_neg q2] at h8; exact absurd h8 (by decide)
          · have h8 : ¬ sgI (mn (fun k => (J1 a k).toInt) (2 ^ (k + 1) - 1)) = 0 := h8
            have hne : mn (fun k => (J1 a k).toInt) (2 ^ (k + 1) - 1) ≠ 0 := fun e => h8 (by rw [e]; rfl)
            rw [if_pos ⟨hk4, hkl2, hne⟩] at htp
            refine ⟨hp, hp, 1, b, Or.inr ⟨rfl, by omega⟩, rfl, rfl, hch.trans (PCh.fld rf I1 p 5 _), ?_, Or.inr ⟨fun j hj => (hm j hj).fldP hp, Or.inr ⟨rfl, rfl, rfl, fun x h9 => (hx x h9).fldP hp, k + 1, by omega, by omega, by omega, ?_, htp⟩⟩⟩
            · rw [uI_k _ _ _ (by decide)]
              exact h4
            · rw [uI_s]
              show I1 p 5 + 1 = nI (k + 1)
              rw [h55, nI_1]
    · cases hc
end
section
/-! ===== Polys: setOf, evaluate ===== -/
/-- the columns 0 to k without i -/
def cm (k i : Nat) : Nat := (2 ^ (k + 1) - 1) ^^^ 2 ^ i
theorem cm_t : ∀ k, k < 6 → ∀ i, i < k + 1 → cm k i < 2 ^ (k + 1) ∧ cm k i < 64 ∧ popc (cm k i) = k ∧ (1 ≤ k → cm k i ≠ 0) := by decide +kernel
def ofN (mo : Nat → Int) (k i : Nat) : Nat → Int
  | 0 => 0
  | j + 1 => ofN mo k i j + mn mo (cm k j) * mo (i + j)
def evN (mo : Nat → Int) (k : Nat) (u v : Int) : Nat → Int
  | 0 => mn mo (2 ^ k - 1)
  | t + 1 => evN mo k u v t * u + mn mo (cm k (k - 1 - t)) * v ^ (t + 1)
theorem ofN_le {mo : Nat → Int} (hm : ∀ k, k < 12 → (mo k).natAbs ≤ MB) {k i : Nat} (hk : k ≤ 5) (hi : i + k ≤ 11) : ∀ {j : Nat}, j ≤ k + 1 → (ofN mo k i j).natAbs ≤ j * 2 ^ 446
  | 0, _ => by simp [ofN]
  | j + 1, hj => by
    have ih := ofN_le hm hk hi (j := j) (by omega)
    have a1 := (mn_lt hm (cm_t k (by omega) j (by omega)).2.1).1
    have a2 := hm (i + j) (by omega)
    rw [ofN]
    have a3 : (mn mo (cm k j) * mo (i + j)).natAbs ≤ 2 ^ (32 * 12) * 2 ^ 62 := by
      rw [Int.natAbs_mul]
      exact Nat.mul_le_mul (by omega) (by unfold MB at a2; omega)
    rw [← Nat.pow_add] at a3
    have := Int.natAbs_add_le (ofN mo k i j) (mn mo (cm k j) * mo (i + j))
    rw [Nat.add_mul, Nat.one_mul]
    omega
theorem evN_le {mo : Nat → Int} (hm : ∀ k, k < 12 → (mo k).natAbs ≤ MB) {k : Nat} {u v : Int} (hk : k ≤ 5) (hu : u.natAbs ≤ 2 ^ 20) (hv : v.natAbs ≤ 2 ^ 20) : ∀ {t : Nat}, t ≤ k → (evN mo k u v t).natAbs ≤ (t + 1) * (2 ^ (32 * 12) * 2 ^ (20 * t))
  | 0, _ => by
    have a1 := (mn_lt hm (c := 2 ^ k - 1) (by have := (shl_det k (by omega)).2; omega)).1
    rw [evN]
    omega
  | t + 1, ht => by
    have ih := evN_le hm hk hu hv (t := t) (by omega)
    have a1 := (mn_lt hm (cm_t k (by omega) (k - 1 - t) (by omega)).2.1).1
    have a2 : (v ^ (t + 1)).natAbs ≤ 2 ^ (20 * (t + 1)) := by
      rw [Int.natAbs_pow, Nat.pow_mul]
      exact Nat.pow_le_pow_left hv (t + 1)
    have a3 : (evN mo k u v t * u).natAbs ≤ (t + 1) * (2 ^ (32 * 12) * 2 ^ (20 * t)) * 2 ^ 20 := by
      rw [Int.natAbs_mul]
      exact Nat.mul_le_mul ih hu
    have a4 : (mn mo (cm k (k - 1 - t)) * v ^ (t + 1)).natAbs ≤ 2 ^ (32 * 12) * 2 ^ (20 * (t + 1)) := by
      rw [Int.natAbs_mul]
      exact Nat.mul_le_mul (by omega) a2
    have a5 : (t + 1) * (2 ^ (32 * 12) * 2 ^ (20 * t)) * 2 ^ 20 = (t + 1) * (2 ^ (32 * 12) * 2 ^ (20 * (t + 1))) := by
      rw [show 20 * (t + 1) = 20 * t + 20 by omega, Nat.pow_add, Nat.mul_assoc, Nat.mul_assoc]
    rw [evN]
    have := Int.natAbs_add_le (evN mo k u v t * u) (mn mo (cm k (k - 1 - t)) * v ^ (t + 1))
    rw [Nat.add_mul (t + 1) 1, Nat.one_mul]
    omega
def pt_psetOf : mSH → mRF → mPT := m_pv 2 (fun sh rf p rest I J K => ∃ (b k i last : Nat) (mo : Nat → Int), rest = [.inr (.inr b), .inl (nI k), .inl (nI i)] ∧ PSh sh rf p ∧ PIs sh rf I p mo last ∧ k ≤ 5 ∧ 2 * k ≤ last + 1 ∧ i + k ≤ 11 ∧ BSh sh rf b 40 ∧ (∀ j, j < 78 → b ≠ pbg rf p j) ∧ ∀ I1, BCh2 rf I I1 b (pbg rf p 76) → BIs sh rf I1 b (ofN mo k i (k + 1)) → K none I1 J)
def pt_peval : mSH → mRF → mPT := m_pv 2 (fun sh rf p rest I J K => ∃ (b k last : Nat) (u v : Int32) (mo : Nat → Int), rest = [.inr (.inr b), .inl (nI k), .inl u, .inl v] ∧ PSh sh rf p ∧ PIs sh rf I p mo last ∧ k ≤ 5 ∧ 2 * k ≤ last + 1 ∧ u.toInt.natAbs ≤ 2 ^ 20 ∧ v.toInt.natAbs ≤ 2 ^ 20 ∧ BSh sh rf b 40 ∧ (∀ j, j < 78 → b ≠ pbg rf p j) ∧ ∀ I1, (∀ a, a ≠ b → a ≠ rf b 0 → a ≠ pbg rf p 76 → a ≠ rf (pbg rf p 76) 0 → a ≠ pbg rf p 77 → a ≠ rf (pbg rf p 77) 0 → I1 a = I a) → BIs sh rf I1 b (evN mo k u.toInt v.toInt k) → K none I1 J)
theorem pw_cm {last k i : Nat} (hk : k ≤ 5) (hl : 2 * k ≤ last + 1) (hi : i ≤ k) : cm k i < 2 ^ pw last := by
  have h1 := (cm_t k (by omega) i (by omega)).1
  have h2 : 2 ^ (k + 1) ≤ 2 ^ pw last := Nat.pow_le_pow_right (by decide) (by unfold pw; omega)
  omega
def ct_X2_setOf (sh : mSH) (rf : mRF) : Nat → Option (Nat × Bool × mPT) := fun k => match k with
  | 40 => some (2, true, pt_setLong sh rf)
  | 86 => some (3, true, pt_pnum sh rf)
  | 90 => some (4, true, pt_addProduct sh rf)
  | _ => none
set_option maxRecDepth 20000 in
theorem ce_X2_setOf : m_CE RX2 4 126 cX2_setOf 5 ct_X2_setOf := by
  intro p l e s m args below meth c Q D cs ad sh rf N hx hb hml hown hts hK hi hN k n vf pt h
  unfold ct_X2_setOf at h
  split at h
  · cases h
    exact m_CG_V mt_X0_setLong hx hb hml hown hts hK hi hN (ci := 0) m_pv_rec rfl rfl (m_wck_ok (l := [(Cond.methodLink RX2 40 yX0_setLong, 428), (Cond.instanceMethod yX0_setLong, 176), (Cond.selects RX0 yX0_setLong yX0_setLong, 177), (Cond.initialized RX0, 58), (Cond.code yX0_setLong cX0_setLong 5 none, 178)]) (by decide +kernel)) ⟨rfl, by decide +kernel, by decide +kernel, by decide +kernel⟩ ⟨Nat.le_of_ble_eq_true rfl, Nat.le_of_ble_eq_true rfl⟩
  · cases h
    exact m_CG_V mt_X2_number hx hb hml hown hts hK hi hN (ci := 2) m_pv_rec rfl rfl (m_wck_ok (l := [(Cond.methodLink RX2 86 yX2_number, 508), (Cond.instanceMethod yX2_number, 469), (Cond.selects RX2 yX2_number yX2_number, 470), (Cond.initialized RX2, 57), (Cond.code yX2_number cX2_number 3 (some (.object "MomentDesk$Big")), 471)]) (by decide +kernel)) ⟨rfl, by decide +kernel, by decide +kernel, by decide +kernel⟩ ⟨Nat.le_of_ble_eq_true rfl, Nat.le_of_ble_eq_true rfl⟩
  · cases h
    exact m_CG_V mt_X0_addProduct hx hb hml hown hts hK hi hN (ci := 0) m_pv_rec rfl rfl (m_wck_ok (l := [(Cond.methodLink RX2 90 yX0_addProduct, 509), (Cond.instanceMethod yX0_addProduct, 313), (Cond.selects RX0 yX0_addProduct yX0_addProduct, 314), (Cond.initialized RX0, 58), (Cond.code yX0_addProduct cX0_addProduct 4 none, 315)]) (by decide +kernel)) ⟨rfl, by decide +kernel, by decide +kernel, by decide +kernel⟩ ⟨Nat.le_of_ble_eq_true rfl, Nat.le_of_ble_eq_true rfl⟩
  · cases h
set_option maxHeartbeats 4000000 in
set_option maxRecDepth 100000 in
theorem mt_X2_setOf : m_Mt yX2_setOf cX2_setOf 5 none 4 126 pt_psetOf := by
  refine m_methodG (fl := fl_X2) (kI := kI_X2) (kJ := kJ_X2) (ct := ct_X2_setOf) (cd := cd_X2_setOf) (cut := [(8, [0, 1, 2, 3, 4])]) (rk := 0) (fu := 80) (by decide +kernel) fl_X2_ok kI_X2_ok kJ_X2_ok ce_X2_setOf rfl ck_X2_setOf ⟨_, _, rfl, rfl⟩ ?_
  intro sh rf As I J K hpt
  obtain ⟨p, rest, rfl, hp, b, k, i, last, mo, rfl, hP, hI0, hk, hkl, hik, hb, hbn, hK⟩ := hpt
  obtain ⟨i4, i5, i6, hmo, i8, i9⟩ := id hI0
  obtain ⟨-, hsA, hsB, hBS, hinj, hBL⟩ := id hP
  have hsp := hBS 76 (by decide)
  have nb := hbn 76 (by decide)
  refine ⟨Nat.le_of_ble_eq_true rfl, fun a9 b9 pc vs st I1 J1 => ∃ j, vs = [.inr (.inr p), .inr (.inr b), .inl (nI k), .inl (nI i), .inl (nI j)] ∧ st = [] ∧ J1 = J ∧ a9 = k + 1 - j ∧ j ≤ k + 1 ∧ BCh2 rf I I1 b (pbg rf p 76) ∧ BIs sh rf I1 b (ofN mo k i j), ?_, ?_⟩
  · refine ⟨b, _, rfl, hb.1, 40, 0, rfl, hb, fun I1 k1 k2 => ?_⟩
    exact ⟨k + 1 - 0, 0, 0, rfl, rfl, rfl, rfl, Nat.zero_le _, fun x a1 a2 _ _ => k1 x a1 a2, k2⟩
  · intro pc ks a9 b9 vs st I1 J1 hc hI
    rcases m_cu1 hc with ⟨rfl, rfl⟩ | hc
    · obtain ⟨j, rfl, rfl, rfl, rfl, hj, hch, hz⟩ := hI
      refine ⟨fun h => ?_, fun h => ?_⟩
      · have h : nI k < nI j := h
        have := (nI_ltI (by omega) (by omega)).mp h
        obtain rfl : j = k + 1 := by omega
        exact hK I1 hch hz
      · have h : ¬ nI k < nI j := h
        have hjk : j ≤ k := by
          rcases Nat.lt_or_ge k j with q | q
          · exact absurd ((nI_ltI (by omega) (by omega)).mpr q) h
          · exact q
        have ct := cm_t k (by omega) j (by omega)
        have hn := i9 (cm k j) (pw_cm hk hkl hjk)
        have hm := i8 (i + j) (by omega)
        have hnS := hBS (cm k j) (by omega)
        have n1 : pbg rf p (cm k j) ≠ pbg rf p 76 := fun e => absurd (hinj _ 76 (by omega) (by decide) e) (by omega)
        have n2 : pbg rf p (64 + (i + j)) ≠ pbg rf p 76 := fun e => absurd (hinj _ 76 (by omega) (by decide) e) (by omega)
        have hn1 := hn.other2 hBL hb hsp (fun e => hbn (cm k j) (by omega) e.symm) n1 hch
        have hm1 := hm.other2 hBL hb hsp (fun e => hbn (64 + (i + j)) (by omega) e.symm) n2 hch
        have eij : nI i + nI j = nI (i + j) := nI_add i j
        have emo : pbg rf p (64 + (i + j)) = rf (rf p 1) (i + j) := by
          unfold pbg
          rw [if_neg (by omega), if_pos (by omega), show 64 + (i + j) - 64 = i + j by omega]
        have hlim := (mn_lt hmo ct.2.1).1
        have hlm := hmo (i + j) (by omega)
        have hpr : (mn mo (cm k j) * mo (i + j)).natAbs ≤ 2 ^ (32 * 12) * 2 ^ 62 := by
          rw [Int.natAbs_mul]
          exact Nat.mul_le_mul (by omega) (by unfold MB at hlm; omega)
        have hs := ofN_le hmo hk hik (j := j) (by omega)
        have hs2 : j * 2 ^ 446 ≤ 6 * 2 ^ 446 := Nat.mul_le_mul_right _ (by omega)
        refine ⟨p, [.inl (nI k), .inl (nI j)], rfl, hp, k, j, rfl, hk, hjk, hP, hp, ?_, hp, b, [.inr (.inr (pbg rf p (cm k j))), .inr (.inr (pbg rf p (64 + (i + j)))), .inr (.inr (pbg rf p 76))], ?_, hb.1, 40, pbg rf p (cm k j), pbg rf p (64 + (i + j)), pbg rf p 76, 14, 12, 2, 15, ofN mo k i j, mn mo (cm k j), mo (i + j), rfl, hb, hsp, hBL, n1, n2, nb, hz, hn1, hm1, hlim, by unfold MB at hlm; omega, by omega, by omega, by omega, by omega, fun I2 k1 k2 => ?_⟩
        · show m_inr sh (rf p 1) (nI i + nI j)
          rw [eij]
          exact m_inr_i hsB (Or.inl rfl) (vp_in_nI (by omega) (by decide))
        · show ([.inr (.inr b), .inr (.inr (pbg rf p (cm k j))), .inr (.inr (rf (rf p 1) (nI i + nI j).toNatClampNeg)), .inr (.inr (rf p 2))] : List mPV) = _
          rw [eij, nI_clamp (by omega), emo]
          rfl
        · exact ⟨k + 1 - (j + 1), 0, Or.inl (by omega), j + 1, by rw [← nI_1], rfl, rfl, rfl, by omega, fun x a1 a2 a3 a4 => by rw [k1 x a1 a2 a3 a4, hch x a1 a2 a3 a4], k2⟩
    · cases hc

def ct_X2_evaluate (sh : mSH) (rf : mRF) : Nat → Option (Nat × Bool × mPT) := fun k => match k with
  | 56 => some (2, true, pt_pdet sh rf)
  | 94 => some (2, true, pt_setBig sh rf)
  | 40 => some (2, true, pt_setLong sh rf)
  | 98 => some (2, true, pt_timesInt sh rf)
  | 86 => some (3, true, pt_pnum sh rf)
  | 90 => some (4, true, pt_addProduct sh rf)
  | _ => none
set_option maxRecDepth 20000 in
theorem ce_X2_evaluate : m_CE RX2 4 126 cX2_evaluate 6 ct_X2_evaluate := by
  intro p l e s m args below meth c Q D cs ad sh rf N hx hb hml hown hts hK hi hN k n vf pt h
  unfold ct_X2_evaluate at h
  split at h
  · cases h
    exact m_CG_V mt_X2_determinant hx hb hml hown hts hK hi hN (ci := 2) m_pv_rec rfl rfl (m_wck_ok (l := [(Cond.methodLink RX2 56 yX2_determinant, 437), (Cond.instanceMethod yX2_determinant, 438), (Cond.selects RX2 yX2_determinant yX2_determinant, 439), (Cond.initialized RX2, 57), (Cond.code yX2_determinant cX2_determinant 2 (some (.object "MomentDesk$Big")), 440)]) (by decide +kernel)) ⟨rfl, by decide +kernel, by decide +kernel, by decide +kernel⟩ ⟨Nat.le_of_ble_eq_true rfl, Nat.le_of_ble_eq_true rfl⟩
  · cases h
    exact m_CG_V mt_X0_setBig hx hb hml hown hts hK hi hN (ci := 0) m_pv_rec rfl rfl (m_wck_ok (l := [(Cond.methodLink RX2 94 yX0_setBig, 500), (Cond.instanceMethod yX0_setBig, 352), (Cond.selects RX0 yX0_setBig yX0_setBig, 353), (Cond.initialized RX0, 58), (Cond.code yX0_setBig cX0_setBig 2 none, 354)]) (by decide +kernel)) ⟨rfl, by decide +kernel, by decide +kernel, by decide +kernel⟩ ⟨Nat.le_of_ble_eq_true rfl, Nat.le_of_ble_eq_true rfl⟩
  · cases h
    exact m_CG_V mt_X0_setLong hx hb hml hown hts hK hi hN (ci := 0) m_pv_rec rfl rfl (m_wck_ok (l := [(Cond.methodLink RX2 40 yX0_setLong, 428), (Cond.instanceMethod yX0_setLong, 176), (Cond.selects RX0 yX0_setLong yX0_setLong, 177), (Cond.initialized RX0, 58), (Cond.code yX0_setLong cX0_setLong 5 none, 178)]) (by decide +kernel)) ⟨rfl, by decide +kernel, by decide +kernel, by decide +kernel⟩ ⟨Nat.le_of_ble_eq_true rfl, Nat.le_of_ble_eq_true rfl⟩
  · cases h
    exact m_CG_V mt_X0_timesInt hx hb hml hown hts hK hi hN (ci := 0) m_pv_rec rfl rfl (m_wck_ok (l := [(Cond.methodLink RX2 98 yX0_timesInt, 501), (Cond.instanceMethod yX0_timesInt, 502), (Cond.selects RX0 yX0_timesInt yX0_timesInt, 503), (Cond.initialized RX0, 58), (Cond.code yX0_timesInt cX0_timesInt 7 none, 504)]) (by decide +kernel)) ⟨rfl, by decide +kernel, by decide +kernel, by decide +kernel⟩ ⟨Nat.le_of_ble_eq_true rfl, Nat.le_of_ble_eq_true rfl⟩
  · cases h
    exact m_CG_V mt_X2_number hx hb hml hown hts hK hi hN (ci := 2) m_pv_rec rfl rfl (m_wck_ok (l := [(Cond.methodLink RX2 86 yX2_number, 508), (Cond.instanceMethod yX2_number, 469), (Cond.selects RX2 yX2_number yX2_number, 470), (Cond.initialized RX2, 57), (Cond.code yX2_number cX2_number 3 (some (.object "MomentDesk$Big")), 471)]) (by decide +kernel)) ⟨rfl, by decide +kernel, by decide +kernel, by decide +kernel⟩ ⟨Nat.le_of_ble_eq_true rfl, Nat.le_of_ble_eq_true rfl⟩
  · cases h
    exact m_CG_V mt_X0_addProduct hx hb hml hown hts hK hi hN (ci := 0) m_pv_rec rfl rfl (m_wck_ok (l := [(Cond.methodLink RX2 90 yX0_addProduct, 509), (Cond.instanceMethod yX0_addProduct, 313), (Cond.selects RX0 yX0_addProduct yX0_addProduct, 314), (Cond.initialized RX0, 58), (Cond.code yX0_addProduct cX0_addProduct 4 none, 315)]) (by decide +kernel)) ⟨rfl, by decide +kernel, by decide +kernel, by decide +kernel⟩ ⟨Nat.le_of_ble_eq_true rfl, Nat.le_of_ble_eq_true rfl⟩
  · cases h
set_option maxHeartbeats 4000000 in
set_option maxRecDepth 100000 in
theorem mt_X2_evaluate : m_Mt yX2_evaluate cX2_evaluate 6 none 4 126 pt_peval := by
  refine m_methodG (fl := fl_X2) (kI := kI_X2) (kJ := kJ_X2) (ct := ct_X2_evaluate) (cd := cd_X2_evaluate) (cut := [(22, [0, 1, 2, 3, 4, 5])]) (rk := 0) (fu := 80) (by decide +kernel) fl_X2_ok kI_X2_ok kJ_X2_ok ce_X2_evaluate rfl ck_X2_evaluate ⟨_, _, rfl, rfl⟩ ?_
  intro sh rf As I J K hpt
  obtain ⟨p, rest, rfl, hp, b, k, last, u, v, mo, rfl, hP, hI0, hk, hkl, hu, hv, hb, hbn, hK⟩ := hpt
  obtain ⟨i4, i5, i6, hmo, i8, i9⟩ := id hI0
  obtain ⟨-, hsA, hsB, hBS, hinj, hBL⟩ := id hP
  have hsp := hBS 76 (by decide)
  have hpa := hBS 77 (by decide)
  have nb := hbn 76 (by decide)
  have nb7 := hbn 77 (by decide)
  have nsp : pbg rf p 77 ≠ pbg rf p 76 := fun e => absurd (hinj 77 76 (by decide) (by decide) e) (by decide)
  have hdk := i9 (2 ^ k - 1) (pw_det (mo := mo) (by omega) (by omega))
  have hdl := (mn_lt hmo (c := 2 ^ k - 1) (by have := (shl_det k (by omega)).2; omega)).1
  have hdn := hbn (2 ^ k - 1) (by have := (shl_det k (by omega)).2; omega)
  refine ⟨Nat.le_of_ble_eq_true rfl, fun a9 b9 pc vs st I1 J1 => ∃ t, vs = [.inr (.inr p), .inr (.inr b), .inl (nI k), .inl u, .inl v, .inl (nI (k - t) - 1)] ∧ st = [] ∧ J1 = J ∧ a9 = k - t ∧ t ≤ k ∧ (∀ a, a ≠ b → a ≠ rf b 0 → a ≠ pbg rf p 76 → a ≠ rf (pbg rf p 76) 0 → a ≠ pbg rf p 77 → a ≠ rf (pbg rf p 77) 0 → I1 a = I a) ∧ BIs sh rf I1 b (evN mo k u.toInt v.toInt t) ∧ BIs sh rf I1 (pbg rf p 77) (v.toInt ^ t), ?_, ?_⟩
  · refine ⟨p, [.inl (nI k)], rfl, hp, k, rfl, by omega, hP, b, _, rfl, hb.1, 40, pbg rf p (2 ^ k - 1), mn mo (2 ^ k - 1), rfl, hb, hBL, hdn.symm, hdk, Nat.lt_of_lt_of_le hdl (Nat.pow_le_pow_right (by decide) (by decide)), fun I1 k1 k2 => ?_⟩
    refine ⟨hp, pbg rf p 77, _, rfl, hpa.1, 14, 1, rfl, hpa, fun I2 k3 k4 => ?_⟩
    refine ⟨k - 0, 0, 0, rfl, rfl, rfl, rfl, Nat.zero_le _, fun x a1 a2 a3 a4 a5 a6 => by rw [k3 x a5 a6, k1 x a1 a2], k2.other hBL hpa nb7 k3, by rw [Int.pow_zero, ← show (1 : Int64).toInt = 1 by decide]; exact k4⟩
  · intro pc ks a9 b9 vs st I1 J1 hc hI
    rcases m_cu1 hc with ⟨rfl, rfl⟩ | hc
    · obtain ⟨t, rfl, rfl, rfl, rfl, ht, hch, hz, hpt⟩ := hI
      refine ⟨fun h => ?_, fun h => ?_⟩
      · have ht0 : t = k := by
          rcases Nat.eq_or_lt_of_le ht with e | e
          · exact e
          · have h : nI (k - t) - nI 1 < 0 := h
            rw [pk_sub (by omega)] at h
            exact absurd h (nI_pos (by omega))
        subst ht0
        exact hK I1 hch hz
      · have htk : t < k := by
          rcases Nat.lt_or_ge t k with e | e
          · exact e
          · rw [show k - t = 0 by omega] at h; exact absurd (by decide) h
        have e6 : nI (k - t) - 1 = nI (k - 1 - t) := by
          rw [show k - 1 - t = k - t - 1 by omega]
          exact pk_sub (b := 1) (by omega)
        have ct := cm_t k (by omega) (k - 1 - t) (by omega)
        have hn := i9 (cm k (k - 1 - t)) (pw_cm hk hkl (by omega))
        have hnS := hBS (cm k (k - 1 - t)) (by omega)
        have n0 : pbg rf p (cm k (k - 1 - t)) ≠ b := fun e => hbn _ (by omega) e.symm
        have n1 : pbg rf p (cm k (k - 1 - t)) ≠ pbg rf p 76 := fun e => absurd (hinj _ 76 (by omega) (by decide) e) (by omega)
        have n2 : pbg rf p (cm k (k - 1 - t)) ≠ pbg rf p 77 := fun e => absurd (hinj _ 77 (by omega) (by decide) e) (by omega)
        have hn1 : BIs sh rf I1 (pbg rf p (cm k (k - 1 - t))) (mn mo (cm k (k - 1 - t))) := by
          refine hn.keep (hch _ n0 (hnS.nex hb) n1 (hnS.nex hsp) n2 (hnS.nex hpa)) (hch _ (fun e => hb.nex hnS e.symm) (fun e => n0 (hBL _ _ hnS.1 hb.1 e)) (fun e => hsp.nex hnS e.symm) (fun e => n1 (hBL _ _ hnS.1 hsp.1 e)) (fun e => hpa.nex hnS e.symm) (fun e => n2 (hBL _ _ hnS.1 hpa.1 e)))
        have hs := evN_le hmo hk hu hv (t := t) (by omega)
        have hs3 : (t + 1) * (2 ^ (32 * 12) * 2 ^ (20 * t)) ≤ 6 * (2 ^ (32 * 12) * 2 ^ 100) := Nat.mul_le_mul (by omega) (Nat.mul_le_mul_left _ (Nat.pow_le_pow_right (by decide) (by omega)))
        have hvt : ∀ s, s ≤ 5 → (v.toInt ^ s).natAbs ≤ 2 ^ 100 := by
          intro s hs5
          rw [Int.natAbs_pow]
          refine Nat.le_trans (Nat.pow_le_pow_left hv s) ?_
          rw [← Nat.pow_mul]
          exact Nat.pow_le_pow_right (by decide) (by omega)
        refine ⟨b, _, rfl, hb.1, 40, 16, evN mo k u.toInt v.toInt t, u, rfl, hb, hz, by omega, by omega, fun I2 k1 k2 => ?_⟩
        have hp2 := hpt.other hBL hb nb7.symm k1
        have hn2 := hn1.other hBL hb n0 k1
        refine ⟨hp, pbg rf p 77, _, rfl, hpa.1, 14, 4, v.toInt ^ t, v, rfl, hpa, hp2, by have := hvt t (by omega); omega, by omega, fun I3 k3 k4 => ?_⟩
        have hz3 := k2.other hBL hpa nb7 k3
        have hn3 := hn2.other hBL hpa n2 k3
        rw [← Int.pow_succ] at k4
        have hpr1 : (evN mo k u.toInt v.toInt t * u.toInt).natAbs ≤ 6 * (2 ^ (32 * 12) * 2 ^ 100) * 2 ^ 20 := by
          rw [Int.natAbs_mul]
          exact Nat.mul_le_mul (Nat.le_trans hs hs3) hu
        have hlim := (mn_lt hmo ct.2.1).2 (ct.2.2.2 (by omega))
        rw [ct.2.2.1] at hlim
        have hl10 : (mn mo (cm k (k - 1 - t))).natAbs < 2 ^ (32 * 10) := Nat.lt_of_lt_of_le hlim (Nat.pow_le_pow_right (by decide) (by omega))
        have hv1 := hvt (t + 1) (by omega)
        have hpr2 : (mn mo (cm k (k - 1 - t)) * v.toInt ^ (t + 1)).natAbs ≤ 2 ^ (32 * 10) * 2 ^ 100 := by
          rw [Int.natAbs_mul]
          exact Nat.mul_le_mul (by omega) hv1
        refine ⟨p, [.inl (nI k), .inl (nI (k - t) - 1)], rfl, hp, k, k - 1 - t, by rw [e6], hk, by omega, hP, hp, hp, b, [.inr (.inr (pbg rf p (cm k (k - 1 - t)))), .inr (.inr (pbg rf p 77)), .inr (.inr (pbg rf p 76))], rfl, hb.1, 40, pbg rf p (cm k (k - 1 - t)), pbg rf p 77, pbg rf p 76, 14, 10, 4, 17, evN mo k u.toInt v.toInt t * u.toInt, mn mo (cm k (k - 1 - t)), v.toInt ^ (t + 1), rfl, hb, hsp, hBL, n1, nsp, nb, hz3, hn3, k4, hl10, by omega, by omega, by omega, by omega, by omega, fun I4 k5 k6 => ?_⟩
        refine ⟨k - (t + 1), 0, Or.inl (by omega), t + 1, ?_, rfl, rfl, rfl, by omega, fun x a1 a2 a3 a4 a5 a6 => by rw [k5 x a1 a2 a3 a4, k3 x a5 a6, k1 x a1 a2, hch x a1 a2 a3 a4 a5 a6], k6, k4.other2 hBL hb hsp nb7.symm nsp k5⟩
        rw [e6, show k - 1 - t = k - (t + 1) by omega, Int32.sub_eq_add_neg]
    · cases hc
end
section
/-! ===== Weights ===== -/
def pwL (b : Int64) : Nat → Int64
  | 0 => 1
  | n + 1 => pwL b n * b
def WSh (sh : mSH) (rf : mRF) (w : Nat) : Prop := sh w = .inl 3 ∧ sh (rf w 4) = .inr (0, 19) ∧ sh (rf w 5) = .inr (1, 12) ∧ PSh sh rf (rf w 6)
def pt_power (_ : mSH) (_ : mRF) : mPT := fun As I J K => ∃ (b : Int32) (e : Nat), As = [.inl b, .inl (nI e)] ∧ e < 2 ^ 30 ∧ K (some (.inr (.inl (pwL b.toInt64 e)))) I J
set_option maxHeartbeats 4000000 in
set_option maxRecDepth 100000 in
theorem mt_X4_power : m_Mt yX4_power cX4_power 5 (some .long) 0 0 pt_power := by
  refine m_methodG (fl := fl_X4) (kI := kI_X4) (kJ := kJ_X4) (ct := ct_none) (cd := cd_X4_power) (cut := [(5, [0, 1, 2, 4])]) (rk := 2) (fu := 80) (by decide +kernel) fl_X4_ok kI_X4_ok kJ_X4_ok (ce_none _ _ _ _ _) rfl ck_X4_power ⟨_, _, rfl, rfl⟩ ?_
  intro sh rf As I J K hpt
  obtain ⟨b, e, rfl, he, hK⟩ := hpt
  refine ⟨Nat.le_of_ble_eq_true rfl, fun a9 b9 pc vs st I1 J1 => ∃ i, vs = [.inl b, .inl (nI e), .inr (.inl (pwL b.toInt64 i)), .inl (nI i)] ∧ st = [] ∧ I1 = I ∧ J1 = J ∧ a9 = e - i ∧ i ≤ e, ?_, ?_⟩
  · exact ⟨e - 0, 0, 0, rfl, rfl, rfl, rfl, rfl, Nat.zero_le _⟩
  · intro pc ks a9 b9 vs st I1 J1 hc hI
    rcases m_cu1 hc with ⟨rfl, rfl⟩ | hc
    · obtain ⟨i, rfl, rfl, rfl, rfl, rfl, hi⟩ := hI
      refine ⟨fun h => ?_, fun h => ?_⟩
      · have := (nI_leI (by omega) (by omega)).mp h
        obtain rfl : i = e := by omega
        exact hK
      · have hlt : i < e := by
          rcases Nat.lt_or_ge i e with q | q
          · exact q
          · exact absurd (nI_le q (by omega)) h
        exact ⟨e - (i + 1), 0, Or.inl (by omega), i + 1, by rw [← nI_1]; rfl, rfl, rfl, rfl, rfl, by omega⟩
    · cases hc

def pt_wadd : mSH → mRF → mPT := m_pv 3 (fun sh rf w rest I J K => ∃ (x : Int32) (wt : Int64), rest = [.inl x, .inr (.inl wt)] ∧ WSh sh rf w ∧ ∀ J1, (∀ a, a ≠ rf w 5 → J1 a = J a) → (∀ k, k < 12 → J1 (rf w 5) k = J (rf w 5) k + wt * pwL x.toInt64 k) → K none (m_uI I w 7 1) J1)
def pt_wbegin : mSH → mRF → mPT := m_pv 3 (fun sh rf w rest I J K => ∃ kd : Int32, rest = [.inl kd] ∧ WSh sh rf w ∧ ∀ I1 J1, (∀ a, a ≠ w → a ≠ rf w 4 → I1 a = I a) → I1 w 0 = kd → I1 w 1 = 11 → I1 w 2 = 0 → I1 w 3 = 0 → I1 w 7 = 1 → (∀ k, k < 19 → I1 (rf w 4) k = 0) → (∀ a, a ≠ rf w 5 → J1 a = J a) → (∀ k, k < 12 → J1 (rf w 5) k = 0) → K none I1 J1)
def pt_wtell : mSH → mRF → mPT := m_pv 3 (fun sh rf w rest I J K => ∃ (k : Nat) (v : Int32), rest = [.inl (nI k), .inl v] ∧ k < 12 ∧ WSh sh rf w ∧ K none (m_uI (m_uI I w 0 1) w 7 1) (m_uJ J (rf w 5) k v.toInt64))
/-- how many of the first n are not 0 -/
def nzc (f : Nat → Int64) : Nat → Nat
  | 0 => 0
  | n + 1 => nzc f n + (if f n = 0 then 0 else 1)
def pt_wnz : mSH → mRF → mPT := m_pv 3 (fun sh rf w rest I J K => rest = [] ∧ WSh sh rf w ∧ K (some (.inl (nI (nzc (J (rf w 5)) 12)))) I J)
def pt_wchange : mSH → mRF → mPT := m_pv 3 (fun sh rf w rest I J K => ∃ a l : Nat, rest = [.inr (.inr a), .inl (nI l)] ∧ l ≤ 11 ∧ sh a = .inr (1, 12) ∧ WSh sh rf w ∧ K none (m_uI (m_uI (m_uI I w 1 (nI l)) w 3 1) w 7 1) (va_up J (rf w 5) (va_cpy (J a) (J (rf w 5)) 0 0 (l + 1))))
def pt_wpolys : mSH → mRF → mPT := m_pv 3 (fun sh rf w rest I J K => ∃ l : Nat, rest = [] ∧ WSh sh rf w ∧ I w 1 = nI l ∧ l ≤ 11 ∧ (∀ k, k < 12 → (J (rf w 5) k).toInt.natAbs ≤ MB) ∧ (I w 7 = 0 → PIs sh rf I (rf w 6) (fun k => (J (rf w 5) k).toInt) l) ∧ ∀ I1, (∀ a, a ≠ w → a ≠ rf w 6 → (∀ j, j < 78 → a ≠ pbg rf (rf w 6) j ∧ a ≠ rf (pbg rf (rf w 6) j) 0) → I1 a = I a) → (∀ k, k ≠ 7 → I1 w k = I w k) → I1 w 7 = 0 → PIs sh rf I1 (rf w 6) (fun k => (J (rf w 5) k).toInt) l → K (some (.inr (.inr (rf w 6)))) I1 J)
theorem lg_eq0 (x : Int64) : lg_cmp x 0 = 0 ↔ x = 0 := by
  unfold lg_cmp
  by_cases h : x > 0
  · rw [if_pos h]
    constructor
    · intro e; exact absurd e (by decide)
    · intro e; rw [e] at h; exact absurd h (by decide)
  · rw [if_neg h]
    by_cases h2 : x = 0
    · rw [if_pos h2]
      simp [h2]
    · rw [if_neg h2]
      constructor
      · intro e; exact absurd e (by decide)
      · intro e; exact absurd e h2
set_option maxHeartbeats 4000000 in
set_option maxRecDepth 100000 in
theorem mt_X3_addToMoments : m_Mt yX3_addToMoments cX3_addToMoments 7 none 0 0 pt_wadd := by
  refine m_methodG (fl := fl_X3) (kI := kI_X3) (kJ := kJ_X3) (ct := ct_none) (cd := cd_X3_addToMoments) (cut := [(6, [0, 1, 4, 6])]) (rk := 0) (fu := 80) (by decide +kernel) fl_X3_ok kI_X3_ok kJ_X3_ok (ce_none _ _ _ _ _) rfl ck_X3_addToMoments ⟨_, _, rfl, rfl⟩ ?_
  intro sh rf As I J K hpt
  obtain ⟨w, rest, rfl, hw, x, wt, rfl, hW, hK⟩ := hpt
  have hm := hW.2.2.1
  refine ⟨Nat.le_of_ble_eq_true rfl, fun a9 b9 pc vs st I1 J1 => ∃ k, vs = [.inr (.inr w), .inl x, .inr (.inl (wt * pwL x.toInt64 k)), .inl (nI k)] ∧ st = [] ∧ I1 = I ∧ a9 = 12 - k ∧ k ≤ 12 ∧ (∀ a, a ≠ rf w 5 → J1 a = J a) ∧ (∀ j, j < k → J1 (rf w 5) j = J (rf w 5) j + wt * pwL x.toInt64 j) ∧ (∀ j, k ≤ j → J1 (rf w 5) j = J (rf w 5) j), ?_, ?_⟩
  · exact ⟨12, 0, 0, by rw [pwL, Int64.mul_one]; rfl, rfl, rfl, rfl, by omega, fun _ _ => rfl, fun j h => absurd h (Nat.not_lt_zero j), fun _ _ => rfl⟩
  · intro pc ks a9 b9 vs st I1 J1 hc hI
    rcases m_cu1 hc with ⟨rfl, rfl⟩ | hc
    · obtain ⟨k, rfl, rfl, rfl, rfl, hk, e1, e2, e3⟩ := hI
      refine ⟨fun h => ?_, fun h => ?_⟩
      · have h : nI 11 < nI k := h
        have := (nI_ltI (by decide) (by omega)).mp h
        obtain rfl : k = 12 := by omega
        exact ⟨hw, Or.inr rfl, hK J1 e1 e2⟩
      · have h : ¬ nI 11 < nI k := h
        have hk12 : k < 12 := by
          rcases Nat.lt_or_ge 11 k with q | q
          · exact absurd ((nI_ltI (by decide) (by omega)).mpr q) h
          · omega
        have ib : m_inb sh (rf w 5) 1 (nI k) := m_inb_i hm (vp_in_nI hk12 (by decide))
        refine ⟨hw, ib, ib, 12 - (k + 1), 0, Or.inl (by omega), k + 1, ?_, rfl, rfl, rfl, by omega, ?_, ?_, ?_⟩
        · rw [pwL, ← nI_1, Int64.mul_assoc]
        · intro a ha
          rw [uJ_a _ _ _ ha, e1 a ha]
        · intro j hj
          rw [nI_clamp (by omega)]
          by_cases e : j = k
          · subst e
            rw [uJ_s, e3 j (Nat.le_refl _)]
          · rw [uJ_k _ _ _ e, e2 j (by omega)]
        · intro j hj
          rw [nI_clamp (by omega), uJ_k _ _ _ (by omega), e3 j (by omega)]
    · cases hc

def ct_X3_begin (sh : mSH) (rf : mRF) : Nat → Option (Nat × Bool × mPT) := fun k => match k with
  | 43 => some (2, false, pt_fillI sh rf)
  | 49 => some (2, false, pt_fillJ sh rf)
  | _ => none
set_option maxRecDepth 20000 in
theorem ce_X3_begin : m_CE RX3 1 24 cX3_begin 2 ct_X3_begin := by
  intro p l e s m args below meth c Q D cs ad sh rf N hx hb hml hown hts hK hi hN k n vf pt h
  unfold ct_X3_begin at h
  split at h
  · cases h
    exact m_CG_S mt_J7_fill_53178 hx hb hml hown hts hK hi hN (m_wck_ok (l := [(Cond.methodLink RX3 43 yJ7_fill_53178, 243), (Cond.static yJ7_fill_53178, 244), (Cond.initialized RJ7, 63), (Cond.code yJ7_fill_53178 cJ7_fill_53178 4 none, 245)]) (by decide +kernel)) ⟨by decide +kernel, by decide +kernel, by decide +kernel⟩ ⟨Nat.le_of_ble_eq_true rfl, Nat.le_of_ble_eq_true rfl⟩
  · cases h
    exact m_CG_S mt_J7_fill_d0a16 hx hb hml hown hts hK hi hN (m_wck_ok (l := [(Cond.methodLink RX3 49 yJ7_fill_d0a16, 246), (Cond.static yJ7_fill_d0a16, 247), (Cond.initialized RJ7, 63), (Cond.code yJ7_fill_d0a16 cJ7_fill_d0a16 5 none, 248)]) (by decide +kernel)) ⟨by decide +kernel, by decide +kernel, by decide +kernel⟩ ⟨Nat.le_of_ble_eq_true rfl, Nat.le_of_ble_eq_true rfl⟩
  · cases h
set_option maxHeartbeats 4000000 in
set_option maxRecDepth 100000 in
theorem mt_X3_begin : m_Mt yX3_begin cX3_begin 2 none 1 24 pt_wbegin := by
  refine m_method0 80 (fl := fl_X3) (kI := kI_X3) (kJ := kJ_X3) (ct := ct_X3_begin) (cd := cd_X3_begin) (rk := 0) (by decide +kernel) fl_X3_ok kI_X3_ok kJ_X3_ok ce_X3_begin rfl ck_X3_begin ⟨_, _, rfl, rfl⟩ ?_
  intro sh rf As I J K hpt
  obtain ⟨w, rest, rfl, hw, kd, rfl, hW, hK⟩ := hpt
  have hA := hW.2.1
  have hne : rf w 4 ≠ w := fun e => by rw [e, hw] at hA; cases hA
  refine ⟨Nat.le_of_ble_eq_true rfl, hw, hw, hw, hw, Or.inl rfl, hw, rf w 4, 0, 19, rfl, hA, by decide, fun I1 k1 k2 => ?_⟩
  refine ⟨hw, rf w 5, 0, 12, rfl, hW.2.2.1, by decide, fun J1 k3 k4 => ⟨hw, Or.inr rfl, ?_⟩⟩
  refine hK _ J1 (fun a a1 a2 => ?_) ?_ ?_ ?_ ?_ (uI_s _ _ _ _) (fun k hk => ?_) k3 k4
  · rw [uI_a _ _ _ a1, k1 a a2, uI_a _ _ _ a1, uI_a _ _ _ a1, uI_a _ _ _ a1, uI_a _ _ _ a1]
  · rw [uI_k _ _ _ (by decide), k1 w hne.symm, uI_k _ _ _ (by decide), uI_k _ _ _ (by decide), uI_k _ _ _ (by decide), uI_s]
  · rw [uI_k _ _ _ (by decide), k1 w hne.symm, uI_k _ _ _ (by decide), uI_k _ _ _ (by decide), uI_s]
  · rw [uI_k _ _ _ (by decide), k1 w hne.symm, uI_k _ _ _ (by decide), uI_s]
  · rw [uI_k _ _ _ (by decide), k1 w hne.symm, uI_s]
  · rw [uI_a _ _ _ hne]
    exact k2 k hk

set_option maxHeartbeats 4000000 in
set_option maxRecDepth 100000 in
theorem mt_X3_tellMoment : m_Mt yX3_tellMoment cX3_tellMoment 3 none 0 0 pt_wtell := by
  refine m_method0 80 (fl := fl_X3) (kI := kI_X3) (kJ := kJ_X3) (ct := ct_none) (cd := cd_X3_tellMoment) (rk := 0) (by decide +kernel) fl_X3_ok kI_X3_ok kJ_X3_ok (ce_none _ _ _ _ _) rfl ck_X3_tellMoment ⟨_, _, rfl, rfl⟩ ?_
  intro sh rf As I J K hpt
  obtain ⟨w, rest, rfl, hw, k, v, rfl, hk, hW, hK⟩ := hpt
  refine ⟨Nat.le_of_ble_eq_true rfl, hw, hw, m_inb_i hW.2.2.1 (vp_in_nI hk (by decide)), hw, Or.inr rfl, ?_⟩
  have e : (nI k).toNatClampNeg = k := nI_clamp (by omega)
  rw [e]
  exact hK

set_option maxHeartbeats 4000000 in
set_option maxRecDepth 100000 in
theorem mt_X3_momentsNotZero : m_Mt yX3_momentsNotZero cX3_momentsNotZero 3 (some .int) 0 0 pt_wnz := by
  refine m_methodG (fl := fl_X3) (kI := kI_X3) (kJ := kJ_X3) (ct := ct_none) (cd := cd_X3_momentsNotZero) (cut := [(4, [0, 1, 2])]) (rk := 1) (fu := 80) (by decide +kernel) fl_X3_ok kI_X3_ok kJ_X3_ok (ce_none _ _ _ _ _) rfl ck_X3_momentsNotZero ⟨_, _, rfl, rfl⟩ ?_
  intro sh rf As I J K hpt
  obtain ⟨w, rest, rfl, hw, rfl, hW, hK⟩ := hpt
  refine ⟨Nat.le_of_ble_eq_true rfl, fun a9 b9 pc vs st I1 J1 => ∃ k, vs = [.inr (.inr w), .inl (nI (nzc (J (rf w 5)) k)), .inl (nI k)] ∧ st = [] ∧ I1 = I ∧ J1 = J ∧ a9 = 12 - k ∧ k ≤ 12, ?_, ?_⟩
  · exact ⟨12, 0, 0, rfl, rfl, rfl, rfl, rfl, by omega⟩
  · intro pc ks a9 b9 vs st I1 J1 hc hI
    rcases m_cu1 hc with ⟨rfl, rfl⟩ | hc
    · obtain ⟨k, rfl, rfl, rfl, rfl, rfl, hk⟩ := hI
      refine ⟨fun h => ?_, fun h => ?_⟩
      · have h : nI 11 < nI k := h
        have := (nI_ltI (by decide) (by omega)).mp h
        obtain rfl : k = 12 := by omega
        exact hK
      · have h : ¬ nI 11 < nI k := h
        have hk12 : k < 12 := by
          rcases Nat.lt_or_ge 11 k with q | q
          · exact absurd ((nI_ltI (by decide) (by omega)).mpr q) h
          · omega
        refine ⟨hw, m_inb_i hW.2.2.1 (vp_in_nI hk12 (by decide)), fun h7 => ?_, fun h7 => ?_⟩
        · have h7 := (lg_eq0 _).mp h7
          rw [nI_clamp (by omega)] at h7
          refine ⟨12 - (k + 1), 0, Or.inl (by omega), k + 1, ?_, rfl, rfl, rfl, rfl, by omega⟩
          rw [nzc, if_pos h7, Nat.add_zero, ← nI_1]
        · have h7 : ¬ J1 (rf w 5) (nI k).toNatClampNeg = 0 := fun e => h7 ((lg_eq0 _).mpr e)
          rw [nI_clamp (by omega)] at h7
          refine ⟨12 - (k + 1), 0, Or.inl (by omega), k + 1, ?_, rfl, rfl, rfl, rfl, by omega⟩
          rw [nzc, if_neg h7, ← nI_1, ← nI_1]
    · cases hc

def ct_X3_change (sh : mSH) (rf : mRF) : Nat → Option (Nat × Bool × mPT) := fun k => match k with
  | 60 => some (5, false, pt_cpJ sh rf)
  | _ => none
set_option maxRecDepth 20000 in
theorem ce_X3_change : m_CE RX3 1 60 cX3_change 3 ct_X3_change := by
  intro p l e s m args below meth c Q D cs ad sh rf N hx hb hml hown hts hK hi hN k n vf pt h
  unfold ct_X3_change at h
  split at h
  · cases h
    exact m_CG_cpJ hx hb hml hown hts hK hi hN (m_wck_ok (l := [(Cond.methodLink RX3 60 arraycopyName, 395), (Cond.native arraycopyName, 339), (Cond.static arraycopyName, 338), (Cond.initialized "java/lang/System", 64)]) (by decide +kernel)) (by decide +kernel)
  · cases h
set_option maxHeartbeats 4000000 in
set_option maxRecDepth 100000 in
theorem mt_X3_change : m_Mt yX3_change cX3_change 3 none 1 60 pt_wchange := by
  refine m_method0 80 (fl := fl_X3) (kI := kI_X3) (kJ := kJ_X3) (ct := ct_X3_change) (cd := cd_X3_change) (rk := 0) (by decide +kernel) fl_X3_ok kI_X3_ok kJ_X3_ok ce_X3_change rfl ck_X3_change ⟨_, _, rfl, rfl⟩ ?_
  intro sh rf As I J K hpt
  obtain ⟨w, rest, rfl, hw, a, l, rfl, hl, ha, hW, hK⟩ := hpt
  have e : nI l + 1 = nI (l + 1) := nI_1 l
  have e0 : (0 : Int32).toNatClampNeg = 0 := by decide
  refine ⟨Nat.le_of_ble_eq_true rfl, hw, a, 0, rf w 5, 0, nI l + 1, 12, 12, rfl, ha, hW.2.2.1, by decide, by decide, by rw [e]; exact nI_pos (by omega), ?_, ?_, ?_⟩
  · rw [e, nI_clamp (by omega), e0]
    omega
  · rw [e, nI_clamp (by omega), e0]
    omega
  · rw [e, nI_clamp (by omega), e0]
    exact ⟨hw, hw, Or.inr rfl, hw, Or.inr rfl, hK⟩

def ct_X3_polys (sh : mSH) (rf : mRF) : Nat → Option (Nat × Bool × mPT) := fun k => match k with
  | 66 => some (3, true, pt_ptake sh rf)
  | _ => none
set_option maxRecDepth 20000 in
theorem ce_X3_polys : m_CE RX3 5 153 cX3_polys 1 ct_X3_polys := by
  intro p l e s m args below meth c Q D cs ad sh rf N hx hb hml hown hts hK hi hN k n vf pt h
  unfold ct_X3_polys at h
  split at h
  · cases h
    exact m_CG_V mt_X2_take hx hb hml hown hts hK hi hN (ci := 2) m_pv_rec rfl rfl (m_wck_ok (l := [(Cond.methodLink RX3 66 yX2_take, 424), (Cond.instanceMethod yX2_take, 425), (Cond.selects RX2 yX2_take yX2_take, 426), (Cond.initialized RX2, 57), (Cond.code yX2_take cX2_take 5 none, 427)]) (by decide +kernel)) ⟨rfl, by decide +kernel, by decide +kernel, by decide +kernel⟩ ⟨Nat.le_of_ble_eq_true rfl, Nat.le_of_ble_eq_true rfl⟩
  · cases h
set_option maxHeartbeats 4000000 in
set_option maxRecDepth 100000 in
theorem mt_X3_polys : m_Mt yX3_polys cX3_polys 1 (some (.object "MomentDesk$Polys")) 5 153 pt_wpolys := by
  refine m_method0 80 (fl := fl_X3) (kI := kI_X3) (kJ := kJ_X3) (ct := ct_X3_polys) (cd := cd_X3_polys) (rk := 4) (by decide +kernel) fl_X3_ok kI_X3_ok kJ_X3_ok ce_X3_polys ⟨_, rfl, by first | exact Or.inl ⟨_, rfl⟩ | exact Or.inr ⟨_, rfl⟩⟩ ck_X3_polys ⟨_, _, rfl, rfl⟩ ?_
  intro sh rf As I J K hpt
  obtain ⟨w, rest, rfl, hw, l, rfl, hW, h1, hl, hmo, hold, hK⟩ := hpt
  have hP := hW.2.2.2
  have hwp : w ≠ rf w 6 := fun e => by
    have := hP.1
    rw [← e, hw] at this
    cases this
  refine ⟨Nat.le_of_ble_eq_true rfl, hw, fun h => ?_, fun h => ?_⟩
  · exact ⟨hw, hK I (fun _ _ _ _ => rfl) (fun _ _ => rfl) h (hold h)⟩
  · have nbw : ∀ j, j < 78 → w ≠ pbg rf (rf w 6) j ∧ w ≠ rf (pbg rf (rf w 6) j) 0 := by
      intro j hj
      have hb := hP.2.2.2.1 j hj
      refine ⟨fun e => ?_, fun e => ?_⟩
      · have := hb.1
        rw [← e, hw] at this
        cases this
      · have := hb.2.1
        rw [← e, hw] at this
        cases this
    refine ⟨hw, hw, hw, rf w 6, [.inr (.inr (rf w 5)), .inl (I w 1)], rfl, hP.1, rf w 5, l, by rw [h1], hP, hW.2.2.1, hl, hmo, fun I1 k1 k2 => ⟨hw, Or.inl rfl, hw, ?_⟩⟩
    have hI1w : I1 w = I w := k1 w hwp nbw
    refine hK _ (fun a a1 a2 a3 => by rw [uI_a _ _ _ a1, k1 a a2 a3]) (fun k hk => by rw [uI_k _ _ _ hk, hI1w]) (uI_s _ _ _ _) ?_
    obtain ⟨p1, p2, p3, p4, p5, p6⟩ := k2
    have keep : ∀ j z, j < 78 → BIs sh rf I1 (pbg rf (rf w 6) j) z → BIs sh rf (m_uI I1 w 7 0) (pbg rf (rf w 6) j) z := fun j z hj hz => hz.keep (uI_a _ _ _ (nbw j hj).1.symm) (uI_a _ _ _ (nbw j hj).2.symm)
    have h64 := (pw_t l hl).2.2.1
    exact ⟨by rw [uI_a _ _ _ hwp.symm]; exact p1, by rw [uI_a _ _ _ hwp.symm]; exact p2, p3, p4, fun k hk => keep _ _ (by omega) (p5 k hk), fun c hc => keep _ _ (by omega) (p6 c hc)⟩
end
section
/-! ===== Weights: points, spans, copies; the desk's helpers ===== -/
def pt_cpX (sh : mSH) (rf : mRF) : mPT := fun As I J K => pt_cpI sh rf As I J K ∨ pt_cpJ sh rf As I J K
section MC
variable {p : Program} {l : Launch} {e : Env} {R : Room} {s : State} {m : MethodId} {args : Array Value} {below : List Frame} {meth : Method} {c : Code} {Q : State → Prop} {cc : ByteArray} {own : String}
variable {D : va_G} {cs : Nat → ClassId} {ad : Nat → Nat} {sh : mSH} {rf : mRF} {N : Nat} {nL : Nat}
theorem m_CG_cpX (hx : p.tables.exec = Jvm.exec) (hb : c.code = cc) (hml : c.maxLocals = nL) (hown : s.vm.findClass own = some m.cls) (hts : ∀ w ∈ m_tw, w.before args s = true) (hK : va_K D m_cl (m_ty cs) s) (hi : ∀ i j, i < N → j < N → ad i = ad j → i = j) (hN : ∀ i, sh i ≠ .inr (9, 0) → i < N)
    {k : Nat} (hw : ∀ w ∈ [Cond.methodLink own k arraycopyName, Cond.native arraycopyName, Cond.static arraycopyName, Cond.initialized "java/lang/System"], w ∈ m_tb) (hR : 1 ≤ R.frames ∧ 8 + (nativeFrameWords "java/lang/System" "arraycopy" 5 + 11) ≤ R.locals) :
    m_CG p l e R s m args below meth c Q D cs ad sh rf N nL cc k 5 false (pt_cpX sh rf) := by
  intro pc hdec As rest lv I J K hlen hcat hpt hk
  rcases hpt with h | h
  · exact m_CG_cpI hx hb hml hown hts hK hi hN hw hR pc hdec As rest lv I J K hlen hcat h hk
  · exact m_CG_cpJ hx hb hml hown hts hK hi hN hw hR pc hdec As rest lv I J K hlen hcat h hk
end MC
def pt_wcopy : mSH → mRF → mPT := m_pv 3 (fun sh rf w rest I J K => ∃ v : Nat, rest = [.inr (.inr v)] ∧ v ≠ w ∧ WSh sh rf w ∧ WSh sh rf v ∧ (I v 3 = 0 ∨ I v 3 = 1) ∧ ∀ I1 J1, (∀ a, a ≠ w → a ≠ rf w 4 → I1 a = I a) → (∀ k, k < 4 → I1 w k = I v k) → I1 w 7 = 1 → (∀ k, k < 19 → I1 (rf w 4) k = I (rf v 4) k) → (∀ a, a ≠ rf w 5 → J1 a = J a) → (∀ k, k < 12 → J1 (rf w 5) k = J (rf v 5) k) → K none I1 J1)
def pt_wpoint : mSH → mRF → mPT := m_pv 3 (fun sh rf w rest I J K => ∃ (x wt : Int32) (xx : Nat), rest = [.inl x, .inl wt] ∧ x + 9 = nI xx ∧ xx < 19 ∧ WSh sh rf w ∧ ∀ I1 J1, (∀ a, a ≠ w → a ≠ rf w 4 → I1 a = I a) → (∀ k, k ≠ 2 → k ≠ 7 → I1 w k = I w k) → I1 w 2 = I w 2 + (if I (rf w 4) xx = 0 then 1 else 0) - (if I (rf w 4) xx + wt = 0 then 1 else 0) → I1 w 7 = 1 → I1 (rf w 4) xx = I (rf w 4) xx + wt → (∀ k, k ≠ xx → I1 (rf w 4) k = I (rf w 4) k) → (∀ a, a ≠ rf w 5 → J1 a = J a) → (∀ k, k < 12 → J1 (rf w 5) k = J (rf w 5) k + wt.toInt64 * pwL x.toInt64 k) → K none I1 J1)
def pt_wspread : mSH → mRF → mPT := m_pv 3 (fun sh rf w rest I J K => ∃ a b : Int32, rest = [.inl a, .inl b] ∧ WSh sh rf w ∧ ∀ J1, (∀ q, q ≠ rf w 5 → J1 q = J q) → (∀ k, k < 12 → J1 (rf w 5) k = (nI (27720 / (k + 1))).toInt64 * (pwL b.toInt64 (k + 1) - pwL a.toInt64 (k + 1))) → K none I J1)
def ct_X3_copyFrom (sh : mSH) (rf : mRF) : Nat → Option (Nat × Bool × mPT) := fun k => match k with
  | 60 => some (5, false, pt_cpX sh rf)
  | _ => none
set_option maxRecDepth 20000 in
theorem ce_X3_copyFrom : m_CE RX3 1 60 cX3_copyFrom 2 ct_X3_copyFrom := by
  intro p l e s m args below meth c Q D cs ad sh rf N hx hb hml hown hts hK hi hN k n vf pt h
  unfold ct_X3_copyFrom at h
  split at h
  · cases h
    exact m_CG_cpX hx hb hml hown hts hK hi hN (m_wck_ok (l := [(Cond.methodLink RX3 60 arraycopyName, 395), (Cond.native arraycopyName, 339), (Cond.static arraycopyName, 338), (Cond.initialized "java/lang/System", 64)]) (by decide +kernel)) (by decide +kernel)
  · cases h
set_option maxHeartbeats 4000000 in
set_option maxRecDepth 100000 in
theorem mt_X3_copyFrom : m_Mt yX3_copyFrom cX3_copyFrom 2 none 1 60 pt_wcopy := by
  refine m_method0 100 (fl := fl_X3) (kI := kI_X3) (kJ := kJ_X3) (ct := ct_X3_copyFrom) (cd := cd_X3_copyFrom) (rk := 0) (by decide +kernel) fl_X3_ok kI_X3_ok kJ_X3_ok ce_X3_copyFrom rfl ck_X3_copyFrom ⟨_, _, rfl, rfl⟩ ?_
  intro sh rf As I J K hpt
  obtain ⟨w, rest, rfl, hw, v, rfl, hvw, hW, hV, hch, hK⟩ := hpt
  have hA := hW.2.1
  have hAv := hV.2.1
  have hne : rf w 4 ≠ w := fun e => by rw [e, hw] at hA; cases hA
  have hvn : rf v 4 ≠ w := fun e => by rw [e, hw] at hAv; cases hAv
  have hnv : rf w 4 ≠ v := fun e => by rw [e, hV.1] at hA; cases hA
  have e0 : (0 : Int32).toNatClampNeg = 0 := by decide
  have l1 : m_len sh (rf w 4) = nI 19 := m_len_i hA
  have l2 : m_len sh (rf w 5) = nI 12 := m_len_i hW.2.2.1
  have c19 : (nI 19).toNatClampNeg = 19 := by decide
  have c12 : (nI 12).toNatClampNeg = 12 := by decide
  refine ⟨Nat.le_of_ble_eq_true rfl, hV.1, hw, hV.1, hw, hV.1, hw, hV.1, hw, ?_, hV.1, hw, hw, m_isa_i hA (by decide), Or.inl ⟨rf v 4, 0, rf w 4, 0, m_len sh (rf w 4), 19, 19, rfl, hAv, hA, by decide, by decide, ?_, ?_, ?_, ?_⟩⟩
  · show m_uI (m_uI (m_uI I w 0 _) w 1 _) w 2 _ v 3 = 0 ∨ m_uI (m_uI (m_uI I w 0 _) w 1 _) w 2 _ v 3 = 1
    rw [uI_a _ _ _ hvw, uI_a _ _ _ hvw, uI_a _ _ _ hvw]
    exact hch
  · rw [l1]; decide
  · rw [l1, e0, c19]; decide
  · rw [l1, e0, c19]; decide
  · refine ⟨hV.1, hw, hw, m_isa_i hW.2.2.1 (by decide), Or.inr ⟨rf v 5, 0, rf w 5, 0, m_len sh (rf w 5), 12, 12, rfl, hV.2.2.1, hW.2.2.1, by decide, by decide, ?_, ?_, ?_, hw, Or.inr rfl, ?_⟩⟩
    · rw [l2]; decide
    · rw [l2, e0, c12]; decide
    · rw [l2, e0, c12]; decide
    · rw [l1, l2, e0, c19, c12]
      refine hK _ _ (fun a a1 a2 => ?_) (fun k hk => ?_) (uI_s _ _ _ _) (fun k hk => ?_) (fun a a1 => va_up_ne _ _ a1) (fun k hk => ?_)
      · rw [uI_a _ _ _ a1, va_up_ne _ _ a2, uI_a _ _ _ a1, uI_a _ _ _ a1, uI_a _ _ _ a1, uI_a _ _ _ a1]
      · rw [uI_k _ _ _ (by omega), va_up_ne _ _ hne.symm]
        rcases (show k = 0 ∨ k = 1 ∨ k = 2 ∨ k = 3 by omega) with rfl | rfl | rfl | rfl
        · rw [uI_k _ _ _ (by decide), uI_k _ _ _ (by decide), uI_k _ _ _ (by decide), uI_s]
        · rw [uI_k _ _ _ (by decide), uI_k _ _ _ (by decide), uI_s]
          show m_uI I w 0 _ v 1 = I v 1
          rw [uI_a _ _ _ hvw]
        · rw [uI_k _ _ _ (by decide), uI_s]
          show m_uI (m_uI I w 0 _) w 1 _ v 2 = I v 2
          rw [uI_a _ _ _ hvw, uI_a _ _ _ hvw]
        · rw [uI_s]
          show m_uI (m_uI (m_uI I w 0 _) w 1 _) w 2 _ v 3 = I v 3
          rw [uI_a _ _ _ hvw, uI_a _ _ _ hvw, uI_a _ _ _ hvw]
      · rw [uI_a _ _ _ hne, va_up_self, pk_cpy_in (by omega) (by omega), show 0 + (k - 0) = k by omega, uI_a _ _ _ hvn, uI_a _ _ _ hvn, uI_a _ _ _ hvn, uI_a _ _ _ hvn]
      · rw [va_up_self, pk_cpy_in (by omega) (by omega), show 0 + (k - 0) = k by omega]

def ct_X3_addPoint (sh : mSH) (rf : mRF) : Nat → Option (Nat × Bool × mPT) := fun k => match k with
  | 52 => some (3, true, pt_wadd sh rf)
  | _ => none
set_option maxRecDepth 20000 in
theorem ce_X3_addPoint : m_CE RX3 1 26 cX3_addPoint 5 ct_X3_addPoint := by
  intro p l e s m args below meth c Q D cs ad sh rf N hx hb hml hown hts hK hi hN k n vf pt h
  unfold ct_X3_addPoint at h
  split at h
  · cases h
    exact m_CG_V mt_X3_addToMoments hx hb hml hown hts hK hi hN (ci := 3) m_pv_rec rfl rfl (m_wck_ok (l := [(Cond.methodLink RX3 52 yX3_addToMoments, 260), (Cond.instanceMethod yX3_addToMoments, 261), (Cond.selects RX3 yX3_addToMoments yX3_addToMoments, 262), (Cond.initialized RX3, 56), (Cond.code yX3_addToMoments cX3_addToMoments 7 none, 263)]) (by decide +kernel)) ⟨rfl, by decide +kernel, by decide +kernel, by decide +kernel⟩ ⟨Nat.le_of_ble_eq_true rfl, Nat.le_of_ble_eq_true rfl⟩
  · cases h
set_option maxHeartbeats 4000000 in
set_option maxRecDepth 100000 in
theorem mt_X3_addPoint : m_Mt yX3_addPoint cX3_addPoint 5 none 1 26 pt_wpoint := by
  refine m_method0 80 (fl := fl_X3) (kI := kI_X3) (kJ := kJ_X3) (ct := ct_X3_addPoint) (cd := cd_X3_addPoint) (rk := 0) (by decide +kernel) fl_X3_ok kI_X3_ok kJ_X3_ok ce_X3_addPoint rfl ck_X3_addPoint ⟨_, _, rfl, rfl⟩ ?_
  intro sh rf As I J K hpt
  obtain ⟨w, rest, rfl, hw, x, wt, xx, rfl, hxx, hx19, hW, hK⟩ := hpt
  have hA := hW.2.1
  have hne : rf w 4 ≠ w := fun e => by rw [e, hw] at hA; cases hA
  have ib : m_inb sh (rf w 4) 0 (x + 9) := by rw [hxx]; exact m_inb_i hA (vp_in_nI hx19 (by decide))
  have ec : (x + 9).toNatClampNeg = xx := by rw [hxx]; exact nI_clamp (by omega)
  have fin : ∀ (I2 : mPI), (∀ a, a ≠ w → a ≠ rf w 4 → I2 a = I a) → (∀ k, k ≠ 2 → I2 w k = I w k) → I2 w 2 = I w 2 + (if I (rf w 4) xx = 0 then 1 else 0) - (if I (rf w 4) xx + wt = 0 then 1 else 0) → I2 (rf w 4) xx = I (rf w 4) xx + wt → (∀ k, k ≠ xx → I2 (rf w 4) k = I (rf w 4) k) → pt_wadd sh rf [.inr (.inr w), .inl x, .inr (.inl wt.toInt64)] I2 J K := by
    intro I2 q1 q2 q3 q4 q5
    refine ⟨w, _, rfl, hw, x, wt.toInt64, rfl, hW, fun J1 k1 k2 => hK _ J1 (fun a a1 a2 => ?_) (fun k a1 a2 => ?_) ?_ (uI_s _ _ _ _) ?_ (fun k a1 => ?_) k1 k2⟩
    · rw [uI_a _ _ _ a1, q1 a a1 a2]
    · rw [uI_k _ _ _ a2, q2 k a1]
    · rw [uI_k _ _ _ (by decide), q3]
    · rw [uI_a _ _ _ hne, q4]
    · rw [uI_a _ _ _ hne, q5 k a1]
  refine ⟨Nat.le_of_ble_eq_true rfl, hw, ib, hw, ib, fun h => ⟨fun h2 => ?_, fun h2 => ?_⟩, fun h => ?_⟩
  · have h : ¬ I (rf w 4) (x + 9).toNatClampNeg = 0 := h
    have h2 : ¬ I (rf w 4) (x + 9).toNatClampNeg + wt = 0 := h2
    rw [ec] at h h2
    rw [ec]
    refine fin _ (fun a a1 a2 => uI_a _ _ _ a2) (fun k _ => by rw [uI_a _ _ _ hne.symm]) ?_ (uI_s _ _ _ _) (fun k a1 => uI_k _ _ _ a1)
    rw [uI_a _ _ _ hne.symm, if_neg h, if_neg h2, Int32.add_zero, Int32.sub_zero]
  · have h : ¬ I (rf w 4) (x + 9).toNatClampNeg = 0 := h
    have h2 : I (rf w 4) (x + 9).toNatClampNeg + wt = 0 := h2
    rw [ec] at h h2
    rw [ec]
    refine ⟨hw, hw, fin _ (fun a a1 a2 => ?_) (fun k a1 => ?_) ?_ ?_ (fun k a1 => ?_)⟩
    · rw [uI_a _ _ _ a1, uI_a _ _ _ a2]
    · rw [uI_k _ _ _ a1, uI_a _ _ _ hne.symm]
    · rw [uI_s]
      show m_uI I (rf w 4) xx _ w 2 - 1 = _
      rw [uI_a _ _ _ hne.symm, if_neg h, if_pos h2, Int32.add_zero]
    · rw [uI_a _ _ _ hne, uI_s]
    · rw [uI_a _ _ _ hne, uI_k _ _ _ a1]
  · have h : I (rf w 4) (x + 9).toNatClampNeg = 0 := h
    rw [ec] at h
    refine ⟨hw, hw, fun h2 => ?_, fun h2 => ?_⟩
    · have h2 : ¬ I (rf w 4) (x + 9).toNatClampNeg + wt = 0 := h2
      rw [ec] at h2
      rw [ec]
      refine fin _ (fun a a1 a2 => ?_) (fun k a1 => ?_) ?_ ?_ (fun k a1 => ?_)
      · rw [uI_a _ _ _ a1, uI_a _ _ _ a2]
      · rw [uI_k _ _ _ a1, uI_a _ _ _ hne.symm]
      · rw [uI_s]
        show m_uI I (rf w 4) xx _ w 2 + 1 = _
        rw [uI_a _ _ _ hne.symm, if_pos h, if_neg h2, Int32.sub_zero]
      · rw [uI_a _ _ _ hne, uI_s]
      · rw [uI_a _ _ _ hne, uI_k _ _ _ a1]
    · have h2 : I (rf w 4) (x + 9).toNatClampNeg + wt = 0 := h2
      rw [ec] at h2
      rw [ec]
      refine ⟨hw, hw, fin _ (fun a a1 a2 => ?_) (fun k a1 => ?_) ?_ ?_ (fun k a1 => ?_)⟩
      · rw [uI_a _ _ _ a1, uI_a _ _ _ a1, uI_a _ _ _ a2]
      · rw [uI_k _ _ _ a1, uI_k _ _ _ a1, uI_a _ _ _ hne.symm]
      · rw [uI_s]
        show m_uI (m_uI I (rf w 4) xx _) w 2 (m_uI I (rf w 4) xx _ w 2 + 1) w 2 - 1 = _
        rw [uI_s, uI_a _ _ _ hne.symm, if_pos h, if_pos h2]
      · rw [uI_a _ _ _ hne, uI_a _ _ _ hne, uI_s]
      · rw [uI_a _ _ _ hne, uI_a _ _ _ hne, uI_k _ _ _ a1]

def ct_X3_spread (sh : mSH) (rf : mRF) : Nat → Option (Nat × Bool × mPT) := fun k => match k with
  | 56 => some (2, false, pt_power sh rf)
  | _ => none
set_option maxRecDepth 20000 in
theorem ce_X3_spread : m_CE RX3 1 24 cX3_spread 4 ct_X3_spread := by
  intro p l e s m args below meth c Q D cs ad sh rf N hx hb hml hown hts hK hi hN k n vf pt h
  unfold ct_X3_spread at h
  split at h
  · cases h
    exact m_CG_SN (host := "MomentDesk") mt_X4_power hx hb hml hown hts hK hi hN (by decide +kernel) (m_wck_ok (l := [(Cond.static yX4_power, 286), (Cond.initialized RX4, 55), (Cond.code yX4_power cX4_power 5 (some .long), 287)]) (by decide +kernel)) ⟨by decide +kernel, by decide +kernel, by decide +kernel⟩ ⟨Nat.le_of_ble_eq_true rfl, Nat.le_of_ble_eq_true rfl⟩
  · cases h
set_option maxHeartbeats 4000000 in
set_option maxRecDepth 100000 in
theorem mt_X3_spread : m_Mt yX3_spread cX3_spread 4 none 1 24 pt_wspread := by
  refine m_methodG (fl := fl_X3) (kI := kI_X3) (kJ := kJ_X3) (ct := ct_X3_spread) (cd := cd_X3_spread) (cut := [(2, [0, 1, 2, 3])]) (rk := 0) (fu := 80) (by decide +kernel) fl_X3_ok kI_X3_ok kJ_X3_ok ce_X3_spread rfl ck_X3_spread ⟨_, _, rfl, rfl⟩ ?_
  intro sh rf As I J K hpt
  obtain ⟨w, rest, rfl, hw, a, b, rfl, hW, hK⟩ := hpt
  refine ⟨Nat.le_of_ble_eq_true rfl, fun a9 b9 pc vs st I1 J1 => ∃ k, vs = [.inr (.inr w), .inl a, .inl b, .inl (nI k)] ∧ st = [] ∧ I1 = I ∧ a9 = 12 - k ∧ k ≤ 12 ∧ (∀ q, q ≠ rf w 5 → J1 q = J q) ∧ (∀ j, j < k → J1 (rf w 5) j = (nI (27720 / (j + 1))).toInt64 * (pwL b.toInt64 (j + 1) - pwL a.toInt64 (j + 1))), ?_, ?_⟩
  · exact ⟨12, 0, 0, rfl, rfl, rfl, rfl, by omega, fun _ _ => rfl, fun j h => absurd h (Nat.not_lt_zero j)⟩
  · intro pc ks a9 b9 vs st I1 J1 hc hI
    rcases m_cu1 hc with ⟨rfl, rfl⟩ | hc
    · obtain ⟨k, rfl, rfl, rfl, rfl, hk, e1, e2⟩ := hI
      refine ⟨fun h => ?_, fun h => ?_⟩
      · have h : nI 11 < nI k := h
        have := (nI_ltI (by decide) (by omega)).mp h
        obtain rfl : k = 12 := by omega
        exact hK J1 e1 e2
      · have h : ¬ nI 11 < nI k := h
        have hk12 : k < 12 := by
          rcases Nat.lt_or_ge 11 k with q | q
          · exact absurd ((nI_ltI (by decide) (by omega)).mpr q) h
          · omega
        have ek : nI k + 1 = nI (k + 1) := nI_1 k
        refine ⟨hw, ?_, b, k + 1, by rw [← ek]; rfl, by omega, a, k + 1, by rw [← ek]; rfl, by omega, m_inb_i hW.2.2.1 (vp_in_nI hk12 (by decide)), 12 - (k + 1), 0, Or.inl (by omega), k + 1, by rw [← nI_1], rfl, rfl, rfl, by omega, ?_, ?_⟩
        · show ¬ nI k + 1 = 0
          rw [ek]
          exact nI_ne0 (by omega) (by omega)
        · intro q hq
          rw [uJ_a _ _ _ hq, e1 q hq]
        · intro j hj
          rw [nI_clamp (by omega)]
          by_cases e : j = k
          · subst e
            rw [uJ_s]
            show ((27720 : Int32) / (nI j + 1)).toInt64 * _ = _
            rw [ek, show (27720 : Int32) = nI 27720 from rfl, pk_div (by decide) (by omega) (by omega)]
          · rw [uJ_k _ _ _ e, e2 j (by omega)]
    · cases hc
end
section
/-! ===== the layout of names ===== -/
def capB (b : Nat) : Nat := if b < 234 then pcap (b % 78) else 40
def shL : mSH := fun i =>
  if i < 504 then (if i % 2 = 0 then .inl 0 else .inr (0, capB (i / 2)))
  else if i < 507 then .inl 2
  else if i < 510 then .inr (3, 64)
  else if i < 513 then .inr (3, 12)
  else if i < 516 then .inl 3
  else if i < 519 then .inr (0, 19)
  else if i < 522 then .inr (1, 12)
  else if i = 522 then .inl 1
  else if i = 523 then .inl 4
  else if i = 524 then .inr (4, 2)
  else if i = 525 then .inr (2, 2)
  else if i = 526 then .inr (1, 12)
  else if i = 527 then .inr (3, 10)
  else if i = 528 then .inl 5
  else if i = 529 then .inr (0, 10400)
  else if i < 532 then .inr (0, 40)
  else if i = 532 then .inr (1, 12)
  else if i < 535 then .inr (0, 10)
  else if i = 535 then .inr (1, 12)
  else if i = 536 then .inr (0, 6)
  else if i = 537 then .inr (1, 24)
  else if i < 540 then .inr (0, 20)
  else if i = 540 then .inr (0, 10)
  else if i = 541 then .inr (1, 12)
  else .inr (9, 0)
def rfL : mRF := fun i k =>
  if i < 504 then i + 1
  else if i < 507 then (if k = 0 then i + 3 else if k = 1 then i + 6 else if k = 2 then 2 * (78 * (i - 504) + 76) else 2 * (78 * (i - 504) + 77))
  else if i < 510 then 2 * (78 * (i - 507) + k)
  else if i < 513 then 2 * (78 * (i - 510) + (64 + k))
  else if i < 516 then (if k = 4 then i + 3 else if k = 5 then i + 6 else i - 9)
  else if i = 522 then 2 * (234 + k)
  else if i = 523 then (if k = 0 then 513 else if k = 1 then 524 else if k = 2 then 525 else if k = 3 then 522 else if k = 4 then 526 else if k = 5 then 527 else 2 * (242 + k))
  else if i = 524 then 514 + k
  else if i = 527 then 2 * (238 + k)
  else if i = 528 then (if k < 4 then 529 + k else 525 + k)
  else 0
theorem popc_le (c : Nat) : popc c ≤ 6 := by unfold popc; omega
theorem pcap_in (j : Nat) : 2 ≤ pcap j ∧ pcap j < 2 ^ 20 := by
  have := popc_le j
  unfold pcap
  split
  · omega
  · split <;> omega
theorem capB_in (b : Nat) : 2 ≤ capB b ∧ capB b < 2 ^ 20 := by
  unfold capB
  split
  · exact pcap_in _
  · omega
theorem lay_b {b : Nat} (h : b < 252) : shL (2 * b) = .inl 0 ∧ rfL (2 * b) 0 = 2 * b + 1 ∧ shL (2 * b + 1) = .inr (0, capB b) := by
  refine ⟨?_, ?_, ?_⟩
  · unfold shL
    rw [if_pos (by omega), if_pos (by omega)]
  · unfold rfL
    rw [if_pos (by omega)]
  · unfold shL
    rw [if_pos (by omega), if_neg (by omega), show (2 * b + 1) / 2 = b by omega]
theorem lay_B {b : Nat} (h : b < 252) : BSh shL rfL (2 * b) (capB b) := by
  obtain ⟨h1, h2, h3⟩ := lay_b h
  obtain ⟨h4, h5⟩ := capB_in b
  exact ⟨h1, by rw [h2]; exact h3, h4, h5⟩
theorem iteNe {α : Type} {c : Prop} [Decidable c] {x y z : α} (h : (if c then x else y) = z) (hx : x ≠ z) : y = z := by
  by_cases q : c
  · rw [if_pos q] at h
    exact absurd h hx
  · rwa [if_neg q] at h
theorem lay_0 {b : Nat} (h : shL b = .inl 0) : b < 504 ∧ b % 2 = 0 := by
  rcases Nat.lt_or_ge b 504 with q | q
  · refine ⟨q, ?_⟩
    unfold shL at h
    rw [if_pos q] at h
    by_cases q2 : b % 2 = 0
    · exact q2
    · rw [if_neg q2] at h
      cases h
  · exfalso
    unfold shL at h
    rw [if_neg (by omega)] at h
    repeat (replace h := iteNe h (by decide))
    exact absurd h (by decide)
theorem lay_BL : BL shL rfL := by
  intro b c hb hc e
  obtain ⟨b1, b2⟩ := lay_0 hb
  obtain ⟨c1, c2⟩ := lay_0 hc
  unfold rfL at e
  rw [if_pos b1, if_pos c1] at e
  omega
theorem lay_pbg {p j : Nat} (hp : p < 3) (hj : j < 78) : pbg rfL (504 + p) j = 2 * (78 * p + j) := by
  have r0 : rfL (504 + p) 0 = 507 + p := by
    unfold rfL
    rw [if_neg (by omega), if_pos (by omega), if_pos rfl]
    omega
  have r1 : rfL (504 + p) 1 = 510 + p := by
    unfold rfL
    rw [if_neg (by omega), if_pos (by omega), if_neg (by decide), if_pos rfl]
    omega
  have r2 : rfL (504 + p) 2 = 2 * (78 * p + 76) := by
    unfold rfL
    rw [if_neg (by omega), if_pos (by omega), if_neg (by decide), if_neg (by decide), if_pos rfl]
    omega
  have r3 : rfL (504 + p) 3 = 2 * (78 * p + 77) := by
    unfold rfL
    rw [if_neg (by omega), if_pos (by omega), if_neg (by decide), if_neg (by decide), if_neg (by decide)]
    omega
  unfold pbg
  rw [r0, r1, r2, r3]
  split
  · unfold rfL
    rw [if_neg (by omega), if_neg (by omega), if_pos (by omega)]
    omega
  · split
    · unfold rfL
      rw [if_neg (by omega), if_neg (by omega), if_neg (by omega), if_pos (by omega)]
      omega
    · split <;> omega
theorem lay_P {p : Nat} (hp : p < 3) : PSh shL rfL (504 + p) := by
  have r0 : rfL (504 + p) 0 = 507 + p := by
    unfold rfL
    rw [if_neg (by omega), if_pos (by omega), if_pos rfl]
    omega
  have r1 : rfL (504 + p) 1 = 510 + p := by
    unfold rfL
    rw [if_neg (by omega), if_pos (by omega), if_neg (by decide), if_pos rfl]
    omega
  refine ⟨?_, ?_, ?_, ?_, ?_, lay_BL⟩
  · unfold shL
    rw [if_neg (by omega), if_pos (by omega)]
  · rw [r0]
    unfold shL
    rw [if_neg (by omega), if_neg (by omega), if_pos (by omega)]
  · rw [r1]
    unfold shL
    rw [if_neg (by omega), if_neg (by omega), if_neg (by omega), if_pos (by omega)]
  · intro j hj
    rw [lay_pbg hp hj]
    have := lay_B (b := 78 * p + j) (by omega)
    have e : capB (78 * p + j) = pcap j := by
      unfold capB
      rw [if_pos (by omega), show (78 * p + j) % 78 = j by omega]
    rw [e] at this
    exact this
  · intro i j hi hj e
    rw [lay_pbg hp hi, lay_pbg hp hj] at e
    omega
theorem lay_W {p : Nat} (hp : p < 3) : WSh shL rfL (513 + p) ∧ rfL (513 + p) 4 = 516 + p ∧ rfL (513 + p) 5 = 519 + p ∧ rfL (513 + p) 6 = 504 + p := by
  have r4 : rfL (513 + p) 4 = 516 + p := by
    unfold rfL
    rw [if_neg (by omega), if_neg (by omega), if_neg (by omega), if_neg (by omega), if_pos (by omega), if_pos rfl]
    omega
  have r5 : rfL (513 + p) 5 = 519 + p := by
    unfold rfL
    rw [if_neg (by omega), if_neg (by omega), if_neg (by omega), if_neg (by omega), if_pos (by omega), if_neg (by decide), if_pos rfl]
    omega
  have r6 : rfL (513 + p) 6 = 504 + p := by
    unfold rfL
    rw [if_neg (by omega), if_neg (by omega), if_neg (by omega), if_neg (by omega), if_pos (by omega), if_neg (by decide), if_neg (by decide)]
    omega
  refine ⟨⟨?_, ?_, ?_, ?_⟩, r4, r5, r6⟩
  · unfold shL
    rw [if_neg (by omega), if_neg (by omega), if_neg (by omega), if_neg (by omega), if_pos (by omega)]
  · rw [r4]
    unfold shL
    rw [if_neg (by omega), if_neg (by omega), if_neg (by omega), if_neg (by omega), if_neg (by omega), if_pos (by omega)]
  · rw [r5]
    unfold shL
    rw [if_neg (by omega), if_neg (by omega), if_neg (by omega), if_neg (by omega), if_neg (by omega), if_neg (by omega), if_pos (by omega)]
  · rw [r6]
    exact lay_P hp
theorem lay_H : HSh shL rfL 522 ∧ ∀ k, rfL 522 k = 2 * (234 + k) := by
  have r : ∀ k, rfL 522 k = 2 * (234 + k) := fun k => rfl
  refine ⟨⟨rfl, fun k hk => ?_, fun i j hi hj e => ?_, lay_BL⟩, r⟩
  · rw [r]
    have := lay_B (b := 234 + k) (by omega)
    have e : capB (234 + k) = 40 := by
      unfold capB
      rw [if_neg (by omega)]
    rw [e] at this
    exact this
  · rw [r, r] at e
    omega
theorem lay_40 {b : Nat} (h1 : 234 ≤ b) (h2 : b < 252) : BSh shL rfL (2 * b) 40 := by
  have := lay_B h2
  have e : capB b = 40 := by
    unfold capB
    rw [if_neg (by omega)]
  rw [e] at this
  exact this
theorem lay_N (i : Nat) (h : shL i ≠ .inr (9, 0)) : i < 542 := by
  rcases Nat.lt_or_ge i 542 with q | q
  · exact q
  · refine absurd ?_ h
    unfold shL
    rw [if_neg (by omega), if_neg (by omega), if_neg (by omega), if_neg (by omega), if_neg (by omega), if_neg (by omega), if_neg (by omega), if_neg (by omega), if_neg (by omega), if_neg (by omega), if_neg (by omega), if_neg (by omega), if_neg (by omega), if_neg (by omega), if_neg (by omega), if_neg (by omega), if_neg (by omega), if_neg (by omega), if_neg (by omega), if_neg (by omega), if_neg (by omega), if_neg (by omega), if_neg (by omega), if_neg (by omega)]
/-! ===== the desk's static helpers ===== -/
def pt_isWithin (_ : mSH) (_ : mRF) : mPT := fun As I J K => ∃ v m : Int32, As = [.inl v, .inl m] ∧ K (some (.inl (if -m ≤ v ∧ v ≤ m then 1 else 0))) I J
def pt_isFraction (_ : mSH) (_ : mRF) : mPT := fun As I J K => ∃ u v : Int32, As = [.inl u, .inl v] ∧ K (some (.inl (if (-1000000 ≤ u ∧ u ≤ 1000000) ∧ 1 ≤ v ∧ v ≤ 1000000 then 1 else 0))) I J
/-- n over x, as it is counted -/
def chsF (n : Nat) : Nat → Nat
  | 0 => 1
  | i + 1 => chsF n i * (n - i) / (i + 1)
def chs (n x : Nat) : Nat := if n < x then 0 else chsF n x
theorem chs_b : ∀ n, n < 12 → ∀ i, i < 12 → chsF n i * (n - i) < 2 ^ 31 ∧ chsF n i < 2 ^ 31 := by decide +kernel
def pt_ways (_ : mSH) (_ : mRF) : mPT := fun As I J K => ∃ n x : Nat, As = [.inl (nI n), .inl (nI x)] ∧ n < 12 ∧ x < 12 ∧ K (some (.inr (.inl (lN (chs n x))))) I J
set_option maxHeartbeats 4000000 in
set_option maxRecDepth 100000 in
theorem mt_X4_isWithin : m_Mt yX4_isWithin cX4_isWithin 2 (some .boolean) 0 0 pt_isWithin := by
  refine m_method0 80 (fl := fl_X4) (kI := kI_X4) (kJ := kJ_X4) (ct := ct_none) (cd := cd_X4_isWithin) (rk := 3) (by decide +kernel) fl_X4_ok kI_X4_ok kJ_X4_ok (ce_none _ _ _ _ _) rfl ck_X4_isWithin ⟨_, _, rfl, rfl⟩ ?_
  intro sh rf As I J K hpt
  obtain ⟨v, m, rfl, hK⟩ := hpt
  refine ⟨Nat.le_of_ble_eq_true rfl, fun h => ?_, fun h => ?_⟩
  · have hn : ¬ (-m ≤ v ∧ v ≤ m) := fun q => by
      rw [Int32.lt_iff_toInt_lt] at h
      have := Int32.le_iff_toInt_le.mp q.1
      omega
    rw [if_neg hn] at hK
    exact ⟨Or.inl rfl, hK⟩
  · refine ⟨fun h2 => ?_, fun h2 => ?_⟩
    · have hn : ¬ (-m ≤ v ∧ v ≤ m) := fun q => by
        rw [Int32.lt_iff_toInt_lt] at h2
        have := Int32.le_iff_toInt_le.mp q.2
        omega
      rw [if_neg hn] at hK
      exact ⟨Or.inl rfl, hK⟩
    · have hn : -m ≤ v ∧ v ≤ m := by
        rw [Int32.lt_iff_toInt_lt] at h h2
        exact ⟨by rw [Int32.le_iff_toInt_le]; omega, by rw [Int32.le_iff_toInt_le]; omega⟩
      rw [if_pos hn] at hK
      exact ⟨Or.inr rfl, hK⟩

def ct_X4_isFraction (sh : mSH) (rf : mRF) : Nat → Option (Nat × Bool × mPT) := fun k => match k with
  | 64 => some (2, false, pt_isWithin sh rf)
  | _ => none
set_option maxRecDepth 20000 in
theorem ce_X4_isFraction : m_CE RX4 1 21 cX4_isFraction 2 ct_X4_isFraction := by
  intro p l e s m args below meth c Q D cs ad sh rf N hx hb hml hown hts hK hi hN k n vf pt h
  unfold ct_X4_isFraction at h
  split at h
  · cases h
    exact m_CG_S mt_X4_isWithin hx hb hml hown hts hK hi hN (m_wck_ok (l := [(Cond.methodLink RX4 64 yX4_isWithin, 253), (Cond.static yX4_isWithin, 254), (Cond.initialized RX4, 55), (Cond.code yX4_isWithin cX4_isWithin 2 (some .boolean), 255)]) (by decide +kernel)) ⟨by decide +kernel, by decide +kernel, by decide +kernel⟩ ⟨Nat.le_of_ble_eq_true rfl, Nat.le_of_ble_eq_true rfl⟩
  · cases h
set_option maxHeartbeats 4000000 in
set_option maxRecDepth 100000 in
theorem mt_X4_isFraction : m_Mt yX4_isFraction cX4_isFraction 2 (some .boolean) 1 21 pt_isFraction := by
  refine m_method0 80 (fl := fl_X4) (kI := kI_X4) (kJ := kJ_X4) (ct := ct_X4_isFraction) (cd := cd_X4_isFraction) (rk := 3) (by decide +kernel) fl_X4_ok kI_X4_ok kJ_X4_ok ce_X4_isFraction rfl ck_X4_isFraction ⟨_, _, rfl, rfl⟩ ?_
  intro sh rf As I J K hpt
  obtain ⟨u, v, rfl, hK⟩ := hpt
  refine ⟨Nat.le_of_ble_eq_true rfl, u, 1000000, rfl, fun h => ?_, fun h => ?_⟩
  · have h : (if -1000000 ≤ u ∧ u ≤ 1000000 then (1 : Int32) else 0) = 0 := h
    have hn : ¬ ((-1000000 ≤ u ∧ u ≤ 1000000) ∧ 1 ≤ v ∧ v ≤ 1000000) := fun q => by rw [if_pos q.1] at h; exact absurd h (by decide)
    rw [if_neg hn] at hK
    exact ⟨Or.inl rfl, hK⟩
  · have h : ¬ (if -1000000 ≤ u ∧ u ≤ 1000000 then (1 : Int32) else 0) = 0 := h
    have hu : -1000000 ≤ u ∧ u ≤ 1000000 := by
      by_cases q : -1000000 ≤ u ∧ u ≤ 1000000
      · exact q
      · rw [if_neg q] at h; exact absurd rfl h
    refine ⟨fun h2 => ?_, fun h2 => ⟨fun h3 => ?_, fun h3 => ?_⟩⟩
    · have hn : ¬ ((-1000000 ≤ u ∧ u ≤ 1000000) ∧ 1 ≤ v ∧ v ≤ 1000000) := fun q => by
        rw [Int32.lt_iff_toInt_lt] at h2
        have := Int32.le_iff_toInt_le.mp q.2.1
        omega
      rw [if_neg hn] at hK
      exact ⟨Or.inl rfl, hK⟩
    · have hn : ¬ ((-1000000 ≤ u ∧ u ≤ 1000000) ∧ 1 ≤ v ∧ v ≤ 1000000) := fun q => by
        rw [Int32.lt_iff_toInt_lt] at h3
        have := Int32.le_iff_toInt_le.mp q.2.2
        omega
      rw [if_neg hn] at hK
      exact ⟨Or.inl rfl, hK⟩
    · have hn : (-1000000 ≤ u ∧ u ≤ 1000000) ∧ 1 ≤ v ∧ v ≤ 1000000 := by
        rw [Int32.lt_iff_toInt_lt] at h2 h3
        exact ⟨hu, by rw [Int32.le_iff_toInt_le]; omega, by rw [Int32.le_iff_toInt_le]; omega⟩
      rw [if_pos hn] at hK
      exact ⟨Or.inr rfl, hK⟩

set_option maxHeartbeats 4000000 in
set_option maxRecDepth 100000 in
theorem mt_X4_ways : m_Mt yX4_ways cX4_ways 5 (some .long) 0 0 pt_ways := by
  refine m_methodG (fl := fl_X4) (kI := kI_X4) (kJ := kJ_X4) (ct := ct_none) (cd := cd_X4_ways) (cut := [(16, [0, 1, 2, 4])]) (rk := 2) (fu := 80) (by decide +kernel) fl_X4_ok kI_X4_ok kJ_X4_ok (ce_none _ _ _ _ _) rfl ck_X4_ways ⟨_, _, rfl, rfl⟩ ?_
  intro sh rf As I J K hpt
  obtain ⟨n, x, rfl, hn, hx, hK⟩ := hpt
  refine ⟨Nat.le_of_ble_eq_true rfl, fun a9 b9 pc vs st I1 J1 => ∃ i, vs = [.inl (nI n), .inl (nI x), .inr (.inl (lN (chsF n i))), .inl (nI i)] ∧ st = [] ∧ I1 = I ∧ J1 = J ∧ a9 = x - i ∧ i ≤ x ∧ x ≤ n, ?_, ?_⟩
  · refine ⟨fun h => absurd h (nI_pos (by omega)), fun _ => ⟨fun h => ?_, fun h => ?_⟩⟩
    · have hle : x ≤ n := (nI_leI (by omega) (by omega)).mp h
      exact ⟨x - 0, 0, 0, rfl, rfl, rfl, rfl, rfl, Nat.zero_le _, hle⟩
    · have hlt : n < x := by
        rcases Nat.lt_or_ge n x with q | q
        · exact q
        · exact absurd (nI_le q (by omega)) h
      unfold chs at hK
      rw [if_pos hlt] at hK
      exact hK
  · intro pc ks a9 b9 vs st I1 J1 hc hI
    rcases m_cu1 hc with ⟨rfl, rfl⟩ | hc
    · obtain ⟨i, rfl, rfl, rfl, rfl, rfl, hi, hxn⟩ := hI
      refine ⟨fun h => ?_, fun h => ?_⟩
      · have := (nI_leI (by omega) (by omega)).mp h
        obtain rfl : i = x := by omega
        unfold chs at hK
        rw [if_neg (by omega)] at hK
        exact hK
      · have hlt : i < x := by
          rcases Nat.lt_or_ge i x with q | q
          · exact q
          · exact absurd (nI_le q (by omega)) h
        obtain ⟨c1, c2⟩ := chs_b n hn i (by omega)
        have e1 : (nI n - nI i).toInt64 = lN (n - i) := by rw [pk_sub (by omega), nI_l (by omega)]
        have e2 : (nI i + 1).toInt64 = lN (i + 1) := by rw [nI_1, nI_l (by omega)]
        refine ⟨?_, x - (i + 1), 0, Or.inl (by omega), i + 1, ?_, rfl, rfl, rfl, rfl, by omega, hxn⟩
        · show ¬ (nI i + 1).toInt64 = 0
          rw [e2]
          intro q
          have := (pk_lEQ (a := i + 1) (b := 0) (by omega) (by decide)).mp q
          omega
        · rw [e1, e2, lN_mul, pk_lDiv (by omega) (by omega) (by omega), ← nI_1]
          rfl
    · cases hc
end
section
/-! ===== the desk's cells: frames ===== -/
/-- cells that any call may use up -/
def wkA (a : Nat) : Prop := (a < 468 ∧ 152 ≤ a % 156) ∨ (476 ≤ a ∧ a < 504)
def HA (a : Nat) : Prop := (468 ≤ a ∧ a < 476) ∨ a = 522
def Wk (I I1 : mPI) : Prop := ∀ a, ¬ wkA a → I1 a = I a
def Fr (I I1 : mPI) : Prop := ∀ a, ¬ wkA a → ¬ HA a → I1 a = I a
def PA (p a : Nat) : Prop := (156 * p ≤ a ∧ a < 156 * p + 152) ∨ a = 504 + p
def Vis (I I1 : mPI) : Prop := (∀ a, 516 ≤ a → a ≠ 522 → I1 a = I a) ∧ ∀ p, p < 3 → ∀ k, k ≠ 7 → I1 (513 + p) k = I (513 + p) k
def Pf (p : Nat) (I I1 : mPI) : Prop := (∀ a, ¬ (156 * p ≤ a ∧ a < 156 * p + 156) → a ≠ 513 + p → a ≠ 504 + p → I1 a = I a) ∧ ∀ k, k ≠ 7 → I1 (513 + p) k = I (513 + p) k
theorem Wk.rfl' (I : mPI) : Wk I I := fun _ _ => rfl
theorem Fr.rfl' (I : mPI) : Fr I I := fun _ _ _ => rfl
theorem Wk.trans {I I1 I2 : mPI} (h : Wk I I1) (h2 : Wk I1 I2) : Wk I I2 := fun a q => (h2 a q).trans (h a q)
theorem Fr.trans {I I1 I2 : mPI} (h : Fr I I1) (h2 : Fr I1 I2) : Fr I I2 := fun a q r => (h2 a q r).trans (h a q r)
theorem Vis.trans {I I1 I2 : mPI} (h : Vis I I1) (h2 : Vis I1 I2) : Vis I I2 := ⟨fun a q r => (h2.1 a q r).trans (h.1 a q r), fun p hp k hk => (h2.2 p hp k hk).trans (h.2 p hp k hk)⟩
theorem Wk.fr {I I1 : mPI} (h : Wk I I1) : Fr I I1 := fun a q _ => h a q
theorem Fr.vis {I I1 : mPI} (h : Fr I I1) : Vis I I1 := by
  refine ⟨fun a a1 a2 => h a ?_ ?_, fun p hp k _ => congrFun (h _ ?_ ?_) k⟩
  · unfold wkA; omega
  · unfold HA; omega
  · unfold wkA; omega
  · unfold HA; omega
theorem Pf.vis {p : Nat} {I I1 : mPI} (hp : p < 3) (h : Pf p I I1) : Vis I I1 := by
  refine ⟨fun a a1 a2 => h.1 a (by omega) (by omega) (by omega), fun q hq k hk => ?_⟩
  by_cases e : q = p
  · subst e
    exact h.2 k hk
  · exact congrFun (h.1 _ (by omega) (by omega) (by omega)) k
theorem rf0 {a : Nat} (h : a < 504) : rfL a 0 = a + 1 := by
  unfold rfL
  rw [if_pos h]
theorem bch_wk {b : Nat} {I I1 : mPI} (h1 : 476 ≤ b) (h2 : b < 503) (h : BCh rfL I I1 b) : Wk I I1 := by
  intro a ha
  unfold wkA at ha
  exact h a (by omega) (by rw [rf0 (by omega)]; omega)
theorem bch2_wk {b s : Nat} {I I1 : mPI} (h1 : 476 ≤ b) (h2 : b < 503) (h3 : 476 ≤ s) (h4 : s < 503) (h : BCh2 rfL I I1 b s) : Wk I I1 := by
  intro a ha
  unfold wkA at ha
  exact h a (by omega) (by rw [rf0 (by omega)]; omega) (by omega) (by rw [rf0 (by omega)]; omega)
theorem bch2_wkp {b p : Nat} {I I1 : mPI} (h1 : 476 ≤ b) (h2 : b < 503) (hp : p < 3) (h : BCh2 rfL I I1 b (pbg rfL (504 + p) 76)) : Wk I I1 := by
  intro a ha
  unfold wkA at ha
  rw [BCh2, lay_pbg hp (by decide)] at h
  exact h a (by omega) (by rw [rf0 (by omega)]; omega) (by omega) (by rw [rf0 (by omega)]; omega)
theorem peval_wk {b p : Nat} {I I1 : mPI} (h1 : 476 ≤ b) (h2 : b < 503) (hp : p < 3) (h : ∀ a, a ≠ b → a ≠ rfL b 0 → a ≠ pbg rfL (504 + p) 76 → a ≠ rfL (pbg rfL (504 + p) 76) 0 → a ≠ pbg rfL (504 + p) 77 → a ≠ rfL (pbg rfL (504 + p) 77) 0 → I1 a = I a) : Wk I I1 := by
  intro a ha
  unfold wkA at ha
  rw [lay_pbg hp (by decide), lay_pbg hp (by decide)] at h
  exact h a (by omega) (by rw [rf0 (by omega)]; omega) (by omega) (by rw [rf0 (by omega)]; omega) (by omega) (by rw [rf0 (by omega)]; omega)
theorem hch_fr {I I1 : mPI} (h : HCh rfL I I1 522) : Fr I I1 := by
  intro a ha hb
  unfold HA at hb
  refine h a (by omega) (fun k hk => ?_)
  rw [lay_H.2, rf0 (by omega)]
  omega
theorem BIs.wk {I I1 : mPI} {b : Nat} {z : Int} (h : BIs shL rfL I b z) (hb : b < 503) (h1 : ¬ wkA b) (h2 : ¬ wkA (b + 1)) (hf : Wk I I1) : BIs shL rfL I1 b z := h.keep (hf b h1) (by rw [rf0 (by omega)]; exact hf _ h2)
theorem BIs.fr {I I1 : mPI} {b : Nat} {z : Int} (h : BIs shL rfL I b z) (hb : b < 467) (h1 : ¬ wkA b) (h2 : ¬ wkA (b + 1)) (hf : Fr I I1) : BIs shL rfL I1 b z := h.keep (hf b h1 (by unfold HA; omega)) (by rw [rf0 (by omega)]; exact hf _ h2 (by unfold HA; omega))
theorem PIs_keep {p : Nat} {I I1 : mPI} {mo : Nat → Int} {l : Nat} (hp : p < 3) (h : PIs shL rfL I (504 + p) mo l) (hk : ∀ a, PA p a → I1 a = I a) : PIs shL rfL I1 (504 + p) mo l := by
  obtain ⟨p1, p2, p3, p4, p5, p6⟩ := h
  have hP := hk (504 + p) (Or.inr rfl)
  have h64 := (pw_t l p3).2.2.1
  refine ⟨by rw [hP]; exact p1, by rw [hP]; exact p2, p3, p4, fun k h12 => ?_, fun c hc => ?_⟩
  · have := p5 k h12
    rw [lay_pbg hp (by omega)] at this ⊢
    refine this.keep (hk _ (Or.inl (by omega))) ?_
    rw [rf0 (by omega)]
    exact hk _ (Or.inl (by omega))
  · have := p6 c hc
    rw [lay_pbg hp (by omega)] at this ⊢
    refine this.keep (hk _ (Or.inl (by omega))) ?_
    rw [rf0 (by omega)]
    exact hk _ (Or.inl (by omega))
theorem PA_nwk {p a : Nat} (hp : p < 3) (h : PA p a) : ¬ wkA a ∧ ¬ HA a := by
  unfold PA at h
  unfold wkA HA
  omega
theorem PIs.fr {p : Nat} {I I1 : mPI} {mo : Nat → Int} {l : Nat} (hp : p < 3) (h : PIs shL rfL I (504 + p) mo l) (hf : Fr I I1) : PIs shL rfL I1 (504 + p) mo l := PIs_keep hp h (fun a ha => hf a (PA_nwk hp ha).1 (PA_nwk hp ha).2)
theorem HIs_keep {I I1 : mPI} {U L : Int} (h : HIs shL rfL I 522 U L) (hk : ∀ a, HA a → I1 a = I a) : HIs shL rfL I1 522 U L := by
  obtain ⟨u, l, h1, h2, h3, h4, h5⟩ := h
  have e0 : rfL 522 0 = 468 := rfl
  have e1 : rfL 522 1 = 470 := rfl
  rw [e0] at h1
  rw [e1] at h2
  refine ⟨u, l, ?_, ?_, h3, h4, ?_⟩
  · rw [e0]
    refine h1.keep (hk _ (Or.inl (by omega))) ?_
    rw [rf0 (by omega)]
    exact hk _ (Or.inl (by omega))
  · rw [e1]
    refine h2.keep (hk _ (Or.inl (by omega))) ?_
    rw [rf0 (by omega)]
    exact hk _ (Or.inl (by omega))
  · rw [hk 522 (Or.inr rfl)]
    exact h5
theorem HA_nwk {a : Nat} (h : HA a) : ¬ wkA a := by
  unfold HA at h
  unfold wkA
  omega
theorem HIs.wk {I I1 : mPI} {U L : Int} (h : HIs shL rfL I 522 U L) (hf : Wk I I1) : HIs shL rfL I1 522 U L := HIs_keep h (fun a ha => hf a (HA_nwk ha))
theorem HIs.pf {p : Nat} {I I1 : mPI} {U L : Int} (hp : p < 3) (h : HIs shL rfL I 522 U L) (hf : Pf p I I1) : HIs shL rfL I1 522 U L := HIs_keep h (fun a ha => hf.1 a (by unfold HA at ha; omega) (by unfold HA at ha; omega) (by unfold HA at ha; omega))
/-! ===== what holds of the three weights ===== -/
def moC (J : mPJ) (p : Nat) : Nat → Int := fun k => (J (519 + p) k).toInt
def lsum (g : Nat → Int) (k : Nat) : Nat → Int
  | 0 => 0
  | x + 1 => lsum g k x + g x * ((x : Int) - 9) ^ k
def LI (I : mPI) (J : mPJ) (p : Nat) : Prop := I (513 + p) 0 = 0 → I (513 + p) 3 = 0 → (∀ k, k < 12 → moC J p k = lsum (fun x => (I (516 + p) x).toInt) k 19) ∧ ∀ x, x < 19 → (I (516 + p) x).toInt.natAbs ≤ 99
def WI (I : mPI) (J : mPJ) (p : Nat) : Prop := ∃ l, I (513 + p) 1 = nI l ∧ 3 ≤ l ∧ l ≤ 11 ∧ (∀ k, k < 12 → (J (519 + p) k).toInt.natAbs ≤ MB) ∧ (I (513 + p) 3 = 0 ∨ I (513 + p) 3 = 1) ∧ (I (513 + p) 7 = 0 → PIs shL rfL I (504 + p) (moC J p) l) ∧ LI I J p
def CI (I : mPI) (J : mPJ) : Prop := ∀ p, p < 3 → WI I J p
theorem LI.keep {I I1 : mPI} {J : mPJ} {p : Nat} (h : LI I J p) (h1 : ∀ k, k ≠ 7 → I1 (513 + p) k = I (513 + p) k) (h2 : I1 (516 + p) = I (516 + p)) : LI I1 J p := by
  intro a b
  rw [h1 0 (by decide)] at a
  rw [h1 3 (by decide)] at b
  rw [h2]
  exact h a b
theorem WI.keep {I I1 : mPI} {J : mPJ} {p : Nat} (hp : p < 3) (h : WI I J p) (h1 : I1 (513 + p) = I (513 + p)) (h2 : I1 (516 + p) = I (516 + p)) (h3 : ∀ a, PA p a → I1 a = I a) : WI I1 J p := by
  obtain ⟨l, a1, a2, a3, a4, a5, a6, a7⟩ := h
  exact ⟨l, by rw [h1]; exact a1, a2, a3, a4, by rw [h1]; exact a5, fun e => PIs_keep hp (a6 (by rw [h1] at e; exact e)) h3, a7.keep (fun k _ => by rw [h1]) h2⟩
theorem CI.fr {I I1 : mPI} {J : mPJ} (h : CI I J) (hf : Fr I I1) : CI I1 J := fun p hp => (h p hp).keep hp (hf _ (by unfold wkA; omega) (by unfold HA; omega)) (hf _ (by unfold wkA; omega) (by unfold HA; omega)) (fun a ha => hf a (PA_nwk hp ha).1 (PA_nwk hp ha).2)
theorem polys_post {p l : Nat} (hp : p < 3) {I I1 : mPI} {J : mPJ} (hC : CI I J) (h1 : I (513 + p) 1 = nI l) (hl : l ≤ 11) (a1 : ∀ a, a ≠ 513 + p → a ≠ rfL (513 + p) 6 → (∀ j, j < 78 → a ≠ pbg rfL (rfL (513 + p) 6) j ∧ a ≠ rfL (pbg rfL (rfL (513 + p) 6) j) 0) → I1 a = I a) (a2 : ∀ k, k ≠ 7 → I1 (513 + p) k = I (513 + p) k) (a4 : PIs shL rfL I1 (rfL (513 + p) 6) (fun k => (J (rfL (513 + p) 5) k).toInt) l) : Pf p I I1 ∧ CI I1 J ∧ PIs shL rfL I1 (504 + p) (moC J p) l := by
  obtain ⟨hW, -, r5, r6⟩ := lay_W hp
  rw [r6, r5] at a4
  have hPf : Pf p I I1 := by
    refine ⟨fun a b1 b2 b3 => a1 a b2 (by rw [r6]; exact b3) (fun j hj => ?_), a2⟩
    rw [r6, lay_pbg hp hj, rf0 (by omega)]
    omega
  refine ⟨hPf, fun q hq => ?_, a4⟩
  by_cases e : q = p
  · subst e
    obtain ⟨l', b1, b2, b3, b4, b5, b6, b7⟩ := hC q hq
    obtain rfl : l' = l := by
      rw [b1] at h1
      exact (nI_eq (by omega) (by omega)).mp h1
    exact ⟨l', by rw [a2 1 (by decide)]; exact b1, b2, b3, b4, by rw [a2 3 (by decide)]; exact b5, fun _ => a4, b7.keep a2 (hPf.1 _ (by omega) (by omega) (by omega))⟩
  · exact (hC q hq).keep hq (hPf.1 _ (by omega) (by omega) (by omega)) (hPf.1 _ (by omega) (by omega) (by omega)) (fun a ha => hPf.1 a (by unfold PA at ha; omega) (by unfold PA at ha; omega) (by unfold PA at ha; omega))
/-! ===== the answers that lay a fraction ===== -/
def Dt (mo : Nat → Int) (k : Nat) : Int := mn mo (2 ^ k - 1)
def Nm (mo : Nat → Int) (k i : Nat) : Int := mn mo (cm k i)
abbrev mSL : Type := Int32 ⊕ (Int × Int)
def slR : mSL → Int32
  | .inl c => c
  | .inr q => sgA (q.1 * q.2)
def slU (U : Int) : mSL → Int
  | .inl _ => U
  | .inr q => q.1
def slL (L : Int) : mSL → Int
  | .inl _ => L
  | .inr q => q.2
/-- a call that asks, and may lay r -/
def Ask (I : mPI) (J : mPJ) (K : mKT) (r : Nat → mSL) : Prop := ∃ (l : Nat) (U L : Int), CI I J ∧ HIs shL rfL I 522 U L ∧ L ≠ 0 ∧ I 513 1 = nI l ∧ l ≤ 11 ∧ ∀ I1, Vis I I1 → CI I1 J → HIs shL rfL I1 522 (slU U (r l)) (slL L (r l)) → K (some (.inl (slR (r l)))) I1 J
/-- a call that asks and lays nothing -/
def Tel (I : mPI) (J : mPJ) (K : mKT) (r : Int → Int → Nat → Int32) : Prop := ∃ (l : Nat) (U L : Int), CI I J ∧ HIs shL rfL I 522 U L ∧ L ≠ 0 ∧ I 513 1 = nI l ∧ l ≤ 11 ∧ ∀ I1, Vis I I1 → CI I1 J → HIs shL rfL I1 522 U L → K (some (.inl (r U L l))) I1 J
theorem i_of {k : Int32} {j : Nat} (hj : j < 2 ^ 31) : k = nI j ↔ k.toInt = j := by
  constructor
  · intro e
    rw [e]
    exact nI_toInt hj
  · intro e
    refine Int32.toInt_inj.mp ?_
    rw [e, nI_toInt hj]
theorem i_nat {k : Int32} (h : 0 ≤ k.toInt) : k = nI k.toInt.toNat ∧ k.toInt.toNat < 2 ^ 31 := by
  have h2 := k.toInt_lt
  have h3 : k.toInt.toNat < 2 ^ 31 := by omega
  exact ⟨(i_of h3).mpr (by omega), h3⟩
abbrev hasP (mo : Nat → Int) (l : Nat) (k : Int) : Prop := 0 ≤ k ∧ k ≤ tpf mo l
abbrev hasW (mo : Nat → Int) (l : Nat) (k : Int) : Prop := hasP mo l k ∧ 2 * k ≤ l
def spMoment (mo : Nat → Int) (k : Int) (l : Nat) : mSL := if 0 ≤ k ∧ k ≤ l then .inr (mo k.toNat, 1) else .inl (-1)
def spWorth (mo : Nat → Int) (k : Int) (l : Nat) : mSL := if hasW mo l k then .inr (Dt mo (k.toNat + 1), Dt mo k.toNat) else .inl (-1)
def spDet (mo : Nat → Int) (k : Int) (l : Nat) : mSL := if 0 ≤ k ∧ k ≤ 6 ∧ 2 * k - 2 ≤ l then .inr (Dt mo k.toNat, 1) else .inl (-1)
def spNum (mo : Nat → Int) (k i : Int) (l : Nat) : mSL := if hasP mo l k ∧ 0 ≤ i then (if k < i then .inr (0, 1) else .inr (Nm mo k.toNat i.toNat, Dt mo k.toNat)) else .inl (-1)
def pt_layMoment : mSH → mRF → mPT := m_pv 4 (fun sh rf d rest I J K => ∃ k : Int32, sh = shL ∧ rf = rfL ∧ d = 523 ∧ rest = [.inl k] ∧ Ask I J K (spMoment (moC J 0) k.toInt))
def pt_layWorth : mSH → mRF → mPT := m_pv 4 (fun sh rf d rest I J K => ∃ k : Int32, sh = shL ∧ rf = rfL ∧ d = 523 ∧ rest = [.inl k] ∧ Ask I J K (spWorth (moC J 0) k.toInt))
def pt_layDet : mSH → mRF → mPT := m_pv 4 (fun sh rf d rest I J K => ∃ k : Int32, sh = shL ∧ rf = rfL ∧ d = 523 ∧ rest = [.inl k] ∧ Ask I J K (spDet (moC J 0) k.toInt))
def pt_layNum : mSH → mRF → mPT := m_pv 4 (fun sh rf d rest I J K => ∃ k i : Int32, sh = shL ∧ rf = rfL ∧ d = 523 ∧ rest = [.inl k, .inl i] ∧ Ask I J K (spNum (moC J 0) k.toInt i.toInt))
/-- of what polys() gives -/
theorem P_det {p l k : Nat} {I : mPI} {mo : Nat → Int} (h : PIs shL rfL I (504 + p) mo l) (hk : k ≤ 6) (hl : 2 * k ≤ l + 2) : BIs shL rfL I (pbg rfL (504 + p) (2 ^ k - 1)) (Dt mo k) ∧ (Dt mo k).natAbs < 2 ^ (32 * 12) := by
  refine ⟨h.2.2.2.2.2 _ (pw_det (mo := mo) hl hk), ?_⟩
  exact (mn_lt h.2.2.2.1 (by have := (shl_det k hk).2; omega)).1
theorem P_num {p l k i : Nat} {I : mPI} {mo : Nat → Int} (h : PIs shL rfL I (504 + p) mo l) (hk : k ≤ 5) (hi : i ≤ k) (hl : 2 * k ≤ l + 1) : BIs shL rfL I (pbg rfL (504 + p) ((2 ^ (k + 1) - 1) ^^^ 2 ^ i)) (Nm mo k i) ∧ (Nm mo k i).natAbs < 2 ^ (32 * 12) := by
  refine ⟨h.2.2.2.2.2 (cm k i) (pw_cm hk hl hi), ?_⟩
  exact (mn_lt h.2.2.2.1 (cm_t k (by omega) i (by omega)).2.1).1
theorem big_lt {z : Int} {n m : Nat} (h : z.natAbs < 2 ^ n) (hm : n ≤ m) : z.natAbs < 2 ^ m := Nat.lt_of_lt_of_le h (Nat.pow_le_pow_right (by decide) hm)
theorem pbg_ne {p c b : Nat} (hp : p < 3) (hc : c < 78) (hb : 468 ≤ b) : pbg rfL (504 + p) c ≠ b := by
  rw [lay_pbg hp hc]
  omega
theorem pbg_nh {p c : Nat} (hp : p < 3) (hc : c < 78) (k : Nat) : pbg rfL (504 + p) c ≠ rfL 522 k := by
  rw [lay_H.2]
  exact pbg_ne hp hc (by omega)
theorem det64 {k : Nat} (hk : k ≤ 6) : 2 ^ k - 1 < 78 := by
  have := (shl_det k hk).2
  omega
theorem num64 {k i : Nat} (hk : k ≤ 5) (hi : i ≤ k) : (2 ^ (k + 1) - 1) ^^^ 2 ^ i < 78 := by
  have := (cm_t k (by omega) i (by omega)).2.1
  unfold cm at this
  omega
/-- below the top no determinant is 0 -/
theorem tpF_nz (mo : Nat → Int) (l : Nat) : ∀ n k, (∀ j, j ≤ k → Dt mo j ≠ 0) → ∀ j, j ≤ tpF mo l n k → Dt mo j ≠ 0
  | 0, k, h => h
  | n + 1, k, h => by
    rw [tpF]
    split
    · next q =>
      refine tpF_nz mo l n (k + 1) (fun j hj => ?_)
      rcases Nat.lt_or_ge j (k + 1) with e | e
      · exact h j (by omega)
      · obtain rfl : j = k + 1 := by omega
        exact q.2.2
    · exact h
theorem top_nz {mo : Nat → Int} {l j : Nat} (h : j ≤ tpf mo l) : Dt mo j ≠ 0 := by
  refine tpF_nz mo l 6 0 (fun i hi => ?_) j h
  obtain rfl : i = 0 := by omega
  show (1 : Int) ≠ 0
  decide
def ct_X4_layMoment (sh : mSH) (rf : mRF) : Nat → Option (Nat × Bool × mPT) := fun k => match k with
  | 134 => some (2, true, pt_layWhole sh rf)
  | _ => none
set_option maxRecDepth 20000 in
theorem ce_X4_layMoment : m_CE RX4 3 66 cX4_layMoment 2 ct_X4_layMoment := by
  intro p l e s m args below meth c Q D cs ad sh rf N hx hb hml hown hts hK hi hN k n vf pt h
  unfold ct_X4_layMoment at h
  split at h
  · cases h
    exact m_CG_V mt_X1_layWhole hx hb hml hown hts hK hi hN (ci := 1) m_pv_rec rfl rfl (m_wck_ok (l := [(Cond.methodLink RX4 134 yX1_layWhole, 404), (Cond.instanceMethod yX1_layWhole, 405), (Cond.selects RX1 yX1_layWhole yX1_layWhole, 406), (Cond.initialized RX1, 61), (Cond.code yX1_layWhole cX1_layWhole 3 (some .int), 407)]) (by decide +kernel)) ⟨rfl, by decide +kernel, by decide +kernel, by decide +kernel⟩ ⟨Nat.le_of_ble_eq_true rfl, Nat.le_of_ble_eq_true rfl⟩
  · cases h
set_option maxHeartbeats 4000000 in
set_option maxRecDepth 100000 in
theorem mt_X4_layMoment : m_Mt yX4_layMoment cX4_layMoment 2 (some .int) 3 66 pt_layMoment := by
  refine m_method0 80 (fl := fl_X4) (kI := kI_X4) (kJ := kJ_X4) (ct := ct_X4_layMoment) (cd := cd_X4_layMoment) (rk := 1) (by decide +kernel) fl_X4_ok kI_X4_ok kJ_X4_ok ce_X4_layMoment rfl ck_X4_layMoment ⟨_, _, rfl, rfl⟩ ?_
  intro sh rf As I J K hpt
  obtain ⟨d, rest, rfl, hd, k, rfl, rfl, rfl, rfl, l, U, L, hC, hH, hL, h1, hl, hK⟩ := hpt
  have k1 : ¬ (0 ≤ k.toInt ∧ k.toInt ≤ l) → K (some (.inl (-1))) I J := fun q => by
    have e : spMoment (moC J 0) k.toInt l = .inl (-1) := if_neg q
    rw [e] at hK
    exact hK I (Fr.rfl' I).vis hC hH
  have z0 : (0 : Int32).toInt = 0 := rfl
  refine ⟨Nat.le_of_ble_eq_true rfl, fun h => ?_, fun h => ⟨rfl, rfl, fun h2 => ?_, fun h2 => ?_⟩⟩
  · exact k1 (fun q => by rw [Int32.lt_iff_toInt_lt, z0] at h; omega)
  · have h2 : k ≤ I 513 1 := h2
    rw [h1, Int32.le_iff_toInt_le, nI_toInt (by omega)] at h2
    rw [Int32.lt_iff_toInt_lt, z0] at h
    obtain ⟨e1, e2⟩ := i_nat (k := k) (by omega)
    have e : spMoment (moC J 0) k.toInt l = .inr (moC J 0 k.toInt.toNat, 1) := if_pos ⟨by omega, h2⟩
    rw [e] at hK
    have hin : vp_in k 12 := by rw [e1]; exact vp_in_nI (by omega) (by decide)
    have ecl : k.toNatClampNeg = k.toInt.toNat := by
      have := nI_clamp (n := k.toInt.toNat) (by omega)
      rw [← e1] at this
      exact this
    refine ⟨rfl, rfl, rfl, m_inb_i (n := 12) rfl hin, 522, [.inr (.inl (J 519 k.toNatClampNeg))], rfl, rfl, J 519 k.toNatClampNeg, rfl, lay_H.1, fun I1 a1 a2 => ?_⟩
    have hf := hch_fr a1
    rw [ecl] at a2 ⊢
    have := hK I1 hf.vis (hC.fr hf) a2
    have es : slR (.inr (moC J 0 k.toInt.toNat, 1)) = sgA (J 519 k.toInt.toNat).toInt := by
      show sgA (moC J 0 k.toInt.toNat * 1) = _
      rw [Int.mul_one]
      rfl
    rw [es] at this
    exact this
  · have h2 : ¬ k ≤ I 513 1 := h2
    rw [h1, Int32.le_iff_toInt_le, nI_toInt (by omega)] at h2
    exact k1 (fun q => h2 q.2)
end
section
/-! ===== the desk: worths, determinants, numbers, the hand ===== -/
theorem CI.cur {I : mPI} {J : mPJ} {l : Nat} (h : CI I J) (h1 : I 513 1 = nI l) (hl : l ≤ 11) : 3 ≤ l ∧ (∀ k, k < 12 → (J 519 k).toInt.natAbs ≤ MB) ∧ (I 513 7 = 0 → PIs shL rfL I 504 (moC J 0) l) := by
  obtain ⟨l', b1, b2, b3, b4, b5, b6, b7⟩ := h 0 (by decide)
  obtain rfl : l' = l := by
    have e : nI l' = nI l := b1.symm.trans h1
    exact (nI_eq (by omega) (by omega)).mp e
  exact ⟨b2, b4, b6⟩
theorem lay_W0 : WSh shL rfL 513 := (lay_W (p := 0) (by decide)).1
theorem z0I : (0 : Int32).toInt = 0 := rfl
def pt_sign : mSH → mRF → mPT := m_pv 4 (fun sh rf d rest I J K => sh = shL ∧ rf = rfL ∧ d = 523 ∧ rest = [] ∧ Tel I J K (fun U L _ => sgA (U * L)))
def pt_bits : mSH → mRF → mPT := m_pv 4 (fun sh rf d rest I J K => ∃ (wh : Int32) (p q : Int), sh = shL ∧ rf = rfL ∧ d = 523 ∧ rest = [.inl wh] ∧ 0 < q ∧ Nat.gcd p.natAbs q.natAbs = 1 ∧ HIs shL rfL I 522 p q ∧ CI I J ∧ ∀ I1, Vis I I1 → CI I1 J → HIs shL rfL I1 522 p q → K (some (.inl (if wh = 0 then nI (blen p.natAbs) else if wh = 1 then nI (blen q.natAbs) else -2))) I1 J)
def pt_word : mSH → mRF → mPT := m_pv 4 (fun sh rf d rest I J K => ∃ (wh k : Int32) (p q : Int), sh = shL ∧ rf = rfL ∧ d = 523 ∧ rest = [.inl wh, .inl k] ∧ 0 < q ∧ Nat.gcd p.natAbs q.natAbs = 1 ∧ HIs shL rfL I 522 p q ∧ CI I J ∧ ∀ I1, Vis I I1 → CI I1 J → HIs shL rfL I1 522 p q → K (some (.inl (if (wh = 0 ∨ wh = 1) ∧ 0 ≤ k.toInt then nI ((if wh = 0 then p.natAbs else q.natAbs) / 2 ^ (16 * k.toInt.toNat) % 65536) else -2))) I1 J)
theorem low_unique {p q u l : Int} (hq : 0 < q) (hl : 0 < l) (g1 : Nat.gcd p.natAbs q.natAbs = 1) (g2 : Nat.gcd u.natAbs l.natAbs = 1) (h : p * l = u * q) : p = u ∧ q = l := by
  have e : p.natAbs * l.natAbs = u.natAbs * q.natAbs := by rw [← Int.natAbs_mul, ← Int.natAbs_mul, h]
  have d1 : q.natAbs ∣ l.natAbs := by
    have : q.natAbs ∣ p.natAbs * l.natAbs := ⟨u.natAbs, by rw [e, Nat.mul_comm]⟩
    exact Nat.Coprime.dvd_of_dvd_mul_left (Nat.Coprime.symm g1) this
  have d2 : l.natAbs ∣ q.natAbs := by
    have : l.natAbs ∣ u.natAbs * q.natAbs := ⟨p.natAbs, by rw [← e, Nat.mul_comm]⟩
    exact Nat.Coprime.dvd_of_dvd_mul_left (Nat.Coprime.symm g2) this
  have e2 := Nat.dvd_antisymm d1 d2
  have e3 : q = l := by omega
  subst e3
  exact ⟨Int.eq_of_mul_eq_mul_right (by omega) h, rfl⟩
def ct_X4_layWorth (sh : mSH) (rf : mRF) : Nat → Option (Nat × Bool × mPT) := fun k => match k with
  | 138 => some (1, true, pt_wpolys sh rf)
  | 142 => some (2, true, pt_phasWorth sh rf)
  | 147 => some (2, true, pt_pdet sh rf)
  | 151 => some (3, true, pt_lay sh rf)
  | _ => none
set_option maxRecDepth 20000 in
theorem ce_X4_layWorth : m_CE RX4 6 173 cX4_layWorth 3 ct_X4_layWorth := by
  intro p l e s m args below meth c Q D cs ad sh rf N hx hb hml hown hts hK hi hN k n vf pt h
  unfold ct_X4_layWorth at h
  split at h
  · cases h
    exact m_CG_V mt_X3_polys hx hb hml hown hts hK hi hN (ci := 3) m_pv_rec rfl rfl (m_wck_ok (l := [(Cond.methodLink RX4 138 yX3_polys, 420), (Cond.instanceMethod yX3_polys, 421), (Cond.selects RX3 yX3_polys yX3_polys, 422), (Cond.initialized RX3, 56), (Cond.code yX3_polys cX3_polys 1 (some (.object "MomentDesk$Polys")), 423)]) (by decide +kernel)) ⟨rfl, by decide +kernel, by decide +kernel, by decide +kernel⟩ ⟨Nat.le_of_ble_eq_true rfl, Nat.le_of_ble_eq_true rfl⟩
  · cases h
    exact m_CG_V mt_X2_hasWorth hx hb hml hown hts hK hi hN (ci := 2) m_pv_rec rfl rfl (m_wck_ok (l := [(Cond.methodLink RX4 142 yX2_hasWorth, 441), (Cond.instanceMethod yX2_hasWorth, 442), (Cond.selects RX2 yX2_hasWorth yX2_hasWorth, 443), (Cond.initialized RX2, 57), (Cond.code yX2_hasWorth cX2_hasWorth 2 (some .boolean), 444)]) (by decide +kernel)) ⟨rfl, by decide +kernel, by decide +kernel, by decide +kernel⟩ ⟨Nat.le_of_ble_eq_true rfl, Nat.le_of_ble_eq_true rfl⟩
  · cases h
    exact m_CG_V mt_X2_determinant hx hb hml hown hts hK hi hN (ci := 2) m_pv_rec rfl rfl (m_wck_ok (l := [(Cond.methodLink RX4 147 yX2_determinant, 449), (Cond.instanceMethod yX2_determinant, 438), (Cond.selects RX2 yX2_determinant yX2_determinant, 439), (Cond.initialized RX2, 57), (Cond.code yX2_determinant cX2_determinant 2 (some (.object "MomentDesk$Big")), 440)]) (by decide +kernel)) ⟨rfl, by decide +kernel, by decide +kernel, by decide +kernel⟩ ⟨Nat.le_of_ble_eq_true rfl, Nat.le_of_ble_eq_true rfl⟩
  · cases h
    exact m_CG_V mt_X1_lay hx hb hml hown hts hK hi hN (ci := 1) m_pv_rec rfl rfl (m_wck_ok (l := [(Cond.methodLink RX4 151 yX1_lay, 450), (Cond.instanceMethod yX1_lay, 451), (Cond.selects RX1 yX1_lay yX1_lay, 452), (Cond.initialized RX1, 61), (Cond.code yX1_lay cX1_lay 3 (some .int), 453)]) (by decide +kernel)) ⟨rfl, by decide +kernel, by decide +kernel, by decide +kernel⟩ ⟨Nat.le_of_ble_eq_true rfl, Nat.le_of_ble_eq_true rfl⟩
  · cases h
set_option maxHeartbeats 4000000 in
set_option maxRecDepth 100000 in
theorem mt_X4_layWorth : m_Mt yX4_layWorth cX4_layWorth 3 (some .int) 6 173 pt_layWorth := by
  refine m_method0 80 (fl := fl_X4) (kI := kI_X4) (kJ := kJ_X4) (ct := ct_X4_layWorth) (cd := cd_X4_layWorth) (rk := 1) (by decide +kernel) fl_X4_ok kI_X4_ok kJ_X4_ok ce_X4_layWorth rfl ck_X4_layWorth ⟨_, _, rfl, rfl⟩ ?_
  intro sh rf As I J K hpt
  obtain ⟨d, rest, rfl, hd, k, rfl, rfl, rfl, rfl, l, U, L, hC, hH, hL, h1, hl, hK⟩ := hpt
  obtain ⟨h3, hmo, hold⟩ := hC.cur h1 hl
  refine ⟨Nat.le_of_ble_eq_true rfl, rfl, 513, [], rfl, rfl, l, rfl, lay_W0, h1, hl, hmo, hold, fun I1 a1 a2 a3 a4 => ?_⟩
  obtain ⟨hPf, hC1, hP⟩ := polys_post (p := 0) (by decide) hC h1 hl a1 a2 a4
  have hV := hPf.vis (by decide)
  have hH1 := hH.pf (by decide) hPf
  have tl := tpf_le (moC J 0) l
  refine ⟨504, [.inl k], rfl, rfl, k, tpf (moC J 0) l, l, rfl, hP.2.1, tl.1, hP.1, hl, fun j hj h2 hk => ?_, fun hn => ?_⟩
  · subst hk
    have e : spWorth (moC J 0) (nI j).toInt l = .inr (Dt (moC J 0) (j + 1), Dt (moC J 0) j) := by
      rw [nI_toInt (by omega)]
      exact if_pos ⟨⟨by omega, by omega⟩, by omega⟩
    rw [e] at hK
    obtain ⟨d1, d2⟩ := P_det (p := 0) (k := j + 1) hP (by omega) (by omega)
    obtain ⟨d3, d4⟩ := P_det (p := 0) (k := j) hP (by omega) (by omega)
    refine ⟨fun _ => ?_, fun h => absurd h (by decide)⟩
    refine ⟨rfl, 504, [.inl (nI j + 1)], rfl, rfl, j + 1, congrArg (fun x => [Sum.inl x]) (nI_1 j), by omega, lay_P (p := 0) (by decide), 504, [.inl (nI j)], rfl, rfl, j, rfl, by omega, lay_P (p := 0) (by decide), 522, [.inr (.inr (pbg rfL 504 (2 ^ (j + 1) - 1))), .inr (.inr (pbg rfL 504 (2 ^ j - 1)))], rfl, rfl, pbg rfL 504 (2 ^ (j + 1) - 1), pbg rfL 504 (2 ^ j - 1), _, _, rfl, lay_H.1, fun i _ => ⟨pbg_nh (p := 0) (by decide) (det64 (by omega)) i, pbg_nh (p := 0) (by decide) (det64 (by omega)) i⟩, d1, d3, big_lt d2 (by decide), big_lt d4 (by decide), top_nz hj, fun I2 b1 b2 => ?_⟩
    have hf := hch_fr b1
    exact hK I2 (hV.trans hf.vis) (hC1.fr hf) b2
  · have e : spWorth (moC J 0) k.toInt l = .inl (-1) := by
      refine if_neg (fun q => ?_)
      obtain ⟨⟨q1, q2⟩, q3⟩ := q
      exact hn k.toInt.toNat (by omega) (by omega) (i_nat q1).1
    rw [e] at hK
    exact ⟨fun h => absurd rfl h, fun _ => hK I1 hV hC1 hH1⟩

def ct_X4_layDeterminant (sh : mSH) (rf : mRF) : Nat → Option (Nat × Bool × mPT) := fun k => match k with
  | 112 => some (2, true, pt_setLong sh rf)
  | 138 => some (1, true, pt_wpolys sh rf)
  | 147 => some (2, true, pt_pdet sh rf)
  | 151 => some (3, true, pt_lay sh rf)
  | _ => none
set_option maxRecDepth 20000 in
theorem ce_X4_layDeterminant : m_CE RX4 6 173 cX4_layDeterminant 2 ct_X4_layDeterminant := by
  intro p l e s m args below meth c Q D cs ad sh rf N hx hb hml hown hts hK hi hN k n vf pt h
  unfold ct_X4_layDeterminant at h
  split at h
  · cases h
    exact m_CG_V mt_X0_setLong hx hb hml hown hts hK hi hN (ci := 0) m_pv_rec rfl rfl (m_wck_ok (l := [(Cond.methodLink RX4 112 yX0_setLong, 307), (Cond.instanceMethod yX0_setLong, 176), (Cond.selects RX0 yX0_setLong yX0_setLong, 177), (Cond.initialized RX0, 58), (Cond.code yX0_setLong cX0_setLong 5 none, 178)]) (by decide +kernel)) ⟨rfl, by decide +kernel, by decide +kernel, by decide +kernel⟩ ⟨Nat.le_of_ble_eq_true rfl, Nat.le_of_ble_eq_true rfl⟩
  · cases h
    exact m_CG_V mt_X3_polys hx hb hml hown hts hK hi hN (ci := 3) m_pv_rec rfl rfl (m_wck_ok (l := [(Cond.methodLink RX4 138 yX3_polys, 420), (Cond.instanceMethod yX3_polys, 421), (Cond.selects RX3 yX3_polys yX3_polys, 422), (Cond.initialized RX3, 56), (Cond.code yX3_polys cX3_polys 1 (some (.object "MomentDesk$Polys")), 423)]) (by decide +kernel)) ⟨rfl, by decide +kernel, by decide +kernel, by decide +kernel⟩ ⟨Nat.le_of_ble_eq_true rfl, Nat.le_of_ble_eq_true rfl⟩
  · cases h
    exact m_CG_V mt_X2_determinant hx hb hml hown hts hK hi hN (ci := 2) m_pv_rec rfl rfl (m_wck_ok (l := [(Cond.methodLink RX4 147 yX2_determinant, 449), (Cond.instanceMethod yX2_determinant, 438), (Cond.selects RX2 yX2_determinant yX2_determinant, 439), (Cond.initialized RX2, 57), (Cond.code yX2_determinant cX2_determinant 2 (some (.object "MomentDesk$Big")), 440)]) (by decide +kernel)) ⟨rfl, by decide +kernel, by decide +kernel, by decide +kernel⟩ ⟨Nat.le_of_ble_eq_true rfl, Nat.le_of_ble_eq_true rfl⟩
  · cases h
    exact m_CG_V mt_X1_lay hx hb hml hown hts hK hi hN (ci := 1) m_pv_rec rfl rfl (m_wck_ok (l := [(Cond.methodLink RX4 151 yX1_lay, 450), (Cond.instanceMethod yX1_lay, 451), (Cond.selects RX1 yX1_lay yX1_lay, 452), (Cond.initialized RX1, 61), (Cond.code yX1_lay cX1_lay 3 (some .int), 453)]) (by decide +kernel)) ⟨rfl, by decide +kernel, by decide +kernel, by decide +kernel⟩ ⟨Nat.le_of_ble_eq_true rfl, Nat.le_of_ble_eq_true rfl⟩
  · cases h
set_option maxHeartbeats 4000000 in
set_option maxRecDepth 100000 in
theorem mt_X4_layDeterminant : m_Mt yX4_layDeterminant cX4_layDeterminant 2 (some .int) 6 173 pt_layDet := by
  refine m_method0 80 (fl := fl_X4) (kI := kI_X4) (kJ := kJ_X4) (ct := ct_X4_layDeterminant) (cd := cd_X4_layDeterminant) (rk := 1) (by decide +kernel) fl_X4_ok kI_X4_ok kJ_X4_ok ce_X4_layDeterminant rfl ck_X4_layDeterminant ⟨_, _, rfl, rfl⟩ ?_
  intro sh rf As I J K hpt
  obtain ⟨d, rest, rfl, hd, k, rfl, rfl, rfl, rfl, l, U, L, hC, hH, hL, h1, hl, hK⟩ := hpt
  obtain ⟨h3, hmo, hold⟩ := hC.cur h1 hl
  have k1 : ¬ (0 ≤ k.toInt ∧ k.toInt ≤ 6 ∧ 2 * k.toInt - 2 ≤ l) → K (some (.inl (-1))) I J := fun q => by
    have e : spDet (moC J 0) k.toInt l = .inl (-1) := if_neg q
    rw [e] at hK
    exact hK I (Fr.rfl' I).vis hC hH
  refine ⟨Nat.le_of_ble_eq_true rfl, fun h => ?_, fun h => ⟨fun h2 => ?_, fun h2 => ⟨rfl, rfl, fun h4 => ?_, fun h4 => ?_⟩⟩⟩
  · rw [Int32.lt_iff_toInt_lt, z0I] at h
    exact k1 (fun q => by omega)
  · have h2 : (6 : Int32) < k := h2
    have e6 : (6 : Int32).toInt = 6 := rfl
    rw [Int32.lt_iff_toInt_lt, e6] at h2
    exact k1 (fun q => by omega)
  · have h2 : ¬ (6 : Int32) < k := h2
    have e6 : (6 : Int32).toInt = 6 := rfl
    rw [Int32.lt_iff_toInt_lt, e6] at h2
    rw [Int32.lt_iff_toInt_lt, z0I] at h
    obtain ⟨ek, -⟩ := i_nat (k := k) (by omega)
    generalize hj : k.toInt.toNat = j at ek
    subst ek
    have tj : (nI j).toInt = j := nI_toInt (by omega)
    have h4 : (2 : Int32) * nI j - 2 ≤ I 513 1 := h4
    have e2 : (2 : Int32) * nI j - 2 = Int32.ofInt (2 * (j : Int) - 2) := by
      rcases (show j = 0 ∨ j = 1 ∨ j = 2 ∨ j = 3 ∨ j = 4 ∨ j = 5 ∨ j = 6 by omega) with e | e | e | e | e | e | e <;> subst e <;> decide
    have e3 : (Int32.ofInt (2 * (j : Int) - 2)).toInt = 2 * (j : Int) - 2 := Int32.toInt_ofInt_of_le (by omega) (by omega)
    rw [e2, h1, Int32.le_iff_toInt_le, e3, nI_toInt (by omega)] at h4
    have e : spDet (moC J 0) (nI j).toInt l = .inr (Dt (moC J 0) j, 1) := by
      rw [tj]
      exact if_pos ⟨by omega, by omega, by omega⟩
    rw [e] at hK
    refine ⟨rfl, 498, [.inr (.inl 1)], rfl, rfl, 40, 1, rfl, lay_40 (b := 249) (by decide) (by decide), fun I0 c1 c2 => ?_⟩
    have hw := bch_wk (b := 498) (by decide) (by decide) c1
    have hC0 := hC.fr hw.fr
    have hH0 := hH.wk hw
    have h10 : I0 513 1 = nI l := (hw.fr.vis.2 0 (by decide) 1 (by decide)).trans h1
    obtain ⟨-, hmo, hold⟩ := hC0.cur h10 hl
    refine ⟨rfl, rfl, 513, [], rfl, rfl, l, rfl, lay_W0, h10, hl, hmo, hold, fun I1 a1 a2 a3 a4 => ?_⟩
    obtain ⟨hPf, hC1, hP⟩ := polys_post (p := 0) (by decide) hC0 h10 hl a1 a2 a4
    have hV := hPf.vis (by decide)
    obtain ⟨d1, d2⟩ := P_det (p := 0) (k := j) hP (by omega) (by omega)
    have c3 : BIs shL rfL I1 498 1 := c2.keep (hPf.1 _ (by decide) (by decide) (by decide)) (hPf.1 _ (by decide) (by decide) (by decide))
    refine ⟨504, [.inl (nI j)], rfl, rfl, j, rfl, by omega, lay_P (p := 0) (by decide), rfl, 522, [.inr (.inr (pbg rfL 504 (2 ^ j - 1))), .inr (.inr 498)], rfl, rfl, pbg rfL 504 (2 ^ j - 1), 498, _, _, rfl, lay_H.1, fun i hi => ⟨pbg_nh (p := 0) (by decide) (det64 (by omega)) i, by rw [lay_H.2]; omega⟩, d1, c3, big_lt d2 (by decide), by decide, by decide, fun I2 b1 b2 => ?_⟩
    have hf := hch_fr b1
    exact hK I2 (hw.fr.vis.trans (hV.trans hf.vis)) (hC1.fr hf) b2
  · have h2 : ¬ (6 : Int32) < k := h2
    have e6 : (6 : Int32).toInt = 6 := rfl
    rw [Int32.lt_iff_toInt_lt, e6] at h2
    rw [Int32.lt_iff_toInt_lt, z0I] at h
    obtain ⟨ek, -⟩ := i_nat (k := k) (by omega)
    generalize hj : k.toInt.toNat = j at ek
    subst ek
    have tj : (nI j).toInt = j := nI_toInt (by omega)
    have h4 : ¬ (2 : Int32) * nI j - 2 ≤ I 513 1 := h4
    have e2 : (2 : Int32) * nI j - 2 = Int32.ofInt (2 * (j : Int) - 2) := by
      rcases (show j = 0 ∨ j = 1 ∨ j = 2 ∨ j = 3 ∨ j = 4 ∨ j = 5 ∨ j = 6 by omega) with e | e | e | e | e | e | e <;> subst e <;> decide
    have e3 : (Int32.ofInt (2 * (j : Int) - 2)).toInt = 2 * (j : Int) - 2 := Int32.toInt_ofInt_of_le (by omega) (by omega)
    rw [e2, h1, Int32.le_iff_toInt_le, e3, nI_toInt (by omega)] at h4
    exact k1 (fun q => by omega)

def ct_X4_layNumber (sh : mSH) (rf : mRF) : Nat → Option (Nat × Bool × mPT) := fun k => match k with
  | 138 => some (1, true, pt_wpolys sh rf)
  | 155 => some (2, true, pt_phas sh rf)
  | 134 => some (2, true, pt_layWhole sh rf)
  | 158 => some (3, true, pt_pnum sh rf)
  | 147 => some (2, true, pt_pdet sh rf)
  | 151 => some (3, true, pt_lay sh rf)
  | _ => none
set_option maxRecDepth 20000 in
theorem ce_X4_layNumber : m_CE RX4 6 173 cX4_layNumber 4 ct_X4_layNumber := by
  intro p l e s m args below meth c Q D cs ad sh rf N hx hb hml hown hts hK hi hN k n vf pt h
  unfold ct_X4_layNumber at h
  split at h
  · cases h
    exact m_CG_V mt_X3_polys hx hb hml hown hts hK hi hN (ci := 3) m_pv_rec rfl rfl (m_wck_ok (l := [(Cond.methodLink RX4 138 yX3_polys, 420), (Cond.instanceMethod yX3_polys, 421), (Cond.selects RX3 yX3_polys yX3_polys, 422), (Cond.initialized RX3, 56), (Cond.code yX3_polys cX3_polys 1 (some (.object "MomentDesk$Polys")), 423)]) (by decide +kernel)) ⟨rfl, by decide +kernel, by decide +kernel, by decide +kernel⟩ ⟨Nat.le_of_ble_eq_true rfl, Nat.le_of_ble_eq_true rfl⟩
  · cases h
    exact m_CG_V mt_X2_has hx hb hml hown hts hK hi hN (ci := 2) m_pv_rec rfl rfl (m_wck_ok (l := [(Cond.methodLink RX4 155 yX2_has, 467), (Cond.instanceMethod yX2_has, 446), (Cond.selects RX2 yX2_has yX2_has, 447), (Cond.initialized RX2, 57), (Cond.code yX2_has cX2_has 2 (some .boolean), 448)]) (by decide +kernel)) ⟨rfl, by decide +kernel, by decide +kernel, by decide +kernel⟩ ⟨Nat.le_of_ble_eq_true rfl, Nat.le_of_ble_eq_true rfl⟩
  · cases h
    exact m_CG_V mt_X1_layWhole hx hb hml hown hts hK hi hN (ci := 1) m_pv_rec rfl rfl (m_wck_ok (l := [(Cond.methodLink RX4 134 yX1_layWhole, 404), (Cond.instanceMethod yX1_layWhole, 405), (Cond.selects RX1 yX1_layWhole yX1_layWhole, 406), (Cond.initialized RX1, 61), (Cond.code yX1_layWhole cX1_layWhole 3 (some .int), 407)]) (by decide +kernel)) ⟨rfl, by decide +kernel, by decide +kernel, by decide +kernel⟩ ⟨Nat.le_of_ble_eq_true rfl, Nat.le_of_ble_eq_true rfl⟩
  · cases h
    exact m_CG_V mt_X2_number hx hb hml hown hts hK hi hN (ci := 2) m_pv_rec rfl rfl (m_wck_ok (l := [(Cond.methodLink RX4 158 yX2_number, 468), (Cond.instanceMethod yX2_number, 469), (Cond.selects RX2 yX2_number yX2_number, 470), (Cond.initialized RX2, 57), (Cond.code yX2_number cX2_number 3 (some (.object "MomentDesk$Big")), 471)]) (by decide +kernel)) ⟨rfl, by decide +kernel, by decide +kernel, by decide +kernel⟩ ⟨Nat.le_of_ble_eq_true rfl, Nat.le_of_ble_eq_true rfl⟩
  · cases h
    exact m_CG_V mt_X2_determinant hx hb hml hown hts hK hi hN (ci := 2) m_pv_rec rfl rfl (m_wck_ok (l := [(Cond.methodLink RX4 147 yX2_determinant, 449), (Cond.instanceMethod yX2_determinant, 438), (Cond.selects RX2 yX2_determinant yX2_determinant, 439), (Cond.initialized RX2, 57), (Cond.code yX2_determinant cX2_determinant 2 (some (.object "MomentDesk$Big")), 440)]) (by decide +kernel)) ⟨rfl, by decide +kernel, by decide +kernel, by decide +kernel⟩ ⟨Nat.le_of_ble_eq_true rfl, Nat.le_of_ble_eq_true rfl⟩
  · cases h
    exact m_CG_V mt_X1_lay hx hb hml hown hts hK hi hN (ci := 1) m_pv_rec rfl rfl (m_wck_ok (l := [(Cond.methodLink RX4 151 yX1_lay, 450), (Cond.instanceMethod yX1_lay, 451), (Cond.selects RX1 yX1_lay yX1_lay, 452), (Cond.initialized RX1, 61), (Cond.code yX1_lay cX1_lay 3 (some .int), 453)]) (by decide +kernel)) ⟨rfl, by decide +kernel, by decide +kernel, by decide +kernel⟩ ⟨Nat.le_of_ble_eq_true rfl, Nat.le_of_ble_eq_true rfl⟩
  · cases h
set_option maxHeartbeats 4000000 in
set_option maxRecDepth 100000 in
theorem mt_X4_layNumber : m_Mt yX4_layNumber cX4_layNumber 4 (some .int) 6 173 pt_layNum := by
  refine m_method0 80 (fl := fl_X4) (kI := kI_X4) (kJ := kJ_X4) (ct := ct_X4_layNumber) (cd := cd_X4_layNumber) (rk := 1) (by decide +kernel) fl_X4_ok kI_X4_ok kJ_X4_ok ce_X4_layNumber rfl ck_X4_layNumber ⟨_, _, rfl, rfl⟩ ?_
  intro sh rf As I J K hpt
  obtain ⟨d, rest, rfl, hd, k, i, rfl, rfl, rfl, rfl, l, U, L, hC, hH, hL, h1, hl, hK⟩ := hpt
  obtain ⟨h3, hmo, hold⟩ := hC.cur h1 hl
  refine ⟨Nat.le_of_ble_eq_true rfl, rfl, 513, [], rfl, rfl, l, rfl, lay_W0, h1, hl, hmo, hold, fun I1 a1 a2 a3 a4 => ?_⟩
  obtain ⟨hPf, hC1, hP⟩ := polys_post (p := 0) (by decide) hC h1 hl a1 a2 a4
  have hV := hPf.vis (by decide)
  have hH1 := hH.pf (by decide) hPf
  have tl := tpf_le (moC J 0) l
  have k1 : ¬ (hasP (moC J 0) l k.toInt ∧ 0 ≤ i.toInt) → K (some (.inl (-1))) I1 J := fun q => by
    have e : spNum (moC J 0) k.toInt i.toInt l = .inl (-1) := if_neg q
    rw [e] at hK
    exact hK I1 hV hC1 hH1
  refine ⟨504, [.inl k], rfl, rfl, k, tpf (moC J 0) l, rfl, hP.2.1, tl.1, fun j hj hk => ?_, fun hn => ?_⟩
  · refine ⟨fun h => absurd h (by decide), fun _ => ⟨fun h => ?_, fun h => ?_⟩⟩
    · have h : 0 ≤ i := h
      rw [Int32.le_iff_toInt_le, z0I] at h
      subst hk
      have tj : (nI j).toInt = j := nI_toInt (by omega)
      refine ⟨fun h4 => ?_, fun h4 => ?_⟩
      · have h4 : i ≤ nI j := h4
        rw [Int32.le_iff_toInt_le, tj] at h4
        obtain ⟨ei, em⟩ := i_nat h
        have e : spNum (moC J 0) (nI j).toInt i.toInt l = .inr (Nm (moC J 0) j i.toInt.toNat, Dt (moC J 0) j) := by
          rw [tj]
          unfold spNum
          rw [if_pos ⟨⟨by omega, by omega⟩, h⟩, if_neg (by omega)]
          rfl
        rw [e] at hK
        generalize i.toInt.toNat = m at ei em hK
        subst ei
        have tm : m ≤ j := by
          rw [nI_toInt] at h4
          · omega
          · omega
        obtain ⟨d1, d2⟩ := P_num (p := 0) (k := j) (i := m) hP (by omega) tm (by omega)
        obtain ⟨d3, d4⟩ := P_det (p := 0) (k := j) hP (by omega) (by omega)
        refine ⟨rfl, 504, [.inl (nI j), .inl (nI m)], rfl, rfl, j, m, rfl, by omega, tm, lay_P (p := 0) (by decide), 504, [.inl (nI j)], rfl, rfl, j, rfl, by omega, lay_P (p := 0) (by decide), 522, [.inr (.inr (pbg rfL 504 ((2 ^ (j + 1) - 1) ^^^ 2 ^ m))), .inr (.inr (pbg rfL 504 (2 ^ j - 1)))], rfl, rfl, pbg rfL 504 ((2 ^ (j + 1) - 1) ^^^ 2 ^ m), pbg rfL 504 (2 ^ j - 1), _, _, rfl, lay_H.1, fun i _ => ⟨pbg_nh (p := 0) (by decide) (num64 (by omega) tm) i, pbg_nh (p := 0) (by decide) (det64 (by omega)) i⟩, d1, d3, big_lt d2 (by decide), big_lt d4 (by decide), top_nz hj, fun I2 b1 b2 => ?_⟩
        have hf := hch_fr b1
        exact hK I2 (hV.trans hf.vis) (hC1.fr hf) b2
      · have h4 : ¬ i ≤ nI j := h4
        rw [Int32.le_iff_toInt_le, tj] at h4
        have e : spNum (moC J 0) (nI j).toInt i.toInt l = .inr (0, 1) := by
          rw [tj]
          unfold spNum
          rw [if_pos ⟨⟨by omega, by omega⟩, h⟩, if_pos (by omega)]
        rw [e] at hK
        refine ⟨rfl, 522, [.inr (.inl 0)], rfl, rfl, 0, rfl, lay_H.1, fun I2 b1 b2 => ?_⟩
        have hf := hch_fr b1
        exact hK I2 (hV.trans hf.vis) (hC1.fr hf) b2
    · have h : ¬ 0 ≤ i := h
      rw [Int32.le_iff_toInt_le, z0I] at h
      exact k1 (fun q => h q.2)
  · refine ⟨fun _ => k1 (fun q => ?_), fun h => absurd rfl h⟩
    obtain ⟨⟨q1, q2⟩, q3⟩ := q
    exact hn k.toInt.toNat (by omega) (i_nat q1).1

def ct_X4_sign (sh : mSH) (rf : mRF) : Nat → Option (Nat × Bool × mPT) := fun k => match k with
  | 209 => some (1, true, pt_signAnswer sh rf)
  | _ => none
set_option maxRecDepth 20000 in
theorem ce_X4_sign : m_CE RX4 2 41 cX4_sign 1 ct_X4_sign := by
  intro p l e s m args below meth c Q D cs ad sh rf N hx hb hml hown hts hK hi hN k n vf pt h
  unfold ct_X4_sign at h
  split at h
  · cases h
    exact m_CG_V mt_X1_signAnswer hx hb hml hown hts hK hi hN (ci := 1) m_pv_rec rfl rfl (m_wck_ok (l := [(Cond.methodLink RX4 209 yX1_signAnswer, 572), (Cond.instanceMethod yX1_signAnswer, 409), (Cond.selects RX1 yX1_signAnswer yX1_signAnswer, 410), (Cond.initialized RX1, 61), (Cond.code yX1_signAnswer cX1_signAnswer 2 (some .int), 411)]) (by decide +kernel)) ⟨rfl, by decide +kernel, by decide +kernel, by decide +kernel⟩ ⟨Nat.le_of_ble_eq_true rfl, Nat.le_of_ble_eq_true rfl⟩
  · cases h
set_option maxHeartbeats 4000000 in
set_option maxRecDepth 100000 in
theorem mt_X4_sign : m_Mt yX4_sign cX4_sign 1 (some .int) 2 41 pt_sign := by
  refine m_method0 80 (fl := fl_X4) (kI := kI_X4) (kJ := kJ_X4) (ct := ct_X4_sign) (cd := cd_X4_sign) (rk := 1) (by decide +kernel) fl_X4_ok kI_X4_ok kJ_X4_ok ce_X4_sign rfl ck_X4_sign ⟨_, _, rfl, rfl⟩ ?_
  intro sh rf As I J K hpt
  obtain ⟨d, rest, rfl, hd, rfl, rfl, rfl, rfl, l, U, L, hC, hH, hL, h1, hl, hK⟩ := hpt
  obtain ⟨u, v, b1, b2, b3, b4, b5⟩ := id hH
  refine ⟨Nat.le_of_ble_eq_true rfl, rfl, 522, [], rfl, rfl, u, rfl, lay_H.1, b1, ?_⟩
  have := hK I (Fr.rfl' I).vis hC hH
  have e : sgA u = sgA (U * L) := by
    have hv : v ≠ 0 := by omega
    have e1 : u * L * L = U * L * v := by rw [b4, Int.mul_assoc, Int.mul_comm v L, ← Int.mul_assoc]
    have l2 : 0 < L * L := by
      rcases Int.lt_or_gt_of_ne hL with q | q
      · exact Int.mul_pos_of_neg_of_neg q q
      · exact Int.mul_pos q q
    rw [Int.mul_assoc] at e1
    unfold sgA
    rcases Int.lt_trichotomy u 0 with q | q | q
    · have a1 : u * (L * L) < 0 := Int.mul_neg_of_neg_of_pos q l2
      have a2 : U * L < 0 := by
        rcases (show U * L < 0 ∨ 0 ≤ U * L by omega) with r | r
        · exact r
        · have := Int.mul_nonneg r (Int.le_of_lt b3)
          omega
      rw [if_pos q, if_pos a2]
    · rw [q, Int.zero_mul] at e1
      have a2 : U * L = 0 := by
        rcases Int.mul_eq_zero.mp e1.symm with r | r
        · exact r
        · exact absurd r hv
      rw [q, a2]
    · have a1 : 0 < u * (L * L) := Int.mul_pos q l2
      have a2 : 0 < U * L := by
        rcases (show 0 < U * L ∨ U * L ≤ 0 by omega) with r | r
        · exact r
        · have := Int.mul_nonneg (a := -(U * L)) (b := v) (by omega) (by omega)
          rw [Int.neg_mul] at this
          omega
      rw [if_neg (by omega), if_neg (by omega), if_neg (by omega), if_neg (by omega)]
  rw [e]
  exact this

def ct_X4_bits (sh : mSH) (rf : mRF) : Nat → Option (Nat × Bool × mPT) := fun k => match k with
  | 212 => some (2, true, pt_lowestPart sh rf)
  | 215 => some (1, true, pt_bitLength sh rf)
  | _ => none
set_option maxRecDepth 20000 in
theorem ce_X4_bits : m_CE RX4 5 124 cX4_bits 2 ct_X4_bits := by
  intro p l e s m args below meth c Q D cs ad sh rf N hx hb hml hown hts hK hi hN k n vf pt h
  unfold ct_X4_bits at h
  split at h
  · cases h
    exact m_CG_V mt_X1_lowestPart hx hb hml hown hts hK hi hN (ci := 1) m_pv_rec rfl rfl (m_wck_ok (l := [(Cond.methodLink RX4 212 yX1_lowestPart, 577), (Cond.instanceMethod yX1_lowestPart, 578), (Cond.selects RX1 yX1_lowestPart yX1_lowestPart, 579), (Cond.initialized RX1, 61), (Cond.code yX1_lowestPart cX1_lowestPart 2 (some (.object "MomentDesk$Big")), 580)]) (by decide +kernel)) ⟨rfl, by decide +kernel, by decide +kernel, by decide +kernel⟩ ⟨Nat.le_of_ble_eq_true rfl, Nat.le_of_ble_eq_true rfl⟩
  · cases h
    exact m_CG_V mt_X0_bitLength hx hb hml hown hts hK hi hN (ci := 0) m_pv_rec rfl rfl (m_wck_ok (l := [(Cond.methodLink RX4 215 yX0_bitLength, 379), (Cond.instanceMethod yX0_bitLength, 380), (Cond.selects RX0 yX0_bitLength yX0_bitLength, 381), (Cond.initialized RX0, 58), (Cond.code yX0_bitLength cX0_bitLength 1 (some .int), 382)]) (by decide +kernel)) ⟨rfl, by decide +kernel, by decide +kernel, by decide +kernel⟩ ⟨Nat.le_of_ble_eq_true rfl, Nat.le_of_ble_eq_true rfl⟩
  · cases h
set_option maxHeartbeats 4000000 in
set_option maxRecDepth 100000 in
theorem mt_X4_bits : m_Mt yX4_bits cX4_bits 2 (some .int) 5 124 pt_bits := by
  refine m_method0 80 (fl := fl_X4) (kI := kI_X4) (kJ := kJ_X4) (ct := ct_X4_bits) (cd := cd_X4_bits) (rk := 1) (by decide +kernel) fl_X4_ok kI_X4_ok kJ_X4_ok ce_X4_bits rfl ck_X4_bits ⟨_, _, rfl, rfl⟩ ?_
  intro sh rf As I J K hpt
  obtain ⟨d, rest, rfl, hd, wh, p, q, rfl, rfl, rfl, rfl, hq, hg, hH, hC, hK⟩ := hpt
  have lp : wh = 0 ∨ wh = 1 → pt_lowestPart shL rfL [.inr (.inr 522), .inl wh] I J (fun r I1 J1 => ∃ b, r = some (.inr (.inr b)) ∧ J1 = J ∧ b = (if wh = 0 then 468 else 470) ∧ BIs shL rfL I1 b (if wh = 0 then p else q) ∧ K (some (.inl (if wh = 0 then nI (blen p.natAbs) else if wh = 1 then nI (blen q.natAbs) else -2))) I1 J) := by
    intro hw
    refine ⟨522, [.inl wh], rfl, rfl, wh, p, q, rfl, lay_H.1, by omega, hH, fun I1 p' q' c1 c2 c3 c4 c5 c6 c7 => ?_⟩
    obtain ⟨rfl, rfl⟩ := low_unique c5 hq c6 hg c7
    have hf := hch_fr c1
    refine ⟨if wh = 0 then 468 else 470, ?_, rfl, rfl, ?_, hK I1 hf.vis (hC.fr hf) c2⟩
    · rcases hw with rfl | rfl <;> rfl
    · rcases hw with rfl | rfl
      · exact c3
      · exact c4
  have lq : wh = 0 ∨ wh = 1 → pt_lowestPart shL rfL [.inr (.inr 522), .inl wh] I J (fun r I1 J1 => ∃ b, r = some (.inr (.inr b)) ∧ pt_bitLength shL rfL [.inr (.inr b)] I1 J1 K) := by
    intro hw
    obtain ⟨h, rest, e1, e2, wh', U, L, e3, e4, e5, e6, e7⟩ := lp hw
    refine ⟨h, rest, e1, e2, wh', U, L, e3, e4, e5, e6, fun I1 p' q' c1 c2 c3 c4 c5 c6 c7 => ?_⟩
    obtain ⟨b, f1, f2, f3, f4, f5⟩ := e7 I1 p' q' c1 c2 c3 c4 c5 c6 c7
    refine ⟨b, f1, b, [], rfl, by rw [f3]; rcases hw with rfl | rfl <;> rfl, _, rfl, f4, ?_⟩
    rcases hw with rfl | rfl <;> exact f5
  refine ⟨Nat.le_of_ble_eq_true rfl, fun h => ?_, fun h => ⟨fun h2 => ?_, fun h2 => ?_⟩⟩
  · have h : wh = 0 := h
    obtain ⟨h, rest, e1, e2, wh', U, L, e3, e4, e5, e6, e7⟩ := lq (Or.inl h)
    refine ⟨rfl, h, rest, e1, e2, wh', U, L, e3, e4, e5, e6, fun I1 p' q' c1 c2 c3 c4 c5 c6 c7 => ?_⟩
    obtain ⟨b, f1, f2⟩ := e7 I1 p' q' c1 c2 c3 c4 c5 c6 c7
    cases f1
    exact f2
  · have h2 : wh = 1 := h2
    obtain ⟨h, rest, e1, e2, wh', U, L, e3, e4, e5, e6, e7⟩ := lq (Or.inr h2)
    refine ⟨rfl, h, rest, e1, e2, wh', U, L, e3, e4, e5, e6, fun I1 p' q' c1 c2 c3 c4 c5 c6 c7 => ?_⟩
    obtain ⟨b, f1, f2⟩ := e7 I1 p' q' c1 c2 c3 c4 c5 c6 c7
    cases f1
    exact f2
  · have h : ¬ wh = 0 := h
    have h2 : ¬ wh = 1 := h2
    have := hK I (Fr.rfl' I).vis hC hH
    rw [if_neg h, if_neg h2] at this
    exact this
end
