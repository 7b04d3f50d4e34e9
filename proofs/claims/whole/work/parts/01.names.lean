-- ===== PART A: goes FIRST, ahead of the names: the tables' words, and 'selects' of the private methods out of them =====
/-- a private method of a class that the tables say can be made, by its rows of tables_1 -/
def lw_okq (q : MethodName × Nat) : Prop := (q.1.cls ≠ "java/lang/invoke/MethodHandle" ∧ q.1.cls ≠ "java/lang/invoke/VarHandle") ∧ Cond.instantiable q.1.cls q.2 ∈ tables_1 ∧ Cond.privateMethod q.1 ∈ tables_1 ∧ Cond.instanceMethod q.1 ∈ tables_1
theorem lw_p0 : lw_okq (⟨"ShrinkDesk$Grammar", "forget", "()V"⟩, 17) := ⟨⟨by decide +kernel, by decide +kernel⟩, List.mem_of_getElem? (i := 98) (by decide +kernel), List.mem_of_getElem? (i := 382) (by decide +kernel), List.mem_of_getElem? (i := 383) (by decide +kernel)⟩
theorem lw_p1 : lw_okq (⟨"ShrinkDesk$Grammar", "isCut", "([CI)Z"⟩, 17) := ⟨⟨by decide +kernel, by decide +kernel⟩, List.mem_of_getElem? (i := 98) (by decide +kernel), List.mem_of_getElem? (i := 386) (by decide +kernel), List.mem_of_getElem? (i := 387) (by decide +kernel)⟩
theorem lw_p2 : lw_okq (⟨"ShrinkDesk$Grammar", "step", "(IC)I"⟩, 17) := ⟨⟨by decide +kernel, by decide +kernel⟩, List.mem_of_getElem? (i := 98) (by decide +kernel), List.mem_of_getElem? (i := 390) (by decide +kernel), List.mem_of_getElem? (i := 391) (by decide +kernel)⟩
theorem lw_p3 : lw_okq (⟨"ShrinkDesk$Grammar", "opens", "(C)Z"⟩, 17) := ⟨⟨by decide +kernel, by decide +kernel⟩, List.mem_of_getElem? (i := 98) (by decide +kernel), List.mem_of_getElem? (i := 394) (by decide +kernel), List.mem_of_getElem? (i := 395) (by decide +kernel)⟩
theorem lw_p4 : lw_okq (⟨"ShrinkDesk$Grammar", "addAlternative", "()V"⟩, 17) := ⟨⟨by decide +kernel, by decide +kernel⟩, List.mem_of_getElem? (i := 98) (by decide +kernel), List.mem_of_getElem? (i := 399) (by decide +kernel), List.mem_of_getElem? (i := 400) (by decide +kernel)⟩
theorem lw_p5 : lw_okq (⟨"ShrinkDesk$Grammar", "addsItem", "(C)Z"⟩, 17) := ⟨⟨by decide +kernel, by decide +kernel⟩, List.mem_of_getElem? (i := 98) (by decide +kernel), List.mem_of_getElem? (i := 404) (by decide +kernel), List.mem_of_getElem? (i := 405) (by decide +kernel)⟩
theorem lw_p6 : lw_okq (⟨"ShrinkDesk$Grammar", "isEveryNameDefined", "()Z"⟩, 17) := ⟨⟨by decide +kernel, by decide +kernel⟩, List.mem_of_getElem? (i := 98) (by decide +kernel), List.mem_of_getElem? (i := 408) (by decide +kernel), List.mem_of_getElem? (i := 409) (by decide +kernel)⟩
theorem lw_p7 : lw_okq (⟨"ShrinkDesk$Grammar", "findEmptiable", "()V"⟩, 17) := ⟨⟨by decide +kernel, by decide +kernel⟩, List.mem_of_getElem? (i := 98) (by decide +kernel), List.mem_of_getElem? (i := 416) (by decide +kernel), List.mem_of_getElem? (i := 417) (by decide +kernel)⟩
theorem lw_p8 : lw_okq (⟨"ShrinkDesk$Grammar", "isEmptiable", "(I)Z"⟩, 17) := ⟨⟨by decide +kernel, by decide +kernel⟩, List.mem_of_getElem? (i := 98) (by decide +kernel), List.mem_of_getElem? (i := 420) (by decide +kernel), List.mem_of_getElem? (i := 421) (by decide +kernel)⟩
theorem lw_p9 : lw_okq (⟨"ShrinkDesk$Grammar", "mayBeEmpty", "(I)Z"⟩, 17) := ⟨⟨by decide +kernel, by decide +kernel⟩, List.mem_of_getElem? (i := 98) (by decide +kernel), List.mem_of_getElem? (i := 440) (by decide +kernel), List.mem_of_getElem? (i := 441) (by decide +kernel)⟩
theorem lw_p10 : lw_okq (⟨"ShrinkDesk$Grammar", "findOrder", "()V"⟩, 17) := ⟨⟨by decide +kernel, by decide +kernel⟩, List.mem_of_getElem? (i := 98) (by decide +kernel), List.mem_of_getElem? (i := 448) (by decide +kernel), List.mem_of_getElem? (i := 449) (by decide +kernel)⟩
theorem lw_p11 : lw_okq (⟨"ShrinkDesk$Grammar", "leadsToPlaced", "(I)Z"⟩, 17) := ⟨⟨by decide +kernel, by decide +kernel⟩, List.mem_of_getElem? (i := 98) (by decide +kernel), List.mem_of_getElem? (i := 452) (by decide +kernel), List.mem_of_getElem? (i := 453) (by decide +kernel)⟩
theorem lw_p12 : lw_okq (⟨"ShrinkDesk", "push", "(LShrinkDesk$Term;)Z"⟩, 11) := ⟨⟨by decide +kernel, by decide +kernel⟩, List.mem_of_getElem? (i := 13) (by decide +kernel), List.mem_of_getElem? (i := 498) (by decide +kernel), List.mem_of_getElem? (i := 499) (by decide +kernel)⟩
theorem lw_p13 : lw_okq (⟨"ShrinkDesk$Matcher", "sameAtEnd", "(LShrinkDesk$Text;)I"⟩, 8) := ⟨⟨by decide +kernel, by decide +kernel⟩, List.mem_of_getElem? (i := 164) (by decide +kernel), List.mem_of_getElem? (i := 567) (by decide +kernel), List.mem_of_getElem? (i := 568) (by decide +kernel)⟩
theorem lw_p14 : lw_okq (⟨"ShrinkDesk$Matcher", "settle", "(II)V"⟩, 8) := ⟨⟨by decide +kernel, by decide +kernel⟩, List.mem_of_getElem? (i := 164) (by decide +kernel), List.mem_of_getElem? (i := 571) (by decide +kernel), List.mem_of_getElem? (i := 572) (by decide +kernel)⟩
theorem lw_p15 : lw_okq (⟨"ShrinkDesk$Matcher", "behind", "(II)I"⟩, 8) := ⟨⟨by decide +kernel, by decide +kernel⟩, List.mem_of_getElem? (i := 164) (by decide +kernel), List.mem_of_getElem? (i := 580) (by decide +kernel), List.mem_of_getElem? (i := 581) (by decide +kernel)⟩
def lw_privs_1 : List (MethodName × Nat) := [(⟨"ShrinkDesk$Grammar", "forget", "()V"⟩, 17), (⟨"ShrinkDesk$Grammar", "isCut", "([CI)Z"⟩, 17), (⟨"ShrinkDesk$Grammar", "step", "(IC)I"⟩, 17), (⟨"ShrinkDesk$Grammar", "opens", "(C)Z"⟩, 17), (⟨"ShrinkDesk$Grammar", "addAlternative", "()V"⟩, 17), (⟨"ShrinkDesk$Grammar", "addsItem", "(C)Z"⟩, 17), (⟨"ShrinkDesk$Grammar", "isEveryNameDefined", "()Z"⟩, 17), (⟨"ShrinkDesk$Grammar", "findEmptiable", "()V"⟩, 17), (⟨"ShrinkDesk$Grammar", "isEmptiable", "(I)Z"⟩, 17), (⟨"ShrinkDesk$Grammar", "mayBeEmpty", "(I)Z"⟩, 17), (⟨"ShrinkDesk$Grammar", "findOrder", "()V"⟩, 17), (⟨"ShrinkDesk$Grammar", "leadsToPlaced", "(I)Z"⟩, 17), (⟨"ShrinkDesk", "push", "(LShrinkDesk$Term;)Z"⟩, 11), (⟨"ShrinkDesk$Matcher", "sameAtEnd", "(LShrinkDesk$Text;)I"⟩, 8), (⟨"ShrinkDesk$Matcher", "settle", "(II)V"⟩, 8), (⟨"ShrinkDesk$Matcher", "behind", "(II)I"⟩, 8)]
theorem lw_r1 : ∀ q ∈ lw_privs_1, lw_okq q := List.forall_mem_cons.mpr ⟨lw_p0, List.forall_mem_cons.mpr ⟨lw_p1, List.forall_mem_cons.mpr ⟨lw_p2, List.forall_mem_cons.mpr ⟨lw_p3, List.forall_mem_cons.mpr ⟨lw_p4, List.forall_mem_cons.mpr ⟨lw_p5, List.forall_mem_cons.mpr ⟨lw_p6, List.forall_mem_cons.mpr ⟨lw_p7, List.forall_mem_cons.mpr ⟨lw_p8, List.forall_mem_cons.mpr ⟨lw_p9, List.forall_mem_cons.mpr ⟨lw_p10, List.forall_mem_cons.mpr ⟨lw_p11, List.forall_mem_cons.mpr ⟨lw_p12, List.forall_mem_cons.mpr ⟨lw_p13, List.forall_mem_cons.mpr ⟨lw_p14, List.forall_mem_cons.mpr ⟨lw_p15, fun _ h => absurd h List.not_mem_nil⟩⟩⟩⟩⟩⟩⟩⟩⟩⟩⟩⟩⟩⟩⟩⟩
theorem lw_p16 : lw_okq (⟨"ShrinkDesk$Matcher", "nodesOf", "(II)I"⟩, 8) := ⟨⟨by decide +kernel, by decide +kernel⟩, List.mem_of_getElem? (i := 164) (by decide +kernel), List.mem_of_getElem? (i := 604) (by decide +kernel), List.mem_of_getElem? (i := 605) (by decide +kernel)⟩
theorem lw_p17 : lw_okq (⟨"ShrinkDesk$Tree", "put", "(IIII)I"⟩, 10) := ⟨⟨by decide +kernel, by decide +kernel⟩, List.mem_of_getElem? (i := 195) (by decide +kernel), List.mem_of_getElem? (i := 625) (by decide +kernel), List.mem_of_getElem? (i := 626) (by decide +kernel)⟩
theorem lw_p18 : lw_okq (⟨"ShrinkDesk$Tree", "isLoose", "(III)Z"⟩, 10) := ⟨⟨by decide +kernel, by decide +kernel⟩, List.mem_of_getElem? (i := 195) (by decide +kernel), List.mem_of_getElem? (i := 631) (by decide +kernel), List.mem_of_getElem? (i := 632) (by decide +kernel)⟩
theorem lw_p19 : lw_okq (⟨"ShrinkDesk", "hasNode", "(I)Z"⟩, 11) := ⟨⟨by decide +kernel, by decide +kernel⟩, List.mem_of_getElem? (i := 13) (by decide +kernel), List.mem_of_getElem? (i := 641) (by decide +kernel), List.mem_of_getElem? (i := 642) (by decide +kernel)⟩
theorem lw_p20 : lw_okq (⟨"ShrinkDesk$Reducer", "beginsWord", "(I)Z"⟩, 7) := ⟨⟨by decide +kernel, by decide +kernel⟩, List.mem_of_getElem? (i := 241) (by decide +kernel), List.mem_of_getElem? (i := 678) (by decide +kernel), List.mem_of_getElem? (i := 679) (by decide +kernel)⟩
theorem lw_p21 : lw_okq (⟨"ShrinkDesk$Lessening", "takes", "(IZ)Z"⟩, 10) := ⟨⟨by decide +kernel, by decide +kernel⟩, List.mem_of_getElem? (i := 249) (by decide +kernel), List.mem_of_getElem? (i := 692) (by decide +kernel), List.mem_of_getElem? (i := 693) (by decide +kernel)⟩
theorem lw_p22 : lw_okq (⟨"ShrinkDesk$Lessening", "makeTrial", "(IIZ)V"⟩, 10) := ⟨⟨by decide +kernel, by decide +kernel⟩, List.mem_of_getElem? (i := 249) (by decide +kernel), List.mem_of_getElem? (i := 696) (by decide +kernel), List.mem_of_getElem? (i := 697) (by decide +kernel)⟩
theorem lw_p23 : lw_okq (⟨"ShrinkDesk$Judge", "isHeld", "(LShrinkDesk$Text;)Z"⟩, 11) := ⟨⟨by decide +kernel, by decide +kernel⟩, List.mem_of_getElem? (i := 48) (by decide +kernel), List.mem_of_getElem? (i := 705) (by decide +kernel), List.mem_of_getElem? (i := 706) (by decide +kernel)⟩
theorem lw_p24 : lw_okq (⟨"ShrinkDesk$Judge", "isHeldAt", "(ILShrinkDesk$Text;)Z"⟩, 11) := ⟨⟨by decide +kernel, by decide +kernel⟩, List.mem_of_getElem? (i := 48) (by decide +kernel), List.mem_of_getElem? (i := 709) (by decide +kernel), List.mem_of_getElem? (i := 710) (by decide +kernel)⟩
theorem lw_p25 : lw_okq (⟨"ShrinkDesk$Judge", "hold", "(LShrinkDesk$Text;)V"⟩, 11) := ⟨⟨by decide +kernel, by decide +kernel⟩, List.mem_of_getElem? (i := 48) (by decide +kernel), List.mem_of_getElem? (i := 714) (by decide +kernel), List.mem_of_getElem? (i := 715) (by decide +kernel)⟩
theorem lw_p26 : lw_okq (⟨"ShrinkDesk$Lessening", "keepTrial", "(IIZ)V"⟩, 10) := ⟨⟨by decide +kernel, by decide +kernel⟩, List.mem_of_getElem? (i := 249) (by decide +kernel), List.mem_of_getElem? (i := 718) (by decide +kernel), List.mem_of_getElem? (i := 719) (by decide +kernel)⟩
theorem lw_p27 : lw_okq (⟨"ShrinkDesk$Reducer", "chooseUnits", "(I)V"⟩, 7) := ⟨⟨by decide +kernel, by decide +kernel⟩, List.mem_of_getElem? (i := 241) (by decide +kernel), List.mem_of_getElem? (i := 734) (by decide +kernel), List.mem_of_getElem? (i := 735) (by decide +kernel)⟩
theorem lw_p28 : lw_okq (⟨"ShrinkDesk$Reducer", "isBelowKept", "(I)Z"⟩, 7) := ⟨⟨by decide +kernel, by decide +kernel⟩, List.mem_of_getElem? (i := 241) (by decide +kernel), List.mem_of_getElem? (i := 738) (by decide +kernel), List.mem_of_getElem? (i := 739) (by decide +kernel)⟩
theorem lw_p29 : lw_okq (⟨"ShrinkDesk$Reducer", "keepUnits", "()V"⟩, 7) := ⟨⟨by decide +kernel, by decide +kernel⟩, List.mem_of_getElem? (i := 241) (by decide +kernel), List.mem_of_getElem? (i := 742) (by decide +kernel), List.mem_of_getElem? (i := 743) (by decide +kernel)⟩
theorem lw_p30 : lw_okq (⟨"ShrinkDesk$Reducer", "takesMove", "(I)Z"⟩, 7) := ⟨⟨by decide +kernel, by decide +kernel⟩, List.mem_of_getElem? (i := 241) (by decide +kernel), List.mem_of_getElem? (i := 751) (by decide +kernel), List.mem_of_getElem? (i := 752) (by decide +kernel)⟩
theorem lw_p31 : lw_okq (⟨"ShrinkDesk$Reducer", "isBelow", "(II)Z"⟩, 7) := ⟨⟨by decide +kernel, by decide +kernel⟩, List.mem_of_getElem? (i := 241) (by decide +kernel), List.mem_of_getElem? (i := 755) (by decide +kernel), List.mem_of_getElem? (i := 756) (by decide +kernel)⟩
def lw_privs_2 : List (MethodName × Nat) := [(⟨"ShrinkDesk$Matcher", "nodesOf", "(II)I"⟩, 8), (⟨"ShrinkDesk$Tree", "put", "(IIII)I"⟩, 10), (⟨"ShrinkDesk$Tree", "isLoose", "(III)Z"⟩, 10), (⟨"ShrinkDesk", "hasNode", "(I)Z"⟩, 11), (⟨"ShrinkDesk$Reducer", "beginsWord", "(I)Z"⟩, 7), (⟨"ShrinkDesk$Lessening", "takes", "(IZ)Z"⟩, 10), (⟨"ShrinkDesk$Lessening", "makeTrial", "(IIZ)V"⟩, 10), (⟨"ShrinkDesk$Judge", "isHeld", "(LShrinkDesk$Text;)Z"⟩, 11), (⟨"ShrinkDesk$Judge", "isHeldAt", "(ILShrinkDesk$Text;)Z"⟩, 11), (⟨"ShrinkDesk$Judge", "hold", "(LShrinkDesk$Text;)V"⟩, 11), (⟨"ShrinkDesk$Lessening", "keepTrial", "(IIZ)V"⟩, 10), (⟨"ShrinkDesk$Reducer", "chooseUnits", "(I)V"⟩, 7), (⟨"ShrinkDesk$Reducer", "isBelowKept", "(I)Z"⟩, 7), (⟨"ShrinkDesk$Reducer", "keepUnits", "()V"⟩, 7), (⟨"ShrinkDesk$Reducer", "takesMove", "(I)Z"⟩, 7), (⟨"ShrinkDesk$Reducer", "isBelow", "(II)Z"⟩, 7)]
theorem lw_r2 : ∀ q ∈ lw_privs_2, lw_okq q := List.forall_mem_cons.mpr ⟨lw_p16, List.forall_mem_cons.mpr ⟨lw_p17, List.forall_mem_cons.mpr ⟨lw_p18, List.forall_mem_cons.mpr ⟨lw_p19, List.forall_mem_cons.mpr ⟨lw_p20, List.forall_mem_cons.mpr ⟨lw_p21, List.forall_mem_cons.mpr ⟨lw_p22, List.forall_mem_cons.mpr ⟨lw_p23, List.forall_mem_cons.mpr ⟨lw_p24, List.forall_mem_cons.mpr ⟨lw_p25, List.forall_mem_cons.mpr ⟨lw_p26, List.forall_mem_cons.mpr ⟨lw_p27, List.forall_mem_cons.mpr ⟨lw_p28, List.forall_mem_cons.mpr ⟨lw_p29, List.forall_mem_cons.mpr ⟨lw_p30, List.forall_mem_cons.mpr ⟨lw_p31, fun _ h => absurd h List.not_mem_nil⟩⟩⟩⟩⟩⟩⟩⟩⟩⟩⟩⟩⟩⟩⟩⟩
theorem lw_p32 : lw_okq (⟨"ShrinkDesk$Reducer", "isMove", "(II)Z"⟩, 7) := ⟨⟨by decide +kernel, by decide +kernel⟩, List.mem_of_getElem? (i := 241) (by decide +kernel), List.mem_of_getElem? (i := 759) (by decide +kernel), List.mem_of_getElem? (i := 760) (by decide +kernel)⟩
theorem lw_p33 : lw_okq (⟨"ShrinkDeskModel", "push", "(III)V"⟩, 64) := ⟨⟨by decide +kernel, by decide +kernel⟩, List.mem_of_getElem? (i := 779) (by decide +kernel), List.mem_of_getElem? (i := 1000) (by decide +kernel), List.mem_of_getElem? (i := 1001) (by decide +kernel)⟩
theorem lw_p34 : lw_okq (⟨"ShrinkDeskModel", "copyStep", "(II)V"⟩, 64) := ⟨⟨by decide +kernel, by decide +kernel⟩, List.mem_of_getElem? (i := 779) (by decide +kernel), List.mem_of_getElem? (i := 1020) (by decide +kernel), List.mem_of_getElem? (i := 1021) (by decide +kernel)⟩
theorem lw_p35 : lw_okq (⟨"ShrinkDeskModel", "outcomeOf", "([II)I"⟩, 64) := ⟨⟨by decide +kernel, by decide +kernel⟩, List.mem_of_getElem? (i := 779) (by decide +kernel), List.mem_of_getElem? (i := 1032) (by decide +kernel), List.mem_of_getElem? (i := 1033) (by decide +kernel)⟩
theorem lw_p36 : lw_okq (⟨"ShrinkDeskModel", "holds", "(I[II)Z"⟩, 64) := ⟨⟨by decide +kernel, by decide +kernel⟩, List.mem_of_getElem? (i := 779) (by decide +kernel), List.mem_of_getElem? (i := 1036) (by decide +kernel), List.mem_of_getElem? (i := 1037) (by decide +kernel)⟩
theorem lw_p37 : lw_okq (⟨"ShrinkDeskModel", "holdsStep", "(I[II)Z"⟩, 64) := ⟨⟨by decide +kernel, by decide +kernel⟩, List.mem_of_getElem? (i := 779) (by decide +kernel), List.mem_of_getElem? (i := 1040) (by decide +kernel), List.mem_of_getElem? (i := 1041) (by decide +kernel)⟩
theorem lw_p38 : lw_okq (⟨"ShrinkDeskModel", "readRules", "()Z"⟩, 64) := ⟨⟨by decide +kernel, by decide +kernel⟩, List.mem_of_getElem? (i := 779) (by decide +kernel), List.mem_of_getElem? (i := 1048) (by decide +kernel), List.mem_of_getElem? (i := 1049) (by decide +kernel)⟩
theorem lw_p39 : lw_okq (⟨"ShrinkDeskModel", "beginAlternative", "()V"⟩, 64) := ⟨⟨by decide +kernel, by decide +kernel⟩, List.mem_of_getElem? (i := 779) (by decide +kernel), List.mem_of_getElem? (i := 1052) (by decide +kernel), List.mem_of_getElem? (i := 1053) (by decide +kernel)⟩
theorem lw_p40 : lw_okq (⟨"ShrinkDeskModel", "areNamesThere", "()Z"⟩, 64) := ⟨⟨by decide +kernel, by decide +kernel⟩, List.mem_of_getElem? (i := 779) (by decide +kernel), List.mem_of_getElem? (i := 1056) (by decide +kernel), List.mem_of_getElem? (i := 1057) (by decide +kernel)⟩
theorem lw_p41 : lw_okq (⟨"ShrinkDeskModel", "findEmptiable", "()V"⟩, 64) := ⟨⟨by decide +kernel, by decide +kernel⟩, List.mem_of_getElem? (i := 779) (by decide +kernel), List.mem_of_getElem? (i := 1060) (by decide +kernel), List.mem_of_getElem? (i := 1061) (by decide +kernel)⟩
theorem lw_p42 : lw_okq (⟨"ShrinkDeskModel", "isVoid", "(I)Z"⟩, 64) := ⟨⟨by decide +kernel, by decide +kernel⟩, List.mem_of_getElem? (i := 779) (by decide +kernel), List.mem_of_getElem? (i := 1064) (by decide +kernel), List.mem_of_getElem? (i := 1065) (by decide +kernel)⟩
theorem lw_p43 : lw_okq (⟨"ShrinkDeskModel", "findLeads", "()V"⟩, 64) := ⟨⟨by decide +kernel, by decide +kernel⟩, List.mem_of_getElem? (i := 779) (by decide +kernel), List.mem_of_getElem? (i := 1068) (by decide +kernel), List.mem_of_getElem? (i := 1069) (by decide +kernel)⟩
theorem lw_p44 : lw_okq (⟨"ShrinkDeskModel", "findOrder", "()Z"⟩, 64) := ⟨⟨by decide +kernel, by decide +kernel⟩, List.mem_of_getElem? (i := 779) (by decide +kernel), List.mem_of_getElem? (i := 1072) (by decide +kernel), List.mem_of_getElem? (i := 1073) (by decide +kernel)⟩
theorem lw_p45 : lw_okq (⟨"ShrinkDeskModel", "clearDone", "()V"⟩, 64) := ⟨⟨by decide +kernel, by decide +kernel⟩, List.mem_of_getElem? (i := 779) (by decide +kernel), List.mem_of_getElem? (i := 1076) (by decide +kernel), List.mem_of_getElem? (i := 1077) (by decide +kernel)⟩
theorem lw_p46 : lw_okq (⟨"ShrinkDeskModel", "parse", "([II)Z"⟩, 64) := ⟨⟨by decide +kernel, by decide +kernel⟩, List.mem_of_getElem? (i := 779) (by decide +kernel), List.mem_of_getElem? (i := 1084) (by decide +kernel), List.mem_of_getElem? (i := 1085) (by decide +kernel)⟩
theorem lw_p47 : lw_okq (⟨"ShrinkDeskModel", "findEnds", "()V"⟩, 64) := ⟨⟨by decide +kernel, by decide +kernel⟩, List.mem_of_getElem? (i := 779) (by decide +kernel), List.mem_of_getElem? (i := 1088) (by decide +kernel), List.mem_of_getElem? (i := 1089) (by decide +kernel)⟩
def lw_privs_3 : List (MethodName × Nat) := [(⟨"ShrinkDesk$Reducer", "isMove", "(II)Z"⟩, 7), (⟨"ShrinkDeskModel", "push", "(III)V"⟩, 64), (⟨"ShrinkDeskModel", "copyStep", "(II)V"⟩, 64), (⟨"ShrinkDeskModel", "outcomeOf", "([II)I"⟩, 64), (⟨"ShrinkDeskModel", "holds", "(I[II)Z"⟩, 64), (⟨"ShrinkDeskModel", "holdsStep", "(I[II)Z"⟩, 64), (⟨"ShrinkDeskModel", "readRules", "()Z"⟩, 64), (⟨"ShrinkDeskModel", "beginAlternative", "()V"⟩, 64), (⟨"ShrinkDeskModel", "areNamesThere", "()Z"⟩, 64), (⟨"ShrinkDeskModel", "findEmptiable", "()V"⟩, 64), (⟨"ShrinkDeskModel", "isVoid", "(I)Z"⟩, 64), (⟨"ShrinkDeskModel", "findLeads", "()V"⟩, 64), (⟨"ShrinkDeskModel", "findOrder", "()Z"⟩, 64), (⟨"ShrinkDeskModel", "clearDone", "()V"⟩, 64), (⟨"ShrinkDeskModel", "parse", "([II)Z"⟩, 64), (⟨"ShrinkDeskModel", "findEnds", "()V"⟩, 64)]
theorem lw_r3 : ∀ q ∈ lw_privs_3, lw_okq q := List.forall_mem_cons.mpr ⟨lw_p32, List.forall_mem_cons.mpr ⟨lw_p33, List.forall_mem_cons.mpr ⟨lw_p34, List.forall_mem_cons.mpr ⟨lw_p35, List.forall_mem_cons.mpr ⟨lw_p36, List.forall_mem_cons.mpr ⟨lw_p37, List.forall_mem_cons.mpr ⟨lw_p38, List.forall_mem_cons.mpr ⟨lw_p39, List.forall_mem_cons.mpr ⟨lw_p40, List.forall_mem_cons.mpr ⟨lw_p41, List.forall_mem_cons.mpr ⟨lw_p42, List.forall_mem_cons.mpr ⟨lw_p43, List.forall_mem_cons.mpr ⟨lw_p44, List.forall_mem_cons.mpr ⟨lw_p45, List.forall_mem_cons.mpr ⟨lw_p46, List.forall_mem_cons.mpr ⟨lw_p47, fun _ h => absurd h List.not_mem_nil⟩⟩⟩⟩⟩⟩⟩⟩⟩⟩⟩⟩⟩⟩⟩⟩
theorem lw_p48 : lw_okq (⟨"ShrinkDeskModel", "alternativeOf", "(II)I"⟩, 64) := ⟨⟨by decide +kernel, by decide +kernel⟩, List.mem_of_getElem? (i := 779) (by decide +kernel), List.mem_of_getElem? (i := 1092) (by decide +kernel), List.mem_of_getElem? (i := 1093) (by decide +kernel)⟩
theorem lw_p49 : lw_okq (⟨"ShrinkDeskModel", "endOf", "(II)I"⟩, 64) := ⟨⟨by decide +kernel, by decide +kernel⟩, List.mem_of_getElem? (i := 779) (by decide +kernel), List.mem_of_getElem? (i := 1096) (by decide +kernel), List.mem_of_getElem? (i := 1097) (by decide +kernel)⟩
theorem lw_p50 : lw_okq (⟨"ShrinkDeskModel", "again", "(II)I"⟩, 64) := ⟨⟨by decide +kernel, by decide +kernel⟩, List.mem_of_getElem? (i := 779) (by decide +kernel), List.mem_of_getElem? (i := 1100) (by decide +kernel), List.mem_of_getElem? (i := 1101) (by decide +kernel)⟩
theorem lw_p51 : lw_okq (⟨"ShrinkDeskModel", "once", "(II)I"⟩, 64) := ⟨⟨by decide +kernel, by decide +kernel⟩, List.mem_of_getElem? (i := 779) (by decide +kernel), List.mem_of_getElem? (i := 1104) (by decide +kernel), List.mem_of_getElem? (i := 1105) (by decide +kernel)⟩
theorem lw_p52 : lw_okq (⟨"ShrinkDeskModel", "buildTree", "()Z"⟩, 64) := ⟨⟨by decide +kernel, by decide +kernel⟩, List.mem_of_getElem? (i := 779) (by decide +kernel), List.mem_of_getElem? (i := 1108) (by decide +kernel), List.mem_of_getElem? (i := 1109) (by decide +kernel)⟩
theorem lw_p53 : lw_okq (⟨"ShrinkDeskModel", "addNode", "(IIIIII)Z"⟩, 64) := ⟨⟨by decide +kernel, by decide +kernel⟩, List.mem_of_getElem? (i := 779) (by decide +kernel), List.mem_of_getElem? (i := 1112) (by decide +kernel), List.mem_of_getElem? (i := 1113) (by decide +kernel)⟩
theorem lw_p54 : lw_okq (⟨"ShrinkDeskModel", "openFrame", "(II)V"⟩, 64) := ⟨⟨by decide +kernel, by decide +kernel⟩, List.mem_of_getElem? (i := 779) (by decide +kernel), List.mem_of_getElem? (i := 1116) (by decide +kernel), List.mem_of_getElem? (i := 1117) (by decide +kernel)⟩
theorem lw_p55 : lw_okq (⟨"ShrinkDeskModel", "taking", "(III)I"⟩, 64) := ⟨⟨by decide +kernel, by decide +kernel⟩, List.mem_of_getElem? (i := 779) (by decide +kernel), List.mem_of_getElem? (i := 1120) (by decide +kernel), List.mem_of_getElem? (i := 1121) (by decide +kernel)⟩
theorem lw_p56 : lw_okq (⟨"ShrinkDeskModel", "isLoose", "(III)I"⟩, 64) := ⟨⟨by decide +kernel, by decide +kernel⟩, List.mem_of_getElem? (i := 779) (by decide +kernel), List.mem_of_getElem? (i := 1124) (by decide +kernel), List.mem_of_getElem? (i := 1125) (by decide +kernel)⟩
theorem lw_p57 : lw_okq (⟨"ShrinkDeskModel", "byPlaces", "(Z)V"⟩, 64) := ⟨⟨by decide +kernel, by decide +kernel⟩, List.mem_of_getElem? (i := 779) (by decide +kernel), List.mem_of_getElem? (i := 1141) (by decide +kernel), List.mem_of_getElem? (i := 1142) (by decide +kernel)⟩
theorem lw_p58 : lw_okq (⟨"ShrinkDeskModel", "setBase", "()V"⟩, 64) := ⟨⟨by decide +kernel, by decide +kernel⟩, List.mem_of_getElem? (i := 779) (by decide +kernel), List.mem_of_getElem? (i := 1145) (by decide +kernel), List.mem_of_getElem? (i := 1146) (by decide +kernel)⟩
theorem lw_p59 : lw_okq (⟨"ShrinkDeskModel", "addUnit", "(II)V"⟩, 64) := ⟨⟨by decide +kernel, by decide +kernel⟩, List.mem_of_getElem? (i := 779) (by decide +kernel), List.mem_of_getElem? (i := 1152) (by decide +kernel), List.mem_of_getElem? (i := 1153) (by decide +kernel)⟩
theorem lw_p60 : lw_okq (⟨"ShrinkDeskModel", "lessen", "()V"⟩, 64) := ⟨⟨by decide +kernel, by decide +kernel⟩, List.mem_of_getElem? (i := 779) (by decide +kernel), List.mem_of_getElem? (i := 1156) (by decide +kernel), List.mem_of_getElem? (i := 1157) (by decide +kernel)⟩
theorem lw_p61 : lw_okq (⟨"ShrinkDeskModel", "round", "(I)I"⟩, 64) := ⟨⟨by decide +kernel, by decide +kernel⟩, List.mem_of_getElem? (i := 779) (by decide +kernel), List.mem_of_getElem? (i := 1160) (by decide +kernel), List.mem_of_getElem? (i := 1161) (by decide +kernel)⟩
theorem lw_p62 : lw_okq (⟨"ShrinkDeskModel", "unitBits", "(II)I"⟩, 64) := ⟨⟨by decide +kernel, by decide +kernel⟩, List.mem_of_getElem? (i := 779) (by decide +kernel), List.mem_of_getElem? (i := 1164) (by decide +kernel), List.mem_of_getElem? (i := 1165) (by decide +kernel)⟩
theorem lw_p63 : lw_okq (⟨"ShrinkDeskModel", "askBits", "(I)Z"⟩, 64) := ⟨⟨by decide +kernel, by decide +kernel⟩, List.mem_of_getElem? (i := 779) (by decide +kernel), List.mem_of_getElem? (i := 1168) (by decide +kernel), List.mem_of_getElem? (i := 1169) (by decide +kernel)⟩
def lw_privs_4 : List (MethodName × Nat) := [(⟨"ShrinkDeskModel", "alternativeOf", "(II)I"⟩, 64), (⟨"ShrinkDeskModel", "endOf", "(II)I"⟩, 64), (⟨"ShrinkDeskModel", "again", "(II)I"⟩, 64), (⟨"ShrinkDeskModel", "once", "(II)I"⟩, 64), (⟨"ShrinkDeskModel", "buildTree", "()Z"⟩, 64), (⟨"ShrinkDeskModel", "addNode", "(IIIIII)Z"⟩, 64), (⟨"ShrinkDeskModel", "openFrame", "(II)V"⟩, 64), (⟨"ShrinkDeskModel", "taking", "(III)I"⟩, 64), (⟨"ShrinkDeskModel", "isLoose", "(III)I"⟩, 64), (⟨"ShrinkDeskModel", "byPlaces", "(Z)V"⟩, 64), (⟨"ShrinkDeskModel", "setBase", "()V"⟩, 64), (⟨"ShrinkDeskModel", "addUnit", "(II)V"⟩, 64), (⟨"ShrinkDeskModel", "lessen", "()V"⟩, 64), (⟨"ShrinkDeskModel", "round", "(I)I"⟩, 64), (⟨"ShrinkDeskModel", "unitBits", "(II)I"⟩, 64), (⟨"ShrinkDeskModel", "askBits", "(I)Z"⟩, 64)]
theorem lw_r4 : ∀ q ∈ lw_privs_4, lw_okq q := List.forall_mem_cons.mpr ⟨lw_p48, List.forall_mem_cons.mpr ⟨lw_p49, List.forall_mem_cons.mpr ⟨lw_p50, List.forall_mem_cons.mpr ⟨lw_p51, List.forall_mem_cons.mpr ⟨lw_p52, List.forall_mem_cons.mpr ⟨lw_p53, List.forall_mem_cons.mpr ⟨lw_p54, List.forall_mem_cons.mpr ⟨lw_p55, List.forall_mem_cons.mpr ⟨lw_p56, List.forall_mem_cons.mpr ⟨lw_p57, List.forall_mem_cons.mpr ⟨lw_p58, List.forall_mem_cons.mpr ⟨lw_p59, List.forall_mem_cons.mpr ⟨lw_p60, List.forall_mem_cons.mpr ⟨lw_p61, List.forall_mem_cons.mpr ⟨lw_p62, List.forall_mem_cons.mpr ⟨lw_p63, fun _ h => absurd h List.not_mem_nil⟩⟩⟩⟩⟩⟩⟩⟩⟩⟩⟩⟩⟩⟩⟩⟩
theorem lw_p64 : lw_okq (⟨"ShrinkDeskModel", "ask", "()Z"⟩, 64) := ⟨⟨by decide +kernel, by decide +kernel⟩, List.mem_of_getElem? (i := 779) (by decide +kernel), List.mem_of_getElem? (i := 1172) (by decide +kernel), List.mem_of_getElem? (i := 1173) (by decide +kernel)⟩
theorem lw_p65 : lw_okq (⟨"ShrinkDeskModel", "isKnown", "(I)Z"⟩, 64) := ⟨⟨by decide +kernel, by decide +kernel⟩, List.mem_of_getElem? (i := 779) (by decide +kernel), List.mem_of_getElem? (i := 1176) (by decide +kernel), List.mem_of_getElem? (i := 1177) (by decide +kernel)⟩
theorem lw_p66 : lw_okq (⟨"ShrinkDeskModel", "keep", "()V"⟩, 64) := ⟨⟨by decide +kernel, by decide +kernel⟩, List.mem_of_getElem? (i := 779) (by decide +kernel), List.mem_of_getElem? (i := 1180) (by decide +kernel), List.mem_of_getElem? (i := 1181) (by decide +kernel)⟩
theorem lw_p67 : lw_okq (⟨"ShrinkDeskModel", "drop", "(II)V"⟩, 64) := ⟨⟨by decide +kernel, by decide +kernel⟩, List.mem_of_getElem? (i := 779) (by decide +kernel), List.mem_of_getElem? (i := 1184) (by decide +kernel), List.mem_of_getElem? (i := 1185) (by decide +kernel)⟩
theorem lw_p68 : lw_okq (⟨"ShrinkDeskModel", "byDepths", "()V"⟩, 64) := ⟨⟨by decide +kernel, by decide +kernel⟩, List.mem_of_getElem? (i := 779) (by decide +kernel), List.mem_of_getElem? (i := 1188) (by decide +kernel), List.mem_of_getElem? (i := 1189) (by decide +kernel)⟩
theorem lw_p69 : lw_okq (⟨"ShrinkDeskModel", "isKept", "(I)Z"⟩, 64) := ⟨⟨by decide +kernel, by decide +kernel⟩, List.mem_of_getElem? (i := 779) (by decide +kernel), List.mem_of_getElem? (i := 1192) (by decide +kernel), List.mem_of_getElem? (i := 1193) (by decide +kernel)⟩
theorem lw_p70 : lw_okq (⟨"ShrinkDeskModel", "againByDepths", "()V"⟩, 64) := ⟨⟨by decide +kernel, by decide +kernel⟩, List.mem_of_getElem? (i := 779) (by decide +kernel), List.mem_of_getElem? (i := 1196) (by decide +kernel), List.mem_of_getElem? (i := 1197) (by decide +kernel)⟩
theorem lw_p71 : lw_okq (⟨"ShrinkDeskModel", "move", "()Z"⟩, 64) := ⟨⟨by decide +kernel, by decide +kernel⟩, List.mem_of_getElem? (i := 779) (by decide +kernel), List.mem_of_getElem? (i := 1200) (by decide +kernel), List.mem_of_getElem? (i := 1201) (by decide +kernel)⟩
theorem lw_p72 : lw_okq (⟨"ShrinkDeskModel", "movesOf", "(I)Z"⟩, 64) := ⟨⟨by decide +kernel, by decide +kernel⟩, List.mem_of_getElem? (i := 779) (by decide +kernel), List.mem_of_getElem? (i := 1204) (by decide +kernel), List.mem_of_getElem? (i := 1205) (by decide +kernel)⟩
theorem lw_p73 : lw_okq (⟨"ShrinkDeskModel", "take", "(IIII)Z"⟩, 64) := ⟨⟨by decide +kernel, by decide +kernel⟩, List.mem_of_getElem? (i := 779) (by decide +kernel), List.mem_of_getElem? (i := 1208) (by decide +kernel), List.mem_of_getElem? (i := 1209) (by decide +kernel)⟩
def lw_privs_5 : List (MethodName × Nat) := [(⟨"ShrinkDeskModel", "ask", "()Z"⟩, 64), (⟨"ShrinkDeskModel", "isKnown", "(I)Z"⟩, 64), (⟨"ShrinkDeskModel", "keep", "()V"⟩, 64), (⟨"ShrinkDeskModel", "drop", "(II)V"⟩, 64), (⟨"ShrinkDeskModel", "byDepths", "()V"⟩, 64), (⟨"ShrinkDeskModel", "isKept", "(I)Z"⟩, 64), (⟨"ShrinkDeskModel", "againByDepths", "()V"⟩, 64), (⟨"ShrinkDeskModel", "move", "()Z"⟩, 64), (⟨"ShrinkDeskModel", "movesOf", "(I)Z"⟩, 64), (⟨"ShrinkDeskModel", "take", "(IIII)Z"⟩, 64)]
theorem lw_r5 : ∀ q ∈ lw_privs_5, lw_okq q := List.forall_mem_cons.mpr ⟨lw_p64, List.forall_mem_cons.mpr ⟨lw_p65, List.forall_mem_cons.mpr ⟨lw_p66, List.forall_mem_cons.mpr ⟨lw_p67, List.forall_mem_cons.mpr ⟨lw_p68, List.forall_mem_cons.mpr ⟨lw_p69, List.forall_mem_cons.mpr ⟨lw_p70, List.forall_mem_cons.mpr ⟨lw_p71, List.forall_mem_cons.mpr ⟨lw_p72, List.forall_mem_cons.mpr ⟨lw_p73, fun _ h => absurd h List.not_mem_nil⟩⟩⟩⟩⟩⟩⟩⟩⟩⟩
def lw_privs : List (MethodName × Nat) := lw_privs_1 ++ (lw_privs_2 ++ (lw_privs_3 ++ (lw_privs_4 ++ (lw_privs_5))))
def lw_tbl : List Cond := k2_sels lw_privs ++ tables_1
theorem lw_privs_ok : ∀ q ∈ lw_privs, lw_okq q := by
  show ∀ q ∈ lw_privs_1 ++ (lw_privs_2 ++ (lw_privs_3 ++ (lw_privs_4 ++ (lw_privs_5)))), lw_okq q
  exact List.forall_mem_append.mpr ⟨lw_r1, List.forall_mem_append.mpr ⟨lw_r2, List.forall_mem_append.mpr ⟨lw_r3, List.forall_mem_append.mpr ⟨lw_r4, lw_r5⟩⟩⟩⟩
-- ===== end of PART A; then your names; then what follows =====
def RX0 : String := "ShrinkDesk$Grammar"
def TX0 : u_T := fun k => match k with
  | 0 => ("ShrinkDesk$Grammar", "valid", "Z", false)
  | 1 => ("ShrinkDesk$Grammar", "start", "I", false)
  | 2 => ("ShrinkDesk$Grammar", "rules", "I", false)
  | 3 => ("ShrinkDesk$Grammar", "order", "[I", true)
  | 4 => ("ShrinkDesk$Grammar", "ordered", "I", false)
  | 5 => ("ShrinkDesk$Grammar", "what", "[C", true)
  | 6 => ("ShrinkDesk$Grammar", "tail", "[C", true)
  | 7 => ("ShrinkDesk$Grammar", "named", "[I", true)
  | 8 => ("ShrinkDesk$Grammar", "items", "I", false)
  | 9 => ("ShrinkDesk$Grammar", "firstItem", "[I", true)
  | 10 => ("ShrinkDesk$Grammar", "alternatives", "I", false)
  | 11 => ("ShrinkDesk$Grammar", "firstAlternative", "[I", true)
  | 12 => ("ShrinkDesk$Grammar", "endAlternative", "[I", true)
  | 13 => ("ShrinkDesk$Grammar", "open", "I", false)
  | 14 => ("ShrinkDesk$Grammar", "defined", "[Z", true)
  | 15 => ("ShrinkDesk$Grammar", "emptiable", "[Z", true)
  | _ => ("ShrinkDesk$Grammar", "placed", "[Z", true)
def tyX0 : Nat → FieldType := fun k => match k with
  | 0 => .boolean
  | 1 => .int
  | 2 => .int
  | 3 => .array .int
  | 4 => .int
  | 5 => .array .char
  | 6 => .array .char
  | 7 => .array .int
  | 8 => .int
  | 9 => .array .int
  | 10 => .int
  | 11 => .array .int
  | 12 => .array .int
  | 13 => .int
  | 14 => .array .boolean
  | 15 => .array .boolean
  | _ => .array .boolean
abbrev wsX00 : List Cond := u_ws RX0 TX0 17
theorem nmX0 : ∀ a, a < 17 → ∀ b, b < 17 → a ≠ b → (TX0 a).2.1 ≠ (TX0 b).2.1 := by decide +kernel
theorem tyX0_ok : ∀ k, k < 17 → parseFieldDescriptor (TX0 k).2.2.1 = some (tyX0 k) := by decide +kernel
abbrev cX0_init : ByteArray := prog_2_method_1_code
def yX0_init : MethodName := ⟨RX0, "<init>", "()V"⟩
abbrev cX0_become : ByteArray := prog_2_method_2_code
def yX0_become : MethodName := ⟨RX0, "become", "([CI)V"⟩
abbrev cX0_firstOf : ByteArray := prog_2_method_3_code
def yX0_firstOf : MethodName := ⟨RX0, "firstOf", "(I)I"⟩
abbrev cX0_endOf : ByteArray := prog_2_method_4_code
def yX0_endOf : MethodName := ⟨RX0, "endOf", "(I)I"⟩
abbrev cX0_firstItemOf : ByteArray := prog_2_method_5_code
def yX0_firstItemOf : MethodName := ⟨RX0, "firstItemOf", "(I)I"⟩
abbrev cX0_endItemOf : ByteArray := prog_2_method_6_code
def yX0_endItemOf : MethodName := ⟨RX0, "endItemOf", "(I)I"⟩
abbrev cX0_whatOf : ByteArray := prog_2_method_7_code
def yX0_whatOf : MethodName := ⟨RX0, "whatOf", "(I)C"⟩
abbrev cX0_ruleOf : ByteArray := prog_2_method_8_code
def yX0_ruleOf : MethodName := ⟨RX0, "ruleOf", "(I)I"⟩
abbrev cX0_hasTail : ByteArray := prog_2_method_9_code
def yX0_hasTail : MethodName := ⟨RX0, "hasTail", "(I)Z"⟩
abbrev cX0_hasStar : ByteArray := prog_2_method_10_code
def yX0_hasStar : MethodName := ⟨RX0, "hasStar", "(I)Z"⟩
abbrev cX0_mayRepeat : ByteArray := prog_2_method_11_code
def yX0_mayRepeat : MethodName := ⟨RX0, "mayRepeat", "(I)Z"⟩
abbrev cX0_mayBeLeftOut : ByteArray := prog_2_method_12_code
def yX0_mayBeLeftOut : MethodName := ⟨RX0, "mayBeLeftOut", "(I)Z"⟩
abbrev cX0_forget : ByteArray := prog_2_method_13_code
def yX0_forget : MethodName := ⟨RX0, "forget", "()V"⟩
abbrev cX0_isCut : ByteArray := prog_2_method_14_code
def yX0_isCut : MethodName := ⟨RX0, "isCut", "([CI)Z"⟩
abbrev cX0_step : ByteArray := prog_2_method_15_code
def yX0_step : MethodName := ⟨RX0, "step", "(IC)I"⟩
abbrev cX0_opens : ByteArray := prog_2_method_16_code
def yX0_opens : MethodName := ⟨RX0, "opens", "(C)Z"⟩
abbrev cX0_addAlternative : ByteArray := prog_2_method_17_code
def yX0_addAlternative : MethodName := ⟨RX0, "addAlternative", "()V"⟩
abbrev cX0_addsItem : ByteArray := prog_2_method_18_code
def yX0_addsItem : MethodName := ⟨RX0, "addsItem", "(C)Z"⟩
abbrev cX0_isEveryNameDefined : ByteArray := prog_2_method_19_code
def yX0_isEveryNameDefined : MethodName := ⟨RX0, "isEveryNameDefined", "()Z"⟩
abbrev cX0_findEmptiable : ByteArray := prog_2_method_20_code
def yX0_findEmptiable : MethodName := ⟨RX0, "findEmptiable", "()V"⟩
abbrev cX0_isEmptiable : ByteArray := prog_2_method_21_code
def yX0_isEmptiable : MethodName := ⟨RX0, "isEmptiable", "(I)Z"⟩
abbrev cX0_mayBeEmpty : ByteArray := prog_2_method_22_code
def yX0_mayBeEmpty : MethodName := ⟨RX0, "mayBeEmpty", "(I)Z"⟩
abbrev cX0_findOrder : ByteArray := prog_2_method_23_code
def yX0_findOrder : MethodName := ⟨RX0, "findOrder", "()V"⟩
abbrev cX0_leadsToPlaced : ByteArray := prog_2_method_24_code
def yX0_leadsToPlaced : MethodName := ⟨RX0, "leadsToPlaced", "(I)Z"⟩
def RX1 : String := "ShrinkDesk$Judge"
def TX1 : u_T := fun k => match k with
  | 0 => ("ShrinkDesk$Judge", "wrong", "LShrinkDesk$Term;", false)
  | 1 => ("ShrinkDesk$Judge", "unclear", "LShrinkDesk$Term;", false)
  | 2 => ("ShrinkDesk$Judge", "remembering", "Z", false)
  | 3 => ("ShrinkDesk$Judge", "probes", "I", false)
  | 4 => ("ShrinkDesk$Judge", "hits", "I", false)
  | 5 => ("ShrinkDesk$Judge", "ended", "Z", false)
  | 6 => ("ShrinkDesk$Judge", "held", "I", false)
  | 7 => ("ShrinkDesk$Judge", "allowed", "I", false)
  | 8 => ("ShrinkDesk$Judge", "oldest", "I", false)
  | 9 => ("ShrinkDesk$Judge", "heldSigns", "[C", true)
  | _ => ("ShrinkDesk$Judge", "heldTotals", "[I", true)
def tyX1 : Nat → FieldType := fun k => match k with
  | 0 => .object "ShrinkDesk$Term"
  | 1 => .object "ShrinkDesk$Term"
  | 2 => .boolean
  | 3 => .int
  | 4 => .int
  | 5 => .boolean
  | 6 => .int
  | 7 => .int
  | 8 => .int
  | 9 => .array .char
  | _ => .array .int
abbrev wsX10 : List Cond := u_ws RX1 TX1 11
theorem nmX1 : ∀ a, a < 11 → ∀ b, b < 11 → a ≠ b → (TX1 a).2.1 ≠ (TX1 b).2.1 := by decide +kernel
theorem tyX1_ok : ∀ k, k < 11 → parseFieldDescriptor (TX1 k).2.2.1 = some (tyX1 k) := by decide +kernel
abbrev cX1_init : ByteArray := prog_3_method_1_code
def yX1_init : MethodName := ⟨RX1, "<init>", "()V"⟩
abbrev cX1_verdict : ByteArray := prog_3_method_2_code
def yX1_verdict : MethodName := ⟨RX1, "verdict", "(LShrinkDesk$Text;)I"⟩
abbrev cX1_allow : ByteArray := prog_3_method_3_code
def yX1_allow : MethodName := ⟨RX1, "allow", "(I)V"⟩
abbrev cX1_forget : ByteArray := prog_3_method_4_code
def yX1_forget : MethodName := ⟨RX1, "forget", "()V"⟩
abbrev cX1_ask : ByteArray := prog_3_method_5_code
def yX1_ask : MethodName := ⟨RX1, "ask", "(LShrinkDesk$Text;)I"⟩
abbrev cX1_isHeld : ByteArray := prog_3_method_6_code
def yX1_isHeld : MethodName := ⟨RX1, "isHeld", "(LShrinkDesk$Text;)Z"⟩
abbrev cX1_isHeldAt : ByteArray := prog_3_method_7_code
def yX1_isHeldAt : MethodName := ⟨RX1, "isHeldAt", "(ILShrinkDesk$Text;)Z"⟩
abbrev cX1_hold : ByteArray := prog_3_method_8_code
def yX1_hold : MethodName := ⟨RX1, "hold", "(LShrinkDesk$Text;)V"⟩
abbrev cX1_holds : ByteArray := prog_3_method_9_code
def yX1_holds : MethodName := ⟨RX1, "holds", "(LShrinkDesk$Term;LShrinkDesk$Text;I)Z"⟩
def RX2 : String := "ShrinkDesk$Lessening"
def TX2 : u_T := fun k => match k with
  | 0 => ("ShrinkDesk$Lessening", "typed", "LShrinkDesk$Text;", true)
  | 1 => ("ShrinkDesk$Lessening", "judge", "LShrinkDesk$Judge;", true)
  | 2 => ("ShrinkDesk$Lessening", "base", "LShrinkDesk$Text;", true)
  | 3 => ("ShrinkDesk$Lessening", "trial", "LShrinkDesk$Text;", true)
  | 4 => ("ShrinkDesk$Lessening", "gone", "[Z", true)
  | 5 => ("ShrinkDesk$Lessening", "goneInTrial", "[Z", true)
  | 6 => ("ShrinkDesk$Lessening", "kept", "I", false)
  | 7 => ("ShrinkDesk$Lessening", "from", "[I", true)
  | 8 => ("ShrinkDesk$Lessening", "to", "[I", true)
  | _ => ("ShrinkDesk$Lessening", "ofNode", "[I", true)
def tyX2 : Nat → FieldType := fun k => match k with
  | 0 => .object "ShrinkDesk$Text"
  | 1 => .object "ShrinkDesk$Judge"
  | 2 => .object "ShrinkDesk$Text"
  | 3 => .object "ShrinkDesk$Text"
  | 4 => .array .boolean
  | 5 => .array .boolean
  | 6 => .int
  | 7 => .array .int
  | 8 => .array .int
  | _ => .array .int
abbrev wsX20 : List Cond := u_ws RX2 TX2 10
theorem nmX2 : ∀ a, a < 10 → ∀ b, b < 10 → a ≠ b → (TX2 a).2.1 ≠ (TX2 b).2.1 := by decide +kernel
theorem tyX2_ok : ∀ k, k < 10 → parseFieldDescriptor (TX2 k).2.2.1 = some (tyX2 k) := by decide +kernel
abbrev cX2_init : ByteArray := prog_4_method_1_code
def yX2_init : MethodName := ⟨RX2, "<init>", "(LShrinkDesk$Text;LShrinkDesk$Judge;)V"⟩
abbrev cX2_begin : ByteArray := prog_4_method_2_code
def yX2_begin : MethodName := ⟨RX2, "begin", "()V"⟩
abbrev cX2_addUnit : ByteArray := prog_4_method_3_code
def yX2_addUnit : MethodName := ⟨RX2, "addUnit", "(III)V"⟩
abbrev cX2_lessen : ByteArray := prog_4_method_4_code
def yX2_lessen : MethodName := ⟨RX2, "lessen", "()V"⟩
abbrev cX2_takes : ByteArray := prog_4_method_5_code
def yX2_takes : MethodName := ⟨RX2, "takes", "(IZ)Z"⟩
abbrev cX2_makeTrial : ByteArray := prog_4_method_6_code
def yX2_makeTrial : MethodName := ⟨RX2, "makeTrial", "(IIZ)V"⟩
abbrev cX2_keepTrial : ByteArray := prog_4_method_7_code
def yX2_keepTrial : MethodName := ⟨RX2, "keepTrial", "(IIZ)V"⟩
def RX3 : String := "ShrinkDesk$Matcher"
def TX3 : u_T := fun k => match k with
  | 0 => ("ShrinkDesk$Matcher", "grammar", "LShrinkDesk$Grammar;", true)
  | 1 => ("ShrinkDesk$Matcher", "signs", "[C", true)
  | 2 => ("ShrinkDesk$Matcher", "total", "I", false)
  | 3 => ("ShrinkDesk$Matcher", "filled", "Z", false)
  | 4 => ("ShrinkDesk$Matcher", "rest", "[I", true)
  | 5 => ("ShrinkDesk$Matcher", "below", "[I", true)
  | 6 => ("ShrinkDesk$Matcher", "alternative", "[I", true)
  | _ => ("ShrinkDesk$Matcher", "counted", "I", false)
def tyX3 : Nat → FieldType := fun k => match k with
  | 0 => .object "ShrinkDesk$Grammar"
  | 1 => .array .char
  | 2 => .int
  | 3 => .boolean
  | 4 => .array .int
  | 5 => .array .int
  | 6 => .array .int
  | _ => .int
abbrev wsX30 : List Cond := u_ws RX3 TX3 8
theorem nmX3 : ∀ a, a < 8 → ∀ b, b < 8 → a ≠ b → (TX3 a).2.1 ≠ (TX3 b).2.1 := by decide +kernel
theorem tyX3_ok : ∀ k, k < 8 → parseFieldDescriptor (TX3 k).2.2.1 = some (tyX3 k) := by decide +kernel
abbrev cX3_init : ByteArray := prog_5_method_1_code
def yX3_init : MethodName := ⟨RX3, "<init>", "(LShrinkDesk$Grammar;)V"⟩
abbrev cX3_forget : ByteArray := prog_5_method_2_code
def yX3_forget : MethodName := ⟨RX3, "forget", "()V"⟩
abbrev cX3_fits : ByteArray := prog_5_method_3_code
def yX3_fits : MethodName := ⟨RX3, "fits", "(LShrinkDesk$Text;)Z"⟩
abbrev cX3_alternativeOf : ByteArray := prog_5_method_4_code
def yX3_alternativeOf : MethodName := ⟨RX3, "alternativeOf", "(II)I"⟩
abbrev cX3_more : ByteArray := prog_5_method_5_code
def yX3_more : MethodName := ⟨RX3, "more", "(III)I"⟩
abbrev cX3_cellOf : ByteArray := prog_5_method_6_code
def yX3_cellOf : MethodName := ⟨RX3, "cellOf", "(II)I"⟩
abbrev cX3_sameAtEnd : ByteArray := prog_5_method_7_code
def yX3_sameAtEnd : MethodName := ⟨RX3, "sameAtEnd", "(LShrinkDesk$Text;)I"⟩
abbrev cX3_settle : ByteArray := prog_5_method_8_code
def yX3_settle : MethodName := ⟨RX3, "settle", "(II)V"⟩
abbrev cX3_behind : ByteArray := prog_5_method_9_code
def yX3_behind : MethodName := ⟨RX3, "behind", "(II)I"⟩
abbrev cX3_nodesOf : ByteArray := prog_5_method_10_code
def yX3_nodesOf : MethodName := ⟨RX3, "nodesOf", "(II)I"⟩
def RX4 : String := "ShrinkDesk$Reducer"
def TX4 : u_T := fun k => match k with
  | 0 => ("ShrinkDesk$Reducer", "typed", "LShrinkDesk$Text;", true)
  | 1 => ("ShrinkDesk$Reducer", "judge", "LShrinkDesk$Judge;", true)
  | 2 => ("ShrinkDesk$Reducer", "matcher", "LShrinkDesk$Matcher;", true)
  | 3 => ("ShrinkDesk$Reducer", "tree", "LShrinkDesk$Tree;", true)
  | 4 => ("ShrinkDesk$Reducer", "lessening", "LShrinkDesk$Lessening;", true)
  | 5 => ("ShrinkDesk$Reducer", "trial", "LShrinkDesk$Text;", true)
  | _ => ("ShrinkDesk$Reducer", "alive", "[Z", true)
def tyX4 : Nat → FieldType := fun k => match k with
  | 0 => .object "ShrinkDesk$Text"
  | 1 => .object "ShrinkDesk$Judge"
  | 2 => .object "ShrinkDesk$Matcher"
  | 3 => .object "ShrinkDesk$Tree"
  | 4 => .object "ShrinkDesk$Lessening"
  | 5 => .object "ShrinkDesk$Text"
  | _ => .array .boolean
abbrev wsX40 : List Cond := u_ws RX4 TX4 7
theorem nmX4 : ∀ a, a < 7 → ∀ b, b < 7 → a ≠ b → (TX4 a).2.1 ≠ (TX4 b).2.1 := by decide +kernel
theorem tyX4_ok : ∀ k, k < 7 → parseFieldDescriptor (TX4 k).2.2.1 = some (tyX4 k) := by decide +kernel
abbrev cX4_init : ByteArray := prog_6_method_1_code
def yX4_init : MethodName := ⟨RX4, "<init>", "(LShrinkDesk$Text;LShrinkDesk$Judge;LShrinkDesk$Matcher;LShrinkDesk$Tree;)V"⟩
abbrev cX4_bySigns : ByteArray := prog_6_method_2_code
def yX4_bySigns : MethodName := ⟨RX4, "bySigns", "(Z)V"⟩
abbrev cX4_byLevels : ByteArray := prog_6_method_3_code
def yX4_byLevels : MethodName := ⟨RX4, "byLevels", "(Z)V"⟩
abbrev cX4_byMoves : ByteArray := prog_6_method_4_code
def yX4_byMoves : MethodName := ⟨RX4, "byMoves", "()V"⟩
abbrev cX4_beginsWord : ByteArray := prog_6_method_5_code
def yX4_beginsWord : MethodName := ⟨RX4, "beginsWord", "(I)Z"⟩
abbrev cX4_chooseUnits : ByteArray := prog_6_method_6_code
def yX4_chooseUnits : MethodName := ⟨RX4, "chooseUnits", "(I)V"⟩
abbrev cX4_isBelowKept : ByteArray := prog_6_method_7_code
def yX4_isBelowKept : MethodName := ⟨RX4, "isBelowKept", "(I)Z"⟩
abbrev cX4_keepUnits : ByteArray := prog_6_method_8_code
def yX4_keepUnits : MethodName := ⟨RX4, "keepUnits", "()V"⟩
abbrev cX4_takesMove : ByteArray := prog_6_method_9_code
def yX4_takesMove : MethodName := ⟨RX4, "takesMove", "(I)Z"⟩
abbrev cX4_isBelow : ByteArray := prog_6_method_10_code
def yX4_isBelow : MethodName := ⟨RX4, "isBelow", "(II)Z"⟩
abbrev cX4_isMove : ByteArray := prog_6_method_11_code
def yX4_isMove : MethodName := ⟨RX4, "isMove", "(II)Z"⟩
def RX5 : String := "ShrinkDesk$Term"
def TX5 : u_T := fun k => match k with
  | 0 => ("ShrinkDesk$Term", "kind", "I", true)
  | 1 => ("ShrinkDesk$Term", "c", "C", true)
  | 2 => ("ShrinkDesk$Term", "d", "C", true)
  | 3 => ("ShrinkDesk$Term", "n", "I", true)
  | 4 => ("ShrinkDesk$Term", "x", "LShrinkDesk$Term;", true)
  | 5 => ("ShrinkDesk$Term", "y", "LShrinkDesk$Term;", true)
  | _ => ("ShrinkDesk$Term", "levels", "I", true)
def tyX5 : Nat → FieldType := fun k => match k with
  | 0 => .int
  | 1 => .char
  | 2 => .char
  | 3 => .int
  | 4 => .object "ShrinkDesk$Term"
  | 5 => .object "ShrinkDesk$Term"
  | _ => .int
abbrev wsX50 : List Cond := u_ws RX5 TX5 7
theorem nmX5 : ∀ a, a < 7 → ∀ b, b < 7 → a ≠ b → (TX5 a).2.1 ≠ (TX5 b).2.1 := by decide +kernel
theorem tyX5_ok : ∀ k, k < 7 → parseFieldDescriptor (TX5 k).2.2.1 = some (tyX5 k) := by decide +kernel
abbrev cX5_init : ByteArray := prog_7_method_1_code
def yX5_init : MethodName := ⟨RX5, "<init>", "(ICCI)V"⟩
abbrev cX5_init_ : ByteArray := prog_7_method_2_code
def yX5_init_ : MethodName := ⟨RX5, "<init>", "(ILShrinkDesk$Term;LShrinkDesk$Term;I)V"⟩
def RX6 : String := "ShrinkDesk$Text"
def TX6 : u_T := fun k => match k with
  | 0 => ("ShrinkDesk$Text", "signs", "[C", true)
  | _ => ("ShrinkDesk$Text", "total", "I", false)
def tyX6 : Nat → FieldType := fun k => match k with
  | 0 => .array .char
  | _ => .int
abbrev wsX60 : List Cond := u_ws RX6 TX6 2
theorem nmX6 : ∀ a, a < 2 → ∀ b, b < 2 → a ≠ b → (TX6 a).2.1 ≠ (TX6 b).2.1 := by decide +kernel
theorem tyX6_ok : ∀ k, k < 2 → parseFieldDescriptor (TX6 k).2.2.1 = some (tyX6 k) := by decide +kernel
abbrev cX6_init : ByteArray := prog_8_method_1_code
def yX6_init : MethodName := ⟨RX6, "<init>", "()V"⟩
abbrev cX6_put : ByteArray := prog_8_method_2_code
def yX6_put : MethodName := ⟨RX6, "put", "(C)Z"⟩
abbrev cX6_putSome : ByteArray := prog_8_method_3_code
def yX6_putSome : MethodName := ⟨RX6, "putSome", "(LShrinkDesk$Text;II)V"⟩
abbrev cX6_become : ByteArray := prog_8_method_4_code
def yX6_become : MethodName := ⟨RX6, "become", "(LShrinkDesk$Text;)V"⟩
abbrev cX6_holdsSign : ByteArray := prog_8_method_5_code
def yX6_holdsSign : MethodName := ⟨RX6, "holdsSign", "(CI)Z"⟩
abbrev cX6_holdsPair : ByteArray := prog_8_method_6_code
def yX6_holdsPair : MethodName := ⟨RX6, "holdsPair", "(CCZ)Z"⟩
def RX7 : String := "ShrinkDesk$Tree"
def TX7 : u_T := fun k => match k with
  | 0 => ("ShrinkDesk$Tree", "grammar", "LShrinkDesk$Grammar;", true)
  | 1 => ("ShrinkDesk$Tree", "matcher", "LShrinkDesk$Matcher;", true)
  | 2 => ("ShrinkDesk$Tree", "total", "I", false)
  | 3 => ("ShrinkDesk$Tree", "rule", "[I", true)
  | 4 => ("ShrinkDesk$Tree", "loose", "[Z", true)
  | 5 => ("ShrinkDesk$Tree", "begin", "[I", true)
  | 6 => ("ShrinkDesk$Tree", "signs", "[I", true)
  | 7 => ("ShrinkDesk$Tree", "level", "[I", true)
  | 8 => ("ShrinkDesk$Tree", "parent", "[I", true)
  | _ => ("ShrinkDesk$Tree", "textTotal", "I", false)
def tyX7 : Nat → FieldType := fun k => match k with
  | 0 => .object "ShrinkDesk$Grammar"
  | 1 => .object "ShrinkDesk$Matcher"
  | 2 => .int
  | 3 => .array .int
  | 4 => .array .boolean
  | 5 => .array .int
  | 6 => .array .int
  | 7 => .array .int
  | 8 => .array .int
  | _ => .int
abbrev wsX70 : List Cond := u_ws RX7 TX7 10
theorem nmX7 : ∀ a, a < 10 → ∀ b, b < 10 → a ≠ b → (TX7 a).2.1 ≠ (TX7 b).2.1 := by decide +kernel
theorem tyX7_ok : ∀ k, k < 10 → parseFieldDescriptor (TX7 k).2.2.1 = some (tyX7 k) := by decide +kernel
abbrev cX7_init : ByteArray := prog_9_method_1_code
def yX7_init : MethodName := ⟨RX7, "<init>", "(LShrinkDesk$Grammar;LShrinkDesk$Matcher;)V"⟩
abbrev cX7_build : ByteArray := prog_9_method_2_code
def yX7_build : MethodName := ⟨RX7, "build", "(LShrinkDesk$Text;)Z"⟩
abbrev cX7_told : ByteArray := prog_9_method_3_code
def yX7_told : MethodName := ⟨RX7, "told", "(I)I"⟩
abbrev cX7_deepest : ByteArray := prog_9_method_4_code
def yX7_deepest : MethodName := ⟨RX7, "deepest", "()I"⟩
abbrev cX7_grow : ByteArray := prog_9_method_5_code
def yX7_grow : MethodName := ⟨RX7, "grow", "(LShrinkDesk$Tree;II)V"⟩
abbrev cX7_put : ByteArray := prog_9_method_6_code
def yX7_put : MethodName := ⟨RX7, "put", "(IIII)I"⟩
abbrev cX7_isLoose : ByteArray := prog_9_method_7_code
def yX7_isLoose : MethodName := ⟨RX7, "isLoose", "(III)Z"⟩
def RX8 : String := "ShrinkDesk"
def TX8 : u_T := fun k => match k with
  | 0 => ("ShrinkDesk", "typed", "LShrinkDesk$Text;", true)
  | 1 => ("ShrinkDesk", "written", "[C", true)
  | 2 => ("ShrinkDesk", "writtenTotal", "I", false)
  | 3 => ("ShrinkDesk", "stack", "[LShrinkDesk$Term;", true)
  | 4 => ("ShrinkDesk", "stacked", "I", false)
  | 5 => ("ShrinkDesk", "judge", "LShrinkDesk$Judge;", true)
  | 6 => ("ShrinkDesk", "grammar", "LShrinkDesk$Grammar;", true)
  | 7 => ("ShrinkDesk", "matcher", "LShrinkDesk$Matcher;", true)
  | 8 => ("ShrinkDesk", "tree", "LShrinkDesk$Tree;", true)
  | 9 => ("ShrinkDesk", "reducer", "LShrinkDesk$Reducer;", true)
  | _ => ("ShrinkDesk", "reductions", "I", false)
def tyX8 : Nat → FieldType := fun k => match k with
  | 0 => .object "ShrinkDesk$Text"
  | 1 => .array .char
  | 2 => .int
  | 3 => .array (.object "ShrinkDesk$Term")
  | 4 => .int
  | 5 => .object "ShrinkDesk$Judge"
  | 6 => .object "ShrinkDesk$Grammar"
  | 7 => .object "ShrinkDesk$Matcher"
  | 8 => .object "ShrinkDesk$Tree"
  | 9 => .object "ShrinkDesk$Reducer"
  | _ => .int
abbrev wsX80 : List Cond := u_ws RX8 TX8 11
theorem nmX8 : ∀ a, a < 11 → ∀ b, b < 11 → a ≠ b → (TX8 a).2.1 ≠ (TX8 b).2.1 := by decide +kernel
theorem tyX8_ok : ∀ k, k < 11 → parseFieldDescriptor (TX8 k).2.2.1 = some (tyX8 k) := by decide +kernel
abbrev cX8_init : ByteArray := prog_1_method_1_code
def yX8_init : MethodName := ⟨RX8, "<init>", "()V"⟩
abbrev cX8_type : ByteArray := prog_1_method_2_code
def yX8_type : MethodName := ⟨RX8, "type", "(C)Z"⟩
abbrev cX8_clear : ByteArray := prog_1_method_3_code
def yX8_clear : MethodName := ⟨RX8, "clear", "()V"⟩
abbrev cX8_write : ByteArray := prog_1_method_4_code
def yX8_write : MethodName := ⟨RX8, "write", "(C)Z"⟩
abbrev cX8_read : ByteArray := prog_1_method_5_code
def yX8_read : MethodName := ⟨RX8, "read", "()I"⟩
abbrev cX8_has : ByteArray := prog_1_method_6_code
def yX8_has : MethodName := ⟨RX8, "has", "(CI)Z"⟩
abbrev cX8_pair : ByteArray := prog_1_method_7_code
def yX8_pair : MethodName := ⟨RX8, "pair", "(CCZ)Z"⟩
abbrev cX8_size : ByteArray := prog_1_method_8_code
def yX8_size : MethodName := ⟨RX8, "size", "(I)Z"⟩
abbrev cX8_not : ByteArray := prog_1_method_9_code
def yX8_not : MethodName := ⟨RX8, "not", "()Z"⟩
abbrev cX8_join : ByteArray := prog_1_method_10_code
def yX8_join : MethodName := ⟨RX8, "join", "(Z)Z"⟩
abbrev cX8_mark : ByteArray := prog_1_method_11_code
def yX8_mark : MethodName := ⟨RX8, "mark", "(Z)Z"⟩
abbrev cX8_remember : ByteArray := prog_1_method_12_code
def yX8_remember : MethodName := ⟨RX8, "remember", "(Z)V"⟩
abbrev cX8_outcome : ByteArray := prog_1_method_13_code
def yX8_outcome : MethodName := ⟨RX8, "outcome", "()I"⟩
abbrev cX8_nodes : ByteArray := prog_1_method_14_code
def yX8_nodes : MethodName := ⟨RX8, "nodes", "()I"⟩
abbrev cX8_node : ByteArray := prog_1_method_15_code
def yX8_node : MethodName := ⟨RX8, "node", "(I)I"⟩
abbrev cX8_depth : ByteArray := prog_1_method_16_code
def yX8_depth : MethodName := ⟨RX8, "depth", "(I)I"⟩
abbrev cX8_reduce : ByteArray := prog_1_method_17_code
def yX8_reduce : MethodName := ⟨RX8, "reduce", "(II)I"⟩
abbrev cX8_length : ByteArray := prog_1_method_18_code
def yX8_length : MethodName := ⟨RX8, "length", "()I"⟩
abbrev cX8_at : ByteArray := prog_1_method_19_code
def yX8_at : MethodName := ⟨RX8, "at", "(I)C"⟩
abbrev cX8_count : ByteArray := prog_1_method_20_code
def yX8_count : MethodName := ⟨RX8, "count", "(I)I"⟩
abbrev cX8_push : ByteArray := prog_1_method_21_code
def yX8_push : MethodName := ⟨RX8, "push", "(LShrinkDesk$Term;)Z"⟩
abbrev cX8_hasNode : ByteArray := prog_1_method_22_code
def yX8_hasNode : MethodName := ⟨RX8, "hasNode", "(I)Z"⟩
abbrev cX8_isTextSign : ByteArray := prog_1_method_23_code
def yX8_isTextSign : MethodName := ⟨RX8, "isTextSign", "(C)Z"⟩
abbrev cX8_isName : ByteArray := prog_1_method_24_code
def yX8_isName : MethodName := ⟨RX8, "isName", "(C)Z"⟩
abbrev cX8_isTail : ByteArray := prog_1_method_25_code
def yX8_isTail : MethodName := ⟨RX8, "isTail", "(C)Z"⟩
abbrev cX8_isGrammarSign : ByteArray := prog_1_method_26_code
def yX8_isGrammarSign : MethodName := ⟨RX8, "isGrammarSign", "(C)Z"⟩
def RX9 : String := "ShrinkDeskModel"
def TX9 : u_T := fun k => match k with
  | 0 => ("ShrinkDeskModel", "typed", "[I", true)
  | 1 => ("ShrinkDeskModel", "typedSize", "I", false)
  | 2 => ("ShrinkDeskModel", "written", "[I", true)
  | 3 => ("ShrinkDeskModel", "writtenSize", "I", false)
  | 4 => ("ShrinkDeskModel", "stacked", "I", false)
  | 5 => ("ShrinkDeskModel", "sizes", "[I", true)
  | 6 => ("ShrinkDeskModel", "depths", "[I", true)
  | 7 => ("ShrinkDeskModel", "steps", "[I", true)
  | 8 => ("ShrinkDeskModel", "firsts", "[I", true)
  | 9 => ("ShrinkDeskModel", "seconds", "[I", true)
  | 10 => ("ShrinkDeskModel", "pile", "[Z", true)
  | 11 => ("ShrinkDeskModel", "isGrammar", "Z", false)
  | 12 => ("ShrinkDeskModel", "rules", "I", false)
  | 13 => ("ShrinkDeskModel", "start", "I", false)
  | 14 => ("ShrinkDeskModel", "items", "I", false)
  | 15 => ("ShrinkDeskModel", "alternatives", "I", false)
  | 16 => ("ShrinkDeskModel", "item", "[I", true)
  | 17 => ("ShrinkDeskModel", "sign", "[I", true)
  | 18 => ("ShrinkDeskModel", "alternativeAt", "[I", true)
  | 19 => ("ShrinkDeskModel", "ruleAt", "[I", true)
  | 20 => ("ShrinkDeskModel", "ruleEnd", "[I", true)
  | 21 => ("ShrinkDeskModel", "emptiable", "[Z", true)
  | 22 => ("ShrinkDeskModel", "leads", "[Z", true)
  | 23 => ("ShrinkDeskModel", "order", "[I", true)
  | 24 => ("ShrinkDeskModel", "text", "[I", true)
  | 25 => ("ShrinkDeskModel", "textSize", "I", false)
  | 26 => ("ShrinkDeskModel", "ends", "[I", true)
  | 27 => ("ShrinkDeskModel", "nodeCount", "I", false)
  | 28 => ("ShrinkDeskModel", "nodeRule", "[I", true)
  | 29 => ("ShrinkDeskModel", "nodeLoose", "[I", true)
  | 30 => ("ShrinkDeskModel", "nodeBegin", "[I", true)
  | 31 => ("ShrinkDeskModel", "nodeSize", "[I", true)
  | 32 => ("ShrinkDeskModel", "nodeDepth", "[I", true)
  | 33 => ("ShrinkDeskModel", "nodeParent", "[I", true)
  | 34 => ("ShrinkDeskModel", "frameNode", "[I", true)
  | 35 => ("ShrinkDeskModel", "frameItem", "[I", true)
  | 36 => ("ShrinkDeskModel", "frameEnd", "[I", true)
  | 37 => ("ShrinkDeskModel", "framePlace", "[I", true)
  | 38 => ("ShrinkDeskModel", "frameTimes", "[I", true)
  | 39 => ("ShrinkDeskModel", "remembers", "Z", false)
  | 40 => ("ShrinkDeskModel", "known", "I", false)
  | 41 => ("ShrinkDeskModel", "knownSize", "[I", true)
  | 42 => ("ShrinkDeskModel", "knownText", "[I", true)
  | 43 => ("ShrinkDeskModel", "probes", "I", false)
  | 44 => ("ShrinkDeskModel", "hits", "I", false)
  | 45 => ("ShrinkDeskModel", "reductions", "I", false)
  | 46 => ("ShrinkDeskModel", "left", "I", false)
  | 47 => ("ShrinkDeskModel", "isOver", "Z", false)
  | 48 => ("ShrinkDeskModel", "asked", "[I", true)
  | 49 => ("ShrinkDeskModel", "askedSize", "I", false)
  | 50 => ("ShrinkDeskModel", "base", "[I", true)
  | 51 => ("ShrinkDeskModel", "baseSize", "I", false)
  | 52 => ("ShrinkDeskModel", "there", "I", false)
  | 53 => ("ShrinkDeskModel", "units", "[I", true)
  | 54 => ("ShrinkDeskModel", "unitNode", "[I", true)
  | 55 => ("ShrinkDeskModel", "unitCount", "I", false)
  | 56 => ("ShrinkDeskModel", "gone", "[Z", true)
  | 57 => ("ShrinkDeskModel", "doneRow", "[Z", true)
  | 58 => ("ShrinkDeskModel", "moveBegin", "[I", true)
  | 59 => ("ShrinkDeskModel", "moveSize", "[I", true)
  | 60 => ("ShrinkDeskModel", "moveRule", "[I", true)
  | 61 => ("ShrinkDeskModel", "moveLoose", "[I", true)
  | 62 => ("ShrinkDeskModel", "moveDepth", "[I", true)
  | _ => ("ShrinkDeskModel", "moveNodes", "I", false)
def tyX9 : Nat → FieldType := fun k => match k with
  | 0 => .array .int
  | 1 => .int
  | 2 => .array .int
  | 3 => .int
  | 4 => .int
  | 5 => .array .int
  | 6 => .array .int
  | 7 => .array .int
  | 8 => .array .int
  | 9 => .array .int
  | 10 => .array .boolean
  | 11 => .boolean
  | 12 => .int
  | 13 => .int
  | 14 => .int
  | 15 => .int
  | 16 => .array .int
  | 17 => .array .int
  | 18 => .array .int
  | 19 => .array .int
  | 20 => .array .int
  | 21 => .array .boolean
  | 22 => .array .boolean
  | 23 => .array .int
  | 24 => .array .int
  | 25 => .int
  | 26 => .array .int
  | 27 => .int
  | 28 => .array .int
  | 29 => .array .int
  | 30 => .array .int
  | 31 => .array .int
  | 32 => .array .int
  | 33 => .array .int
  | 34 => .array .int
  | 35 => .array .int
  | 36 => .array .int
  | 37 => .array .int
  | 38 => .array .int
  | 39 => .boolean
  | 40 => .int
  | 41 => .array .int
  | 42 => .array .int
  | 43 => .int
  | 44 => .int
  | 45 => .int
  | 46 => .int
  | 47 => .boolean
  | 48 => .array .int
  | 49 => .int
  | 50 => .array .int
  | 51 => .int
  | 52 => .int
  | 53 => .array .int
  | 54 => .array .int
  | 55 => .int
  | 56 => .array .boolean
  | 57 => .array .boolean
  | 58 => .array .int
  | 59 => .array .int
  | 60 => .array .int
  | 61 => .array .int
  | 62 => .array .int
  | _ => .int
abbrev wsX90 : List Cond := u_ws RX9 TX9 64
theorem nmX9 : ∀ a, a < 64 → ∀ b, b < 64 → a ≠ b → (TX9 a).2.1 ≠ (TX9 b).2.1 := by decide +kernel
theorem tyX9_ok : ∀ k, k < 64 → parseFieldDescriptor (TX9 k).2.2.1 = some (tyX9 k) := by decide +kernel
abbrev cX9_init : ByteArray := prog_11_method_1_code
def yX9_init : MethodName := ⟨RX9, "<init>", "()V"⟩
abbrev cX9_isText : ByteArray := prog_11_method_3_code
def yX9_isText : MethodName := ⟨RX9, "isText", "(I)Z"⟩
abbrev cX9_isName : ByteArray := prog_11_method_4_code
def yX9_isName : MethodName := ⟨RX9, "isName", "(I)Z"⟩
abbrev cX9_type : ByteArray := prog_11_method_5_code
def yX9_type : MethodName := ⟨RX9, "type", "(C)Z"⟩
abbrev cX9_clear : ByteArray := prog_11_method_6_code
def yX9_clear : MethodName := ⟨RX9, "clear", "()V"⟩
abbrev cX9_write : ByteArray := prog_11_method_7_code
def yX9_write : MethodName := ⟨RX9, "write", "(C)Z"⟩
abbrev cX9_push : ByteArray := prog_11_method_8_code
def yX9_push : MethodName := ⟨RX9, "push", "(III)V"⟩
abbrev cX9_has : ByteArray := prog_11_method_9_code
def yX9_has : MethodName := ⟨RX9, "has", "(CI)Z"⟩
abbrev cX9_pair : ByteArray := prog_11_method_10_code
def yX9_pair : MethodName := ⟨RX9, "pair", "(CCZ)Z"⟩
abbrev cX9_size : ByteArray := prog_11_method_11_code
def yX9_size : MethodName := ⟨RX9, "size", "(I)Z"⟩
abbrev cX9_copyStep : ByteArray := prog_11_method_12_code
def yX9_copyStep : MethodName := ⟨RX9, "copyStep", "(II)V"⟩
abbrev cX9_not : ByteArray := prog_11_method_13_code
def yX9_not : MethodName := ⟨RX9, "not", "()Z"⟩
abbrev cX9_join : ByteArray := prog_11_method_14_code
def yX9_join : MethodName := ⟨RX9, "join", "(Z)Z"⟩
abbrev cX9_mark : ByteArray := prog_11_method_15_code
def yX9_mark : MethodName := ⟨RX9, "mark", "(Z)Z"⟩
abbrev cX9_holdsStep : ByteArray := prog_11_method_16_code
def yX9_holdsStep : MethodName := ⟨RX9, "holdsStep", "(I[II)Z"⟩
abbrev cX9_holds : ByteArray := prog_11_method_17_code
def yX9_holds : MethodName := ⟨RX9, "holds", "(I[II)Z"⟩
abbrev cX9_outcomeOf : ByteArray := prog_11_method_18_code
def yX9_outcomeOf : MethodName := ⟨RX9, "outcomeOf", "([II)I"⟩
abbrev cX9_outcome : ByteArray := prog_11_method_19_code
def yX9_outcome : MethodName := ⟨RX9, "outcome", "()I"⟩
abbrev cX9_readRules : ByteArray := prog_11_method_20_code
def yX9_readRules : MethodName := ⟨RX9, "readRules", "()Z"⟩
abbrev cX9_beginAlternative : ByteArray := prog_11_method_21_code
def yX9_beginAlternative : MethodName := ⟨RX9, "beginAlternative", "()V"⟩
abbrev cX9_areNamesThere : ByteArray := prog_11_method_22_code
def yX9_areNamesThere : MethodName := ⟨RX9, "areNamesThere", "()Z"⟩
abbrev cX9_isVoid : ByteArray := prog_11_method_23_code
def yX9_isVoid : MethodName := ⟨RX9, "isVoid", "(I)Z"⟩
abbrev cX9_findEmptiable : ByteArray := prog_11_method_24_code
def yX9_findEmptiable : MethodName := ⟨RX9, "findEmptiable", "()V"⟩
abbrev cX9_findLeads : ByteArray := prog_11_method_25_code
def yX9_findLeads : MethodName := ⟨RX9, "findLeads", "()V"⟩
abbrev cX9_findOrder : ByteArray := prog_11_method_26_code
def yX9_findOrder : MethodName := ⟨RX9, "findOrder", "()Z"⟩
abbrev cX9_clearDone : ByteArray := prog_11_method_27_code
def yX9_clearDone : MethodName := ⟨RX9, "clearDone", "()V"⟩
abbrev cX9_read : ByteArray := prog_11_method_28_code
def yX9_read : MethodName := ⟨RX9, "read", "()I"⟩
abbrev cX9_once : ByteArray := prog_11_method_29_code
def yX9_once : MethodName := ⟨RX9, "once", "(II)I"⟩
abbrev cX9_again : ByteArray := prog_11_method_30_code
def yX9_again : MethodName := ⟨RX9, "again", "(II)I"⟩
abbrev cX9_endOf : ByteArray := prog_11_method_31_code
def yX9_endOf : MethodName := ⟨RX9, "endOf", "(II)I"⟩
abbrev cX9_alternativeOf : ByteArray := prog_11_method_32_code
def yX9_alternativeOf : MethodName := ⟨RX9, "alternativeOf", "(II)I"⟩
abbrev cX9_findEnds : ByteArray := prog_11_method_33_code
def yX9_findEnds : MethodName := ⟨RX9, "findEnds", "()V"⟩
abbrev cX9_addNode : ByteArray := prog_11_method_34_code
def yX9_addNode : MethodName := ⟨RX9, "addNode", "(IIIIII)Z"⟩
abbrev cX9_openFrame : ByteArray := prog_11_method_35_code
def yX9_openFrame : MethodName := ⟨RX9, "openFrame", "(II)V"⟩
abbrev cX9_taking : ByteArray := prog_11_method_36_code
def yX9_taking : MethodName := ⟨RX9, "taking", "(III)I"⟩
abbrev cX9_isLoose : ByteArray := prog_11_method_37_code
def yX9_isLoose : MethodName := ⟨RX9, "isLoose", "(III)I"⟩
abbrev cX9_buildTree : ByteArray := prog_11_method_38_code
def yX9_buildTree : MethodName := ⟨RX9, "buildTree", "()Z"⟩
abbrev cX9_parse : ByteArray := prog_11_method_39_code
def yX9_parse : MethodName := ⟨RX9, "parse", "([II)Z"⟩
abbrev cX9_nodes : ByteArray := prog_11_method_40_code
def yX9_nodes : MethodName := ⟨RX9, "nodes", "()I"⟩
abbrev cX9_node : ByteArray := prog_11_method_41_code
def yX9_node : MethodName := ⟨RX9, "node", "(I)I"⟩
abbrev cX9_depth : ByteArray := prog_11_method_42_code
def yX9_depth : MethodName := ⟨RX9, "depth", "(I)I"⟩
abbrev cX9_isKnown : ByteArray := prog_11_method_43_code
def yX9_isKnown : MethodName := ⟨RX9, "isKnown", "(I)Z"⟩
abbrev cX9_keep : ByteArray := prog_11_method_44_code
def yX9_keep : MethodName := ⟨RX9, "keep", "()V"⟩
abbrev cX9_ask : ByteArray := prog_11_method_45_code
def yX9_ask : MethodName := ⟨RX9, "ask", "()Z"⟩
abbrev cX9_askBits : ByteArray := prog_11_method_46_code
def yX9_askBits : MethodName := ⟨RX9, "askBits", "(I)Z"⟩
abbrev cX9_unitBits : ByteArray := prog_11_method_47_code
def yX9_unitBits : MethodName := ⟨RX9, "unitBits", "(II)I"⟩
abbrev cX9_drop : ByteArray := prog_11_method_48_code
def yX9_drop : MethodName := ⟨RX9, "drop", "(II)V"⟩
abbrev cX9_round : ByteArray := prog_11_method_49_code
def yX9_round : MethodName := ⟨RX9, "round", "(I)I"⟩
abbrev cX9_lessen : ByteArray := prog_11_method_50_code
def yX9_lessen : MethodName := ⟨RX9, "lessen", "()V"⟩
abbrev cX9_addUnit : ByteArray := prog_11_method_51_code
def yX9_addUnit : MethodName := ⟨RX9, "addUnit", "(II)V"⟩
abbrev cX9_run : ByteArray := prog_11_method_52_code
def yX9_run : MethodName := ⟨RX9, "run", "(II)I"⟩
abbrev cX9_setBase : ByteArray := prog_11_method_53_code
def yX9_setBase : MethodName := ⟨RX9, "setBase", "()V"⟩
abbrev cX9_byPlaces : ByteArray := prog_11_method_54_code
def yX9_byPlaces : MethodName := ⟨RX9, "byPlaces", "(Z)V"⟩
abbrev cX9_isKept : ByteArray := prog_11_method_55_code
def yX9_isKept : MethodName := ⟨RX9, "isKept", "(I)Z"⟩
abbrev cX9_byDepths : ByteArray := prog_11_method_56_code
def yX9_byDepths : MethodName := ⟨RX9, "byDepths", "()V"⟩
abbrev cX9_againByDepths : ByteArray := prog_11_method_57_code
def yX9_againByDepths : MethodName := ⟨RX9, "againByDepths", "()V"⟩
abbrev cX9_take : ByteArray := prog_11_method_58_code
def yX9_take : MethodName := ⟨RX9, "take", "(IIII)Z"⟩
abbrev cX9_movesOf : ByteArray := prog_11_method_59_code
def yX9_movesOf : MethodName := ⟨RX9, "movesOf", "(I)Z"⟩
abbrev cX9_move : ByteArray := prog_11_method_60_code
def yX9_move : MethodName := ⟨RX9, "move", "()Z"⟩
abbrev cX9_reduce : ByteArray := prog_11_method_61_code
def yX9_reduce : MethodName := ⟨RX9, "reduce", "(II)I"⟩
abbrev cX9_remember : ByteArray := prog_11_method_62_code
def yX9_remember : MethodName := ⟨RX9, "remember", "(Z)V"⟩
abbrev cX9_length : ByteArray := prog_11_method_63_code
def yX9_length : MethodName := ⟨RX9, "length", "()I"⟩
abbrev cX9_at : ByteArray := prog_11_method_64_code
def yX9_at : MethodName := ⟨RX9, "at", "(I)C"⟩
abbrev cX9_count : ByteArray := prog_11_method_65_code
def yX9_count : MethodName := ⟨RX9, "count", "(I)I"⟩
def RL : String := "ShrinkDeskLaw"
abbrev cL_law : ByteArray := code
def yL_law : MethodName := ⟨RL, "law", "([I)Z"⟩
abbrev vwCl : List vw_C := [(RX0, TX0, 17), (RX1, TX1, 11), (RX2, TX2, 10), (RX3, TX3, 8), (RX4, TX4, 7), (RX5, TX5, 7), (RX6, TX6, 2), (RX7, TX7, 10), (RX8, TX8, 11), (RX9, TX9, 64)]
