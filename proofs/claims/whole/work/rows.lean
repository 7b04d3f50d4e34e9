section
-- ===== PART A: goes FIRST, ahead of the names: the tables' words, and 'selects' of the private methods out of them =====
/-- a private method of a class that the tables say can be made, by its rows of tables_1 -/
def lw_okq (q : MethodName × Nat) : Prop := (q.1.cls ≠ "java/lang/invoke/MethodHandle" ∧ q.1.cls ≠ "java/lang/invoke/VarHandle") ∧ Cond.instantiable q.1.cls q.2 ∈ tables_1 ∧ Cond.privateMethod q.1 ∈ tables_1 ∧ Cond.instanceMethod q.1 ∈ tables_1
theorem lw_p0 : lw_okq (⟨"ShrinkDesk$Grammar", "forget", "()V"⟩, 17) := ⟨⟨by decide +kernel, by decide +kernel⟩, List.mem_of_getElem? (i := 98) (by decide +kernel), List.mem_of_getElem? (i := 382) (by decide +kernel), List.mem_of_getElem? (i := 383) (by decide +kernel)⟩
theorem lw_p1 : lw_okq (⟨"ShrinkDesk$Grammar", "isCut", "([CI)Z"⟩, 17) := ⟨⟨by decide +kernel, by decide +kernel⟩, List.mem_of_getElem? (i := 98) (by decide +kernel), List.mem_of_getElem? (i := 386) (by decide +kernel), List.mem_of_getElem? (i := 387) (by decide +kernel)⟩
theorem lw_p2 : lw_okq (⟨"ShrinkDesk$Grammar", "step", "(IC)I"⟩, 17) := ⟨⟨by decide +kernel, by decide +kernel⟩, List.mem_of_getElem? (i := 98) (by decide +kernel), List.mem_of_getElem? (i := 390) (by decide +kernel), List.mem_of_getElem? (i := 391) (by decide +kernel)⟩
theorem lw_p3 : lw_okq (⟨"ShrinkDesk$Grammar", "opens", "(C)Z"⟩, 17) := ⟨⟨by decide +kernel, by decide +kernel⟩, List.mem_of_getElem? (i := 98) (by decide +kernel), List.mem_of_getElem? (i := 394) (by decide +kernel), List.mem_of_getElem? (i := 395) (by decide +kernel)⟩
theorem lw_p4 : lw_okq (⟨"ShrinkDesk$Grammar", "addAlternative", "()V"⟩, 17) := ⟨⟨by decide +kernel, by decide +kernel⟩, List.mem_of_getElem? (i := 98) (by decide +kernel), List.mem_of_getElem? (i := 399) (by decide +kernel), List.mem_of_getElem? (i := 400) (by decide +kernel)⟩
theorem lw_p5 : lw_okq (⟨"ShrinkDesk$Grammar", "addsItem", "(C)Z"⟩, 17) := ⟨⟨by decide +kernel, by decide +kernel⟩, List.mem_of_getElem? (i := 98) (by decide +kernel), List.mem_of_getElem? (i := 404) (by decide +kernel), List.mem_of_getElem? (i := 405) (by decide +kernel)⟩
theorem lw_p6 : lw_okq (⟨"ShrinkDesk$Grammar", "isEveryNameDefined", "()Z"⟩, 17) := ⟨⟨by decide +kernel, by decide +kernel⟩, List.mem_of_getElem? (i := 98) (by decide +kernel), List.mem_of_getElem? (i := 408) (by decide +kernel), List.mem_of_getElem? (i := 409) (by decide +kernel)⟩
theorem lw_p7 : lw_okq (⟨"ShrinkDesk$Grammar", "findEmptiable", "()V"⟩, 17) := ⟨⟨by decide +kernel, by decide +kernel⟩, List.mem_of_getElem? (i := 98) (by decide +kernel), List.mem_of_getElem? (i := 416) (by decide +kernel), List.mem_of_getElem? (i := 417) (by decide +kernel)⟩
theorem lw_p8 : lw_okq (⟨"ShrinkDesk$Grammar", "isEmptiable", "(I)Z"⟩, 17) := ⟨⟨by decide +kernel, by decide +kernel⟩, List.mem_of_getElem? (i := 98) (by decide +kernel), List.mem_of_getElem? (i := 420) (by decide +kernel), List.mem_of_getElem? (i := 421) (by decide +kernel)⟩
theorem lw_p9 : lw_okq (⟨"ShrinkDesk$Grammar", "mayBeEmpty", "(I)Z"⟩, 17) := ⟨⟨by decide +kernel, by decide +kernel⟩, List.mem_of_getElem? (i := 98) (by decide +kernel), List.mem_of_getElem? (i := 440) (by decide +kernel), List.mem_of_getElem? (i := 441) (by decide +kernel)⟩
theorem lw_p10 : lw_okq (⟨"ShrinkDesk$Grammar", "findOrder", "()V"⟩, 17) := ⟨⟨by decide +kernel, by decide +kernel⟩, List.mem_of_getElem? (i := 98) (by decide +kernel), List.mem_of_getElem? (i := 448) (by decide +kernel), List.mem_of_getElem? (i := 449) (by decide +kernel)⟩
theorem lw_p11 : lw_okq (⟨"ShrinkDesk$Grammar", "leadsToPlaced", "(I)Z"⟩, 17) := ⟨⟨by decide +kernel, by decide +kernel⟩, List.mem_of_getElem? (i := 98) (by decide +kernel), List.mem_of_getElem? (i := 452) (by decide +kernel), List.mem_of_getElem? (i := 453) (by decide +kernel)⟩
theorem lw_p12 : lw_okq (⟨"ShrinkDesk", "push", "(LShrinkDesk$Term;)Z"⟩, 11) := ⟨⟨by decide +kernel, by decide +kernel⟩, List.mem_of_getElem? (i := 13) (by decide +kernel), List.mem_of_getElem? (i := 498) (by decide +kernel), List.mem_of_getElem? (i := 499) (by decide +kernel)⟩
theorem lw_p13 : lw_okq (⟨"ShrinkDesk$Matcher", "sameAtEnd", "(LShrinkDesk$Text;)I"⟩, 8) := ⟨⟨by decide +kernel, by decide +kernel⟩, List.mem_of_getElem? (i := 164) (by decide +kernel), List.mem_of_getElem? (i := 567) (by decide +kernel), List.mem_of_getElem? (i := 568) (by decide +kernel)⟩
theorem lw_p14 : lw_okq (⟨"ShrinkDesk$Matcher", "settle", "(II)V"⟩, 8) := ⟨⟨by decide +kernel, by decide +kernel⟩, List.mem_of_getElem? (i := 164) (by decide +kernel), List.mem_of_getElem? (i := 571) (by decide +kernel), List.mem_of_getElem? (i := 572) (by decide +kernel)⟩
theorem lw_p15 : lw_okq (⟨"ShrinkDesk$Matcher", "behind", "(II)I"⟩, 8) := ⟨⟨by decide +kernel, by decide +kernel⟩, List.mem_of_getElem? (i := 164) (by decide +kernel), List.mem_of_getElem? (i := 580) (by decide +kernel), List.mem_of_getElem? (i := 581) (by decide +kernel)⟩
def lw_privs_1 : List (MethodName × Nat) := [(⟨"ShrinkDesk$Grammar", "forget", "()V"⟩, 17), (⟨"ShrinkDesk$Grammar", "isCut", "([CI)Z"⟩, 17), (⟨"ShrinkDesk$Grammar", "step", "(IC)I"⟩, 17), (⟨"ShrinkDesk$Grammar", "opens", "(C)Z"⟩, 17), (⟨"ShrinkDesk$Grammar", "addAlternative", "()V"⟩, 17), (⟨"ShrinkDesk$Grammar", "addsItem", "(C)Z"⟩, 17), (⟨"ShrinkDesk$Grammar", "isEveryNameDefined", "()Z"⟩, 17), (⟨"ShrinkDesk$Grammar", "findEmptiable", "()V"⟩, 17), (⟨"ShrinkDesk$Grammar", "isEmptiable", "(I)Z"⟩, 17), (⟨"ShrinkDesk$Grammar", "mayBeEmpty", "(I)Z"⟩, 17), (⟨"ShrinkDesk$Grammar", "findOrder", "()V"⟩, 17), (⟨"ShrinkDesk$Grammar", "leadsToPlaced", "(I)Z"⟩, 17), (⟨"ShrinkDesk", "push", "(LShrinkDesk$Term;)Z"⟩, 11), (⟨"ShrinkDesk$Matcher", "sameAtEnd", "(LShrinkDesk$Text;)I"⟩, 8), (⟨"ShrinkDesk$Matcher", "settle", "(II)V"⟩, 8), (⟨"ShrinkDesk$Matcher", "behind", "(II)I"⟩, 8)]
theorem lw_r1 : ∀ q ∈ lw_privs_1, lw_okq q := List.forall_mem_cons.mpr ⟨lw_p0, List.forall_mem_cons.mpr ⟨lw_p1, List.forall_mem_cons.mpr ⟨lw_p2, List.forall_mem_cons.mpr ⟨lw_p3, List.forall_mem_cons.mpr ⟨lw_p4, List.forall_mem_cons.mpr ⟨lw_p5, List.forall_mem_cons.mpr ⟨lw_p6, List.forall_mem_cons.mpr ⟨lw_p7, List.forall_mem_cons.mpr ⟨lw_p8, List.forall_mem_cons.mpr ⟨lw_p9, List.forall_mem_cons.mpr ⟨lw_p10, List.forall_mem_cons.mpr ⟨lw_p11, List.forall_mem_cons.mpr ⟨lw_p12, List.forall_mem_cons.mpr ⟨lw_p13, List.forall_mem_cons.mpr ⟨lw_p14, List.forall_mem_cons.mpr ⟨lw_p15, fun _ h => absurd h List.not_mem_nil⟩⟩⟩⟩⟩⟩⟩⟩⟩⟩⟩⟩⟩⟩⟩⟩
theorem lw_p16 : lw_okq (⟨"ShrinkDesk$Matcher", "nodesOf", "(II)I"⟩, 8) := ⟨⟨by decide +kernel, by decide +kernel⟩, List.mem_of_getElem? (i := 164) (by decide +kernel), List.mem_of_getElem? (i := 604) (by decide +kernel), List.mem_of_getElem? (i := 605) (by decide +kernel)⟩
theorem lw_p17 : lw_okq (⟨"ShrinkDesk$Tree", "grow", "(II)V"⟩, 10) := ⟨⟨by decide +kernel, by decide +kernel⟩, List.mem_of_getElem? (i := 195) (by decide +kernel), List.mem_of_getElem? (i := 615) (by decide +kernel), List.mem_of_getElem? (i := 616) (by decide +kernel)⟩
theorem lw_p18 : lw_okq (⟨"ShrinkDesk$Tree", "put", "(IIII)I"⟩, 10) := ⟨⟨by decide +kernel, by decide +kernel⟩, List.mem_of_getElem? (i := 195) (by decide +kernel), List.mem_of_getElem? (i := 626) (by decide +kernel), List.mem_of_getElem? (i := 627) (by decide +kernel)⟩
theorem lw_p19 : lw_okq (⟨"ShrinkDesk$Tree", "isLoose", "(III)Z"⟩, 10) := ⟨⟨by decide +kernel, by decide +kernel⟩, List.mem_of_getElem? (i := 195) (by decide +kernel), List.mem_of_getElem? (i := 632) (by decide +kernel), List.mem_of_getElem? (i := 633) (by decide +kernel)⟩
theorem lw_p20 : lw_okq (⟨"ShrinkDesk", "hasNode", "(I)Z"⟩, 11) := ⟨⟨by decide +kernel, by decide +kernel⟩, List.mem_of_getElem? (i := 13) (by decide +kernel), List.mem_of_getElem? (i := 642) (by decide +kernel), List.mem_of_getElem? (i := 643) (by decide +kernel)⟩
theorem lw_p21 : lw_okq (⟨"ShrinkDesk$Reducer", "beginsWord", "(I)Z"⟩, 7) := ⟨⟨by decide +kernel, by decide +kernel⟩, List.mem_of_getElem? (i := 241) (by decide +kernel), List.mem_of_getElem? (i := 679) (by decide +kernel), List.mem_of_getElem? (i := 680) (by decide +kernel)⟩
theorem lw_p22 : lw_okq (⟨"ShrinkDesk$Lessening", "takes", "(IZ)Z"⟩, 10) := ⟨⟨by decide +kernel, by decide +kernel⟩, List.mem_of_getElem? (i := 249) (by decide +kernel), List.mem_of_getElem? (i := 693) (by decide +kernel), List.mem_of_getElem? (i := 694) (by decide +kernel)⟩
theorem lw_p23 : lw_okq (⟨"ShrinkDesk$Lessening", "makeTrial", "(IIZ)V"⟩, 10) := ⟨⟨by decide +kernel, by decide +kernel⟩, List.mem_of_getElem? (i := 249) (by decide +kernel), List.mem_of_getElem? (i := 697) (by decide +kernel), List.mem_of_getElem? (i := 698) (by decide +kernel)⟩
theorem lw_p24 : lw_okq (⟨"ShrinkDesk$Judge", "isHeld", "(LShrinkDesk$Text;)Z"⟩, 11) := ⟨⟨by decide +kernel, by decide +kernel⟩, List.mem_of_getElem? (i := 48) (by decide +kernel), List.mem_of_getElem? (i := 706) (by decide +kernel), List.mem_of_getElem? (i := 707) (by decide +kernel)⟩
theorem lw_p25 : lw_okq (⟨"ShrinkDesk$Judge", "isHeldAt", "(ILShrinkDesk$Text;)Z"⟩, 11) := ⟨⟨by decide +kernel, by decide +kernel⟩, List.mem_of_getElem? (i := 48) (by decide +kernel), List.mem_of_getElem? (i := 710) (by decide +kernel), List.mem_of_getElem? (i := 711) (by decide +kernel)⟩
theorem lw_p26 : lw_okq (⟨"ShrinkDesk$Judge", "hold", "(LShrinkDesk$Text;)V"⟩, 11) := ⟨⟨by decide +kernel, by decide +kernel⟩, List.mem_of_getElem? (i := 48) (by decide +kernel), List.mem_of_getElem? (i := 715) (by decide +kernel), List.mem_of_getElem? (i := 716) (by decide +kernel)⟩
theorem lw_p27 : lw_okq (⟨"ShrinkDesk$Lessening", "keepTrial", "(IIZ)V"⟩, 10) := ⟨⟨by decide +kernel, by decide +kernel⟩, List.mem_of_getElem? (i := 249) (by decide +kernel), List.mem_of_getElem? (i := 719) (by decide +kernel), List.mem_of_getElem? (i := 720) (by decide +kernel)⟩
theorem lw_p28 : lw_okq (⟨"ShrinkDesk$Reducer", "chooseUnits", "(I)V"⟩, 7) := ⟨⟨by decide +kernel, by decide +kernel⟩, List.mem_of_getElem? (i := 241) (by decide +kernel), List.mem_of_getElem? (i := 735) (by decide +kernel), List.mem_of_getElem? (i := 736) (by decide +kernel)⟩
theorem lw_p29 : lw_okq (⟨"ShrinkDesk$Reducer", "isBelowKept", "(I)Z"⟩, 7) := ⟨⟨by decide +kernel, by decide +kernel⟩, List.mem_of_getElem? (i := 241) (by decide +kernel), List.mem_of_getElem? (i := 739) (by decide +kernel), List.mem_of_getElem? (i := 740) (by decide +kernel)⟩
theorem lw_p30 : lw_okq (⟨"ShrinkDesk$Reducer", "keepUnits", "()V"⟩, 7) := ⟨⟨by decide +kernel, by decide +kernel⟩, List.mem_of_getElem? (i := 241) (by decide +kernel), List.mem_of_getElem? (i := 743) (by decide +kernel), List.mem_of_getElem? (i := 744) (by decide +kernel)⟩
theorem lw_p31 : lw_okq (⟨"ShrinkDesk$Reducer", "takesMove", "(I)Z"⟩, 7) := ⟨⟨by decide +kernel, by decide +kernel⟩, List.mem_of_getElem? (i := 241) (by decide +kernel), List.mem_of_getElem? (i := 752) (by decide +kernel), List.mem_of_getElem? (i := 753) (by decide +kernel)⟩
def lw_privs_2 : List (MethodName × Nat) := [(⟨"ShrinkDesk$Matcher", "nodesOf", "(II)I"⟩, 8), (⟨"ShrinkDesk$Tree", "grow", "(II)V"⟩, 10), (⟨"ShrinkDesk$Tree", "put", "(IIII)I"⟩, 10), (⟨"ShrinkDesk$Tree", "isLoose", "(III)Z"⟩, 10), (⟨"ShrinkDesk", "hasNode", "(I)Z"⟩, 11), (⟨"ShrinkDesk$Reducer", "beginsWord", "(I)Z"⟩, 7), (⟨"ShrinkDesk$Lessening", "takes", "(IZ)Z"⟩, 10), (⟨"ShrinkDesk$Lessening", "makeTrial", "(IIZ)V"⟩, 10), (⟨"ShrinkDesk$Judge", "isHeld", "(LShrinkDesk$Text;)Z"⟩, 11), (⟨"ShrinkDesk$Judge", "isHeldAt", "(ILShrinkDesk$Text;)Z"⟩, 11), (⟨"ShrinkDesk$Judge", "hold", "(LShrinkDesk$Text;)V"⟩, 11), (⟨"ShrinkDesk$Lessening", "keepTrial", "(IIZ)V"⟩, 10), (⟨"ShrinkDesk$Reducer", "chooseUnits", "(I)V"⟩, 7), (⟨"ShrinkDesk$Reducer", "isBelowKept", "(I)Z"⟩, 7), (⟨"ShrinkDesk$Reducer", "keepUnits", "()V"⟩, 7), (⟨"ShrinkDesk$Reducer", "takesMove", "(I)Z"⟩, 7)]
theorem lw_r2 : ∀ q ∈ lw_privs_2, lw_okq q := List.forall_mem_cons.mpr ⟨lw_p16, List.forall_mem_cons.mpr ⟨lw_p17, List.forall_mem_cons.mpr ⟨lw_p18, List.forall_mem_cons.mpr ⟨lw_p19, List.forall_mem_cons.mpr ⟨lw_p20, List.forall_mem_cons.mpr ⟨lw_p21, List.forall_mem_cons.mpr ⟨lw_p22, List.forall_mem_cons.mpr ⟨lw_p23, List.forall_mem_cons.mpr ⟨lw_p24, List.forall_mem_cons.mpr ⟨lw_p25, List.forall_mem_cons.mpr ⟨lw_p26, List.forall_mem_cons.mpr ⟨lw_p27, List.forall_mem_cons.mpr ⟨lw_p28, List.forall_mem_cons.mpr ⟨lw_p29, List.forall_mem_cons.mpr ⟨lw_p30, List.forall_mem_cons.mpr ⟨lw_p31, fun _ h => absurd h List.not_mem_nil⟩⟩⟩⟩⟩⟩⟩⟩⟩⟩⟩⟩⟩⟩⟩⟩
theorem lw_p32 : lw_okq (⟨"ShrinkDesk$Reducer", "isBelow", "(II)Z"⟩, 7) := ⟨⟨by decide +kernel, by decide +kernel⟩, List.mem_of_getElem? (i := 241) (by decide +kernel), List.mem_of_getElem? (i := 756) (by decide +kernel), List.mem_of_getElem? (i := 757) (by decide +kernel)⟩
theorem lw_p33 : lw_okq (⟨"ShrinkDesk$Reducer", "isMove", "(II)Z"⟩, 7) := ⟨⟨by decide +kernel, by decide +kernel⟩, List.mem_of_getElem? (i := 241) (by decide +kernel), List.mem_of_getElem? (i := 760) (by decide +kernel), List.mem_of_getElem? (i := 761) (by decide +kernel)⟩
theorem lw_p34 : lw_okq (⟨"ShrinkDeskModel", "push", "(III)V"⟩, 64) := ⟨⟨by decide +kernel, by decide +kernel⟩, List.mem_of_getElem? (i := 780) (by decide +kernel), List.mem_of_getElem? (i := 1001) (by decide +kernel), List.mem_of_getElem? (i := 1002) (by decide +kernel)⟩
theorem lw_p35 : lw_okq (⟨"ShrinkDeskModel", "copyStep", "(II)V"⟩, 64) := ⟨⟨by decide +kernel, by decide +kernel⟩, List.mem_of_getElem? (i := 780) (by decide +kernel), List.mem_of_getElem? (i := 1021) (by decide +kernel), List.mem_of_getElem? (i := 1022) (by decide +kernel)⟩
theorem lw_p36 : lw_okq (⟨"ShrinkDeskModel", "outcomeOf", "([II)I"⟩, 64) := ⟨⟨by decide +kernel, by decide +kernel⟩, List.mem_of_getElem? (i := 780) (by decide +kernel), List.mem_of_getElem? (i := 1033) (by decide +kernel), List.mem_of_getElem? (i := 1034) (by decide +kernel)⟩
theorem lw_p37 : lw_okq (⟨"ShrinkDeskModel", "holds", "(I[II)Z"⟩, 64) := ⟨⟨by decide +kernel, by decide +kernel⟩, List.mem_of_getElem? (i := 780) (by decide +kernel), List.mem_of_getElem? (i := 1037) (by decide +kernel), List.mem_of_getElem? (i := 1038) (by decide +kernel)⟩
theorem lw_p38 : lw_okq (⟨"ShrinkDeskModel", "holdsStep", "(I[II)Z"⟩, 64) := ⟨⟨by decide +kernel, by decide +kernel⟩, List.mem_of_getElem? (i := 780) (by decide +kernel), List.mem_of_getElem? (i := 1041) (by decide +kernel), List.mem_of_getElem? (i := 1042) (by decide +kernel)⟩
theorem lw_p39 : lw_okq (⟨"ShrinkDeskModel", "readRules", "()Z"⟩, 64) := ⟨⟨by decide +kernel, by decide +kernel⟩, List.mem_of_getElem? (i := 780) (by decide +kernel), List.mem_of_getElem? (i := 1049) (by decide +kernel), List.mem_of_getElem? (i := 1050) (by decide +kernel)⟩
theorem lw_p40 : lw_okq (⟨"ShrinkDeskModel", "beginAlternative", "()V"⟩, 64) := ⟨⟨by decide +kernel, by decide +kernel⟩, List.mem_of_getElem? (i := 780) (by decide +kernel), List.mem_of_getElem? (i := 1053) (by decide +kernel), List.mem_of_getElem? (i := 1054) (by decide +kernel)⟩
theorem lw_p41 : lw_okq (⟨"ShrinkDeskModel", "areNamesThere", "()Z"⟩, 64) := ⟨⟨by decide +kernel, by decide +kernel⟩, List.mem_of_getElem? (i := 780) (by decide +kernel), List.mem_of_getElem? (i := 1057) (by decide +kernel), List.mem_of_getElem? (i := 1058) (by decide +kernel)⟩
theorem lw_p42 : lw_okq (⟨"ShrinkDeskModel", "findEmptiable", "()V"⟩, 64) := ⟨⟨by decide +kernel, by decide +kernel⟩, List.mem_of_getElem? (i := 780) (by decide +kernel), List.mem_of_getElem? (i := 1061) (by decide +kernel), List.mem_of_getElem? (i := 1062) (by decide +kernel)⟩
theorem lw_p43 : lw_okq (⟨"ShrinkDeskModel", "isVoid", "(I)Z"⟩, 64) := ⟨⟨by decide +kernel, by decide +kernel⟩, List.mem_of_getElem? (i := 780) (by decide +kernel), List.mem_of_getElem? (i := 1065) (by decide +kernel), List.mem_of_getElem? (i := 1066) (by decide +kernel)⟩
theorem lw_p44 : lw_okq (⟨"ShrinkDeskModel", "findLeads", "()V"⟩, 64) := ⟨⟨by decide +kernel, by decide +kernel⟩, List.mem_of_getElem? (i := 780) (by decide +kernel), List.mem_of_getElem? (i := 1069) (by decide +kernel), List.mem_of_getElem? (i := 1070) (by decide +kernel)⟩
theorem lw_p45 : lw_okq (⟨"ShrinkDeskModel", "findOrder", "()Z"⟩, 64) := ⟨⟨by decide +kernel, by decide +kernel⟩, List.mem_of_getElem? (i := 780) (by decide +kernel), List.mem_of_getElem? (i := 1073) (by decide +kernel), List.mem_of_getElem? (i := 1074) (by decide +kernel)⟩
theorem lw_p46 : lw_okq (⟨"ShrinkDeskModel", "clearDone", "()V"⟩, 64) := ⟨⟨by decide +kernel, by decide +kernel⟩, List.mem_of_getElem? (i := 780) (by decide +kernel), List.mem_of_getElem? (i := 1077) (by decide +kernel), List.mem_of_getElem? (i := 1078) (by decide +kernel)⟩
theorem lw_p47 : lw_okq (⟨"ShrinkDeskModel", "parse", "([II)Z"⟩, 64) := ⟨⟨by decide +kernel, by decide +kernel⟩, List.mem_of_getElem? (i := 780) (by decide +kernel), List.mem_of_getElem? (i := 1085) (by decide +kernel), List.mem_of_getElem? (i := 1086) (by decide +kernel)⟩
def lw_privs_3 : List (MethodName × Nat) := [(⟨"ShrinkDesk$Reducer", "isBelow", "(II)Z"⟩, 7), (⟨"ShrinkDesk$Reducer", "isMove", "(II)Z"⟩, 7), (⟨"ShrinkDeskModel", "push", "(III)V"⟩, 64), (⟨"ShrinkDeskModel", "copyStep", "(II)V"⟩, 64), (⟨"ShrinkDeskModel", "outcomeOf", "([II)I"⟩, 64), (⟨"ShrinkDeskModel", "holds", "(I[II)Z"⟩, 64), (⟨"ShrinkDeskModel", "holdsStep", "(I[II)Z"⟩, 64), (⟨"ShrinkDeskModel", "readRules", "()Z"⟩, 64), (⟨"ShrinkDeskModel", "beginAlternative", "()V"⟩, 64), (⟨"ShrinkDeskModel", "areNamesThere", "()Z"⟩, 64), (⟨"ShrinkDeskModel", "findEmptiable", "()V"⟩, 64), (⟨"ShrinkDeskModel", "isVoid", "(I)Z"⟩, 64), (⟨"ShrinkDeskModel", "findLeads", "()V"⟩, 64), (⟨"ShrinkDeskModel", "findOrder", "()Z"⟩, 64), (⟨"ShrinkDeskModel", "clearDone", "()V"⟩, 64), (⟨"ShrinkDeskModel", "parse", "([II)Z"⟩, 64)]
theorem lw_r3 : ∀ q ∈ lw_privs_3, lw_okq q := List.forall_mem_cons.mpr ⟨lw_p32, List.forall_mem_cons.mpr ⟨lw_p33, List.forall_mem_cons.mpr ⟨lw_p34, List.forall_mem_cons.mpr ⟨lw_p35, List.forall_mem_cons.mpr ⟨lw_p36, List.forall_mem_cons.mpr ⟨lw_p37, List.forall_mem_cons.mpr ⟨lw_p38, List.forall_mem_cons.mpr ⟨lw_p39, List.forall_mem_cons.mpr ⟨lw_p40, List.forall_mem_cons.mpr ⟨lw_p41, List.forall_mem_cons.mpr ⟨lw_p42, List.forall_mem_cons.mpr ⟨lw_p43, List.forall_mem_cons.mpr ⟨lw_p44, List.forall_mem_cons.mpr ⟨lw_p45, List.forall_mem_cons.mpr ⟨lw_p46, List.forall_mem_cons.mpr ⟨lw_p47, fun _ h => absurd h List.not_mem_nil⟩⟩⟩⟩⟩⟩⟩⟩⟩⟩⟩⟩⟩⟩⟩⟩
theorem lw_p48 : lw_okq (⟨"ShrinkDeskModel", "findEnds", "()V"⟩, 64) := ⟨⟨by decide +kernel, by decide +kernel⟩, List.mem_of_getElem? (i := 780) (by decide +kernel), List.mem_of_getElem? (i := 1089) (by decide +kernel), List.mem_of_getElem? (i := 1090) (by decide +kernel)⟩
theorem lw_p49 : lw_okq (⟨"ShrinkDeskModel", "alternativeOf", "(II)I"⟩, 64) := ⟨⟨by decide +kernel, by decide +kernel⟩, List.mem_of_getElem? (i := 780) (by decide +kernel), List.mem_of_getElem? (i := 1093) (by decide +kernel), List.mem_of_getElem? (i := 1094) (by decide +kernel)⟩
theorem lw_p50 : lw_okq (⟨"ShrinkDeskModel", "endOf", "(II)I"⟩, 64) := ⟨⟨by decide +kernel, by decide +kernel⟩, List.mem_of_getElem? (i := 780) (by decide +kernel), List.mem_of_getElem? (i := 1097) (by decide +kernel), List.mem_of_getElem? (i := 1098) (by decide +kernel)⟩
theorem lw_p51 : lw_okq (⟨"ShrinkDeskModel", "again", "(II)I"⟩, 64) := ⟨⟨by decide +kernel, by decide +kernel⟩, List.mem_of_getElem? (i := 780) (by decide +kernel), List.mem_of_getElem? (i := 1101) (by decide +kernel), List.mem_of_getElem? (i := 1102) (by decide +kernel)⟩
theorem lw_p52 : lw_okq (⟨"ShrinkDeskModel", "once", "(II)I"⟩, 64) := ⟨⟨by decide +kernel, by decide +kernel⟩, List.mem_of_getElem? (i := 780) (by decide +kernel), List.mem_of_getElem? (i := 1105) (by decide +kernel), List.mem_of_getElem? (i := 1106) (by decide +kernel)⟩
theorem lw_p53 : lw_okq (⟨"ShrinkDeskModel", "buildTree", "()Z"⟩, 64) := ⟨⟨by decide +kernel, by decide +kernel⟩, List.mem_of_getElem? (i := 780) (by decide +kernel), List.mem_of_getElem? (i := 1109) (by decide +kernel), List.mem_of_getElem? (i := 1110) (by decide +kernel)⟩
theorem lw_p54 : lw_okq (⟨"ShrinkDeskModel", "addNode", "(IIIIII)Z"⟩, 64) := ⟨⟨by decide +kernel, by decide +kernel⟩, List.mem_of_getElem? (i := 780) (by decide +kernel), List.mem_of_getElem? (i := 1113) (by decide +kernel), List.mem_of_getElem? (i := 1114) (by decide +kernel)⟩
theorem lw_p55 : lw_okq (⟨"ShrinkDeskModel", "openFrame", "(II)V"⟩, 64) := ⟨⟨by decide +kernel, by decide +kernel⟩, List.mem_of_getElem? (i := 780) (by decide +kernel), List.mem_of_getElem? (i := 1117) (by decide +kernel), List.mem_of_getElem? (i := 1118) (by decide +kernel)⟩
theorem lw_p56 : lw_okq (⟨"ShrinkDeskModel", "taking", "(III)I"⟩, 64) := ⟨⟨by decide +kernel, by decide +kernel⟩, List.mem_of_getElem? (i := 780) (by decide +kernel), List.mem_of_getElem? (i := 1121) (by decide +kernel), List.mem_of_getElem? (i := 1122) (by decide +kernel)⟩
theorem lw_p57 : lw_okq (⟨"ShrinkDeskModel", "isLoose", "(III)I"⟩, 64) := ⟨⟨by decide +kernel, by decide +kernel⟩, List.mem_of_getElem? (i := 780) (by decide +kernel), List.mem_of_getElem? (i := 1125) (by decide +kernel), List.mem_of_getElem? (i := 1126) (by decide +kernel)⟩
theorem lw_p58 : lw_okq (⟨"ShrinkDeskModel", "byPlaces", "(Z)V"⟩, 64) := ⟨⟨by decide +kernel, by decide +kernel⟩, List.mem_of_getElem? (i := 780) (by decide +kernel), List.mem_of_getElem? (i := 1142) (by decide +kernel), List.mem_of_getElem? (i := 1143) (by decide +kernel)⟩
theorem lw_p59 : lw_okq (⟨"ShrinkDeskModel", "setBase", "()V"⟩, 64) := ⟨⟨by decide +kernel, by decide +kernel⟩, List.mem_of_getElem? (i := 780) (by decide +kernel), List.mem_of_getElem? (i := 1146) (by decide +kernel), List.mem_of_getElem? (i := 1147) (by decide +kernel)⟩
theorem lw_p60 : lw_okq (⟨"ShrinkDeskModel", "addUnit", "(II)V"⟩, 64) := ⟨⟨by decide +kernel, by decide +kernel⟩, List.mem_of_getElem? (i := 780) (by decide +kernel), List.mem_of_getElem? (i := 1153) (by decide +kernel), List.mem_of_getElem? (i := 1154) (by decide +kernel)⟩
theorem lw_p61 : lw_okq (⟨"ShrinkDeskModel", "lessen", "()V"⟩, 64) := ⟨⟨by decide +kernel, by decide +kernel⟩, List.mem_of_getElem? (i := 780) (by decide +kernel), List.mem_of_getElem? (i := 1157) (by decide +kernel), List.mem_of_getElem? (i := 1158) (by decide +kernel)⟩
theorem lw_p62 : lw_okq (⟨"ShrinkDeskModel", "round", "(I)I"⟩, 64) := ⟨⟨by decide +kernel, by decide +kernel⟩, List.mem_of_getElem? (i := 780) (by decide +kernel), List.mem_of_getElem? (i := 1161) (by decide +kernel), List.mem_of_getElem? (i := 1162) (by decide +kernel)⟩
theorem lw_p63 : lw_okq (⟨"ShrinkDeskModel", "unitBits", "(II)I"⟩, 64) := ⟨⟨by decide +kernel, by decide +kernel⟩, List.mem_of_getElem? (i := 780) (by decide +kernel), List.mem_of_getElem? (i := 1165) (by decide +kernel), List.mem_of_getElem? (i := 1166) (by decide +kernel)⟩
def lw_privs_4 : List (MethodName × Nat) := [(⟨"ShrinkDeskModel", "findEnds", "()V"⟩, 64), (⟨"ShrinkDeskModel", "alternativeOf", "(II)I"⟩, 64), (⟨"ShrinkDeskModel", "endOf", "(II)I"⟩, 64), (⟨"ShrinkDeskModel", "again", "(II)I"⟩, 64), (⟨"ShrinkDeskModel", "once", "(II)I"⟩, 64), (⟨"ShrinkDeskModel", "buildTree", "()Z"⟩, 64), (⟨"ShrinkDeskModel", "addNode", "(IIIIII)Z"⟩, 64), (⟨"ShrinkDeskModel", "openFrame", "(II)V"⟩, 64), (⟨"ShrinkDeskModel", "taking", "(III)I"⟩, 64), (⟨"ShrinkDeskModel", "isLoose", "(III)I"⟩, 64), (⟨"ShrinkDeskModel", "byPlaces", "(Z)V"⟩, 64), (⟨"ShrinkDeskModel", "setBase", "()V"⟩, 64), (⟨"ShrinkDeskModel", "addUnit", "(II)V"⟩, 64), (⟨"ShrinkDeskModel", "lessen", "()V"⟩, 64), (⟨"ShrinkDeskModel", "round", "(I)I"⟩, 64), (⟨"ShrinkDeskModel", "unitBits", "(II)I"⟩, 64)]
theorem lw_r4 : ∀ q ∈ lw_privs_4, lw_okq q := List.forall_mem_cons.mpr ⟨lw_p48, List.forall_mem_cons.mpr ⟨lw_p49, List.forall_mem_cons.mpr ⟨lw_p50, List.forall_mem_cons.mpr ⟨lw_p51, List.forall_mem_cons.mpr ⟨lw_p52, List.forall_mem_cons.mpr ⟨lw_p53, List.forall_mem_cons.mpr ⟨lw_p54, List.forall_mem_cons.mpr ⟨lw_p55, List.forall_mem_cons.mpr ⟨lw_p56, List.forall_mem_cons.mpr ⟨lw_p57, List.forall_mem_cons.mpr ⟨lw_p58, List.forall_mem_cons.mpr ⟨lw_p59, List.forall_mem_cons.mpr ⟨lw_p60, List.forall_mem_cons.mpr ⟨lw_p61, List.forall_mem_cons.mpr ⟨lw_p62, List.forall_mem_cons.mpr ⟨lw_p63, fun _ h => absurd h List.not_mem_nil⟩⟩⟩⟩⟩⟩⟩⟩⟩⟩⟩⟩⟩⟩⟩⟩
theorem lw_p64 : lw_okq (⟨"ShrinkDeskModel", "askBits", "(I)Z"⟩, 64) := ⟨⟨by decide +kernel, by decide +kernel⟩, List.mem_of_getElem? (i := 780) (by decide +kernel), List.mem_of_getElem? (i := 1169) (by decide +kernel), List.mem_of_getElem? (i := 1170) (by decide +kernel)⟩
theorem lw_p65 : lw_okq (⟨"ShrinkDeskModel", "ask", "()Z"⟩, 64) := ⟨⟨by decide +kernel, by decide +kernel⟩, List.mem_of_getElem? (i := 780) (by decide +kernel), List.mem_of_getElem? (i := 1173) (by decide +kernel), List.mem_of_getElem? (i := 1174) (by decide +kernel)⟩
theorem lw_p66 : lw_okq (⟨"ShrinkDeskModel", "isKnown", "(I)Z"⟩, 64) := ⟨⟨by decide +kernel, by decide +kernel⟩, List.mem_of_getElem? (i := 780) (by decide +kernel), List.mem_of_getElem? (i := 1177) (by decide +kernel), List.mem_of_getElem? (i := 1178) (by decide +kernel)⟩
theorem lw_p67 : lw_okq (⟨"ShrinkDeskModel", "keep", "()V"⟩, 64) := ⟨⟨by decide +kernel, by decide +kernel⟩, List.mem_of_getElem? (i := 780) (by decide +kernel), List.mem_of_getElem? (i := 1181) (by decide +kernel), List.mem_of_getElem? (i := 1182) (by decide +kernel)⟩
theorem lw_p68 : lw_okq (⟨"ShrinkDeskModel", "drop", "(II)V"⟩, 64) := ⟨⟨by decide +kernel, by decide +kernel⟩, List.mem_of_getElem? (i := 780) (by decide +kernel), List.mem_of_getElem? (i := 1185) (by decide +kernel), List.mem_of_getElem? (i := 1186) (by decide +kernel)⟩
theorem lw_p69 : lw_okq (⟨"ShrinkDeskModel", "byDepths", "()V"⟩, 64) := ⟨⟨by decide +kernel, by decide +kernel⟩, List.mem_of_getElem? (i := 780) (by decide +kernel), List.mem_of_getElem? (i := 1189) (by decide +kernel), List.mem_of_getElem? (i := 1190) (by decide +kernel)⟩
theorem lw_p70 : lw_okq (⟨"ShrinkDeskModel", "isKept", "(I)Z"⟩, 64) := ⟨⟨by decide +kernel, by decide +kernel⟩, List.mem_of_getElem? (i := 780) (by decide +kernel), List.mem_of_getElem? (i := 1193) (by decide +kernel), List.mem_of_getElem? (i := 1194) (by decide +kernel)⟩
theorem lw_p71 : lw_okq (⟨"ShrinkDeskModel", "againByDepths", "()V"⟩, 64) := ⟨⟨by decide +kernel, by decide +kernel⟩, List.mem_of_getElem? (i := 780) (by decide +kernel), List.mem_of_getElem? (i := 1197) (by decide +kernel), List.mem_of_getElem? (i := 1198) (by decide +kernel)⟩
theorem lw_p72 : lw_okq (⟨"ShrinkDeskModel", "move", "()Z"⟩, 64) := ⟨⟨by decide +kernel, by decide +kernel⟩, List.mem_of_getElem? (i := 780) (by decide +kernel), List.mem_of_getElem? (i := 1201) (by decide +kernel), List.mem_of_getElem? (i := 1202) (by decide +kernel)⟩
theorem lw_p73 : lw_okq (⟨"ShrinkDeskModel", "movesOf", "(I)Z"⟩, 64) := ⟨⟨by decide +kernel, by decide +kernel⟩, List.mem_of_getElem? (i := 780) (by decide +kernel), List.mem_of_getElem? (i := 1205) (by decide +kernel), List.mem_of_getElem? (i := 1206) (by decide +kernel)⟩
theorem lw_p74 : lw_okq (⟨"ShrinkDeskModel", "take", "(IIII)Z"⟩, 64) := ⟨⟨by decide +kernel, by decide +kernel⟩, List.mem_of_getElem? (i := 780) (by decide +kernel), List.mem_of_getElem? (i := 1209) (by decide +kernel), List.mem_of_getElem? (i := 1210) (by decide +kernel)⟩
def lw_privs_5 : List (MethodName × Nat) := [(⟨"ShrinkDeskModel", "askBits", "(I)Z"⟩, 64), (⟨"ShrinkDeskModel", "ask", "()Z"⟩, 64), (⟨"ShrinkDeskModel", "isKnown", "(I)Z"⟩, 64), (⟨"ShrinkDeskModel", "keep", "()V"⟩, 64), (⟨"ShrinkDeskModel", "drop", "(II)V"⟩, 64), (⟨"ShrinkDeskModel", "byDepths", "()V"⟩, 64), (⟨"ShrinkDeskModel", "isKept", "(I)Z"⟩, 64), (⟨"ShrinkDeskModel", "againByDepths", "()V"⟩, 64), (⟨"ShrinkDeskModel", "move", "()Z"⟩, 64), (⟨"ShrinkDeskModel", "movesOf", "(I)Z"⟩, 64), (⟨"ShrinkDeskModel", "take", "(IIII)Z"⟩, 64)]
theorem lw_r5 : ∀ q ∈ lw_privs_5, lw_okq q := List.forall_mem_cons.mpr ⟨lw_p64, List.forall_mem_cons.mpr ⟨lw_p65, List.forall_mem_cons.mpr ⟨lw_p66, List.forall_mem_cons.mpr ⟨lw_p67, List.forall_mem_cons.mpr ⟨lw_p68, List.forall_mem_cons.mpr ⟨lw_p69, List.forall_mem_cons.mpr ⟨lw_p70, List.forall_mem_cons.mpr ⟨lw_p71, List.forall_mem_cons.mpr ⟨lw_p72, List.forall_mem_cons.mpr ⟨lw_p73, List.forall_mem_cons.mpr ⟨lw_p74, fun _ h => absurd h List.not_mem_nil⟩⟩⟩⟩⟩⟩⟩⟩⟩⟩⟩
def lw_privs : List (MethodName × Nat) := lw_privs_1 ++ (lw_privs_2 ++ (lw_privs_3 ++ (lw_privs_4 ++ (lw_privs_5))))
def lw_tbl : List Cond := k2_sels lw_privs ++ tables_1
theorem lw_privs_ok : ∀ q ∈ lw_privs, lw_okq q := by
  show ∀ q ∈ lw_privs_1 ++ (lw_privs_2 ++ (lw_privs_3 ++ (lw_privs_4 ++ (lw_privs_5)))), lw_okq q
  exact List.forall_mem_append.mpr ⟨lw_r1, List.forall_mem_append.mpr ⟨lw_r2, List.forall_mem_append.mpr ⟨lw_r3, List.forall_mem_append.mpr ⟨lw_r4, lw_r5⟩⟩⟩⟩
-- ===== end of PART A; then your names; then what follows =====
def RX0 : String := "ShrinkDesk$Grammar"
def TX0 : u_T := fun k => match k with
  | 0 => ("ShrinkDesk$Grammar", "valid", "Z", false)
  | 1 => ("ShrinkDesk$Grammar", "start", "I", false)
  | 2 => ("ShrinkDesk$Grammar", "rules", "I", false)
  | 3 => ("ShrinkDesk$Grammar", "order", "[I", true)
  | 4 => ("ShrinkDesk$Grammar", "ordered", "I", false)
  | 5 => ("ShrinkDesk$Grammar", "what", "[C", true)
  | 6 => ("ShrinkDesk$Grammar", "tail", "[C", true)
  | 7 => ("ShrinkDesk$Grammar", "named", "[I", true)
  | 8 => ("ShrinkDesk$Grammar", "items", "I", false)
  | 9 => ("ShrinkDesk$Grammar", "firstItem", "[I", true)
  | 10 => ("ShrinkDesk$Grammar", "alternatives", "I", false)
  | 11 => ("ShrinkDesk$Grammar", "firstAlternative", "[I", true)
  | 12 => ("ShrinkDesk$Grammar", "endAlternative", "[I", true)
  | 13 => ("ShrinkDesk$Grammar", "open", "I", false)
  | 14 => ("ShrinkDesk$Grammar", "defined", "[Z", true)
  | 15 => ("ShrinkDesk$Grammar", "emptiable", "[Z", true)
  | _ => ("ShrinkDesk$Grammar", "placed", "[Z", true)
def tyX0 : Nat → FieldType := fun k => match k with
  | 0 => .boolean
  | 1 => .int
  | 2 => .int
  | 3 => .array .int
  | 4 => .int
  | 5 => .array .char
  | 6 => .array .char
  | 7 => .array .int
  | 8 => .int
  | 9 => .array .int
  | 10 => .int
  | 11 => .array .int
  | 12 => .array .int
  | 13 => .int
  | 14 => .array .boolean
  | 15 => .array .boolean
  | _ => .array .boolean
abbrev wsX00 : List Cond := u_ws RX0 TX0 17
theorem nmX0 : ∀ a, a < 17 → ∀ b, b < 17 → a ≠ b → (TX0 a).2.1 ≠ (TX0 b).2.1 := by decide +kernel
theorem tyX0_ok : ∀ k, k < 17 → parseFieldDescriptor (TX0 k).2.2.1 = some (tyX0 k) := by decide +kernel
abbrev cX0_init : ByteArray := prog_2_method_1_code
def yX0_init : MethodName := ⟨RX0, "<init>", "()V"⟩
abbrev cX0_become : ByteArray := prog_2_method_2_code
def yX0_become : MethodName := ⟨RX0, "become", "([CI)V"⟩
abbrev cX0_firstOf : ByteArray := prog_2_method_3_code
def yX0_firstOf : MethodName := ⟨RX0, "firstOf", "(I)I"⟩
abbrev cX0_endOf : ByteArray := prog_2_method_4_code
def yX0_endOf : MethodName := ⟨RX0, "endOf", "(I)I"⟩
abbrev cX0_firstItemOf : ByteArray := prog_2_method_5_code
def yX0_firstItemOf : MethodName := ⟨RX0, "firstItemOf", "(I)I"⟩
abbrev cX0_endItemOf : ByteArray := prog_2_method_6_code
def yX0_endItemOf : MethodName := ⟨RX0, "endItemOf", "(I)I"⟩
abbrev cX0_whatOf : ByteArray := prog_2_method_7_code
def yX0_whatOf : MethodName := ⟨RX0, "whatOf", "(I)C"⟩
abbrev cX0_ruleOf : ByteArray := prog_2_method_8_code
def yX0_ruleOf : MethodName := ⟨RX0, "ruleOf", "(I)I"⟩
abbrev cX0_hasTail : ByteArray := prog_2_method_9_code
def yX0_hasTail : MethodName := ⟨RX0, "hasTail", "(I)Z"⟩
abbrev cX0_hasStar : ByteArray := prog_2_method_10_code
def yX0_hasStar : MethodName := ⟨RX0, "hasStar", "(I)Z"⟩
abbrev cX0_mayRepeat : ByteArray := prog_2_method_11_code
def yX0_mayRepeat : MethodName := ⟨RX0, "mayRepeat", "(I)Z"⟩
abbrev cX0_mayBeLeftOut : ByteArray := prog_2_method_12_code
def yX0_mayBeLeftOut : MethodName := ⟨RX0, "mayBeLeftOut", "(I)Z"⟩
abbrev cX0_forget : ByteArray := prog_2_method_13_code
def yX0_forget : MethodName := ⟨RX0, "forget", "()V"⟩
abbrev cX0_isCut : ByteArray := prog_2_method_14_code
def yX0_isCut : MethodName := ⟨RX0, "isCut", "([CI)Z"⟩
abbrev cX0_step : ByteArray := prog_2_method_15_code
def yX0_step : MethodName := ⟨RX0, "step", "(IC)I"⟩
abbrev cX0_opens : ByteArray := prog_2_method_16_code
def yX0_opens : MethodName := ⟨RX0, "opens", "(C)Z"⟩
abbrev cX0_addAlternative : ByteArray := prog_2_method_17_code
def yX0_addAlternative : MethodName := ⟨RX0, "addAlternative", "()V"⟩
abbrev cX0_addsItem : ByteArray := prog_2_method_18_code
def yX0_addsItem : MethodName := ⟨RX0, "addsItem", "(C)Z"⟩
abbrev cX0_isEveryNameDefined : ByteArray := prog_2_method_19_code
def yX0_isEveryNameDefined : MethodName := ⟨RX0, "isEveryNameDefined", "()Z"⟩
abbrev cX0_findEmptiable : ByteArray := prog_2_method_20_code
def yX0_findEmptiable : MethodName := ⟨RX0, "findEmptiable", "()V"⟩
abbrev cX0_isEmptiable : ByteArray := prog_2_method_21_code
def yX0_isEmptiable : MethodName := ⟨RX0, "isEmptiable", "(I)Z"⟩
abbrev cX0_mayBeEmpty : ByteArray := prog_2_method_22_code
def yX0_mayBeEmpty : MethodName := ⟨RX0, "mayBeEmpty", "(I)Z"⟩
abbrev cX0_findOrder : ByteArray := prog_2_method_23_code
def yX0_findOrder : MethodName := ⟨RX0, "findOrder", "()V"⟩
abbrev cX0_leadsToPlaced : ByteArray := prog_2_method_24_code
def yX0_leadsToPlaced : MethodName := ⟨RX0, "leadsToPlaced", "(I)Z"⟩
def RX1 : String := "ShrinkDesk$Judge"
def TX1 : u_T := fun k => match k with
  | 0 => ("ShrinkDesk$Judge", "wrong", "LShrinkDesk$Term;", false)
  | 1 => ("ShrinkDesk$Judge", "unclear", "LShrinkDesk$Term;", false)
  | 2 => ("ShrinkDesk$Judge", "remembering", "Z", false)
  | 3 => ("ShrinkDesk$Judge", "probes", "I", false)
  | 4 => ("ShrinkDesk$Judge", "hits", "I", false)
  | 5 => ("ShrinkDesk$Judge", "ended", "Z", false)
  | 6 => ("ShrinkDesk$Judge", "held", "I", false)
  | 7 => ("ShrinkDesk$Judge", "allowed", "I", false)
  | 8 => ("ShrinkDesk$Judge", "oldest", "I", false)
  | 9 => ("ShrinkDesk$Judge", "heldSigns", "[C", true)
  | _ => ("ShrinkDesk$Judge", "heldTotals", "[I", true)
def tyX1 : Nat → FieldType := fun k => match k with
  | 0 => .object "ShrinkDesk$Term"
  | 1 => .object "ShrinkDesk$Term"
  | 2 => .boolean
  | 3 => .int
  | 4 => .int
  | 5 => .boolean
  | 6 => .int
  | 7 => .int
  | 8 => .int
  | 9 => .array .char
  | _ => .array .int
abbrev wsX10 : List Cond := u_ws RX1 TX1 11
theorem nmX1 : ∀ a, a < 11 → ∀ b, b < 11 → a ≠ b → (TX1 a).2.1 ≠ (TX1 b).2.1 := by decide +kernel
theorem tyX1_ok : ∀ k, k < 11 → parseFieldDescriptor (TX1 k).2.2.1 = some (tyX1 k) := by decide +kernel
abbrev cX1_init : ByteArray := prog_3_method_1_code
def yX1_init : MethodName := ⟨RX1, "<init>", "()V"⟩
abbrev cX1_verdict : ByteArray := prog_3_method_2_code
def yX1_verdict : MethodName := ⟨RX1, "verdict", "(LShrinkDesk$Text;)I"⟩
abbrev cX1_allow : ByteArray := prog_3_method_3_code
def yX1_allow : MethodName := ⟨RX1, "allow", "(I)V"⟩
abbrev cX1_forget : ByteArray := prog_3_method_4_code
def yX1_forget : MethodName := ⟨RX1, "forget", "()V"⟩
abbrev cX1_ask : ByteArray := prog_3_method_5_code
def yX1_ask : MethodName := ⟨RX1, "ask", "(LShrinkDesk$Text;)I"⟩
abbrev cX1_isHeld : ByteArray := prog_3_method_6_code
def yX1_isHeld : MethodName := ⟨RX1, "isHeld", "(LShrinkDesk$Text;)Z"⟩
abbrev cX1_isHeldAt : ByteArray := prog_3_method_7_code
def yX1_isHeldAt : MethodName := ⟨RX1, "isHeldAt", "(ILShrinkDesk$Text;)Z"⟩
abbrev cX1_hold : ByteArray := prog_3_method_8_code
def yX1_hold : MethodName := ⟨RX1, "hold", "(LShrinkDesk$Text;)V"⟩
abbrev cX1_holds : ByteArray := prog_3_method_9_code
def yX1_holds : MethodName := ⟨RX1, "holds", "(LShrinkDesk$Term;LShrinkDesk$Text;I)Z"⟩
def RX2 : String := "ShrinkDesk$Lessening"
def TX2 : u_T := fun k => match k with
  | 0 => ("ShrinkDesk$Lessening", "typed", "LShrinkDesk$Text;", true)
  | 1 => ("ShrinkDesk$Lessening", "judge", "LShrinkDesk$Judge;", true)
  | 2 => ("ShrinkDesk$Lessening", "base", "LShrinkDesk$Text;", true)
  | 3 => ("ShrinkDesk$Lessening", "trial", "LShrinkDesk$Text;", true)
  | 4 => ("ShrinkDesk$Lessening", "gone", "[Z", true)
  | 5 => ("ShrinkDesk$Lessening", "goneInTrial", "[Z", true)
  | 6 => ("ShrinkDesk$Lessening", "kept", "I", false)
  | 7 => ("ShrinkDesk$Lessening", "from", "[I", true)
  | 8 => ("ShrinkDesk$Lessening", "to", "[I", true)
  | _ => ("ShrinkDesk$Lessening", "ofNode", "[I", true)
def tyX2 : Nat → FieldType := fun k => match k with
  | 0 => .object "ShrinkDesk$Text"
  | 1 => .object "ShrinkDesk$Judge"
  | 2 => .object "ShrinkDesk$Text"
  | 3 => .object "ShrinkDesk$Text"
  | 4 => .array .boolean
  | 5 => .array .boolean
  | 6 => .int
  | 7 => .array .int
  | 8 => .array .int
  | _ => .array .int
abbrev wsX20 : List Cond := u_ws RX2 TX2 10
theorem nmX2 : ∀ a, a < 10 → ∀ b, b < 10 → a ≠ b → (TX2 a).2.1 ≠ (TX2 b).2.1 := by decide +kernel
theorem tyX2_ok : ∀ k, k < 10 → parseFieldDescriptor (TX2 k).2.2.1 = some (tyX2 k) := by decide +kernel
abbrev cX2_init : ByteArray := prog_4_method_1_code
def yX2_init : MethodName := ⟨RX2, "<init>", "(LShrinkDesk$Text;LShrinkDesk$Judge;)V"⟩
abbrev cX2_begin : ByteArray := prog_4_method_2_code
def yX2_begin : MethodName := ⟨RX2, "begin", "()V"⟩
abbrev cX2_addUnit : ByteArray := prog_4_method_3_code
def yX2_addUnit : MethodName := ⟨RX2, "addUnit", "(III)V"⟩
abbrev cX2_lessen : ByteArray := prog_4_method_4_code
def yX2_lessen : MethodName := ⟨RX2, "lessen", "()V"⟩
abbrev cX2_takes : ByteArray := prog_4_method_5_code
def yX2_takes : MethodName := ⟨RX2, "takes", "(IZ)Z"⟩
abbrev cX2_makeTrial : ByteArray := prog_4_method_6_code
def yX2_makeTrial : MethodName := ⟨RX2, "makeTrial", "(IIZ)V"⟩
abbrev cX2_keepTrial : ByteArray := prog_4_method_7_code
def yX2_keepTrial : MethodName := ⟨RX2, "keepTrial", "(IIZ)V"⟩
def RX3 : String := "ShrinkDesk$Matcher"
def TX3 : u_T := fun k => match k with
  | 0 => ("ShrinkDesk$Matcher", "grammar", "LShrinkDesk$Grammar;", true)
  | 1 => ("ShrinkDesk$Matcher", "signs", "[C", true)
  | 2 => ("ShrinkDesk$Matcher", "total", "I", false)
  | 3 => ("ShrinkDesk$Matcher", "filled", "Z", false)
  | 4 => ("ShrinkDesk$Matcher", "rest", "[I", true)
  | 5 => ("ShrinkDesk$Matcher", "below", "[I", true)
  | 6 => ("ShrinkDesk$Matcher", "alternative", "[I", true)
  | _ => ("ShrinkDesk$Matcher", "counted", "I", false)
def tyX3 : Nat → FieldType := fun k => match k with
  | 0 => .object "ShrinkDesk$Grammar"
  | 1 => .array .char
  | 2 => .int
  | 3 => .boolean
  | 4 => .array .int
  | 5 => .array .int
  | 6 => .array .int
  | _ => .int
abbrev wsX30 : List Cond := u_ws RX3 TX3 8
theorem nmX3 : ∀ a, a < 8 → ∀ b, b < 8 → a ≠ b → (TX3 a).2.1 ≠ (TX3 b).2.1 := by decide +kernel
theorem tyX3_ok : ∀ k, k < 8 → parseFieldDescriptor (TX3 k).2.2.1 = some (tyX3 k) := by decide +kernel
abbrev cX3_init : ByteArray := prog_5_method_1_code
def yX3_init : MethodName := ⟨RX3, "<init>", "(LShrinkDesk$Grammar;)V"⟩
abbrev cX3_forget : ByteArray := prog_5_method_2_code
def yX3_forget : MethodName := ⟨RX3, "forget", "()V"⟩
abbrev cX3_fits : ByteArray := prog_5_method_3_code
def yX3_fits : MethodName := ⟨RX3, "fits", "(LShrinkDesk$Text;)Z"⟩
abbrev cX3_alternativeOf : ByteArray := prog_5_method_4_code
def yX3_alternativeOf : MethodName := ⟨RX3, "alternativeOf", "(II)I"⟩
abbrev cX3_more : ByteArray := prog_5_method_5_code
def yX3_more : MethodName := ⟨RX3, "more", "(III)I"⟩
abbrev cX3_cellOf : ByteArray := prog_5_method_6_code
def yX3_cellOf : MethodName := ⟨RX3, "cellOf", "(II)I"⟩
abbrev cX3_sameAtEnd : ByteArray := prog_5_method_7_code
def yX3_sameAtEnd : MethodName := ⟨RX3, "sameAtEnd", "(LShrinkDesk$Text;)I"⟩
abbrev cX3_settle : ByteArray := prog_5_method_8_code
def yX3_settle : MethodName := ⟨RX3, "settle", "(II)V"⟩
abbrev cX3_behind : ByteArray := prog_5_method_9_code
def yX3_behind : MethodName := ⟨RX3, "behind", "(II)I"⟩
abbrev cX3_nodesOf : ByteArray := prog_5_method_10_code
def yX3_nodesOf : MethodName := ⟨RX3, "nodesOf", "(II)I"⟩
def RX4 : String := "ShrinkDesk$Reducer"
def TX4 : u_T := fun k => match k with
  | 0 => ("ShrinkDesk$Reducer", "typed", "LShrinkDesk$Text;", true)
  | 1 => ("ShrinkDesk$Reducer", "judge", "LShrinkDesk$Judge;", true)
  | 2 => ("ShrinkDesk$Reducer", "matcher", "LShrinkDesk$Matcher;", true)
  | 3 => ("ShrinkDesk$Reducer", "tree", "LShrinkDesk$Tree;", true)
  | 4 => ("ShrinkDesk$Reducer", "lessening", "LShrinkDesk$Lessening;", true)
  | 5 => ("ShrinkDesk$Reducer", "trial", "LShrinkDesk$Text;", true)
  | _ => ("ShrinkDesk$Reducer", "alive", "[Z", true)
def tyX4 : Nat → FieldType := fun k => match k with
  | 0 => .object "ShrinkDesk$Text"
  | 1 => .object "ShrinkDesk$Judge"
  | 2 => .object "ShrinkDesk$Matcher"
  | 3 => .object "ShrinkDesk$Tree"
  | 4 => .object "ShrinkDesk$Lessening"
  | 5 => .object "ShrinkDesk$Text"
  | _ => .array .boolean
abbrev wsX40 : List Cond := u_ws RX4 TX4 7
theorem nmX4 : ∀ a, a < 7 → ∀ b, b < 7 → a ≠ b → (TX4 a).2.1 ≠ (TX4 b).2.1 := by decide +kernel
theorem tyX4_ok : ∀ k, k < 7 → parseFieldDescriptor (TX4 k).2.2.1 = some (tyX4 k) := by decide +kernel
abbrev cX4_init : ByteArray := prog_6_method_1_code
def yX4_init : MethodName := ⟨RX4, "<init>", "(LShrinkDesk$Text;LShrinkDesk$Judge;LShrinkDesk$Matcher;LShrinkDesk$Tree;)V"⟩
abbrev cX4_bySigns : ByteArray := prog_6_method_2_code
def yX4_bySigns : MethodName := ⟨RX4, "bySigns", "(Z)V"⟩
abbrev cX4_byLevels : ByteArray := prog_6_method_3_code
def yX4_byLevels : MethodName := ⟨RX4, "byLevels", "(Z)V"⟩
abbrev cX4_byMoves : ByteArray := prog_6_method_4_code
def yX4_byMoves : MethodName := ⟨RX4, "byMoves", "()V"⟩
abbrev cX4_beginsWord : ByteArray := prog_6_method_5_code
def yX4_beginsWord : MethodName := ⟨RX4, "beginsWord", "(I)Z"⟩
abbrev cX4_chooseUnits : ByteArray := prog_6_method_6_code
def yX4_chooseUnits : MethodName := ⟨RX4, "chooseUnits", "(I)V"⟩
abbrev cX4_isBelowKept : ByteArray := prog_6_method_7_code
def yX4_isBelowKept : MethodName := ⟨RX4, "isBelowKept", "(I)Z"⟩
abbrev cX4_keepUnits : ByteArray := prog_6_method_8_code
def yX4_keepUnits : MethodName := ⟨RX4, "keepUnits", "()V"⟩
abbrev cX4_takesMove : ByteArray := prog_6_method_9_code
def yX4_takesMove : MethodName := ⟨RX4, "takesMove", "(I)Z"⟩
abbrev cX4_isBelow : ByteArray := prog_6_method_10_code
def yX4_isBelow : MethodName := ⟨RX4, "isBelow", "(II)Z"⟩
abbrev cX4_isMove : ByteArray := prog_6_method_11_code
def yX4_isMove : MethodName := ⟨RX4, "isMove", "(II)Z"⟩
def RX5 : String := "ShrinkDesk$Term"
def TX5 : u_T := fun k => match k with
  | 0 => ("ShrinkDesk$Term", "kind", "I", true)
  | 1 => ("ShrinkDesk$Term", "c", "C", true)
  | 2 => ("ShrinkDesk$Term", "d", "C", true)
  | 3 => ("ShrinkDesk$Term", "n", "I", true)
  | 4 => ("ShrinkDesk$Term", "x", "LShrinkDesk$Term;", true)
  | 5 => ("ShrinkDesk$Term", "y", "LShrinkDesk$Term;", true)
  | _ => ("ShrinkDesk$Term", "levels", "I", true)
def tyX5 : Nat → FieldType := fun k => match k with
  | 0 => .int
  | 1 => .char
  | 2 => .char
  | 3 => .int
  | 4 => .object "ShrinkDesk$Term"
  | 5 => .object "ShrinkDesk$Term"
  | _ => .int
abbrev wsX50 : List Cond := u_ws RX5 TX5 7
theorem nmX5 : ∀ a, a < 7 → ∀ b, b < 7 → a ≠ b → (TX5 a).2.1 ≠ (TX5 b).2.1 := by decide +kernel
theorem tyX5_ok : ∀ k, k < 7 → parseFieldDescriptor (TX5 k).2.2.1 = some (tyX5 k) := by decide +kernel
abbrev cX5_init : ByteArray := prog_7_method_1_code
def yX5_init : MethodName := ⟨RX5, "<init>", "(ICCI)V"⟩
abbrev cX5_init_ : ByteArray := prog_7_method_2_code
def yX5_init_ : MethodName := ⟨RX5, "<init>", "(ILShrinkDesk$Term;LShrinkDesk$Term;I)V"⟩
def RX6 : String := "ShrinkDesk$Text"
def TX6 : u_T := fun k => match k with
  | 0 => ("ShrinkDesk$Text", "signs", "[C", true)
  | _ => ("ShrinkDesk$Text", "total", "I", false)
def tyX6 : Nat → FieldType := fun k => match k with
  | 0 => .array .char
  | _ => .int
abbrev wsX60 : List Cond := u_ws RX6 TX6 2
theorem nmX6 : ∀ a, a < 2 → ∀ b, b < 2 → a ≠ b → (TX6 a).2.1 ≠ (TX6 b).2.1 := by decide +kernel
theorem tyX6_ok : ∀ k, k < 2 → parseFieldDescriptor (TX6 k).2.2.1 = some (tyX6 k) := by decide +kernel
abbrev cX6_init : ByteArray := prog_8_method_1_code
def yX6_init : MethodName := ⟨RX6, "<init>", "()V"⟩
abbrev cX6_put : ByteArray := prog_8_method_2_code
def yX6_put : MethodName := ⟨RX6, "put", "(C)Z"⟩
abbrev cX6_putSome : ByteArray := prog_8_method_3_code
def yX6_putSome : MethodName := ⟨RX6, "putSome", "(LShrinkDesk$Text;II)V"⟩
abbrev cX6_become : ByteArray := prog_8_method_4_code
def yX6_become : MethodName := ⟨RX6, "become", "(LShrinkDesk$Text;)V"⟩
abbrev cX6_holdsSign : ByteArray := prog_8_method_5_code
def yX6_holdsSign : MethodName := ⟨RX6, "holdsSign", "(CI)Z"⟩
abbrev cX6_holdsPair : ByteArray := prog_8_method_6_code
def yX6_holdsPair : MethodName := ⟨RX6, "holdsPair", "(CCZ)Z"⟩
def RX7 : String := "ShrinkDesk$Tree"
def TX7 : u_T := fun k => match k with
  | 0 => ("ShrinkDesk$Tree", "grammar", "LShrinkDesk$Grammar;", true)
  | 1 => ("ShrinkDesk$Tree", "matcher", "LShrinkDesk$Matcher;", true)
  | 2 => ("ShrinkDesk$Tree", "total", "I", false)
  | 3 => ("ShrinkDesk$Tree", "rule", "[I", true)
  | 4 => ("ShrinkDesk$Tree", "loose", "[Z", true)
  | 5 => ("ShrinkDesk$Tree", "begin", "[I", true)
  | 6 => ("ShrinkDesk$Tree", "signs", "[I", true)
  | 7 => ("ShrinkDesk$Tree", "level", "[I", true)
  | 8 => ("ShrinkDesk$Tree", "parent", "[I", true)
  | _ => ("ShrinkDesk$Tree", "textTotal", "I", false)
def tyX7 : Nat → FieldType := fun k => match k with
  | 0 => .object "ShrinkDesk$Grammar"
  | 1 => .object "ShrinkDesk$Matcher"
  | 2 => .int
  | 3 => .array .int
  | 4 => .array .boolean
  | 5 => .array .int
  | 6 => .array .int
  | 7 => .array .int
  | 8 => .array .int
  | _ => .int
abbrev wsX70 : List Cond := u_ws RX7 TX7 10
theorem nmX7 : ∀ a, a < 10 → ∀ b, b < 10 → a ≠ b → (TX7 a).2.1 ≠ (TX7 b).2.1 := by decide +kernel
theorem tyX7_ok : ∀ k, k < 10 → parseFieldDescriptor (TX7 k).2.2.1 = some (tyX7 k) := by decide +kernel
abbrev cX7_init : ByteArray := prog_9_method_1_code
def yX7_init : MethodName := ⟨RX7, "<init>", "(LShrinkDesk$Grammar;LShrinkDesk$Matcher;)V"⟩
abbrev cX7_build : ByteArray := prog_9_method_2_code
def yX7_build : MethodName := ⟨RX7, "build", "(LShrinkDesk$Text;)Z"⟩
abbrev cX7_told : ByteArray := prog_9_method_3_code
def yX7_told : MethodName := ⟨RX7, "told", "(I)I"⟩
abbrev cX7_deepest : ByteArray := prog_9_method_4_code
def yX7_deepest : MethodName := ⟨RX7, "deepest", "()I"⟩
abbrev cX7_grow : ByteArray := prog_9_method_5_code
def yX7_grow : MethodName := ⟨RX7, "grow", "(II)V"⟩
abbrev cX7_put : ByteArray := prog_9_method_6_code
def yX7_put : MethodName := ⟨RX7, "put", "(IIII)I"⟩
abbrev cX7_isLoose : ByteArray := prog_9_method_7_code
def yX7_isLoose : MethodName := ⟨RX7, "isLoose", "(III)Z"⟩
def RX8 : String := "ShrinkDesk"
def TX8 : u_T := fun k => match k with
  | 0 => ("ShrinkDesk", "typed", "LShrinkDesk$Text;", true)
  | 1 => ("ShrinkDesk", "written", "[C", true)
  | 2 => ("ShrinkDesk", "writtenTotal", "I", false)
  | 3 => ("ShrinkDesk", "stack", "[LShrinkDesk$Term;", true)
  | 4 => ("ShrinkDesk", "stacked", "I", false)
  | 5 => ("ShrinkDesk", "judge", "LShrinkDesk$Judge;", true)
  | 6 => ("ShrinkDesk", "grammar", "LShrinkDesk$Grammar;", true)
  | 7 => ("ShrinkDesk", "matcher", "LShrinkDesk$Matcher;", true)
  | 8 => ("ShrinkDesk", "tree", "LShrinkDesk$Tree;", true)
  | 9 => ("ShrinkDesk", "reducer", "LShrinkDesk$Reducer;", true)
  | _ => ("ShrinkDesk", "reductions", "I", false)
def tyX8 : Nat → FieldType := fun k => match k with
  | 0 => .object "ShrinkDesk$Text"
  | 1 => .array .char
  | 2 => .int
  | 3 => .array (.object "ShrinkDesk$Term")
  | 4 => .int
  | 5 => .object "ShrinkDesk$Judge"
  | 6 => .object "ShrinkDesk$Grammar"
  | 7 => .object "ShrinkDesk$Matcher"
  | 8 => .object "ShrinkDesk$Tree"
  | 9 => .object "ShrinkDesk$Reducer"
  | _ => .int
abbrev wsX80 : List Cond := u_ws RX8 TX8 11
theorem nmX8 : ∀ a, a < 11 → ∀ b, b < 11 → a ≠ b → (TX8 a).2.1 ≠ (TX8 b).2.1 := by decide +kernel
theorem tyX8_ok : ∀ k, k < 11 → parseFieldDescriptor (TX8 k).2.2.1 = some (tyX8 k) := by decide +kernel
abbrev cX8_init : ByteArray := prog_1_method_1_code
def yX8_init : MethodName := ⟨RX8, "<init>", "()V"⟩
abbrev cX8_type : ByteArray := prog_1_method_2_code
def yX8_type : MethodName := ⟨RX8, "type", "(C)Z"⟩
abbrev cX8_clear : ByteArray := prog_1_method_3_code
def yX8_clear : MethodName := ⟨RX8, "clear", "()V"⟩
abbrev cX8_write : ByteArray := prog_1_method_4_code
def yX8_write : MethodName := ⟨RX8, "write", "(C)Z"⟩
abbrev cX8_read : ByteArray := prog_1_method_5_code
def yX8_read : MethodName := ⟨RX8, "read", "()I"⟩
abbrev cX8_has : ByteArray := prog_1_method_6_code
def yX8_has : MethodName := ⟨RX8, "has", "(CI)Z"⟩
abbrev cX8_pair : ByteArray := prog_1_method_7_code
def yX8_pair : MethodName := ⟨RX8, "pair", "(CCZ)Z"⟩
abbrev cX8_size : ByteArray := prog_1_method_8_code
def yX8_size : MethodName := ⟨RX8, "size", "(I)Z"⟩
abbrev cX8_not : ByteArray := prog_1_method_9_code
def yX8_not : MethodName := ⟨RX8, "not", "()Z"⟩
abbrev cX8_join : ByteArray := prog_1_method_10_code
def yX8_join : MethodName := ⟨RX8, "join", "(Z)Z"⟩
abbrev cX8_mark : ByteArray := prog_1_method_11_code
def yX8_mark : MethodName := ⟨RX8, "mark", "(Z)Z"⟩
abbrev cX8_remember : ByteArray := prog_1_method_12_code
def yX8_remember : MethodName := ⟨RX8, "remember", "(Z)V"⟩
abbrev cX8_outcome : ByteArray := prog_1_method_13_code
def yX8_outcome : MethodName := ⟨RX8, "outcome", "()I"⟩
abbrev cX8_nodes : ByteArray := prog_1_method_14_code
def yX8_nodes : MethodName := ⟨RX8, "nodes", "()I"⟩
abbrev cX8_node : ByteArray := prog_1_method_15_code
def yX8_node : MethodName := ⟨RX8, "node", "(I)I"⟩
abbrev cX8_depth : ByteArray := prog_1_method_16_code
def yX8_depth : MethodName := ⟨RX8, "depth", "(I)I"⟩
abbrev cX8_reduce : ByteArray := prog_1_method_17_code
def yX8_reduce : MethodName := ⟨RX8, "reduce", "(II)I"⟩
abbrev cX8_length : ByteArray := prog_1_method_18_code
def yX8_length : MethodName := ⟨RX8, "length", "()I"⟩
abbrev cX8_at : ByteArray := prog_1_method_19_code
def yX8_at : MethodName := ⟨RX8, "at", "(I)C"⟩
abbrev cX8_count : ByteArray := prog_1_method_20_code
def yX8_count : MethodName := ⟨RX8, "count", "(I)I"⟩
abbrev cX8_push : ByteArray := prog_1_method_21_code
def yX8_push : MethodName := ⟨RX8, "push", "(LShrinkDesk$Term;)Z"⟩
abbrev cX8_hasNode : ByteArray := prog_1_method_22_code
def yX8_hasNode : MethodName := ⟨RX8, "hasNode", "(I)Z"⟩
abbrev cX8_isTextSign : ByteArray := prog_1_method_23_code
def yX8_isTextSign : MethodName := ⟨RX8, "isTextSign", "(C)Z"⟩
abbrev cX8_isName : ByteArray := prog_1_method_24_code
def yX8_isName : MethodName := ⟨RX8, "isName", "(C)Z"⟩
abbrev cX8_isTail : ByteArray := prog_1_method_25_code
def yX8_isTail : MethodName := ⟨RX8, "isTail", "(C)Z"⟩
abbrev cX8_isGrammarSign : ByteArray := prog_1_method_26_code
def yX8_isGrammarSign : MethodName := ⟨RX8, "isGrammarSign", "(C)Z"⟩
def RX9 : String := "ShrinkDeskModel"
def TX9 : u_T := fun k => match k with
  | 0 => ("ShrinkDeskModel", "typed", "[I", true)
  | 1 => ("ShrinkDeskModel", "typedSize", "I", false)
  | 2 => ("ShrinkDeskModel", "written", "[I", true)
  | 3 => ("ShrinkDeskModel", "writtenSize", "I", false)
  | 4 => ("ShrinkDeskModel", "stacked", "I", false)
  | 5 => ("ShrinkDeskModel", "sizes", "[I", true)
  | 6 => ("ShrinkDeskModel", "depths", "[I", true)
  | 7 => ("ShrinkDeskModel", "steps", "[I", true)
  | 8 => ("ShrinkDeskModel", "firsts", "[I", true)
  | 9 => ("ShrinkDeskModel", "seconds", "[I", true)
  | 10 => ("ShrinkDeskModel", "pile", "[Z", true)
  | 11 => ("ShrinkDeskModel", "isGrammar", "Z", false)
  | 12 => ("ShrinkDeskModel", "rules", "I", false)
  | 13 => ("ShrinkDeskModel", "start", "I", false)
  | 14 => ("ShrinkDeskModel", "items", "I", false)
  | 15 => ("ShrinkDeskModel", "alternatives", "I", false)
  | 16 => ("ShrinkDeskModel", "item", "[I", true)
  | 17 => ("ShrinkDeskModel", "sign", "[I", true)
  | 18 => ("ShrinkDeskModel", "alternativeAt", "[I", true)
  | 19 => ("ShrinkDeskModel", "ruleAt", "[I", true)
  | 20 => ("ShrinkDeskModel", "ruleEnd", "[I", true)
  | 21 => ("ShrinkDeskModel", "emptiable", "[Z", true)
  | 22 => ("ShrinkDeskModel", "leads", "[Z", true)
  | 23 => ("ShrinkDeskModel", "order", "[I", true)
  | 24 => ("ShrinkDeskModel", "text", "[I", true)
  | 25 => ("ShrinkDeskModel", "textSize", "I", false)
  | 26 => ("ShrinkDeskModel", "ends", "[I", true)
  | 27 => ("ShrinkDeskModel", "nodeCount", "I", false)
  | 28 => ("ShrinkDeskModel", "nodeRule", "[I", true)
  | 29 => ("ShrinkDeskModel", "nodeLoose", "[I", true)
  | 30 => ("ShrinkDeskModel", "nodeBegin", "[I", true)
  | 31 => ("ShrinkDeskModel", "nodeSize", "[I", true)
  | 32 => ("ShrinkDeskModel", "nodeDepth", "[I", true)
  | 33 => ("ShrinkDeskModel", "nodeParent", "[I", true)
  | 34 => ("ShrinkDeskModel", "frameNode", "[I", true)
  | 35 => ("ShrinkDeskModel", "frameItem", "[I", true)
  | 36 => ("ShrinkDeskModel", "frameEnd", "[I", true)
  | 37 => ("ShrinkDeskModel", "framePlace", "[I", true)
  | 38 => ("ShrinkDeskModel", "frameTimes", "[I", true)
  | 39 => ("ShrinkDeskModel", "remembers", "Z", false)
  | 40 => ("ShrinkDeskModel", "known", "I", false)
  | 41 => ("ShrinkDeskModel", "knownSize", "[I", true)
  | 42 => ("ShrinkDeskModel", "knownText", "[I", true)
  | 43 => ("ShrinkDeskModel", "probes", "I", false)
  | 44 => ("ShrinkDeskModel", "hits", "I", false)
  | 45 => ("ShrinkDeskModel", "reductions", "I", false)
  | 46 => ("ShrinkDeskModel", "left", "I", false)
  | 47 => ("ShrinkDeskModel", "isOver", "Z", false)
  | 48 => ("ShrinkDeskModel", "asked", "[I", true)
  | 49 => ("ShrinkDeskModel", "askedSize", "I", false)
  | 50 => ("ShrinkDeskModel", "base", "[I", true)
  | 51 => ("ShrinkDeskModel", "baseSize", "I", false)
  | 52 => ("ShrinkDeskModel", "there", "I", false)
  | 53 => ("ShrinkDeskModel", "units", "[I", true)
  | 54 => ("ShrinkDeskModel", "unitNode", "[I", true)
  | 55 => ("ShrinkDeskModel", "unitCount", "I", false)
  | 56 => ("ShrinkDeskModel", "gone", "[Z", true)
  | 57 => ("ShrinkDeskModel", "doneRow", "[Z", true)
  | 58 => ("ShrinkDeskModel", "moveBegin", "[I", true)
  | 59 => ("ShrinkDeskModel", "moveSize", "[I", true)
  | 60 => ("ShrinkDeskModel", "moveRule", "[I", true)
  | 61 => ("ShrinkDeskModel", "moveLoose", "[I", true)
  | 62 => ("ShrinkDeskModel", "moveDepth", "[I", true)
  | _ => ("ShrinkDeskModel", "moveNodes", "I", false)
def tyX9 : Nat → FieldType := fun k => match k with
  | 0 => .array .int
  | 1 => .int
  | 2 => .array .int
  | 3 => .int
  | 4 => .int
  | 5 => .array .int
  | 6 => .array .int
  | 7 => .array .int
  | 8 => .array .int
  | 9 => .array .int
  | 10 => .array .boolean
  | 11 => .boolean
  | 12 => .int
  | 13 => .int
  | 14 => .int
  | 15 => .int
  | 16 => .array .int
  | 17 => .array .int
  | 18 => .array .int
  | 19 => .array .int
  | 20 => .array .int
  | 21 => .array .boolean
  | 22 => .array .boolean
  | 23 => .array .int
  | 24 => .array .int
  | 25 => .int
  | 26 => .array .int
  | 27 => .int
  | 28 => .array .int
  | 29 => .array .int
  | 30 => .array .int
  | 31 => .array .int
  | 32 => .array .int
  | 33 => .array .int
  | 34 => .array .int
  | 35 => .array .int
  | 36 => .array .int
  | 37 => .array .int
  | 38 => .array .int
  | 39 => .boolean
  | 40 => .int
  | 41 => .array .int
  | 42 => .array .int
  | 43 => .int
  | 44 => .int
  | 45 => .int
  | 46 => .int
  | 47 => .boolean
  | 48 => .array .int
  | 49 => .int
  | 50 => .array .int
  | 51 => .int
  | 52 => .int
  | 53 => .array .int
  | 54 => .array .int
  | 55 => .int
  | 56 => .array .boolean
  | 57 => .array .boolean
  | 58 => .array .int
  | 59 => .array .int
  | 60 => .array .int
  | 61 => .array .int
  | 62 => .array .int
  | _ => .int
abbrev wsX90 : List Cond := u_ws RX9 TX9 64
theorem nmX9 : ∀ a, a < 64 → ∀ b, b < 64 → a ≠ b → (TX9 a).2.1 ≠ (TX9 b).2.1 := by decide +kernel
theorem tyX9_ok : ∀ k, k < 64 → parseFieldDescriptor (TX9 k).2.2.1 = some (tyX9 k) := by decide +kernel
abbrev cX9_init : ByteArray := prog_11_method_1_code
def yX9_init : MethodName := ⟨RX9, "<init>", "()V"⟩
abbrev cX9_isText : ByteArray := prog_11_method_3_code
def yX9_isText : MethodName := ⟨RX9, "isText", "(I)Z"⟩
abbrev cX9_isName : ByteArray := prog_11_method_4_code
def yX9_isName : MethodName := ⟨RX9, "isName", "(I)Z"⟩
abbrev cX9_type : ByteArray := prog_11_method_5_code
def yX9_type : MethodName := ⟨RX9, "type", "(C)Z"⟩
abbrev cX9_clear : ByteArray := prog_11_method_6_code
def yX9_clear : MethodName := ⟨RX9, "clear", "()V"⟩
abbrev cX9_write : ByteArray := prog_11_method_7_code
def yX9_write : MethodName := ⟨RX9, "write", "(C)Z"⟩
abbrev cX9_push : ByteArray := prog_11_method_8_code
def yX9_push : MethodName := ⟨RX9, "push", "(III)V"⟩
abbrev cX9_has : ByteArray := prog_11_method_9_code
def yX9_has : MethodName := ⟨RX9, "has", "(CI)Z"⟩
abbrev cX9_pair : ByteArray := prog_11_method_10_code
def yX9_pair : MethodName := ⟨RX9, "pair", "(CCZ)Z"⟩
abbrev cX9_size : ByteArray := prog_11_method_11_code
def yX9_size : MethodName := ⟨RX9, "size", "(I)Z"⟩
abbrev cX9_copyStep : ByteArray := prog_11_method_12_code
def yX9_copyStep : MethodName := ⟨RX9, "copyStep", "(II)V"⟩
abbrev cX9_not : ByteArray := prog_11_method_13_code
def yX9_not : MethodName := ⟨RX9, "not", "()Z"⟩
abbrev cX9_join : ByteArray := prog_11_method_14_code
def yX9_join : MethodName := ⟨RX9, "join", "(Z)Z"⟩
abbrev cX9_mark : ByteArray := prog_11_method_15_code
def yX9_mark : MethodName := ⟨RX9, "mark", "(Z)Z"⟩
abbrev cX9_holdsStep : ByteArray := prog_11_method_16_code
def yX9_holdsStep : MethodName := ⟨RX9, "holdsStep", "(I[II)Z"⟩
abbrev cX9_holds : ByteArray := prog_11_method_17_code
def yX9_holds : MethodName := ⟨RX9, "holds", "(I[II)Z"⟩
abbrev cX9_outcomeOf : ByteArray := prog_11_method_18_code
def yX9_outcomeOf : MethodName := ⟨RX9, "outcomeOf", "([II)I"⟩
abbrev cX9_outcome : ByteArray := prog_11_method_19_code
def yX9_outcome : MethodName := ⟨RX9, "outcome", "()I"⟩
abbrev cX9_readRules : ByteArray := prog_11_method_20_code
def yX9_readRules : MethodName := ⟨RX9, "readRules", "()Z"⟩
abbrev cX9_beginAlternative : ByteArray := prog_11_method_21_code
def yX9_beginAlternative : MethodName := ⟨RX9, "beginAlternative", "()V"⟩
abbrev cX9_areNamesThere : ByteArray := prog_11_method_22_code
def yX9_areNamesThere : MethodName := ⟨RX9, "areNamesThere", "()Z"⟩
abbrev cX9_isVoid : ByteArray := prog_11_method_23_code
def yX9_isVoid : MethodName := ⟨RX9, "isVoid", "(I)Z"⟩
abbrev cX9_findEmptiable : ByteArray := prog_11_method_24_code
def yX9_findEmptiable : MethodName := ⟨RX9, "findEmptiable", "()V"⟩
abbrev cX9_findLeads : ByteArray := prog_11_method_25_code
def yX9_findLeads : MethodName := ⟨RX9, "findLeads", "()V"⟩
abbrev cX9_findOrder : ByteArray := prog_11_method_26_code
def yX9_findOrder : MethodName := ⟨RX9, "findOrder", "()Z"⟩
abbrev cX9_clearDone : ByteArray := prog_11_method_27_code
def yX9_clearDone : MethodName := ⟨RX9, "clearDone", "()V"⟩
abbrev cX9_read : ByteArray := prog_11_method_28_code
def yX9_read : MethodName := ⟨RX9, "read", "()I"⟩
abbrev cX9_once : ByteArray := prog_11_method_29_code
def yX9_once : MethodName := ⟨RX9, "once", "(II)I"⟩
abbrev cX9_again : ByteArray := prog_11_method_30_code
def yX9_again : MethodName := ⟨RX9, "again", "(II)I"⟩
abbrev cX9_endOf : ByteArray := prog_11_method_31_code
def yX9_endOf : MethodName := ⟨RX9, "endOf", "(II)I"⟩
abbrev cX9_alternativeOf : ByteArray := prog_11_method_32_code
def yX9_alternativeOf : MethodName := ⟨RX9, "alternativeOf", "(II)I"⟩
abbrev cX9_findEnds : ByteArray := prog_11_method_33_code
def yX9_findEnds : MethodName := ⟨RX9, "findEnds", "()V"⟩
abbrev cX9_addNode : ByteArray := prog_11_method_34_code
def yX9_addNode : MethodName := ⟨RX9, "addNode", "(IIIIII)Z"⟩
abbrev cX9_openFrame : ByteArray := prog_11_method_35_code
def yX9_openFrame : MethodName := ⟨RX9, "openFrame", "(II)V"⟩
abbrev cX9_taking : ByteArray := prog_11_method_36_code
def yX9_taking : MethodName := ⟨RX9, "taking", "(III)I"⟩
abbrev cX9_isLoose : ByteArray := prog_11_method_37_code
def yX9_isLoose : MethodName := ⟨RX9, "isLoose", "(III)I"⟩
abbrev cX9_buildTree : ByteArray := prog_11_method_38_code
def yX9_buildTree : MethodName := ⟨RX9, "buildTree", "()Z"⟩
abbrev cX9_parse : ByteArray := prog_11_method_39_code
def yX9_parse : MethodName := ⟨RX9, "parse", "([II)Z"⟩
abbrev cX9_nodes : ByteArray := prog_11_method_40_code
def yX9_nodes : MethodName := ⟨RX9, "nodes", "()I"⟩
abbrev cX9_node : ByteArray := prog_11_method_41_code
def yX9_node : MethodName := ⟨RX9, "node", "(I)I"⟩
abbrev cX9_depth : ByteArray := prog_11_method_42_code
def yX9_depth : MethodName := ⟨RX9, "depth", "(I)I"⟩
abbrev cX9_isKnown : ByteArray := prog_11_method_43_code
def yX9_isKnown : MethodName := ⟨RX9, "isKnown", "(I)Z"⟩
abbrev cX9_keep : ByteArray := prog_11_method_44_code
def yX9_keep : MethodName := ⟨RX9, "keep", "()V"⟩
abbrev cX9_ask : ByteArray := prog_11_method_45_code
def yX9_ask : MethodName := ⟨RX9, "ask", "()Z"⟩
abbrev cX9_askBits : ByteArray := prog_11_method_46_code
def yX9_askBits : MethodName := ⟨RX9, "askBits", "(I)Z"⟩
abbrev cX9_unitBits : ByteArray := prog_11_method_47_code
def yX9_unitBits : MethodName := ⟨RX9, "unitBits", "(II)I"⟩
abbrev cX9_drop : ByteArray := prog_11_method_48_code
def yX9_drop : MethodName := ⟨RX9, "drop", "(II)V"⟩
abbrev cX9_round : ByteArray := prog_11_method_49_code
def yX9_round : MethodName := ⟨RX9, "round", "(I)I"⟩
abbrev cX9_lessen : ByteArray := prog_11_method_50_code
def yX9_lessen : MethodName := ⟨RX9, "lessen", "()V"⟩
abbrev cX9_addUnit : ByteArray := prog_11_method_51_code
def yX9_addUnit : MethodName := ⟨RX9, "addUnit", "(II)V"⟩
abbrev cX9_run : ByteArray := prog_11_method_52_code
def yX9_run : MethodName := ⟨RX9, "run", "(II)I"⟩
abbrev cX9_setBase : ByteArray := prog_11_method_53_code
def yX9_setBase : MethodName := ⟨RX9, "setBase", "()V"⟩
abbrev cX9_byPlaces : ByteArray := prog_11_method_54_code
def yX9_byPlaces : MethodName := ⟨RX9, "byPlaces", "(Z)V"⟩
abbrev cX9_isKept : ByteArray := prog_11_method_55_code
def yX9_isKept : MethodName := ⟨RX9, "isKept", "(I)Z"⟩
abbrev cX9_byDepths : ByteArray := prog_11_method_56_code
def yX9_byDepths : MethodName := ⟨RX9, "byDepths", "()V"⟩
abbrev cX9_againByDepths : ByteArray := prog_11_method_57_code
def yX9_againByDepths : MethodName := ⟨RX9, "againByDepths", "()V"⟩
abbrev cX9_take : ByteArray := prog_11_method_58_code
def yX9_take : MethodName := ⟨RX9, "take", "(IIII)Z"⟩
abbrev cX9_movesOf : ByteArray := prog_11_method_59_code
def yX9_movesOf : MethodName := ⟨RX9, "movesOf", "(I)Z"⟩
abbrev cX9_move : ByteArray := prog_11_method_60_code
def yX9_move : MethodName := ⟨RX9, "move", "()Z"⟩
abbrev cX9_reduce : ByteArray := prog_11_method_61_code
def yX9_reduce : MethodName := ⟨RX9, "reduce", "(II)I"⟩
abbrev cX9_remember : ByteArray := prog_11_method_62_code
def yX9_remember : MethodName := ⟨RX9, "remember", "(Z)V"⟩
abbrev cX9_length : ByteArray := prog_11_method_63_code
def yX9_length : MethodName := ⟨RX9, "length", "()I"⟩
abbrev cX9_at : ByteArray := prog_11_method_64_code
def yX9_at : MethodName := ⟨RX9, "at", "(I)C"⟩
abbrev cX9_count : ByteArray := prog_11_method_65_code
def yX9_count : MethodName := ⟨RX9, "count", "(I)I"⟩
def RL : String := "ShrinkDeskLaw"
abbrev cL_law : ByteArray := code
def yL_law : MethodName := ⟨RL, "law", "([I)Z"⟩
abbrev vwCl : List vw_C := [(RX0, TX0, 17), (RX1, TX1, 11), (RX2, TX2, 10), (RX3, TX3, 8), (RX4, TX4, 7), (RX5, TX5, 7), (RX6, TX6, 2), (RX7, TX7, 10), (RX8, TX8, 11), (RX9, TX9, 64)]
end
section
theorem dX0_init_0 : decode cX0_init 0 = .ok (.aload_n 0, 1) := by decide +kernel
theorem dX0_init_1 : decode cX0_init 1 = .ok (.invokespecial 3, 3) := by decide +kernel
theorem dX0_init_4 : decode cX0_init 4 = .ok (.aload_n 0, 1) := by decide +kernel
theorem dX0_init_5 : decode cX0_init 5 = .ok (.bipush 6, 2) := by decide +kernel
theorem dX0_init_7 : decode cX0_init 7 = .ok (.newarray .int, 2) := by decide +kernel
theorem dX0_init_9 : decode cX0_init 9 = .ok (.putfield 9, 3) := by decide +kernel
theorem dX0_init_12 : decode cX0_init 12 = .ok (.aload_n 0, 1) := by decide +kernel
theorem dX0_init_13 : decode cX0_init 13 = .ok (.bipush 60, 2) := by decide +kernel
theorem dX0_init_15 : decode cX0_init 15 = .ok (.newarray .char, 2) := by decide +kernel
theorem dX0_init_17 : decode cX0_init 17 = .ok (.putfield 15, 3) := by decide +kernel
theorem dX0_init_20 : decode cX0_init 20 = .ok (.aload_n 0, 1) := by decide +kernel
theorem dX0_init_21 : decode cX0_init 21 = .ok (.bipush 60, 2) := by decide +kernel
theorem dX0_init_23 : decode cX0_init 23 = .ok (.newarray .char, 2) := by decide +kernel
theorem dX0_init_25 : decode cX0_init 25 = .ok (.putfield 19, 3) := by decide +kernel
theorem dX0_init_28 : decode cX0_init 28 = .ok (.aload_n 0, 1) := by decide +kernel
theorem dX0_init_29 : decode cX0_init 29 = .ok (.bipush 60, 2) := by decide +kernel
theorem dX0_init_31 : decode cX0_init 31 = .ok (.newarray .int, 2) := by decide +kernel
theorem dX0_init_33 : decode cX0_init 33 = .ok (.putfield 22, 3) := by decide +kernel
theorem dX0_init_36 : decode cX0_init 36 = .ok (.aload_n 0, 1) := by decide +kernel
theorem dX0_init_37 : decode cX0_init 37 = .ok (.bipush 61, 2) := by decide +kernel
theorem dX0_init_39 : decode cX0_init 39 = .ok (.newarray .int, 2) := by decide +kernel
theorem dX0_init_41 : decode cX0_init 41 = .ok (.putfield 25, 3) := by decide +kernel
theorem dX0_init_44 : decode cX0_init 44 = .ok (.aload_n 0, 1) := by decide +kernel
theorem dX0_init_45 : decode cX0_init 45 = .ok (.bipush 6, 2) := by decide +kernel
theorem dX0_init_47 : decode cX0_init 47 = .ok (.newarray .int, 2) := by decide +kernel
theorem dX0_init_49 : decode cX0_init 49 = .ok (.putfield 28, 3) := by decide +kernel
theorem dX0_init_52 : decode cX0_init 52 = .ok (.aload_n 0, 1) := by decide +kernel
theorem dX0_init_53 : decode cX0_init 53 = .ok (.bipush 6, 2) := by decide +kernel
theorem dX0_init_55 : decode cX0_init 55 = .ok (.newarray .int, 2) := by decide +kernel
theorem dX0_init_57 : decode cX0_init 57 = .ok (.putfield 31, 3) := by decide +kernel
theorem dX0_init_60 : decode cX0_init 60 = .ok (.aload_n 0, 1) := by decide +kernel
theorem dX0_init_61 : decode cX0_init 61 = .ok (.bipush 6, 2) := by decide +kernel
theorem dX0_init_63 : decode cX0_init 63 = .ok (.newarray .boolean, 2) := by decide +kernel
theorem dX0_init_65 : decode cX0_init 65 = .ok (.putfield 34, 3) := by decide +kernel
theorem dX0_init_68 : decode cX0_init 68 = .ok (.aload_n 0, 1) := by decide +kernel
theorem dX0_init_69 : decode cX0_init 69 = .ok (.bipush 6, 2) := by decide +kernel
theorem dX0_init_71 : decode cX0_init 71 = .ok (.newarray .boolean, 2) := by decide +kernel
theorem dX0_init_73 : decode cX0_init 73 = .ok (.putfield 38, 3) := by decide +kernel
theorem dX0_init_76 : decode cX0_init 76 = .ok (.aload_n 0, 1) := by decide +kernel
theorem dX0_init_77 : decode cX0_init 77 = .ok (.bipush 6, 2) := by decide +kernel
theorem dX0_init_79 : decode cX0_init 79 = .ok (.newarray .boolean, 2) := by decide +kernel
theorem dX0_init_81 : decode cX0_init 81 = .ok (.putfield 41, 3) := by decide +kernel
theorem dX0_init_84 : decode cX0_init 84 = .ok (.return_, 1) := by decide +kernel
theorem dX0_become_0 : decode cX0_become 0 = .ok (.aload_n 0, 1) := by decide +kernel
theorem dX0_become_1 : decode cX0_become 1 = .ok (.invokevirtual 44, 3) := by decide +kernel
theorem dX0_become_4 : decode cX0_become 4 = .ok (.aload_n 0, 1) := by decide +kernel
theorem dX0_become_5 : decode cX0_become 5 = .ok (.aload_n 0, 1) := by decide +kernel
theorem dX0_become_6 : decode cX0_become 6 = .ok (.aload_n 1, 1) := by decide +kernel
theorem dX0_become_7 : decode cX0_become 7 = .ok (.iload_n 2, 1) := by decide +kernel
theorem dX0_become_8 : decode cX0_become 8 = .ok (.invokevirtual 47, 3) := by decide +kernel
theorem dX0_become_11 : decode cX0_become 11 = .ok (.ifCond .eq 14, 3) := by decide +kernel
theorem dX0_become_14 : decode cX0_become 14 = .ok (.aload_n 0, 1) := by decide +kernel
theorem dX0_become_15 : decode cX0_become 15 = .ok (.invokevirtual 51, 3) := by decide +kernel
theorem dX0_become_18 : decode cX0_become 18 = .ok (.ifCond .eq 7, 3) := by decide +kernel
theorem dX0_become_21 : decode cX0_become 21 = .ok (.iconst 1, 1) := by decide +kernel
theorem dX0_become_22 : decode cX0_become 22 = .ok (.goto 4, 3) := by decide +kernel
theorem dX0_become_25 : decode cX0_become 25 = .ok (.iconst 0, 1) := by decide +kernel
theorem dX0_become_26 : decode cX0_become 26 = .ok (.putfield 55, 3) := by decide +kernel
theorem dX0_become_29 : decode cX0_become 29 = .ok (.aload_n 0, 1) := by decide +kernel
theorem dX0_become_30 : decode cX0_become 30 = .ok (.getfield 55, 3) := by decide +kernel
theorem dX0_become_33 : decode cX0_become 33 = .ok (.ifCond .eq 31, 3) := by decide +kernel
theorem dX0_become_36 : decode cX0_become 36 = .ok (.aload_n 0, 1) := by decide +kernel
theorem dX0_become_37 : decode cX0_become 37 = .ok (.invokevirtual 59, 3) := by decide +kernel
theorem dX0_become_40 : decode cX0_become 40 = .ok (.aload_n 0, 1) := by decide +kernel
theorem dX0_become_41 : decode cX0_become 41 = .ok (.invokevirtual 62, 3) := by decide +kernel
theorem dX0_become_44 : decode cX0_become 44 = .ok (.aload_n 0, 1) := by decide +kernel
theorem dX0_become_45 : decode cX0_become 45 = .ok (.aload_n 0, 1) := by decide +kernel
theorem dX0_become_46 : decode cX0_become 46 = .ok (.getfield 65, 3) := by decide +kernel
theorem dX0_become_49 : decode cX0_become 49 = .ok (.aload_n 0, 1) := by decide +kernel
theorem dX0_become_50 : decode cX0_become 50 = .ok (.getfield 69, 3) := by decide +kernel
theorem dX0_become_53 : decode cX0_become 53 = .ok (.if_icmp .ne 7, 3) := by decide +kernel
theorem dX0_become_56 : decode cX0_become 56 = .ok (.iconst 1, 1) := by decide +kernel
theorem dX0_become_57 : decode cX0_become 57 = .ok (.goto 4, 3) := by decide +kernel
theorem dX0_become_60 : decode cX0_become 60 = .ok (.iconst 0, 1) := by decide +kernel
theorem dX0_become_61 : decode cX0_become 61 = .ok (.putfield 55, 3) := by decide +kernel
theorem dX0_become_64 : decode cX0_become 64 = .ok (.return_, 1) := by decide +kernel
theorem dX0_firstOf_0 : decode cX0_firstOf 0 = .ok (.iload_n 1, 1) := by decide +kernel
theorem dX0_firstOf_1 : decode cX0_firstOf 1 = .ok (.ifCond .lt 18, 3) := by decide +kernel
theorem dX0_firstOf_4 : decode cX0_firstOf 4 = .ok (.iload_n 1, 1) := by decide +kernel
theorem dX0_firstOf_5 : decode cX0_firstOf 5 = .ok (.bipush 6, 2) := by decide +kernel
theorem dX0_firstOf_7 : decode cX0_firstOf 7 = .ok (.if_icmp .ge 12, 3) := by decide +kernel
theorem dX0_firstOf_10 : decode cX0_firstOf 10 = .ok (.aload_n 0, 1) := by decide +kernel
theorem dX0_firstOf_11 : decode cX0_firstOf 11 = .ok (.getfield 34, 3) := by decide +kernel
theorem dX0_firstOf_14 : decode cX0_firstOf 14 = .ok (.iload_n 1, 1) := by decide +kernel
theorem dX0_firstOf_15 : decode cX0_firstOf 15 = .ok (.baload, 1) := by decide +kernel
theorem dX0_firstOf_16 : decode cX0_firstOf 16 = .ok (.ifCond .ne 7, 3) := by decide +kernel
theorem dX0_firstOf_19 : decode cX0_firstOf 19 = .ok (.iconst 0, 1) := by decide +kernel
theorem dX0_firstOf_20 : decode cX0_firstOf 20 = .ok (.goto 9, 3) := by decide +kernel
theorem dX0_firstOf_23 : decode cX0_firstOf 23 = .ok (.aload_n 0, 1) := by decide +kernel
theorem dX0_firstOf_24 : decode cX0_firstOf 24 = .ok (.getfield 28, 3) := by decide +kernel
theorem dX0_firstOf_27 : decode cX0_firstOf 27 = .ok (.iload_n 1, 1) := by decide +kernel
theorem dX0_firstOf_28 : decode cX0_firstOf 28 = .ok (.iaload, 1) := by decide +kernel
theorem dX0_firstOf_29 : decode cX0_firstOf 29 = .ok (.ireturn, 1) := by decide +kernel
theorem dX0_endOf_0 : decode cX0_endOf 0 = .ok (.iload_n 1, 1) := by decide +kernel
theorem dX0_endOf_1 : decode cX0_endOf 1 = .ok (.ifCond .lt 18, 3) := by decide +kernel
theorem dX0_endOf_4 : decode cX0_endOf 4 = .ok (.iload_n 1, 1) := by decide +kernel
theorem dX0_endOf_5 : decode cX0_endOf 5 = .ok (.bipush 6, 2) := by decide +kernel
theorem dX0_endOf_7 : decode cX0_endOf 7 = .ok (.if_icmp .ge 12, 3) := by decide +kernel
theorem dX0_endOf_10 : decode cX0_endOf 10 = .ok (.aload_n 0, 1) := by decide +kernel
theorem dX0_endOf_11 : decode cX0_endOf 11 = .ok (.getfield 34, 3) := by decide +kernel
theorem dX0_endOf_14 : decode cX0_endOf 14 = .ok (.iload_n 1, 1) := by decide +kernel
theorem dX0_endOf_15 : decode cX0_endOf 15 = .ok (.baload, 1) := by decide +kernel
theorem dX0_endOf_16 : decode cX0_endOf 16 = .ok (.ifCond .ne 7, 3) := by decide +kernel
theorem dX0_endOf_19 : decode cX0_endOf 19 = .ok (.iconst 0, 1) := by decide +kernel
theorem dX0_endOf_20 : decode cX0_endOf 20 = .ok (.goto 9, 3) := by decide +kernel
theorem dX0_endOf_23 : decode cX0_endOf 23 = .ok (.aload_n 0, 1) := by decide +kernel
theorem dX0_endOf_24 : decode cX0_endOf 24 = .ok (.getfield 31, 3) := by decide +kernel
theorem dX0_endOf_27 : decode cX0_endOf 27 = .ok (.iload_n 1, 1) := by decide +kernel
theorem dX0_endOf_28 : decode cX0_endOf 28 = .ok (.iaload, 1) := by decide +kernel
theorem dX0_endOf_29 : decode cX0_endOf 29 = .ok (.ireturn, 1) := by decide +kernel
theorem dX0_firstItemOf_0 : decode cX0_firstItemOf 0 = .ok (.iload_n 1, 1) := by decide +kernel
theorem dX0_firstItemOf_1 : decode cX0_firstItemOf 1 = .ok (.ifCond .lt 11, 3) := by decide +kernel
theorem dX0_firstItemOf_4 : decode cX0_firstItemOf 4 = .ok (.iload_n 1, 1) := by decide +kernel
theorem dX0_firstItemOf_5 : decode cX0_firstItemOf 5 = .ok (.aload_n 0, 1) := by decide +kernel
theorem dX0_firstItemOf_6 : decode cX0_firstItemOf 6 = .ok (.getfield 72, 3) := by decide +kernel
theorem dX0_firstItemOf_9 : decode cX0_firstItemOf 9 = .ok (.if_icmp .lt 7, 3) := by decide +kernel
theorem dX0_firstItemOf_12 : decode cX0_firstItemOf 12 = .ok (.iconst 0, 1) := by decide +kernel
theorem dX0_firstItemOf_13 : decode cX0_firstItemOf 13 = .ok (.goto 9, 3) := by decide +kernel
theorem dX0_firstItemOf_16 : decode cX0_firstItemOf 16 = .ok (.aload_n 0, 1) := by decide +kernel
theorem dX0_firstItemOf_17 : decode cX0_firstItemOf 17 = .ok (.getfield 25, 3) := by decide +kernel
theorem dX0_firstItemOf_20 : decode cX0_firstItemOf 20 = .ok (.iload_n 1, 1) := by decide +kernel
theorem dX0_firstItemOf_21 : decode cX0_firstItemOf 21 = .ok (.iaload, 1) := by decide +kernel
theorem dX0_firstItemOf_22 : decode cX0_firstItemOf 22 = .ok (.ireturn, 1) := by decide +kernel
theorem dX0_endItemOf_0 : decode cX0_endItemOf 0 = .ok (.iload_n 1, 1) := by decide +kernel
theorem dX0_endItemOf_1 : decode cX0_endItemOf 1 = .ok (.ifCond .lt 11, 3) := by decide +kernel
theorem dX0_endItemOf_4 : decode cX0_endItemOf 4 = .ok (.iload_n 1, 1) := by decide +kernel
theorem dX0_endItemOf_5 : decode cX0_endItemOf 5 = .ok (.aload_n 0, 1) := by decide +kernel
theorem dX0_endItemOf_6 : decode cX0_endItemOf 6 = .ok (.getfield 72, 3) := by decide +kernel
theorem dX0_endItemOf_9 : decode cX0_endItemOf 9 = .ok (.if_icmp .lt 7, 3) := by decide +kernel
theorem dX0_endItemOf_12 : decode cX0_endItemOf 12 = .ok (.iconst 0, 1) := by decide +kernel
theorem dX0_endItemOf_13 : decode cX0_endItemOf 13 = .ok (.goto 11, 3) := by decide +kernel
theorem dX0_endItemOf_16 : decode cX0_endItemOf 16 = .ok (.aload_n 0, 1) := by decide +kernel
theorem dX0_endItemOf_17 : decode cX0_endItemOf 17 = .ok (.getfield 25, 3) := by decide +kernel
theorem dX0_endItemOf_20 : decode cX0_endItemOf 20 = .ok (.iload_n 1, 1) := by decide +kernel
theorem dX0_endItemOf_21 : decode cX0_endItemOf 21 = .ok (.iconst 1, 1) := by decide +kernel
theorem dX0_endItemOf_22 : decode cX0_endItemOf 22 = .ok (.iadd, 1) := by decide +kernel
theorem dX0_endItemOf_23 : decode cX0_endItemOf 23 = .ok (.iaload, 1) := by decide +kernel
theorem dX0_endItemOf_24 : decode cX0_endItemOf 24 = .ok (.ireturn, 1) := by decide +kernel
theorem dX0_whatOf_0 : decode cX0_whatOf 0 = .ok (.iload_n 1, 1) := by decide +kernel
theorem dX0_whatOf_1 : decode cX0_whatOf 1 = .ok (.ifCond .lt 11, 3) := by decide +kernel
theorem dX0_whatOf_4 : decode cX0_whatOf 4 = .ok (.iload_n 1, 1) := by decide +kernel
theorem dX0_whatOf_5 : decode cX0_whatOf 5 = .ok (.aload_n 0, 1) := by decide +kernel
theorem dX0_whatOf_6 : decode cX0_whatOf 6 = .ok (.getfield 75, 3) := by decide +kernel
theorem dX0_whatOf_9 : decode cX0_whatOf 9 = .ok (.if_icmp .lt 8, 3) := by decide +kernel
theorem dX0_whatOf_12 : decode cX0_whatOf 12 = .ok (.bipush 32, 2) := by decide +kernel
theorem dX0_whatOf_14 : decode cX0_whatOf 14 = .ok (.goto 9, 3) := by decide +kernel
theorem dX0_whatOf_17 : decode cX0_whatOf 17 = .ok (.aload_n 0, 1) := by decide +kernel
theorem dX0_whatOf_18 : decode cX0_whatOf 18 = .ok (.getfield 15, 3) := by decide +kernel
theorem dX0_whatOf_21 : decode cX0_whatOf 21 = .ok (.iload_n 1, 1) := by decide +kernel
theorem dX0_whatOf_22 : decode cX0_whatOf 22 = .ok (.caload, 1) := by decide +kernel
theorem dX0_whatOf_23 : decode cX0_whatOf 23 = .ok (.ireturn, 1) := by decide +kernel
theorem dX0_ruleOf_0 : decode cX0_ruleOf 0 = .ok (.iload_n 1, 1) := by decide +kernel
theorem dX0_ruleOf_1 : decode cX0_ruleOf 1 = .ok (.ifCond .lt 11, 3) := by decide +kernel
theorem dX0_ruleOf_4 : decode cX0_ruleOf 4 = .ok (.iload_n 1, 1) := by decide +kernel
theorem dX0_ruleOf_5 : decode cX0_ruleOf 5 = .ok (.aload_n 0, 1) := by decide +kernel
theorem dX0_ruleOf_6 : decode cX0_ruleOf 6 = .ok (.getfield 75, 3) := by decide +kernel
theorem dX0_ruleOf_9 : decode cX0_ruleOf 9 = .ok (.if_icmp .lt 8, 3) := by decide +kernel
theorem dX0_ruleOf_12 : decode cX0_ruleOf 12 = .ok (.bipush 6, 2) := by decide +kernel
theorem dX0_ruleOf_14 : decode cX0_ruleOf 14 = .ok (.goto 9, 3) := by decide +kernel
theorem dX0_ruleOf_17 : decode cX0_ruleOf 17 = .ok (.aload_n 0, 1) := by decide +kernel
theorem dX0_ruleOf_18 : decode cX0_ruleOf 18 = .ok (.getfield 22, 3) := by decide +kernel
theorem dX0_ruleOf_21 : decode cX0_ruleOf 21 = .ok (.iload_n 1, 1) := by decide +kernel
theorem dX0_ruleOf_22 : decode cX0_ruleOf 22 = .ok (.iaload, 1) := by decide +kernel
theorem dX0_ruleOf_23 : decode cX0_ruleOf 23 = .ok (.ireturn, 1) := by decide +kernel
theorem dX0_hasTail_0 : decode cX0_hasTail 0 = .ok (.iload_n 1, 1) := by decide +kernel
theorem dX0_hasTail_1 : decode cX0_hasTail 1 = .ok (.ifCond .lt 26, 3) := by decide +kernel
theorem dX0_hasTail_4 : decode cX0_hasTail 4 = .ok (.iload_n 1, 1) := by decide +kernel
theorem dX0_hasTail_5 : decode cX0_hasTail 5 = .ok (.aload_n 0, 1) := by decide +kernel
theorem dX0_hasTail_6 : decode cX0_hasTail 6 = .ok (.getfield 75, 3) := by decide +kernel
theorem dX0_hasTail_9 : decode cX0_hasTail 9 = .ok (.if_icmp .ge 18, 3) := by decide +kernel
theorem dX0_hasTail_12 : decode cX0_hasTail 12 = .ok (.aload_n 0, 1) := by decide +kernel
theorem dX0_hasTail_13 : decode cX0_hasTail 13 = .ok (.getfield 19, 3) := by decide +kernel
theorem dX0_hasTail_16 : decode cX0_hasTail 16 = .ok (.iload_n 1, 1) := by decide +kernel
theorem dX0_hasTail_17 : decode cX0_hasTail 17 = .ok (.caload, 1) := by decide +kernel
theorem dX0_hasTail_18 : decode cX0_hasTail 18 = .ok (.bipush 32, 2) := by decide +kernel
theorem dX0_hasTail_20 : decode cX0_hasTail 20 = .ok (.if_icmp .eq 7, 3) := by decide +kernel
theorem dX0_hasTail_23 : decode cX0_hasTail 23 = .ok (.iconst 1, 1) := by decide +kernel
theorem dX0_hasTail_24 : decode cX0_hasTail 24 = .ok (.goto 4, 3) := by decide +kernel
theorem dX0_hasTail_27 : decode cX0_hasTail 27 = .ok (.iconst 0, 1) := by decide +kernel
theorem dX0_hasTail_28 : decode cX0_hasTail 28 = .ok (.ireturn, 1) := by decide +kernel
theorem dX0_hasStar_0 : decode cX0_hasStar 0 = .ok (.iload_n 1, 1) := by decide +kernel
theorem dX0_hasStar_1 : decode cX0_hasStar 1 = .ok (.ifCond .lt 26, 3) := by decide +kernel
theorem dX0_hasStar_4 : decode cX0_hasStar 4 = .ok (.iload_n 1, 1) := by decide +kernel
theorem dX0_hasStar_5 : decode cX0_hasStar 5 = .ok (.aload_n 0, 1) := by decide +kernel
theorem dX0_hasStar_6 : decode cX0_hasStar 6 = .ok (.getfield 75, 3) := by decide +kernel
theorem dX0_hasStar_9 : decode cX0_hasStar 9 = .ok (.if_icmp .ge 18, 3) := by decide +kernel
theorem dX0_hasStar_12 : decode cX0_hasStar 12 = .ok (.aload_n 0, 1) := by decide +kernel
theorem dX0_hasStar_13 : decode cX0_hasStar 13 = .ok (.getfield 19, 3) := by decide +kernel
theorem dX0_hasStar_16 : decode cX0_hasStar 16 = .ok (.iload_n 1, 1) := by decide +kernel
theorem dX0_hasStar_17 : decode cX0_hasStar 17 = .ok (.caload, 1) := by decide +kernel
theorem dX0_hasStar_18 : decode cX0_hasStar 18 = .ok (.bipush 42, 2) := by decide +kernel
theorem dX0_hasStar_20 : decode cX0_hasStar 20 = .ok (.if_icmp .ne 7, 3) := by decide +kernel
theorem dX0_hasStar_23 : decode cX0_hasStar 23 = .ok (.iconst 1, 1) := by decide +kernel
theorem dX0_hasStar_24 : decode cX0_hasStar 24 = .ok (.goto 4, 3) := by decide +kernel
theorem dX0_hasStar_27 : decode cX0_hasStar 27 = .ok (.iconst 0, 1) := by decide +kernel
theorem dX0_hasStar_28 : decode cX0_hasStar 28 = .ok (.ireturn, 1) := by decide +kernel
theorem dX0_mayRepeat_0 : decode cX0_mayRepeat 0 = .ok (.iload_n 1, 1) := by decide +kernel
theorem dX0_mayRepeat_1 : decode cX0_mayRepeat 1 = .ok (.ifCond .lt 37, 3) := by decide +kernel
theorem dX0_mayRepeat_4 : decode cX0_mayRepeat 4 = .ok (.iload_n 1, 1) := by decide +kernel
theorem dX0_mayRepeat_5 : decode cX0_mayRepeat 5 = .ok (.aload_n 0, 1) := by decide +kernel
theorem dX0_mayRepeat_6 : decode cX0_mayRepeat 6 = .ok (.getfield 75, 3) := by decide +kernel
theorem dX0_mayRepeat_9 : decode cX0_mayRepeat 9 = .ok (.if_icmp .ge 29, 3) := by decide +kernel
theorem dX0_mayRepeat_12 : decode cX0_mayRepeat 12 = .ok (.aload_n 0, 1) := by decide +kernel
theorem dX0_mayRepeat_13 : decode cX0_mayRepeat 13 = .ok (.getfield 19, 3) := by decide +kernel
theorem dX0_mayRepeat_16 : decode cX0_mayRepeat 16 = .ok (.iload_n 1, 1) := by decide +kernel
theorem dX0_mayRepeat_17 : decode cX0_mayRepeat 17 = .ok (.caload, 1) := by decide +kernel
theorem dX0_mayRepeat_18 : decode cX0_mayRepeat 18 = .ok (.bipush 42, 2) := by decide +kernel
theorem dX0_mayRepeat_20 : decode cX0_mayRepeat 20 = .ok (.if_icmp .eq 14, 3) := by decide +kernel
theorem dX0_mayRepeat_23 : decode cX0_mayRepeat 23 = .ok (.aload_n 0, 1) := by decide +kernel
theorem dX0_mayRepeat_24 : decode cX0_mayRepeat 24 = .ok (.getfield 19, 3) := by decide +kernel
theorem dX0_mayRepeat_27 : decode cX0_mayRepeat 27 = .ok (.iload_n 1, 1) := by decide +kernel
theorem dX0_mayRepeat_28 : decode cX0_mayRepeat 28 = .ok (.caload, 1) := by decide +kernel
theorem dX0_mayRepeat_29 : decode cX0_mayRepeat 29 = .ok (.bipush 43, 2) := by decide +kernel
theorem dX0_mayRepeat_31 : decode cX0_mayRepeat 31 = .ok (.if_icmp .ne 7, 3) := by decide +kernel
theorem dX0_mayRepeat_34 : decode cX0_mayRepeat 34 = .ok (.iconst 1, 1) := by decide +kernel
theorem dX0_mayRepeat_35 : decode cX0_mayRepeat 35 = .ok (.goto 4, 3) := by decide +kernel
theorem dX0_mayRepeat_38 : decode cX0_mayRepeat 38 = .ok (.iconst 0, 1) := by decide +kernel
theorem dX0_mayRepeat_39 : decode cX0_mayRepeat 39 = .ok (.ireturn, 1) := by decide +kernel
theorem dX0_mayBeLeftOut_0 : decode cX0_mayBeLeftOut 0 = .ok (.iload_n 1, 1) := by decide +kernel
theorem dX0_mayBeLeftOut_1 : decode cX0_mayBeLeftOut 1 = .ok (.ifCond .lt 37, 3) := by decide +kernel
theorem dX0_mayBeLeftOut_4 : decode cX0_mayBeLeftOut 4 = .ok (.iload_n 1, 1) := by decide +kernel
theorem dX0_mayBeLeftOut_5 : decode cX0_mayBeLeftOut 5 = .ok (.aload_n 0, 1) := by decide +kernel
theorem dX0_mayBeLeftOut_6 : decode cX0_mayBeLeftOut 6 = .ok (.getfield 75, 3) := by decide +kernel
theorem dX0_mayBeLeftOut_9 : decode cX0_mayBeLeftOut 9 = .ok (.if_icmp .ge 29, 3) := by decide +kernel
theorem dX0_mayBeLeftOut_12 : decode cX0_mayBeLeftOut 12 = .ok (.aload_n 0, 1) := by decide +kernel
theorem dX0_mayBeLeftOut_13 : decode cX0_mayBeLeftOut 13 = .ok (.getfield 19, 3) := by decide +kernel
theorem dX0_mayBeLeftOut_16 : decode cX0_mayBeLeftOut 16 = .ok (.iload_n 1, 1) := by decide +kernel
theorem dX0_mayBeLeftOut_17 : decode cX0_mayBeLeftOut 17 = .ok (.caload, 1) := by decide +kernel
theorem dX0_mayBeLeftOut_18 : decode cX0_mayBeLeftOut 18 = .ok (.bipush 42, 2) := by decide +kernel
theorem dX0_mayBeLeftOut_20 : decode cX0_mayBeLeftOut 20 = .ok (.if_icmp .eq 14, 3) := by decide +kernel
theorem dX0_mayBeLeftOut_23 : decode cX0_mayBeLeftOut 23 = .ok (.aload_n 0, 1) := by decide +kernel
theorem dX0_mayBeLeftOut_24 : decode cX0_mayBeLeftOut 24 = .ok (.getfield 19, 3) := by decide +kernel
theorem dX0_mayBeLeftOut_27 : decode cX0_mayBeLeftOut 27 = .ok (.iload_n 1, 1) := by decide +kernel
theorem dX0_mayBeLeftOut_28 : decode cX0_mayBeLeftOut 28 = .ok (.caload, 1) := by decide +kernel
theorem dX0_mayBeLeftOut_29 : decode cX0_mayBeLeftOut 29 = .ok (.bipush 63, 2) := by decide +kernel
theorem dX0_mayBeLeftOut_31 : decode cX0_mayBeLeftOut 31 = .ok (.if_icmp .ne 7, 3) := by decide +kernel
theorem dX0_mayBeLeftOut_34 : decode cX0_mayBeLeftOut 34 = .ok (.iconst 1, 1) := by decide +kernel
theorem dX0_mayBeLeftOut_35 : decode cX0_mayBeLeftOut 35 = .ok (.goto 4, 3) := by decide +kernel
theorem dX0_mayBeLeftOut_38 : decode cX0_mayBeLeftOut 38 = .ok (.iconst 0, 1) := by decide +kernel
theorem dX0_mayBeLeftOut_39 : decode cX0_mayBeLeftOut 39 = .ok (.ireturn, 1) := by decide +kernel
theorem dX0_forget_0 : decode cX0_forget 0 = .ok (.aload_n 0, 1) := by decide +kernel
theorem dX0_forget_1 : decode cX0_forget 1 = .ok (.iconst 0, 1) := by decide +kernel
theorem dX0_forget_2 : decode cX0_forget 2 = .ok (.putfield 69, 3) := by decide +kernel
theorem dX0_forget_5 : decode cX0_forget 5 = .ok (.aload_n 0, 1) := by decide +kernel
theorem dX0_forget_6 : decode cX0_forget 6 = .ok (.iconst 0, 1) := by decide +kernel
theorem dX0_forget_7 : decode cX0_forget 7 = .ok (.putfield 65, 3) := by decide +kernel
theorem dX0_forget_10 : decode cX0_forget 10 = .ok (.aload_n 0, 1) := by decide +kernel
theorem dX0_forget_11 : decode cX0_forget 11 = .ok (.iconst 0, 1) := by decide +kernel
theorem dX0_forget_12 : decode cX0_forget 12 = .ok (.putfield 75, 3) := by decide +kernel
theorem dX0_forget_15 : decode cX0_forget 15 = .ok (.aload_n 0, 1) := by decide +kernel
theorem dX0_forget_16 : decode cX0_forget 16 = .ok (.iconst 0, 1) := by decide +kernel
theorem dX0_forget_17 : decode cX0_forget 17 = .ok (.putfield 72, 3) := by decide +kernel
theorem dX0_forget_20 : decode cX0_forget 20 = .ok (.iconst 0, 1) := by decide +kernel
theorem dX0_forget_21 : decode cX0_forget 21 = .ok (.istore_n 1, 1) := by decide +kernel
theorem dX0_forget_22 : decode cX0_forget 22 = .ok (.iload_n 1, 1) := by decide +kernel
theorem dX0_forget_23 : decode cX0_forget 23 = .ok (.bipush 6, 2) := by decide +kernel
theorem dX0_forget_25 : decode cX0_forget 25 = .ok (.if_icmp .ge 30, 3) := by decide +kernel
theorem dX0_forget_28 : decode cX0_forget 28 = .ok (.aload_n 0, 1) := by decide +kernel
theorem dX0_forget_29 : decode cX0_forget 29 = .ok (.getfield 34, 3) := by decide +kernel
theorem dX0_forget_32 : decode cX0_forget 32 = .ok (.iload_n 1, 1) := by decide +kernel
theorem dX0_forget_33 : decode cX0_forget 33 = .ok (.iconst 0, 1) := by decide +kernel
theorem dX0_forget_34 : decode cX0_forget 34 = .ok (.bastore, 1) := by decide +kernel
theorem dX0_forget_35 : decode cX0_forget 35 = .ok (.aload_n 0, 1) := by decide +kernel
theorem dX0_forget_36 : decode cX0_forget 36 = .ok (.getfield 38, 3) := by decide +kernel
theorem dX0_forget_39 : decode cX0_forget 39 = .ok (.iload_n 1, 1) := by decide +kernel
theorem dX0_forget_40 : decode cX0_forget 40 = .ok (.iconst 0, 1) := by decide +kernel
theorem dX0_forget_41 : decode cX0_forget 41 = .ok (.bastore, 1) := by decide +kernel
theorem dX0_forget_42 : decode cX0_forget 42 = .ok (.aload_n 0, 1) := by decide +kernel
theorem dX0_forget_43 : decode cX0_forget 43 = .ok (.getfield 41, 3) := by decide +kernel
theorem dX0_forget_46 : decode cX0_forget 46 = .ok (.iload_n 1, 1) := by decide +kernel
theorem dX0_forget_47 : decode cX0_forget 47 = .ok (.iconst 0, 1) := by decide +kernel
theorem dX0_forget_48 : decode cX0_forget 48 = .ok (.bastore, 1) := by decide +kernel
theorem dX0_forget_49 : decode cX0_forget 49 = .ok (.iinc 1 1, 3) := by decide +kernel
theorem dX0_forget_52 : decode cX0_forget 52 = .ok (.goto (-30), 3) := by decide +kernel
theorem dX0_forget_55 : decode cX0_forget 55 = .ok (.return_, 1) := by decide +kernel
theorem dX0_isCut_0 : decode cX0_isCut 0 = .ok (.iconst 0, 1) := by decide +kernel
theorem dX0_isCut_1 : decode cX0_isCut 1 = .ok (.istore_n 3, 1) := by decide +kernel
theorem dX0_isCut_2 : decode cX0_isCut 2 = .ok (.iconst 0, 1) := by decide +kernel
theorem dX0_isCut_3 : decode cX0_isCut 3 = .ok (.istore 4, 2) := by decide +kernel
theorem dX0_isCut_5 : decode cX0_isCut 5 = .ok (.iload 4, 2) := by decide +kernel
theorem dX0_isCut_7 : decode cX0_isCut 7 = .ok (.iload_n 2, 1) := by decide +kernel
theorem dX0_isCut_8 : decode cX0_isCut 8 = .ok (.if_icmp .ge 33, 3) := by decide +kernel
theorem dX0_isCut_11 : decode cX0_isCut 11 = .ok (.iload 4, 2) := by decide +kernel
theorem dX0_isCut_13 : decode cX0_isCut 13 = .ok (.aload_n 1, 1) := by decide +kernel
theorem dX0_isCut_14 : decode cX0_isCut 14 = .ok (.arraylength, 1) := by decide +kernel
theorem dX0_isCut_15 : decode cX0_isCut 15 = .ok (.if_icmp .ge 26, 3) := by decide +kernel
theorem dX0_isCut_18 : decode cX0_isCut 18 = .ok (.aload_n 0, 1) := by decide +kernel
theorem dX0_isCut_19 : decode cX0_isCut 19 = .ok (.iload_n 3, 1) := by decide +kernel
theorem dX0_isCut_20 : decode cX0_isCut 20 = .ok (.aload_n 1, 1) := by decide +kernel
theorem dX0_isCut_21 : decode cX0_isCut 21 = .ok (.iload 4, 2) := by decide +kernel
theorem dX0_isCut_23 : decode cX0_isCut 23 = .ok (.caload, 1) := by decide +kernel
theorem dX0_isCut_24 : decode cX0_isCut 24 = .ok (.invokevirtual 78, 3) := by decide +kernel
theorem dX0_isCut_27 : decode cX0_isCut 27 = .ok (.istore_n 3, 1) := by decide +kernel
theorem dX0_isCut_28 : decode cX0_isCut 28 = .ok (.iload_n 3, 1) := by decide +kernel
theorem dX0_isCut_29 : decode cX0_isCut 29 = .ok (.iconst (-1), 1) := by decide +kernel
theorem dX0_isCut_30 : decode cX0_isCut 30 = .ok (.if_icmp .ne 5, 3) := by decide +kernel
theorem dX0_isCut_33 : decode cX0_isCut 33 = .ok (.iconst 0, 1) := by decide +kernel
theorem dX0_isCut_34 : decode cX0_isCut 34 = .ok (.ireturn, 1) := by decide +kernel
theorem dX0_isCut_35 : decode cX0_isCut 35 = .ok (.iinc 4 1, 3) := by decide +kernel
theorem dX0_isCut_38 : decode cX0_isCut 38 = .ok (.goto (-33), 3) := by decide +kernel
theorem dX0_isCut_41 : decode cX0_isCut 41 = .ok (.aload_n 0, 1) := by decide +kernel
theorem dX0_isCut_42 : decode cX0_isCut 42 = .ok (.getfield 25, 3) := by decide +kernel
theorem dX0_isCut_45 : decode cX0_isCut 45 = .ok (.aload_n 0, 1) := by decide +kernel
theorem dX0_isCut_46 : decode cX0_isCut 46 = .ok (.getfield 72, 3) := by decide +kernel
theorem dX0_isCut_49 : decode cX0_isCut 49 = .ok (.aload_n 0, 1) := by decide +kernel
theorem dX0_isCut_50 : decode cX0_isCut 50 = .ok (.getfield 75, 3) := by decide +kernel
theorem dX0_isCut_53 : decode cX0_isCut 53 = .ok (.iastore, 1) := by decide +kernel
theorem dX0_isCut_54 : decode cX0_isCut 54 = .ok (.iload_n 3, 1) := by decide +kernel
theorem dX0_isCut_55 : decode cX0_isCut 55 = .ok (.ifCond .ne 14, 3) := by decide +kernel
theorem dX0_isCut_58 : decode cX0_isCut 58 = .ok (.aload_n 0, 1) := by decide +kernel
theorem dX0_isCut_59 : decode cX0_isCut 59 = .ok (.getfield 69, 3) := by decide +kernel
theorem dX0_isCut_62 : decode cX0_isCut 62 = .ok (.ifCond .le 7, 3) := by decide +kernel
theorem dX0_isCut_65 : decode cX0_isCut 65 = .ok (.iconst 1, 1) := by decide +kernel
theorem dX0_isCut_66 : decode cX0_isCut 66 = .ok (.goto 4, 3) := by decide +kernel
theorem dX0_isCut_69 : decode cX0_isCut 69 = .ok (.iconst 0, 1) := by decide +kernel
theorem dX0_isCut_70 : decode cX0_isCut 70 = .ok (.ireturn, 1) := by decide +kernel
theorem dX0_step_0 : decode cX0_step 0 = .ok (.iload_n 1, 1) := by decide +kernel
theorem dX0_step_1 : decode cX0_step 1 = .ok (.ifCond .ne 17, 3) := by decide +kernel
theorem dX0_step_4 : decode cX0_step 4 = .ok (.aload_n 0, 1) := by decide +kernel
theorem dX0_step_5 : decode cX0_step 5 = .ok (.iload_n 2, 1) := by decide +kernel
theorem dX0_step_6 : decode cX0_step 6 = .ok (.invokevirtual 82, 3) := by decide +kernel
theorem dX0_step_9 : decode cX0_step 9 = .ok (.ifCond .eq 7, 3) := by decide +kernel
theorem dX0_step_12 : decode cX0_step 12 = .ok (.iconst 1, 1) := by decide +kernel
theorem dX0_step_13 : decode cX0_step 13 = .ok (.goto 4, 3) := by decide +kernel
theorem dX0_step_16 : decode cX0_step 16 = .ok (.iconst (-1), 1) := by decide +kernel
theorem dX0_step_17 : decode cX0_step 17 = .ok (.ireturn, 1) := by decide +kernel
theorem dX0_step_18 : decode cX0_step 18 = .ok (.iload_n 1, 1) := by decide +kernel
theorem dX0_step_19 : decode cX0_step 19 = .ok (.iconst 1, 1) := by decide +kernel
theorem dX0_step_20 : decode cX0_step 20 = .ok (.if_icmp .ne 15, 3) := by decide +kernel
theorem dX0_step_23 : decode cX0_step 23 = .ok (.iload_n 2, 1) := by decide +kernel
theorem dX0_step_24 : decode cX0_step 24 = .ok (.bipush 61, 2) := by decide +kernel
theorem dX0_step_26 : decode cX0_step 26 = .ok (.if_icmp .ne 7, 3) := by decide +kernel
theorem dX0_step_29 : decode cX0_step 29 = .ok (.iconst 2, 1) := by decide +kernel
theorem dX0_step_30 : decode cX0_step 30 = .ok (.goto 4, 3) := by decide +kernel
theorem dX0_step_33 : decode cX0_step 33 = .ok (.iconst (-1), 1) := by decide +kernel
theorem dX0_step_34 : decode cX0_step 34 = .ok (.ireturn, 1) := by decide +kernel
theorem dX0_step_35 : decode cX0_step 35 = .ok (.iload_n 2, 1) := by decide +kernel
theorem dX0_step_36 : decode cX0_step 36 = .ok (.bipush 59, 2) := by decide +kernel
theorem dX0_step_38 : decode cX0_step 38 = .ok (.if_icmp .ne 18, 3) := by decide +kernel
theorem dX0_step_41 : decode cX0_step 41 = .ok (.aload_n 0, 1) := by decide +kernel
theorem dX0_step_42 : decode cX0_step 42 = .ok (.getfield 31, 3) := by decide +kernel
theorem dX0_step_45 : decode cX0_step 45 = .ok (.aload_n 0, 1) := by decide +kernel
theorem dX0_step_46 : decode cX0_step 46 = .ok (.getfield 86, 3) := by decide +kernel
theorem dX0_step_49 : decode cX0_step 49 = .ok (.aload_n 0, 1) := by decide +kernel
theorem dX0_step_50 : decode cX0_step 50 = .ok (.getfield 72, 3) := by decide +kernel
theorem dX0_step_53 : decode cX0_step 53 = .ok (.iastore, 1) := by decide +kernel
theorem dX0_step_54 : decode cX0_step 54 = .ok (.iconst 0, 1) := by decide +kernel
theorem dX0_step_55 : decode cX0_step 55 = .ok (.ireturn, 1) := by decide +kernel
theorem dX0_step_56 : decode cX0_step 56 = .ok (.iload_n 2, 1) := by decide +kernel
theorem dX0_step_57 : decode cX0_step 57 = .ok (.bipush 47, 2) := by decide +kernel
theorem dX0_step_59 : decode cX0_step 59 = .ok (.if_icmp .ne 9, 3) := by decide +kernel
theorem dX0_step_62 : decode cX0_step 62 = .ok (.aload_n 0, 1) := by decide +kernel
theorem dX0_step_63 : decode cX0_step 63 = .ok (.invokevirtual 89, 3) := by decide +kernel
theorem dX0_step_66 : decode cX0_step 66 = .ok (.iconst 2, 1) := by decide +kernel
theorem dX0_step_67 : decode cX0_step 67 = .ok (.ireturn, 1) := by decide +kernel
theorem dX0_step_68 : decode cX0_step 68 = .ok (.iload_n 2, 1) := by decide +kernel
theorem dX0_step_69 : decode cX0_step 69 = .ok (.invokestatic 92, 3) := by decide +kernel
theorem dX0_step_72 : decode cX0_step 72 = .ok (.ifCond .eq 32, 3) := by decide +kernel
theorem dX0_step_75 : decode cX0_step 75 = .ok (.iload_n 1, 1) := by decide +kernel
theorem dX0_step_76 : decode cX0_step 76 = .ok (.iconst 3, 1) := by decide +kernel
theorem dX0_step_77 : decode cX0_step 77 = .ok (.if_icmp .ne 11, 3) := by decide +kernel
theorem dX0_step_80 : decode cX0_step 80 = .ok (.aload_n 0, 1) := by decide +kernel
theorem dX0_step_81 : decode cX0_step 81 = .ok (.getfield 75, 3) := by decide +kernel
theorem dX0_step_84 : decode cX0_step 84 = .ok (.iconst 1, 1) := by decide +kernel
theorem dX0_step_85 : decode cX0_step 85 = .ok (.if_icmp .ge 5, 3) := by decide +kernel
theorem dX0_step_88 : decode cX0_step 88 = .ok (.iconst (-1), 1) := by decide +kernel
theorem dX0_step_89 : decode cX0_step 89 = .ok (.ireturn, 1) := by decide +kernel
theorem dX0_step_90 : decode cX0_step 90 = .ok (.aload_n 0, 1) := by decide +kernel
theorem dX0_step_91 : decode cX0_step 91 = .ok (.getfield 19, 3) := by decide +kernel
theorem dX0_step_94 : decode cX0_step 94 = .ok (.aload_n 0, 1) := by decide +kernel
theorem dX0_step_95 : decode cX0_step 95 = .ok (.getfield 75, 3) := by decide +kernel
theorem dX0_step_98 : decode cX0_step 98 = .ok (.iconst 1, 1) := by decide +kernel
theorem dX0_step_99 : decode cX0_step 99 = .ok (.isub, 1) := by decide +kernel
theorem dX0_step_100 : decode cX0_step 100 = .ok (.iload_n 2, 1) := by decide +kernel
theorem dX0_step_101 : decode cX0_step 101 = .ok (.castore, 1) := by decide +kernel
theorem dX0_step_102 : decode cX0_step 102 = .ok (.iconst 2, 1) := by decide +kernel
theorem dX0_step_103 : decode cX0_step 103 = .ok (.ireturn, 1) := by decide +kernel
theorem dX0_step_104 : decode cX0_step 104 = .ok (.iload_n 2, 1) := by decide +kernel
theorem dX0_step_105 : decode cX0_step 105 = .ok (.bipush 61, 2) := by decide +kernel
theorem dX0_step_107 : decode cX0_step 107 = .ok (.if_icmp .eq 15, 3) := by decide +kernel
theorem dX0_step_110 : decode cX0_step 110 = .ok (.aload_n 0, 1) := by decide +kernel
theorem dX0_step_111 : decode cX0_step 111 = .ok (.iload_n 2, 1) := by decide +kernel
theorem dX0_step_112 : decode cX0_step 112 = .ok (.invokevirtual 95, 3) := by decide +kernel
theorem dX0_step_115 : decode cX0_step 115 = .ok (.ifCond .eq 7, 3) := by decide +kernel
theorem dX0_step_118 : decode cX0_step 118 = .ok (.iconst 3, 1) := by decide +kernel
theorem dX0_step_119 : decode cX0_step 119 = .ok (.goto 4, 3) := by decide +kernel
theorem dX0_step_122 : decode cX0_step 122 = .ok (.iconst (-1), 1) := by decide +kernel
theorem dX0_step_123 : decode cX0_step 123 = .ok (.ireturn, 1) := by decide +kernel
theorem dX0_opens_0 : decode cX0_opens 0 = .ok (.iload_n 1, 1) := by decide +kernel
theorem dX0_opens_1 : decode cX0_opens 1 = .ok (.invokestatic 98, 3) := by decide +kernel
theorem dX0_opens_4 : decode cX0_opens 4 = .ok (.ifCond .eq 15, 3) := by decide +kernel
theorem dX0_opens_7 : decode cX0_opens 7 = .ok (.aload_n 0, 1) := by decide +kernel
theorem dX0_opens_8 : decode cX0_opens 8 = .ok (.getfield 34, 3) := by decide +kernel
theorem dX0_opens_11 : decode cX0_opens 11 = .ok (.iload_n 1, 1) := by decide +kernel
theorem dX0_opens_12 : decode cX0_opens 12 = .ok (.bipush 65, 2) := by decide +kernel
theorem dX0_opens_14 : decode cX0_opens 14 = .ok (.isub, 1) := by decide +kernel
theorem dX0_opens_15 : decode cX0_opens 15 = .ok (.baload, 1) := by decide +kernel
theorem dX0_opens_16 : decode cX0_opens 16 = .ok (.ifCond .eq 5, 3) := by decide +kernel
theorem dX0_opens_19 : decode cX0_opens 19 = .ok (.iconst 0, 1) := by decide +kernel
theorem dX0_opens_20 : decode cX0_opens 20 = .ok (.ireturn, 1) := by decide +kernel
theorem dX0_opens_21 : decode cX0_opens 21 = .ok (.aload_n 0, 1) := by decide +kernel
theorem dX0_opens_22 : decode cX0_opens 22 = .ok (.iload_n 1, 1) := by decide +kernel
theorem dX0_opens_23 : decode cX0_opens 23 = .ok (.bipush 65, 2) := by decide +kernel
theorem dX0_opens_25 : decode cX0_opens 25 = .ok (.isub, 1) := by decide +kernel
theorem dX0_opens_26 : decode cX0_opens 26 = .ok (.putfield 86, 3) := by decide +kernel
theorem dX0_opens_29 : decode cX0_opens 29 = .ok (.aload_n 0, 1) := by decide +kernel
theorem dX0_opens_30 : decode cX0_opens 30 = .ok (.getfield 34, 3) := by decide +kernel
theorem dX0_opens_33 : decode cX0_opens 33 = .ok (.aload_n 0, 1) := by decide +kernel
theorem dX0_opens_34 : decode cX0_opens 34 = .ok (.getfield 86, 3) := by decide +kernel
theorem dX0_opens_37 : decode cX0_opens 37 = .ok (.iconst 1, 1) := by decide +kernel
theorem dX0_opens_38 : decode cX0_opens 38 = .ok (.bastore, 1) := by decide +kernel
theorem dX0_opens_39 : decode cX0_opens 39 = .ok (.aload_n 0, 1) := by decide +kernel
theorem dX0_opens_40 : decode cX0_opens 40 = .ok (.getfield 69, 3) := by decide +kernel
theorem dX0_opens_43 : decode cX0_opens 43 = .ok (.ifCond .ne 11, 3) := by decide +kernel
theorem dX0_opens_46 : decode cX0_opens 46 = .ok (.aload_n 0, 1) := by decide +kernel
theorem dX0_opens_47 : decode cX0_opens 47 = .ok (.aload_n 0, 1) := by decide +kernel
theorem dX0_opens_48 : decode cX0_opens 48 = .ok (.getfield 86, 3) := by decide +kernel
theorem dX0_opens_51 : decode cX0_opens 51 = .ok (.putfield 101, 3) := by decide +kernel
theorem dX0_opens_54 : decode cX0_opens 54 = .ok (.aload_n 0, 1) := by decide +kernel
theorem dX0_opens_55 : decode cX0_opens 55 = .ok (.dup, 1) := by decide +kernel
theorem dX0_opens_56 : decode cX0_opens 56 = .ok (.getfield 69, 3) := by decide +kernel
theorem dX0_opens_59 : decode cX0_opens 59 = .ok (.iconst 1, 1) := by decide +kernel
theorem dX0_opens_60 : decode cX0_opens 60 = .ok (.iadd, 1) := by decide +kernel
theorem dX0_opens_61 : decode cX0_opens 61 = .ok (.putfield 69, 3) := by decide +kernel
theorem dX0_opens_64 : decode cX0_opens 64 = .ok (.aload_n 0, 1) := by decide +kernel
theorem dX0_opens_65 : decode cX0_opens 65 = .ok (.getfield 28, 3) := by decide +kernel
theorem dX0_opens_68 : decode cX0_opens 68 = .ok (.aload_n 0, 1) := by decide +kernel
theorem dX0_opens_69 : decode cX0_opens 69 = .ok (.getfield 86, 3) := by decide +kernel
theorem dX0_opens_72 : decode cX0_opens 72 = .ok (.aload_n 0, 1) := by decide +kernel
theorem dX0_opens_73 : decode cX0_opens 73 = .ok (.getfield 72, 3) := by decide +kernel
theorem dX0_opens_76 : decode cX0_opens 76 = .ok (.iastore, 1) := by decide +kernel
theorem dX0_opens_77 : decode cX0_opens 77 = .ok (.aload_n 0, 1) := by decide +kernel
theorem dX0_opens_78 : decode cX0_opens 78 = .ok (.invokevirtual 89, 3) := by decide +kernel
theorem dX0_opens_81 : decode cX0_opens 81 = .ok (.iconst 1, 1) := by decide +kernel
theorem dX0_opens_82 : decode cX0_opens 82 = .ok (.ireturn, 1) := by decide +kernel
theorem dX0_addAlternative_0 : decode cX0_addAlternative 0 = .ok (.aload_n 0, 1) := by decide +kernel
theorem dX0_addAlternative_1 : decode cX0_addAlternative 1 = .ok (.getfield 72, 3) := by decide +kernel
theorem dX0_addAlternative_4 : decode cX0_addAlternative 4 = .ok (.bipush 60, 2) := by decide +kernel
theorem dX0_addAlternative_6 : decode cX0_addAlternative 6 = .ok (.if_icmp .ge 26, 3) := by decide +kernel
theorem dX0_addAlternative_9 : decode cX0_addAlternative 9 = .ok (.aload_n 0, 1) := by decide +kernel
theorem dX0_addAlternative_10 : decode cX0_addAlternative 10 = .ok (.getfield 25, 3) := by decide +kernel
theorem dX0_addAlternative_13 : decode cX0_addAlternative 13 = .ok (.aload_n 0, 1) := by decide +kernel
theorem dX0_addAlternative_14 : decode cX0_addAlternative 14 = .ok (.getfield 72, 3) := by decide +kernel
theorem dX0_addAlternative_17 : decode cX0_addAlternative 17 = .ok (.aload_n 0, 1) := by decide +kernel
theorem dX0_addAlternative_18 : decode cX0_addAlternative 18 = .ok (.getfield 75, 3) := by decide +kernel
theorem dX0_addAlternative_21 : decode cX0_addAlternative 21 = .ok (.iastore, 1) := by decide +kernel
theorem dX0_addAlternative_22 : decode cX0_addAlternative 22 = .ok (.aload_n 0, 1) := by decide +kernel
theorem dX0_addAlternative_23 : decode cX0_addAlternative 23 = .ok (.dup, 1) := by decide +kernel
theorem dX0_addAlternative_24 : decode cX0_addAlternative 24 = .ok (.getfield 72, 3) := by decide +kernel
theorem dX0_addAlternative_27 : decode cX0_addAlternative 27 = .ok (.iconst 1, 1) := by decide +kernel
theorem dX0_addAlternative_28 : decode cX0_addAlternative 28 = .ok (.iadd, 1) := by decide +kernel
theorem dX0_addAlternative_29 : decode cX0_addAlternative 29 = .ok (.putfield 72, 3) := by decide +kernel
theorem dX0_addAlternative_32 : decode cX0_addAlternative 32 = .ok (.return_, 1) := by decide +kernel
theorem dX0_addsItem_0 : decode cX0_addsItem 0 = .ok (.aload_n 0, 1) := by decide +kernel
theorem dX0_addsItem_1 : decode cX0_addsItem 1 = .ok (.getfield 75, 3) := by decide +kernel
theorem dX0_addsItem_4 : decode cX0_addsItem 4 = .ok (.bipush 60, 2) := by decide +kernel
theorem dX0_addsItem_6 : decode cX0_addsItem 6 = .ok (.if_icmp .lt 5, 3) := by decide +kernel
theorem dX0_addsItem_9 : decode cX0_addsItem 9 = .ok (.iconst 0, 1) := by decide +kernel
theorem dX0_addsItem_10 : decode cX0_addsItem 10 = .ok (.ireturn, 1) := by decide +kernel
theorem dX0_addsItem_11 : decode cX0_addsItem 11 = .ok (.aload_n 0, 1) := by decide +kernel
theorem dX0_addsItem_12 : decode cX0_addsItem 12 = .ok (.getfield 15, 3) := by decide +kernel
theorem dX0_addsItem_15 : decode cX0_addsItem 15 = .ok (.aload_n 0, 1) := by decide +kernel
theorem dX0_addsItem_16 : decode cX0_addsItem 16 = .ok (.getfield 75, 3) := by decide +kernel
theorem dX0_addsItem_19 : decode cX0_addsItem 19 = .ok (.iload_n 1, 1) := by decide +kernel
theorem dX0_addsItem_20 : decode cX0_addsItem 20 = .ok (.castore, 1) := by decide +kernel
theorem dX0_addsItem_21 : decode cX0_addsItem 21 = .ok (.aload_n 0, 1) := by decide +kernel
theorem dX0_addsItem_22 : decode cX0_addsItem 22 = .ok (.getfield 19, 3) := by decide +kernel
theorem dX0_addsItem_25 : decode cX0_addsItem 25 = .ok (.aload_n 0, 1) := by decide +kernel
theorem dX0_addsItem_26 : decode cX0_addsItem 26 = .ok (.getfield 75, 3) := by decide +kernel
theorem dX0_addsItem_29 : decode cX0_addsItem 29 = .ok (.bipush 32, 2) := by decide +kernel
theorem dX0_addsItem_31 : decode cX0_addsItem 31 = .ok (.castore, 1) := by decide +kernel
theorem dX0_addsItem_32 : decode cX0_addsItem 32 = .ok (.aload_n 0, 1) := by decide +kernel
theorem dX0_addsItem_33 : decode cX0_addsItem 33 = .ok (.getfield 22, 3) := by decide +kernel
theorem dX0_addsItem_36 : decode cX0_addsItem 36 = .ok (.aload_n 0, 1) := by decide +kernel
theorem dX0_addsItem_37 : decode cX0_addsItem 37 = .ok (.getfield 75, 3) := by decide +kernel
theorem dX0_addsItem_40 : decode cX0_addsItem 40 = .ok (.iload_n 1, 1) := by decide +kernel
theorem dX0_addsItem_41 : decode cX0_addsItem 41 = .ok (.invokestatic 98, 3) := by decide +kernel
theorem dX0_addsItem_44 : decode cX0_addsItem 44 = .ok (.ifCond .eq 10, 3) := by decide +kernel
theorem dX0_addsItem_47 : decode cX0_addsItem 47 = .ok (.iload_n 1, 1) := by decide +kernel
theorem dX0_addsItem_48 : decode cX0_addsItem 48 = .ok (.bipush 65, 2) := by decide +kernel
theorem dX0_addsItem_50 : decode cX0_addsItem 50 = .ok (.isub, 1) := by decide +kernel
theorem dX0_addsItem_51 : decode cX0_addsItem 51 = .ok (.goto 5, 3) := by decide +kernel
theorem dX0_addsItem_54 : decode cX0_addsItem 54 = .ok (.bipush 6, 2) := by decide +kernel
theorem dX0_addsItem_56 : decode cX0_addsItem 56 = .ok (.iastore, 1) := by decide +kernel
theorem dX0_addsItem_57 : decode cX0_addsItem 57 = .ok (.aload_n 0, 1) := by decide +kernel
theorem dX0_addsItem_58 : decode cX0_addsItem 58 = .ok (.dup, 1) := by decide +kernel
theorem dX0_addsItem_59 : decode cX0_addsItem 59 = .ok (.getfield 75, 3) := by decide +kernel
theorem dX0_addsItem_62 : decode cX0_addsItem 62 = .ok (.iconst 1, 1) := by decide +kernel
theorem dX0_addsItem_63 : decode cX0_addsItem 63 = .ok (.iadd, 1) := by decide +kernel
theorem dX0_addsItem_64 : decode cX0_addsItem 64 = .ok (.putfield 75, 3) := by decide +kernel
theorem dX0_addsItem_67 : decode cX0_addsItem 67 = .ok (.iconst 1, 1) := by decide +kernel
theorem dX0_addsItem_68 : decode cX0_addsItem 68 = .ok (.ireturn, 1) := by decide +kernel
theorem dX0_isEveryNameDefined_0 : decode cX0_isEveryNameDefined 0 = .ok (.iconst 0, 1) := by decide +kernel
theorem dX0_isEveryNameDefined_1 : decode cX0_isEveryNameDefined 1 = .ok (.istore_n 1, 1) := by decide +kernel
theorem dX0_isEveryNameDefined_2 : decode cX0_isEveryNameDefined 2 = .ok (.iload_n 1, 1) := by decide +kernel
theorem dX0_isEveryNameDefined_3 : decode cX0_isEveryNameDefined 3 = .ok (.aload_n 0, 1) := by decide +kernel
theorem dX0_isEveryNameDefined_4 : decode cX0_isEveryNameDefined 4 = .ok (.getfield 75, 3) := by decide +kernel
theorem dX0_isEveryNameDefined_7 : decode cX0_isEveryNameDefined 7 = .ok (.if_icmp .ge 32, 3) := by decide +kernel
theorem dX0_isEveryNameDefined_10 : decode cX0_isEveryNameDefined 10 = .ok (.aload_n 0, 1) := by decide +kernel
theorem dX0_isEveryNameDefined_11 : decode cX0_isEveryNameDefined 11 = .ok (.iload_n 1, 1) := by decide +kernel
theorem dX0_isEveryNameDefined_12 : decode cX0_isEveryNameDefined 12 = .ok (.invokevirtual 104, 3) := by decide +kernel
theorem dX0_isEveryNameDefined_15 : decode cX0_isEveryNameDefined 15 = .ok (.istore_n 2, 1) := by decide +kernel
theorem dX0_isEveryNameDefined_16 : decode cX0_isEveryNameDefined 16 = .ok (.iload_n 2, 1) := by decide +kernel
theorem dX0_isEveryNameDefined_17 : decode cX0_isEveryNameDefined 17 = .ok (.bipush 6, 2) := by decide +kernel
theorem dX0_isEveryNameDefined_19 : decode cX0_isEveryNameDefined 19 = .ok (.if_icmp .ge 14, 3) := by decide +kernel
theorem dX0_isEveryNameDefined_22 : decode cX0_isEveryNameDefined 22 = .ok (.aload_n 0, 1) := by decide +kernel
theorem dX0_isEveryNameDefined_23 : decode cX0_isEveryNameDefined 23 = .ok (.getfield 34, 3) := by decide +kernel
theorem dX0_isEveryNameDefined_26 : decode cX0_isEveryNameDefined 26 = .ok (.iload_n 2, 1) := by decide +kernel
theorem dX0_isEveryNameDefined_27 : decode cX0_isEveryNameDefined 27 = .ok (.baload, 1) := by decide +kernel
theorem dX0_isEveryNameDefined_28 : decode cX0_isEveryNameDefined 28 = .ok (.ifCond .ne 5, 3) := by decide +kernel
theorem dX0_isEveryNameDefined_31 : decode cX0_isEveryNameDefined 31 = .ok (.iconst 0, 1) := by decide +kernel
theorem dX0_isEveryNameDefined_32 : decode cX0_isEveryNameDefined 32 = .ok (.ireturn, 1) := by decide +kernel
theorem dX0_isEveryNameDefined_33 : decode cX0_isEveryNameDefined 33 = .ok (.iinc 1 1, 3) := by decide +kernel
theorem dX0_isEveryNameDefined_36 : decode cX0_isEveryNameDefined 36 = .ok (.goto (-34), 3) := by decide +kernel
theorem dX0_isEveryNameDefined_39 : decode cX0_isEveryNameDefined 39 = .ok (.iconst 1, 1) := by decide +kernel
theorem dX0_isEveryNameDefined_40 : decode cX0_isEveryNameDefined 40 = .ok (.ireturn, 1) := by decide +kernel
theorem dX0_findEmptiable_0 : decode cX0_findEmptiable 0 = .ok (.iconst 0, 1) := by decide +kernel
theorem dX0_findEmptiable_1 : decode cX0_findEmptiable 1 = .ok (.istore_n 1, 1) := by decide +kernel
theorem dX0_findEmptiable_2 : decode cX0_findEmptiable 2 = .ok (.iload_n 1, 1) := by decide +kernel
theorem dX0_findEmptiable_3 : decode cX0_findEmptiable 3 = .ok (.bipush 6, 2) := by decide +kernel
theorem dX0_findEmptiable_5 : decode cX0_findEmptiable 5 = .ok (.if_icmp .ge 51, 3) := by decide +kernel
theorem dX0_findEmptiable_8 : decode cX0_findEmptiable 8 = .ok (.iconst 0, 1) := by decide +kernel
theorem dX0_findEmptiable_9 : decode cX0_findEmptiable 9 = .ok (.istore_n 2, 1) := by decide +kernel
theorem dX0_findEmptiable_10 : decode cX0_findEmptiable 10 = .ok (.iload_n 2, 1) := by decide +kernel
theorem dX0_findEmptiable_11 : decode cX0_findEmptiable 11 = .ok (.bipush 6, 2) := by decide +kernel
theorem dX0_findEmptiable_13 : decode cX0_findEmptiable 13 = .ok (.if_icmp .ge 37, 3) := by decide +kernel
theorem dX0_findEmptiable_16 : decode cX0_findEmptiable 16 = .ok (.aload_n 0, 1) := by decide +kernel
theorem dX0_findEmptiable_17 : decode cX0_findEmptiable 17 = .ok (.getfield 38, 3) := by decide +kernel
theorem dX0_findEmptiable_20 : decode cX0_findEmptiable 20 = .ok (.iload_n 2, 1) := by decide +kernel
theorem dX0_findEmptiable_21 : decode cX0_findEmptiable 21 = .ok (.aload_n 0, 1) := by decide +kernel
theorem dX0_findEmptiable_22 : decode cX0_findEmptiable 22 = .ok (.getfield 38, 3) := by decide +kernel
theorem dX0_findEmptiable_25 : decode cX0_findEmptiable 25 = .ok (.iload_n 2, 1) := by decide +kernel
theorem dX0_findEmptiable_26 : decode cX0_findEmptiable 26 = .ok (.baload, 1) := by decide +kernel
theorem dX0_findEmptiable_27 : decode cX0_findEmptiable 27 = .ok (.ifCond .ne 11, 3) := by decide +kernel
theorem dX0_findEmptiable_30 : decode cX0_findEmptiable 30 = .ok (.aload_n 0, 1) := by decide +kernel
theorem dX0_findEmptiable_31 : decode cX0_findEmptiable 31 = .ok (.iload_n 2, 1) := by decide +kernel
theorem dX0_findEmptiable_32 : decode cX0_findEmptiable 32 = .ok (.invokevirtual 108, 3) := by decide +kernel
theorem dX0_findEmptiable_35 : decode cX0_findEmptiable 35 = .ok (.ifCond .eq 7, 3) := by decide +kernel
theorem dX0_findEmptiable_38 : decode cX0_findEmptiable 38 = .ok (.iconst 1, 1) := by decide +kernel
theorem dX0_findEmptiable_39 : decode cX0_findEmptiable 39 = .ok (.goto 4, 3) := by decide +kernel
theorem dX0_findEmptiable_42 : decode cX0_findEmptiable 42 = .ok (.iconst 0, 1) := by decide +kernel
theorem dX0_findEmptiable_43 : decode cX0_findEmptiable 43 = .ok (.bastore, 1) := by decide +kernel
theorem dX0_findEmptiable_44 : decode cX0_findEmptiable 44 = .ok (.iinc 2 1, 3) := by decide +kernel
theorem dX0_findEmptiable_47 : decode cX0_findEmptiable 47 = .ok (.goto (-37), 3) := by decide +kernel
theorem dX0_findEmptiable_50 : decode cX0_findEmptiable 50 = .ok (.iinc 1 1, 3) := by decide +kernel
theorem dX0_findEmptiable_53 : decode cX0_findEmptiable 53 = .ok (.goto (-51), 3) := by decide +kernel
theorem dX0_findEmptiable_56 : decode cX0_findEmptiable 56 = .ok (.return_, 1) := by decide +kernel
theorem dX0_isEmptiable_0 : decode cX0_isEmptiable 0 = .ok (.aload_n 0, 1) := by decide +kernel
theorem dX0_isEmptiable_1 : decode cX0_isEmptiable 1 = .ok (.iload_n 1, 1) := by decide +kernel
theorem dX0_isEmptiable_2 : decode cX0_isEmptiable 2 = .ok (.invokevirtual 112, 3) := by decide +kernel
theorem dX0_isEmptiable_5 : decode cX0_isEmptiable 5 = .ok (.istore_n 2, 1) := by decide +kernel
theorem dX0_isEmptiable_6 : decode cX0_isEmptiable 6 = .ok (.iload_n 2, 1) := by decide +kernel
theorem dX0_isEmptiable_7 : decode cX0_isEmptiable 7 = .ok (.aload_n 0, 1) := by decide +kernel
theorem dX0_isEmptiable_8 : decode cX0_isEmptiable 8 = .ok (.iload_n 1, 1) := by decide +kernel
theorem dX0_isEmptiable_9 : decode cX0_isEmptiable 9 = .ok (.invokevirtual 115, 3) := by decide +kernel
theorem dX0_isEmptiable_12 : decode cX0_isEmptiable 12 = .ok (.if_icmp .ge 59, 3) := by decide +kernel
theorem dX0_isEmptiable_15 : decode cX0_isEmptiable 15 = .ok (.iconst 1, 1) := by decide +kernel
theorem dX0_isEmptiable_16 : decode cX0_isEmptiable 16 = .ok (.istore_n 3, 1) := by decide +kernel
theorem dX0_isEmptiable_17 : decode cX0_isEmptiable 17 = .ok (.aload_n 0, 1) := by decide +kernel
theorem dX0_isEmptiable_18 : decode cX0_isEmptiable 18 = .ok (.iload_n 2, 1) := by decide +kernel
theorem dX0_isEmptiable_19 : decode cX0_isEmptiable 19 = .ok (.invokevirtual 118, 3) := by decide +kernel
theorem dX0_isEmptiable_22 : decode cX0_isEmptiable 22 = .ok (.istore 4, 2) := by decide +kernel
theorem dX0_isEmptiable_24 : decode cX0_isEmptiable 24 = .ok (.iload 4, 2) := by decide +kernel
theorem dX0_isEmptiable_26 : decode cX0_isEmptiable 26 = .ok (.aload_n 0, 1) := by decide +kernel
theorem dX0_isEmptiable_27 : decode cX0_isEmptiable 27 = .ok (.iload_n 2, 1) := by decide +kernel
theorem dX0_isEmptiable_28 : decode cX0_isEmptiable 28 = .ok (.invokevirtual 121, 3) := by decide +kernel
theorem dX0_isEmptiable_31 : decode cX0_isEmptiable 31 = .ok (.if_icmp .ge 28, 3) := by decide +kernel
theorem dX0_isEmptiable_34 : decode cX0_isEmptiable 34 = .ok (.iload_n 3, 1) := by decide +kernel
theorem dX0_isEmptiable_35 : decode cX0_isEmptiable 35 = .ok (.ifCond .eq 16, 3) := by decide +kernel
theorem dX0_isEmptiable_38 : decode cX0_isEmptiable 38 = .ok (.aload_n 0, 1) := by decide +kernel
theorem dX0_isEmptiable_39 : decode cX0_isEmptiable 39 = .ok (.iload 4, 2) := by decide +kernel
theorem dX0_isEmptiable_41 : decode cX0_isEmptiable 41 = .ok (.invokevirtual 124, 3) := by decide +kernel
theorem dX0_isEmptiable_44 : decode cX0_isEmptiable 44 = .ok (.ifCond .eq 7, 3) := by decide +kernel
theorem dX0_isEmptiable_47 : decode cX0_isEmptiable 47 = .ok (.iconst 1, 1) := by decide +kernel
theorem dX0_isEmptiable_48 : decode cX0_isEmptiable 48 = .ok (.goto 4, 3) := by decide +kernel
theorem dX0_isEmptiable_51 : decode cX0_isEmptiable 51 = .ok (.iconst 0, 1) := by decide +kernel
theorem dX0_isEmptiable_52 : decode cX0_isEmptiable 52 = .ok (.istore_n 3, 1) := by decide +kernel
theorem dX0_isEmptiable_53 : decode cX0_isEmptiable 53 = .ok (.iinc 4 1, 3) := by decide +kernel
theorem dX0_isEmptiable_56 : decode cX0_isEmptiable 56 = .ok (.goto (-32), 3) := by decide +kernel
theorem dX0_isEmptiable_59 : decode cX0_isEmptiable 59 = .ok (.iload_n 3, 1) := by decide +kernel
theorem dX0_isEmptiable_60 : decode cX0_isEmptiable 60 = .ok (.ifCond .eq 5, 3) := by decide +kernel
theorem dX0_isEmptiable_63 : decode cX0_isEmptiable 63 = .ok (.iconst 1, 1) := by decide +kernel
theorem dX0_isEmptiable_64 : decode cX0_isEmptiable 64 = .ok (.ireturn, 1) := by decide +kernel
theorem dX0_isEmptiable_65 : decode cX0_isEmptiable 65 = .ok (.iinc 2 1, 3) := by decide +kernel
theorem dX0_isEmptiable_68 : decode cX0_isEmptiable 68 = .ok (.goto (-62), 3) := by decide +kernel
theorem dX0_isEmptiable_71 : decode cX0_isEmptiable 71 = .ok (.iconst 0, 1) := by decide +kernel
theorem dX0_isEmptiable_72 : decode cX0_isEmptiable 72 = .ok (.ireturn, 1) := by decide +kernel
theorem dX0_mayBeEmpty_0 : decode cX0_mayBeEmpty 0 = .ok (.aload_n 0, 1) := by decide +kernel
theorem dX0_mayBeEmpty_1 : decode cX0_mayBeEmpty 1 = .ok (.iload_n 1, 1) := by decide +kernel
theorem dX0_mayBeEmpty_2 : decode cX0_mayBeEmpty 2 = .ok (.invokevirtual 104, 3) := by decide +kernel
theorem dX0_mayBeEmpty_5 : decode cX0_mayBeEmpty 5 = .ok (.istore_n 2, 1) := by decide +kernel
theorem dX0_mayBeEmpty_6 : decode cX0_mayBeEmpty 6 = .ok (.aload_n 0, 1) := by decide +kernel
theorem dX0_mayBeEmpty_7 : decode cX0_mayBeEmpty 7 = .ok (.iload_n 1, 1) := by decide +kernel
theorem dX0_mayBeEmpty_8 : decode cX0_mayBeEmpty 8 = .ok (.invokevirtual 127, 3) := by decide +kernel
theorem dX0_mayBeEmpty_11 : decode cX0_mayBeEmpty 11 = .ok (.ifCond .ne 18, 3) := by decide +kernel
theorem dX0_mayBeEmpty_14 : decode cX0_mayBeEmpty 14 = .ok (.iload_n 2, 1) := by decide +kernel
theorem dX0_mayBeEmpty_15 : decode cX0_mayBeEmpty 15 = .ok (.bipush 6, 2) := by decide +kernel
theorem dX0_mayBeEmpty_17 : decode cX0_mayBeEmpty 17 = .ok (.if_icmp .ge 16, 3) := by decide +kernel
theorem dX0_mayBeEmpty_20 : decode cX0_mayBeEmpty 20 = .ok (.aload_n 0, 1) := by decide +kernel
theorem dX0_mayBeEmpty_21 : decode cX0_mayBeEmpty 21 = .ok (.getfield 38, 3) := by decide +kernel
theorem dX0_mayBeEmpty_24 : decode cX0_mayBeEmpty 24 = .ok (.iload_n 2, 1) := by decide +kernel
theorem dX0_mayBeEmpty_25 : decode cX0_mayBeEmpty 25 = .ok (.baload, 1) := by decide +kernel
theorem dX0_mayBeEmpty_26 : decode cX0_mayBeEmpty 26 = .ok (.ifCond .eq 7, 3) := by decide +kernel
theorem dX0_mayBeEmpty_29 : decode cX0_mayBeEmpty 29 = .ok (.iconst 1, 1) := by decide +kernel
theorem dX0_mayBeEmpty_30 : decode cX0_mayBeEmpty 30 = .ok (.goto 4, 3) := by decide +kernel
theorem dX0_mayBeEmpty_33 : decode cX0_mayBeEmpty 33 = .ok (.iconst 0, 1) := by decide +kernel
theorem dX0_mayBeEmpty_34 : decode cX0_mayBeEmpty 34 = .ok (.ireturn, 1) := by decide +kernel
theorem dX0_findOrder_0 : decode cX0_findOrder 0 = .ok (.iconst 0, 1) := by decide +kernel
theorem dX0_findOrder_1 : decode cX0_findOrder 1 = .ok (.istore_n 1, 1) := by decide +kernel
theorem dX0_findOrder_2 : decode cX0_findOrder 2 = .ok (.iload_n 1, 1) := by decide +kernel
theorem dX0_findOrder_3 : decode cX0_findOrder 3 = .ok (.bipush 6, 2) := by decide +kernel
theorem dX0_findOrder_5 : decode cX0_findOrder 5 = .ok (.if_icmp .ge 85, 3) := by decide +kernel
theorem dX0_findOrder_8 : decode cX0_findOrder 8 = .ok (.iconst 0, 1) := by decide +kernel
theorem dX0_findOrder_9 : decode cX0_findOrder 9 = .ok (.istore_n 2, 1) := by decide +kernel
theorem dX0_findOrder_10 : decode cX0_findOrder 10 = .ok (.iload_n 2, 1) := by decide +kernel
theorem dX0_findOrder_11 : decode cX0_findOrder 11 = .ok (.bipush 6, 2) := by decide +kernel
theorem dX0_findOrder_13 : decode cX0_findOrder 13 = .ok (.if_icmp .ge 71, 3) := by decide +kernel
theorem dX0_findOrder_16 : decode cX0_findOrder 16 = .ok (.aload_n 0, 1) := by decide +kernel
theorem dX0_findOrder_17 : decode cX0_findOrder 17 = .ok (.getfield 34, 3) := by decide +kernel
theorem dX0_findOrder_20 : decode cX0_findOrder 20 = .ok (.iload_n 2, 1) := by decide +kernel
theorem dX0_findOrder_21 : decode cX0_findOrder 21 = .ok (.baload, 1) := by decide +kernel
theorem dX0_findOrder_22 : decode cX0_findOrder 22 = .ok (.ifCond .eq 56, 3) := by decide +kernel
theorem dX0_findOrder_25 : decode cX0_findOrder 25 = .ok (.aload_n 0, 1) := by decide +kernel
theorem dX0_findOrder_26 : decode cX0_findOrder 26 = .ok (.getfield 41, 3) := by decide +kernel
theorem dX0_findOrder_29 : decode cX0_findOrder 29 = .ok (.iload_n 2, 1) := by decide +kernel
theorem dX0_findOrder_30 : decode cX0_findOrder 30 = .ok (.baload, 1) := by decide +kernel
theorem dX0_findOrder_31 : decode cX0_findOrder 31 = .ok (.ifCond .ne 47, 3) := by decide +kernel
theorem dX0_findOrder_34 : decode cX0_findOrder 34 = .ok (.aload_n 0, 1) := by decide +kernel
theorem dX0_findOrder_35 : decode cX0_findOrder 35 = .ok (.getfield 65, 3) := by decide +kernel
theorem dX0_findOrder_38 : decode cX0_findOrder 38 = .ok (.bipush 6, 2) := by decide +kernel
theorem dX0_findOrder_40 : decode cX0_findOrder 40 = .ok (.if_icmp .ge 38, 3) := by decide +kernel
theorem dX0_findOrder_43 : decode cX0_findOrder 43 = .ok (.aload_n 0, 1) := by decide +kernel
theorem dX0_findOrder_44 : decode cX0_findOrder 44 = .ok (.iload_n 2, 1) := by decide +kernel
theorem dX0_findOrder_45 : decode cX0_findOrder 45 = .ok (.invokevirtual 130, 3) := by decide +kernel
theorem dX0_findOrder_48 : decode cX0_findOrder 48 = .ok (.ifCond .eq 30, 3) := by decide +kernel
theorem dX0_findOrder_51 : decode cX0_findOrder 51 = .ok (.aload_n 0, 1) := by decide +kernel
theorem dX0_findOrder_52 : decode cX0_findOrder 52 = .ok (.getfield 9, 3) := by decide +kernel
theorem dX0_findOrder_55 : decode cX0_findOrder 55 = .ok (.aload_n 0, 1) := by decide +kernel
theorem dX0_findOrder_56 : decode cX0_findOrder 56 = .ok (.getfield 65, 3) := by decide +kernel
theorem dX0_findOrder_59 : decode cX0_findOrder 59 = .ok (.iload_n 2, 1) := by decide +kernel
theorem dX0_findOrder_60 : decode cX0_findOrder 60 = .ok (.iastore, 1) := by decide +kernel
theorem dX0_findOrder_61 : decode cX0_findOrder 61 = .ok (.aload_n 0, 1) := by decide +kernel
theorem dX0_findOrder_62 : decode cX0_findOrder 62 = .ok (.dup, 1) := by decide +kernel
theorem dX0_findOrder_63 : decode cX0_findOrder 63 = .ok (.getfield 65, 3) := by decide +kernel
theorem dX0_findOrder_66 : decode cX0_findOrder 66 = .ok (.iconst 1, 1) := by decide +kernel
theorem dX0_findOrder_67 : decode cX0_findOrder 67 = .ok (.iadd, 1) := by decide +kernel
theorem dX0_findOrder_68 : decode cX0_findOrder 68 = .ok (.putfield 65, 3) := by decide +kernel
theorem dX0_findOrder_71 : decode cX0_findOrder 71 = .ok (.aload_n 0, 1) := by decide +kernel
theorem dX0_findOrder_72 : decode cX0_findOrder 72 = .ok (.getfield 41, 3) := by decide +kernel
theorem dX0_findOrder_75 : decode cX0_findOrder 75 = .ok (.iload_n 2, 1) := by decide +kernel
theorem dX0_findOrder_76 : decode cX0_findOrder 76 = .ok (.iconst 1, 1) := by decide +kernel
theorem dX0_findOrder_77 : decode cX0_findOrder 77 = .ok (.bastore, 1) := by decide +kernel
theorem dX0_findOrder_78 : decode cX0_findOrder 78 = .ok (.iinc 2 1, 3) := by decide +kernel
theorem dX0_findOrder_81 : decode cX0_findOrder 81 = .ok (.goto (-71), 3) := by decide +kernel
theorem dX0_findOrder_84 : decode cX0_findOrder 84 = .ok (.iinc 1 1, 3) := by decide +kernel
theorem dX0_findOrder_87 : decode cX0_findOrder 87 = .ok (.goto (-85), 3) := by decide +kernel
theorem dX0_findOrder_90 : decode cX0_findOrder 90 = .ok (.return_, 1) := by decide +kernel
theorem dX0_leadsToPlaced_0 : decode cX0_leadsToPlaced 0 = .ok (.aload_n 0, 1) := by decide +kernel
theorem dX0_leadsToPlaced_1 : decode cX0_leadsToPlaced 1 = .ok (.iload_n 1, 1) := by decide +kernel
theorem dX0_leadsToPlaced_2 : decode cX0_leadsToPlaced 2 = .ok (.invokevirtual 112, 3) := by decide +kernel
theorem dX0_leadsToPlaced_5 : decode cX0_leadsToPlaced 5 = .ok (.istore_n 2, 1) := by decide +kernel
theorem dX0_leadsToPlaced_6 : decode cX0_leadsToPlaced 6 = .ok (.iload_n 2, 1) := by decide +kernel
theorem dX0_leadsToPlaced_7 : decode cX0_leadsToPlaced 7 = .ok (.aload_n 0, 1) := by decide +kernel
theorem dX0_leadsToPlaced_8 : decode cX0_leadsToPlaced 8 = .ok (.iload_n 1, 1) := by decide +kernel
theorem dX0_leadsToPlaced_9 : decode cX0_leadsToPlaced 9 = .ok (.invokevirtual 115, 3) := by decide +kernel
theorem dX0_leadsToPlaced_12 : decode cX0_leadsToPlaced 12 = .ok (.if_icmp .ge 72, 3) := by decide +kernel
theorem dX0_leadsToPlaced_15 : decode cX0_leadsToPlaced 15 = .ok (.iconst 1, 1) := by decide +kernel
theorem dX0_leadsToPlaced_16 : decode cX0_leadsToPlaced 16 = .ok (.istore_n 3, 1) := by decide +kernel
theorem dX0_leadsToPlaced_17 : decode cX0_leadsToPlaced 17 = .ok (.aload_n 0, 1) := by decide +kernel
theorem dX0_leadsToPlaced_18 : decode cX0_leadsToPlaced 18 = .ok (.iload_n 2, 1) := by decide +kernel
theorem dX0_leadsToPlaced_19 : decode cX0_leadsToPlaced 19 = .ok (.invokevirtual 118, 3) := by decide +kernel
theorem dX0_leadsToPlaced_22 : decode cX0_leadsToPlaced 22 = .ok (.istore 4, 2) := by decide +kernel
theorem dX0_leadsToPlaced_24 : decode cX0_leadsToPlaced 24 = .ok (.iload_n 3, 1) := by decide +kernel
theorem dX0_leadsToPlaced_25 : decode cX0_leadsToPlaced 25 = .ok (.ifCond .eq 53, 3) := by decide +kernel
theorem dX0_leadsToPlaced_28 : decode cX0_leadsToPlaced 28 = .ok (.iload 4, 2) := by decide +kernel
theorem dX0_leadsToPlaced_30 : decode cX0_leadsToPlaced 30 = .ok (.aload_n 0, 1) := by decide +kernel
theorem dX0_leadsToPlaced_31 : decode cX0_leadsToPlaced 31 = .ok (.iload_n 2, 1) := by decide +kernel
theorem dX0_leadsToPlaced_32 : decode cX0_leadsToPlaced 32 = .ok (.invokevirtual 121, 3) := by decide +kernel
theorem dX0_leadsToPlaced_35 : decode cX0_leadsToPlaced 35 = .ok (.if_icmp .ge 43, 3) := by decide +kernel
theorem dX0_leadsToPlaced_38 : decode cX0_leadsToPlaced 38 = .ok (.aload_n 0, 1) := by decide +kernel
theorem dX0_leadsToPlaced_39 : decode cX0_leadsToPlaced 39 = .ok (.iload 4, 2) := by decide +kernel
theorem dX0_leadsToPlaced_41 : decode cX0_leadsToPlaced 41 = .ok (.invokevirtual 104, 3) := by decide +kernel
theorem dX0_leadsToPlaced_44 : decode cX0_leadsToPlaced 44 = .ok (.istore 5, 2) := by decide +kernel
theorem dX0_leadsToPlaced_46 : decode cX0_leadsToPlaced 46 = .ok (.iload 5, 2) := by decide +kernel
theorem dX0_leadsToPlaced_48 : decode cX0_leadsToPlaced 48 = .ok (.bipush 6, 2) := by decide +kernel
theorem dX0_leadsToPlaced_50 : decode cX0_leadsToPlaced 50 = .ok (.if_icmp .ge 15, 3) := by decide +kernel
theorem dX0_leadsToPlaced_53 : decode cX0_leadsToPlaced 53 = .ok (.aload_n 0, 1) := by decide +kernel
theorem dX0_leadsToPlaced_54 : decode cX0_leadsToPlaced 54 = .ok (.getfield 41, 3) := by decide +kernel
theorem dX0_leadsToPlaced_57 : decode cX0_leadsToPlaced 57 = .ok (.iload 5, 2) := by decide +kernel
theorem dX0_leadsToPlaced_59 : decode cX0_leadsToPlaced 59 = .ok (.baload, 1) := by decide +kernel
theorem dX0_leadsToPlaced_60 : decode cX0_leadsToPlaced 60 = .ok (.ifCond .ne 5, 3) := by decide +kernel
theorem dX0_leadsToPlaced_63 : decode cX0_leadsToPlaced 63 = .ok (.iconst 0, 1) := by decide +kernel
theorem dX0_leadsToPlaced_64 : decode cX0_leadsToPlaced 64 = .ok (.ireturn, 1) := by decide +kernel
theorem dX0_leadsToPlaced_65 : decode cX0_leadsToPlaced 65 = .ok (.aload_n 0, 1) := by decide +kernel
theorem dX0_leadsToPlaced_66 : decode cX0_leadsToPlaced 66 = .ok (.iload 4, 2) := by decide +kernel
theorem dX0_leadsToPlaced_68 : decode cX0_leadsToPlaced 68 = .ok (.invokevirtual 124, 3) := by decide +kernel
theorem dX0_leadsToPlaced_71 : decode cX0_leadsToPlaced 71 = .ok (.istore_n 3, 1) := by decide +kernel
theorem dX0_leadsToPlaced_72 : decode cX0_leadsToPlaced 72 = .ok (.iinc 4 1, 3) := by decide +kernel
theorem dX0_leadsToPlaced_75 : decode cX0_leadsToPlaced 75 = .ok (.goto (-51), 3) := by decide +kernel
theorem dX0_leadsToPlaced_78 : decode cX0_leadsToPlaced 78 = .ok (.iinc 2 1, 3) := by decide +kernel
theorem dX0_leadsToPlaced_81 : decode cX0_leadsToPlaced 81 = .ok (.goto (-75), 3) := by decide +kernel
theorem dX0_leadsToPlaced_84 : decode cX0_leadsToPlaced 84 = .ok (.iconst 1, 1) := by decide +kernel
theorem dX0_leadsToPlaced_85 : decode cX0_leadsToPlaced 85 = .ok (.ireturn, 1) := by decide +kernel
theorem dX1_init_0 : decode cX1_init 0 = .ok (.aload_n 0, 1) := by decide +kernel
theorem dX1_init_1 : decode cX1_init 1 = .ok (.invokespecial 3, 3) := by decide +kernel
theorem dX1_init_4 : decode cX1_init 4 = .ok (.aload_n 0, 1) := by decide +kernel
theorem dX1_init_5 : decode cX1_init 5 = .ok (.iconst 1, 1) := by decide +kernel
theorem dX1_init_6 : decode cX1_init 6 = .ok (.putfield 9, 3) := by decide +kernel
theorem dX1_init_9 : decode cX1_init 9 = .ok (.aload_n 0, 1) := by decide +kernel
theorem dX1_init_10 : decode cX1_init 10 = .ok (.sipush 768, 3) := by decide +kernel
theorem dX1_init_13 : decode cX1_init 13 = .ok (.newarray .char, 2) := by decide +kernel
theorem dX1_init_15 : decode cX1_init 15 = .ok (.putfield 15, 3) := by decide +kernel
theorem dX1_init_18 : decode cX1_init 18 = .ok (.aload_n 0, 1) := by decide +kernel
theorem dX1_init_19 : decode cX1_init 19 = .ok (.bipush 24, 2) := by decide +kernel
theorem dX1_init_21 : decode cX1_init 21 = .ok (.newarray .int, 2) := by decide +kernel
theorem dX1_init_23 : decode cX1_init 23 = .ok (.putfield 19, 3) := by decide +kernel
theorem dX1_init_26 : decode cX1_init 26 = .ok (.return_, 1) := by decide +kernel
theorem dX1_verdict_0 : decode cX1_verdict 0 = .ok (.aload_n 0, 1) := by decide +kernel
theorem dX1_verdict_1 : decode cX1_verdict 1 = .ok (.getfield 23, 3) := by decide +kernel
theorem dX1_verdict_4 : decode cX1_verdict 4 = .ok (.aload_n 1, 1) := by decide +kernel
theorem dX1_verdict_5 : decode cX1_verdict 5 = .ok (.iconst 1, 1) := by decide +kernel
theorem dX1_verdict_6 : decode cX1_verdict 6 = .ok (.invokestatic 27, 3) := by decide +kernel
theorem dX1_verdict_9 : decode cX1_verdict 9 = .ok (.ifCond .eq 5, 3) := by decide +kernel
theorem dX1_verdict_12 : decode cX1_verdict 12 = .ok (.iconst 1, 1) := by decide +kernel
theorem dX1_verdict_13 : decode cX1_verdict 13 = .ok (.ireturn, 1) := by decide +kernel
theorem dX1_verdict_14 : decode cX1_verdict 14 = .ok (.aload_n 0, 1) := by decide +kernel
theorem dX1_verdict_15 : decode cX1_verdict 15 = .ok (.getfield 31, 3) := by decide +kernel
theorem dX1_verdict_18 : decode cX1_verdict 18 = .ok (.aload_n 1, 1) := by decide +kernel
theorem dX1_verdict_19 : decode cX1_verdict 19 = .ok (.iconst 1, 1) := by decide +kernel
theorem dX1_verdict_20 : decode cX1_verdict 20 = .ok (.invokestatic 27, 3) := by decide +kernel
theorem dX1_verdict_23 : decode cX1_verdict 23 = .ok (.ifCond .eq 7, 3) := by decide +kernel
theorem dX1_verdict_26 : decode cX1_verdict 26 = .ok (.iconst 2, 1) := by decide +kernel
theorem dX1_verdict_27 : decode cX1_verdict 27 = .ok (.goto 4, 3) := by decide +kernel
theorem dX1_verdict_30 : decode cX1_verdict 30 = .ok (.iconst 0, 1) := by decide +kernel
theorem dX1_verdict_31 : decode cX1_verdict 31 = .ok (.ireturn, 1) := by decide +kernel
theorem dX1_allow_0 : decode cX1_allow 0 = .ok (.aload_n 0, 1) := by decide +kernel
theorem dX1_allow_1 : decode cX1_allow 1 = .ok (.iload_n 1, 1) := by decide +kernel
theorem dX1_allow_2 : decode cX1_allow 2 = .ok (.putfield 34, 3) := by decide +kernel
theorem dX1_allow_5 : decode cX1_allow 5 = .ok (.aload_n 0, 1) := by decide +kernel
theorem dX1_allow_6 : decode cX1_allow 6 = .ok (.iconst 0, 1) := by decide +kernel
theorem dX1_allow_7 : decode cX1_allow 7 = .ok (.putfield 38, 3) := by decide +kernel
theorem dX1_allow_10 : decode cX1_allow 10 = .ok (.return_, 1) := by decide +kernel
theorem dX1_forget_0 : decode cX1_forget 0 = .ok (.aload_n 0, 1) := by decide +kernel
theorem dX1_forget_1 : decode cX1_forget 1 = .ok (.iconst 0, 1) := by decide +kernel
theorem dX1_forget_2 : decode cX1_forget 2 = .ok (.putfield 41, 3) := by decide +kernel
theorem dX1_forget_5 : decode cX1_forget 5 = .ok (.aload_n 0, 1) := by decide +kernel
theorem dX1_forget_6 : decode cX1_forget 6 = .ok (.iconst 0, 1) := by decide +kernel
theorem dX1_forget_7 : decode cX1_forget 7 = .ok (.putfield 44, 3) := by decide +kernel
theorem dX1_forget_10 : decode cX1_forget 10 = .ok (.return_, 1) := by decide +kernel
theorem dX1_ask_0 : decode cX1_ask 0 = .ok (.aload_n 0, 1) := by decide +kernel
theorem dX1_ask_1 : decode cX1_ask 1 = .ok (.getfield 38, 3) := by decide +kernel
theorem dX1_ask_4 : decode cX1_ask 4 = .ok (.ifCond .eq 5, 3) := by decide +kernel
theorem dX1_ask_7 : decode cX1_ask 7 = .ok (.iconst 0, 1) := by decide +kernel
theorem dX1_ask_8 : decode cX1_ask 8 = .ok (.ireturn, 1) := by decide +kernel
theorem dX1_ask_9 : decode cX1_ask 9 = .ok (.aload_n 0, 1) := by decide +kernel
theorem dX1_ask_10 : decode cX1_ask 10 = .ok (.aload_n 1, 1) := by decide +kernel
theorem dX1_ask_11 : decode cX1_ask 11 = .ok (.invokevirtual 47, 3) := by decide +kernel
theorem dX1_ask_14 : decode cX1_ask 14 = .ok (.ifCond .eq 19, 3) := by decide +kernel
theorem dX1_ask_17 : decode cX1_ask 17 = .ok (.aload_n 0, 1) := by decide +kernel
theorem dX1_ask_18 : decode cX1_ask 18 = .ok (.dup, 1) := by decide +kernel
theorem dX1_ask_19 : decode cX1_ask 19 = .ok (.getfield 51, 3) := by decide +kernel
theorem dX1_ask_22 : decode cX1_ask 22 = .ok (.iconst 1, 1) := by decide +kernel
theorem dX1_ask_23 : decode cX1_ask 23 = .ok (.iadd, 1) := by decide +kernel
theorem dX1_ask_24 : decode cX1_ask 24 = .ok (.putfield 51, 3) := by decide +kernel
theorem dX1_ask_27 : decode cX1_ask 27 = .ok (.aload_n 0, 1) := by decide +kernel
theorem dX1_ask_28 : decode cX1_ask 28 = .ok (.aload_n 1, 1) := by decide +kernel
theorem dX1_ask_29 : decode cX1_ask 29 = .ok (.invokevirtual 54, 3) := by decide +kernel
theorem dX1_ask_32 : decode cX1_ask 32 = .ok (.ireturn, 1) := by decide +kernel
theorem dX1_ask_33 : decode cX1_ask 33 = .ok (.aload_n 0, 1) := by decide +kernel
theorem dX1_ask_34 : decode cX1_ask 34 = .ok (.getfield 34, 3) := by decide +kernel
theorem dX1_ask_37 : decode cX1_ask 37 = .ok (.ifCond .gt 10, 3) := by decide +kernel
theorem dX1_ask_40 : decode cX1_ask 40 = .ok (.aload_n 0, 1) := by decide +kernel
theorem dX1_ask_41 : decode cX1_ask 41 = .ok (.iconst 1, 1) := by decide +kernel
theorem dX1_ask_42 : decode cX1_ask 42 = .ok (.putfield 38, 3) := by decide +kernel
theorem dX1_ask_45 : decode cX1_ask 45 = .ok (.iconst 0, 1) := by decide +kernel
theorem dX1_ask_46 : decode cX1_ask 46 = .ok (.ireturn, 1) := by decide +kernel
theorem dX1_ask_47 : decode cX1_ask 47 = .ok (.aload_n 0, 1) := by decide +kernel
theorem dX1_ask_48 : decode cX1_ask 48 = .ok (.dup, 1) := by decide +kernel
theorem dX1_ask_49 : decode cX1_ask 49 = .ok (.getfield 34, 3) := by decide +kernel
theorem dX1_ask_52 : decode cX1_ask 52 = .ok (.iconst 1, 1) := by decide +kernel
theorem dX1_ask_53 : decode cX1_ask 53 = .ok (.isub, 1) := by decide +kernel
theorem dX1_ask_54 : decode cX1_ask 54 = .ok (.putfield 34, 3) := by decide +kernel
theorem dX1_ask_57 : decode cX1_ask 57 = .ok (.aload_n 0, 1) := by decide +kernel
theorem dX1_ask_58 : decode cX1_ask 58 = .ok (.dup, 1) := by decide +kernel
theorem dX1_ask_59 : decode cX1_ask 59 = .ok (.getfield 58, 3) := by decide +kernel
theorem dX1_ask_62 : decode cX1_ask 62 = .ok (.iconst 1, 1) := by decide +kernel
theorem dX1_ask_63 : decode cX1_ask 63 = .ok (.iadd, 1) := by decide +kernel
theorem dX1_ask_64 : decode cX1_ask 64 = .ok (.putfield 58, 3) := by decide +kernel
theorem dX1_ask_67 : decode cX1_ask 67 = .ok (.aload_n 0, 1) := by decide +kernel
theorem dX1_ask_68 : decode cX1_ask 68 = .ok (.getfield 9, 3) := by decide +kernel
theorem dX1_ask_71 : decode cX1_ask 71 = .ok (.ifCond .eq 8, 3) := by decide +kernel
theorem dX1_ask_74 : decode cX1_ask 74 = .ok (.aload_n 0, 1) := by decide +kernel
theorem dX1_ask_75 : decode cX1_ask 75 = .ok (.aload_n 1, 1) := by decide +kernel
theorem dX1_ask_76 : decode cX1_ask 76 = .ok (.invokevirtual 61, 3) := by decide +kernel
theorem dX1_ask_79 : decode cX1_ask 79 = .ok (.aload_n 0, 1) := by decide +kernel
theorem dX1_ask_80 : decode cX1_ask 80 = .ok (.aload_n 1, 1) := by decide +kernel
theorem dX1_ask_81 : decode cX1_ask 81 = .ok (.invokevirtual 54, 3) := by decide +kernel
theorem dX1_ask_84 : decode cX1_ask 84 = .ok (.ireturn, 1) := by decide +kernel
theorem dX1_isHeld_0 : decode cX1_isHeld 0 = .ok (.iconst 0, 1) := by decide +kernel
theorem dX1_isHeld_1 : decode cX1_isHeld 1 = .ok (.istore_n 2, 1) := by decide +kernel
theorem dX1_isHeld_2 : decode cX1_isHeld 2 = .ok (.iload_n 2, 1) := by decide +kernel
theorem dX1_isHeld_3 : decode cX1_isHeld 3 = .ok (.aload_n 0, 1) := by decide +kernel
theorem dX1_isHeld_4 : decode cX1_isHeld 4 = .ok (.getfield 41, 3) := by decide +kernel
theorem dX1_isHeld_7 : decode cX1_isHeld 7 = .ok (.if_icmp .ge 33, 3) := by decide +kernel
theorem dX1_isHeld_10 : decode cX1_isHeld 10 = .ok (.aload_n 0, 1) := by decide +kernel
theorem dX1_isHeld_11 : decode cX1_isHeld 11 = .ok (.getfield 19, 3) := by decide +kernel
theorem dX1_isHeld_14 : decode cX1_isHeld 14 = .ok (.iload_n 2, 1) := by decide +kernel
theorem dX1_isHeld_15 : decode cX1_isHeld 15 = .ok (.iaload, 1) := by decide +kernel
theorem dX1_isHeld_16 : decode cX1_isHeld 16 = .ok (.aload_n 1, 1) := by decide +kernel
theorem dX1_isHeld_17 : decode cX1_isHeld 17 = .ok (.getfield 65, 3) := by decide +kernel
theorem dX1_isHeld_20 : decode cX1_isHeld 20 = .ok (.if_icmp .ne 14, 3) := by decide +kernel
theorem dX1_isHeld_23 : decode cX1_isHeld 23 = .ok (.aload_n 0, 1) := by decide +kernel
theorem dX1_isHeld_24 : decode cX1_isHeld 24 = .ok (.iload_n 2, 1) := by decide +kernel
theorem dX1_isHeld_25 : decode cX1_isHeld 25 = .ok (.aload_n 1, 1) := by decide +kernel
theorem dX1_isHeld_26 : decode cX1_isHeld 26 = .ok (.invokevirtual 70, 3) := by decide +kernel
theorem dX1_isHeld_29 : decode cX1_isHeld 29 = .ok (.ifCond .eq 5, 3) := by decide +kernel
theorem dX1_isHeld_32 : decode cX1_isHeld 32 = .ok (.iconst 1, 1) := by decide +kernel
theorem dX1_isHeld_33 : decode cX1_isHeld 33 = .ok (.ireturn, 1) := by decide +kernel
theorem dX1_isHeld_34 : decode cX1_isHeld 34 = .ok (.iinc 2 1, 3) := by decide +kernel
theorem dX1_isHeld_37 : decode cX1_isHeld 37 = .ok (.goto (-35), 3) := by decide +kernel
theorem dX1_isHeld_40 : decode cX1_isHeld 40 = .ok (.iconst 0, 1) := by decide +kernel
theorem dX1_isHeld_41 : decode cX1_isHeld 41 = .ok (.ireturn, 1) := by decide +kernel
theorem dX1_isHeldAt_0 : decode cX1_isHeldAt 0 = .ok (.iload_n 1, 1) := by decide +kernel
theorem dX1_isHeldAt_1 : decode cX1_isHeldAt 1 = .ok (.bipush 32, 2) := by decide +kernel
theorem dX1_isHeldAt_3 : decode cX1_isHeldAt 3 = .ok (.imul, 1) := by decide +kernel
theorem dX1_isHeldAt_4 : decode cX1_isHeldAt 4 = .ok (.istore_n 3, 1) := by decide +kernel
theorem dX1_isHeldAt_5 : decode cX1_isHeldAt 5 = .ok (.iconst 0, 1) := by decide +kernel
theorem dX1_isHeldAt_6 : decode cX1_isHeldAt 6 = .ok (.istore 4, 2) := by decide +kernel
theorem dX1_isHeldAt_8 : decode cX1_isHeldAt 8 = .ok (.iload 4, 2) := by decide +kernel
theorem dX1_isHeldAt_10 : decode cX1_isHeldAt 10 = .ok (.aload_n 2, 1) := by decide +kernel
theorem dX1_isHeldAt_11 : decode cX1_isHeldAt 11 = .ok (.getfield 65, 3) := by decide +kernel
theorem dX1_isHeldAt_14 : decode cX1_isHeldAt 14 = .ok (.if_icmp .ge 30, 3) := by decide +kernel
theorem dX1_isHeldAt_17 : decode cX1_isHeldAt 17 = .ok (.aload_n 0, 1) := by decide +kernel
theorem dX1_isHeldAt_18 : decode cX1_isHeldAt 18 = .ok (.getfield 15, 3) := by decide +kernel
theorem dX1_isHeldAt_21 : decode cX1_isHeldAt 21 = .ok (.iload_n 3, 1) := by decide +kernel
theorem dX1_isHeldAt_22 : decode cX1_isHeldAt 22 = .ok (.iload 4, 2) := by decide +kernel
theorem dX1_isHeldAt_24 : decode cX1_isHeldAt 24 = .ok (.iadd, 1) := by decide +kernel
theorem dX1_isHeldAt_25 : decode cX1_isHeldAt 25 = .ok (.caload, 1) := by decide +kernel
theorem dX1_isHeldAt_26 : decode cX1_isHeldAt 26 = .ok (.aload_n 2, 1) := by decide +kernel
theorem dX1_isHeldAt_27 : decode cX1_isHeldAt 27 = .ok (.getfield 74, 3) := by decide +kernel
theorem dX1_isHeldAt_30 : decode cX1_isHeldAt 30 = .ok (.iload 4, 2) := by decide +kernel
theorem dX1_isHeldAt_32 : decode cX1_isHeldAt 32 = .ok (.caload, 1) := by decide +kernel
theorem dX1_isHeldAt_33 : decode cX1_isHeldAt 33 = .ok (.if_icmp .eq 5, 3) := by decide +kernel
theorem dX1_isHeldAt_36 : decode cX1_isHeldAt 36 = .ok (.iconst 0, 1) := by decide +kernel
theorem dX1_isHeldAt_37 : decode cX1_isHeldAt 37 = .ok (.ireturn, 1) := by decide +kernel
theorem dX1_isHeldAt_38 : decode cX1_isHeldAt 38 = .ok (.iinc 4 1, 3) := by decide +kernel
theorem dX1_isHeldAt_41 : decode cX1_isHeldAt 41 = .ok (.goto (-33), 3) := by decide +kernel
theorem dX1_isHeldAt_44 : decode cX1_isHeldAt 44 = .ok (.iconst 1, 1) := by decide +kernel
theorem dX1_isHeldAt_45 : decode cX1_isHeldAt 45 = .ok (.ireturn, 1) := by decide +kernel
theorem dX1_hold_0 : decode cX1_hold 0 = .ok (.aload_n 0, 1) := by decide +kernel
theorem dX1_hold_1 : decode cX1_hold 1 = .ok (.getfield 41, 3) := by decide +kernel
theorem dX1_hold_4 : decode cX1_hold 4 = .ok (.istore_n 2, 1) := by decide +kernel
theorem dX1_hold_5 : decode cX1_hold 5 = .ok (.aload_n 0, 1) := by decide +kernel
theorem dX1_hold_6 : decode cX1_hold 6 = .ok (.getfield 41, 3) := by decide +kernel
theorem dX1_hold_9 : decode cX1_hold 9 = .ok (.bipush 24, 2) := by decide +kernel
theorem dX1_hold_11 : decode cX1_hold 11 = .ok (.if_icmp .ge 16, 3) := by decide +kernel
theorem dX1_hold_14 : decode cX1_hold 14 = .ok (.aload_n 0, 1) := by decide +kernel
theorem dX1_hold_15 : decode cX1_hold 15 = .ok (.dup, 1) := by decide +kernel
theorem dX1_hold_16 : decode cX1_hold 16 = .ok (.getfield 41, 3) := by decide +kernel
theorem dX1_hold_19 : decode cX1_hold 19 = .ok (.iconst 1, 1) := by decide +kernel
theorem dX1_hold_20 : decode cX1_hold 20 = .ok (.iadd, 1) := by decide +kernel
theorem dX1_hold_21 : decode cX1_hold 21 = .ok (.putfield 41, 3) := by decide +kernel
theorem dX1_hold_24 : decode cX1_hold 24 = .ok (.goto 21, 3) := by decide +kernel
theorem dX1_hold_27 : decode cX1_hold 27 = .ok (.aload_n 0, 1) := by decide +kernel
theorem dX1_hold_28 : decode cX1_hold 28 = .ok (.getfield 44, 3) := by decide +kernel
theorem dX1_hold_31 : decode cX1_hold 31 = .ok (.istore_n 2, 1) := by decide +kernel
theorem dX1_hold_32 : decode cX1_hold 32 = .ok (.aload_n 0, 1) := by decide +kernel
theorem dX1_hold_33 : decode cX1_hold 33 = .ok (.aload_n 0, 1) := by decide +kernel
theorem dX1_hold_34 : decode cX1_hold 34 = .ok (.getfield 44, 3) := by decide +kernel
theorem dX1_hold_37 : decode cX1_hold 37 = .ok (.iconst 1, 1) := by decide +kernel
theorem dX1_hold_38 : decode cX1_hold 38 = .ok (.iadd, 1) := by decide +kernel
theorem dX1_hold_39 : decode cX1_hold 39 = .ok (.bipush 24, 2) := by decide +kernel
theorem dX1_hold_41 : decode cX1_hold 41 = .ok (.irem, 1) := by decide +kernel
theorem dX1_hold_42 : decode cX1_hold 42 = .ok (.putfield 44, 3) := by decide +kernel
theorem dX1_hold_45 : decode cX1_hold 45 = .ok (.aload_n 0, 1) := by decide +kernel
theorem dX1_hold_46 : decode cX1_hold 46 = .ok (.getfield 19, 3) := by decide +kernel
theorem dX1_hold_49 : decode cX1_hold 49 = .ok (.iload_n 2, 1) := by decide +kernel
theorem dX1_hold_50 : decode cX1_hold 50 = .ok (.aload_n 1, 1) := by decide +kernel
theorem dX1_hold_51 : decode cX1_hold 51 = .ok (.getfield 65, 3) := by decide +kernel
theorem dX1_hold_54 : decode cX1_hold 54 = .ok (.iastore, 1) := by decide +kernel
theorem dX1_hold_55 : decode cX1_hold 55 = .ok (.iconst 0, 1) := by decide +kernel
theorem dX1_hold_56 : decode cX1_hold 56 = .ok (.istore_n 3, 1) := by decide +kernel
theorem dX1_hold_57 : decode cX1_hold 57 = .ok (.iload_n 3, 1) := by decide +kernel
theorem dX1_hold_58 : decode cX1_hold 58 = .ok (.aload_n 1, 1) := by decide +kernel
theorem dX1_hold_59 : decode cX1_hold 59 = .ok (.getfield 65, 3) := by decide +kernel
theorem dX1_hold_62 : decode cX1_hold 62 = .ok (.if_icmp .ge 26, 3) := by decide +kernel
theorem dX1_hold_65 : decode cX1_hold 65 = .ok (.aload_n 0, 1) := by decide +kernel
theorem dX1_hold_66 : decode cX1_hold 66 = .ok (.getfield 15, 3) := by decide +kernel
theorem dX1_hold_69 : decode cX1_hold 69 = .ok (.iload_n 2, 1) := by decide +kernel
theorem dX1_hold_70 : decode cX1_hold 70 = .ok (.bipush 32, 2) := by decide +kernel
theorem dX1_hold_72 : decode cX1_hold 72 = .ok (.imul, 1) := by decide +kernel
theorem dX1_hold_73 : decode cX1_hold 73 = .ok (.iload_n 3, 1) := by decide +kernel
theorem dX1_hold_74 : decode cX1_hold 74 = .ok (.iadd, 1) := by decide +kernel
theorem dX1_hold_75 : decode cX1_hold 75 = .ok (.aload_n 1, 1) := by decide +kernel
theorem dX1_hold_76 : decode cX1_hold 76 = .ok (.getfield 74, 3) := by decide +kernel
theorem dX1_hold_79 : decode cX1_hold 79 = .ok (.iload_n 3, 1) := by decide +kernel
theorem dX1_hold_80 : decode cX1_hold 80 = .ok (.caload, 1) := by decide +kernel
theorem dX1_hold_81 : decode cX1_hold 81 = .ok (.castore, 1) := by decide +kernel
theorem dX1_hold_82 : decode cX1_hold 82 = .ok (.iinc 3 1, 3) := by decide +kernel
theorem dX1_hold_85 : decode cX1_hold 85 = .ok (.goto (-28), 3) := by decide +kernel
theorem dX1_hold_88 : decode cX1_hold 88 = .ok (.return_, 1) := by decide +kernel
theorem dX1_holds_0 : decode cX1_holds 0 = .ok (.aload_n 0, 1) := by decide +kernel
theorem dX1_holds_1 : decode cX1_holds 1 = .ok (.ifnull 9, 3) := by decide +kernel
theorem dX1_holds_4 : decode cX1_holds 4 = .ok (.iload_n 2, 1) := by decide +kernel
theorem dX1_holds_5 : decode cX1_holds 5 = .ok (.bipush 6, 2) := by decide +kernel
theorem dX1_holds_7 : decode cX1_holds 7 = .ok (.if_icmp .le 5, 3) := by decide +kernel
theorem dX1_holds_10 : decode cX1_holds 10 = .ok (.iconst 0, 1) := by decide +kernel
theorem dX1_holds_11 : decode cX1_holds 11 = .ok (.ireturn, 1) := by decide +kernel
theorem dX1_holds_12 : decode cX1_holds 12 = .ok (.aload_n 0, 1) := by decide +kernel
theorem dX1_holds_13 : decode cX1_holds 13 = .ok (.getfield 77, 3) := by decide +kernel
theorem dX1_holds_16 : decode cX1_holds 16 = .ok (.tableswitch 171 0 6 #[44, 57, 71, 85, 102, 117, 137], 44) := by decide +kernel
theorem dX1_holds_60 : decode cX1_holds 60 = .ok (.aload_n 1, 1) := by decide +kernel
theorem dX1_holds_61 : decode cX1_holds 61 = .ok (.aload_n 0, 1) := by decide +kernel
theorem dX1_holds_62 : decode cX1_holds 62 = .ok (.getfield 82, 3) := by decide +kernel
theorem dX1_holds_65 : decode cX1_holds 65 = .ok (.aload_n 0, 1) := by decide +kernel
theorem dX1_holds_66 : decode cX1_holds 66 = .ok (.getfield 86, 3) := by decide +kernel
theorem dX1_holds_69 : decode cX1_holds 69 = .ok (.invokevirtual 89, 3) := by decide +kernel
theorem dX1_holds_72 : decode cX1_holds 72 = .ok (.ireturn, 1) := by decide +kernel
theorem dX1_holds_73 : decode cX1_holds 73 = .ok (.aload_n 1, 1) := by decide +kernel
theorem dX1_holds_74 : decode cX1_holds 74 = .ok (.aload_n 0, 1) := by decide +kernel
theorem dX1_holds_75 : decode cX1_holds 75 = .ok (.getfield 82, 3) := by decide +kernel
theorem dX1_holds_78 : decode cX1_holds 78 = .ok (.aload_n 0, 1) := by decide +kernel
theorem dX1_holds_79 : decode cX1_holds 79 = .ok (.getfield 93, 3) := by decide +kernel
theorem dX1_holds_82 : decode cX1_holds 82 = .ok (.iconst 0, 1) := by decide +kernel
theorem dX1_holds_83 : decode cX1_holds 83 = .ok (.invokevirtual 96, 3) := by decide +kernel
theorem dX1_holds_86 : decode cX1_holds 86 = .ok (.ireturn, 1) := by decide +kernel
theorem dX1_holds_87 : decode cX1_holds 87 = .ok (.aload_n 1, 1) := by decide +kernel
theorem dX1_holds_88 : decode cX1_holds 88 = .ok (.aload_n 0, 1) := by decide +kernel
theorem dX1_holds_89 : decode cX1_holds 89 = .ok (.getfield 82, 3) := by decide +kernel
theorem dX1_holds_92 : decode cX1_holds 92 = .ok (.aload_n 0, 1) := by decide +kernel
theorem dX1_holds_93 : decode cX1_holds 93 = .ok (.getfield 93, 3) := by decide +kernel
theorem dX1_holds_96 : decode cX1_holds 96 = .ok (.iconst 1, 1) := by decide +kernel
theorem dX1_holds_97 : decode cX1_holds 97 = .ok (.invokevirtual 96, 3) := by decide +kernel
theorem dX1_holds_100 : decode cX1_holds 100 = .ok (.ireturn, 1) := by decide +kernel
theorem dX1_holds_101 : decode cX1_holds 101 = .ok (.aload_n 1, 1) := by decide +kernel
theorem dX1_holds_102 : decode cX1_holds 102 = .ok (.getfield 65, 3) := by decide +kernel
theorem dX1_holds_105 : decode cX1_holds 105 = .ok (.aload_n 0, 1) := by decide +kernel
theorem dX1_holds_106 : decode cX1_holds 106 = .ok (.getfield 86, 3) := by decide +kernel
theorem dX1_holds_109 : decode cX1_holds 109 = .ok (.if_icmp .lt 7, 3) := by decide +kernel
theorem dX1_holds_112 : decode cX1_holds 112 = .ok (.iconst 1, 1) := by decide +kernel
theorem dX1_holds_113 : decode cX1_holds 113 = .ok (.goto 4, 3) := by decide +kernel
theorem dX1_holds_116 : decode cX1_holds 116 = .ok (.iconst 0, 1) := by decide +kernel
theorem dX1_holds_117 : decode cX1_holds 117 = .ok (.ireturn, 1) := by decide +kernel
theorem dX1_holds_118 : decode cX1_holds 118 = .ok (.aload_n 1, 1) := by decide +kernel
theorem dX1_holds_119 : decode cX1_holds 119 = .ok (.getfield 65, 3) := by decide +kernel
theorem dX1_holds_122 : decode cX1_holds 122 = .ok (.iconst 2, 1) := by decide +kernel
theorem dX1_holds_123 : decode cX1_holds 123 = .ok (.irem, 1) := by decide +kernel
theorem dX1_holds_124 : decode cX1_holds 124 = .ok (.ifCond .ne 7, 3) := by decide +kernel
theorem dX1_holds_127 : decode cX1_holds 127 = .ok (.iconst 1, 1) := by decide +kernel
theorem dX1_holds_128 : decode cX1_holds 128 = .ok (.goto 4, 3) := by decide +kernel
theorem dX1_holds_131 : decode cX1_holds 131 = .ok (.iconst 0, 1) := by decide +kernel
theorem dX1_holds_132 : decode cX1_holds 132 = .ok (.ireturn, 1) := by decide +kernel
theorem dX1_holds_133 : decode cX1_holds 133 = .ok (.aload_n 0, 1) := by decide +kernel
theorem dX1_holds_134 : decode cX1_holds 134 = .ok (.getfield 100, 3) := by decide +kernel
theorem dX1_holds_137 : decode cX1_holds 137 = .ok (.aload_n 1, 1) := by decide +kernel
theorem dX1_holds_138 : decode cX1_holds 138 = .ok (.iload_n 2, 1) := by decide +kernel
theorem dX1_holds_139 : decode cX1_holds 139 = .ok (.iconst 1, 1) := by decide +kernel
theorem dX1_holds_140 : decode cX1_holds 140 = .ok (.iadd, 1) := by decide +kernel
theorem dX1_holds_141 : decode cX1_holds 141 = .ok (.invokestatic 27, 3) := by decide +kernel
theorem dX1_holds_144 : decode cX1_holds 144 = .ok (.ifCond .ne 7, 3) := by decide +kernel
theorem dX1_holds_147 : decode cX1_holds 147 = .ok (.iconst 1, 1) := by decide +kernel
theorem dX1_holds_148 : decode cX1_holds 148 = .ok (.goto 4, 3) := by decide +kernel
theorem dX1_holds_151 : decode cX1_holds 151 = .ok (.iconst 0, 1) := by decide +kernel
theorem dX1_holds_152 : decode cX1_holds 152 = .ok (.ireturn, 1) := by decide +kernel
theorem dX1_holds_153 : decode cX1_holds 153 = .ok (.aload_n 0, 1) := by decide +kernel
theorem dX1_holds_154 : decode cX1_holds 154 = .ok (.getfield 100, 3) := by decide +kernel
theorem dX1_holds_157 : decode cX1_holds 157 = .ok (.aload_n 1, 1) := by decide +kernel
theorem dX1_holds_158 : decode cX1_holds 158 = .ok (.iload_n 2, 1) := by decide +kernel
theorem dX1_holds_159 : decode cX1_holds 159 = .ok (.iconst 1, 1) := by decide +kernel
theorem dX1_holds_160 : decode cX1_holds 160 = .ok (.iadd, 1) := by decide +kernel
theorem dX1_holds_161 : decode cX1_holds 161 = .ok (.invokestatic 27, 3) := by decide +kernel
theorem dX1_holds_164 : decode cX1_holds 164 = .ok (.ifCond .eq 21, 3) := by decide +kernel
theorem dX1_holds_167 : decode cX1_holds 167 = .ok (.aload_n 0, 1) := by decide +kernel
theorem dX1_holds_168 : decode cX1_holds 168 = .ok (.getfield 103, 3) := by decide +kernel
theorem dX1_holds_171 : decode cX1_holds 171 = .ok (.aload_n 1, 1) := by decide +kernel
theorem dX1_holds_172 : decode cX1_holds 172 = .ok (.iload_n 2, 1) := by decide +kernel
theorem dX1_holds_173 : decode cX1_holds 173 = .ok (.iconst 1, 1) := by decide +kernel
theorem dX1_holds_174 : decode cX1_holds 174 = .ok (.iadd, 1) := by decide +kernel
theorem dX1_holds_175 : decode cX1_holds 175 = .ok (.invokestatic 27, 3) := by decide +kernel
theorem dX1_holds_178 : decode cX1_holds 178 = .ok (.ifCond .eq 7, 3) := by decide +kernel
theorem dX1_holds_181 : decode cX1_holds 181 = .ok (.iconst 1, 1) := by decide +kernel
theorem dX1_holds_182 : decode cX1_holds 182 = .ok (.goto 4, 3) := by decide +kernel
theorem dX1_holds_185 : decode cX1_holds 185 = .ok (.iconst 0, 1) := by decide +kernel
theorem dX1_holds_186 : decode cX1_holds 186 = .ok (.ireturn, 1) := by decide +kernel
theorem dX1_holds_187 : decode cX1_holds 187 = .ok (.aload_n 0, 1) := by decide +kernel
theorem dX1_holds_188 : decode cX1_holds 188 = .ok (.getfield 100, 3) := by decide +kernel
theorem dX1_holds_191 : decode cX1_holds 191 = .ok (.aload_n 1, 1) := by decide +kernel
theorem dX1_holds_192 : decode cX1_holds 192 = .ok (.iload_n 2, 1) := by decide +kernel
theorem dX1_holds_193 : decode cX1_holds 193 = .ok (.iconst 1, 1) := by decide +kernel
theorem dX1_holds_194 : decode cX1_holds 194 = .ok (.iadd, 1) := by decide +kernel
theorem dX1_holds_195 : decode cX1_holds 195 = .ok (.invokestatic 27, 3) := by decide +kernel
theorem dX1_holds_198 : decode cX1_holds 198 = .ok (.ifCond .ne 17, 3) := by decide +kernel
theorem dX1_holds_201 : decode cX1_holds 201 = .ok (.aload_n 0, 1) := by decide +kernel
theorem dX1_holds_202 : decode cX1_holds 202 = .ok (.getfield 103, 3) := by decide +kernel
theorem dX1_holds_205 : decode cX1_holds 205 = .ok (.aload_n 1, 1) := by decide +kernel
theorem dX1_holds_206 : decode cX1_holds 206 = .ok (.iload_n 2, 1) := by decide +kernel
theorem dX1_holds_207 : decode cX1_holds 207 = .ok (.iconst 1, 1) := by decide +kernel
theorem dX1_holds_208 : decode cX1_holds 208 = .ok (.iadd, 1) := by decide +kernel
theorem dX1_holds_209 : decode cX1_holds 209 = .ok (.invokestatic 27, 3) := by decide +kernel
theorem dX1_holds_212 : decode cX1_holds 212 = .ok (.ifCond .eq 7, 3) := by decide +kernel
theorem dX1_holds_215 : decode cX1_holds 215 = .ok (.iconst 1, 1) := by decide +kernel
theorem dX1_holds_216 : decode cX1_holds 216 = .ok (.goto 4, 3) := by decide +kernel
theorem dX1_holds_219 : decode cX1_holds 219 = .ok (.iconst 0, 1) := by decide +kernel
theorem dX1_holds_220 : decode cX1_holds 220 = .ok (.ireturn, 1) := by decide +kernel
theorem dX2_init_0 : decode cX2_init 0 = .ok (.aload_n 0, 1) := by decide +kernel
theorem dX2_init_1 : decode cX2_init 1 = .ok (.invokespecial 3, 3) := by decide +kernel
theorem dX2_init_4 : decode cX2_init 4 = .ok (.aload_n 0, 1) := by decide +kernel
theorem dX2_init_5 : decode cX2_init 5 = .ok (.new 9, 3) := by decide +kernel
theorem dX2_init_8 : decode cX2_init 8 = .ok (.dup, 1) := by decide +kernel
theorem dX2_init_9 : decode cX2_init 9 = .ok (.invokespecial 11, 3) := by decide +kernel
theorem dX2_init_12 : decode cX2_init 12 = .ok (.putfield 12, 3) := by decide +kernel
theorem dX2_init_15 : decode cX2_init 15 = .ok (.aload_n 0, 1) := by decide +kernel
theorem dX2_init_16 : decode cX2_init 16 = .ok (.new 9, 3) := by decide +kernel
theorem dX2_init_19 : decode cX2_init 19 = .ok (.dup, 1) := by decide +kernel
theorem dX2_init_20 : decode cX2_init 20 = .ok (.invokespecial 11, 3) := by decide +kernel
theorem dX2_init_23 : decode cX2_init 23 = .ok (.putfield 18, 3) := by decide +kernel
theorem dX2_init_26 : decode cX2_init 26 = .ok (.aload_n 0, 1) := by decide +kernel
theorem dX2_init_27 : decode cX2_init 27 = .ok (.bipush 32, 2) := by decide +kernel
theorem dX2_init_29 : decode cX2_init 29 = .ok (.newarray .boolean, 2) := by decide +kernel
theorem dX2_init_31 : decode cX2_init 31 = .ok (.putfield 21, 3) := by decide +kernel
theorem dX2_init_34 : decode cX2_init 34 = .ok (.aload_n 0, 1) := by decide +kernel
theorem dX2_init_35 : decode cX2_init 35 = .ok (.bipush 32, 2) := by decide +kernel
theorem dX2_init_37 : decode cX2_init 37 = .ok (.newarray .boolean, 2) := by decide +kernel
theorem dX2_init_39 : decode cX2_init 39 = .ok (.putfield 25, 3) := by decide +kernel
theorem dX2_init_42 : decode cX2_init 42 = .ok (.aload_n 0, 1) := by decide +kernel
theorem dX2_init_43 : decode cX2_init 43 = .ok (.bipush 60, 2) := by decide +kernel
theorem dX2_init_45 : decode cX2_init 45 = .ok (.newarray .int, 2) := by decide +kernel
theorem dX2_init_47 : decode cX2_init 47 = .ok (.putfield 28, 3) := by decide +kernel
theorem dX2_init_50 : decode cX2_init 50 = .ok (.aload_n 0, 1) := by decide +kernel
theorem dX2_init_51 : decode cX2_init 51 = .ok (.bipush 60, 2) := by decide +kernel
theorem dX2_init_53 : decode cX2_init 53 = .ok (.newarray .int, 2) := by decide +kernel
theorem dX2_init_55 : decode cX2_init 55 = .ok (.putfield 32, 3) := by decide +kernel
theorem dX2_init_58 : decode cX2_init 58 = .ok (.aload_n 0, 1) := by decide +kernel
theorem dX2_init_59 : decode cX2_init 59 = .ok (.bipush 60, 2) := by decide +kernel
theorem dX2_init_61 : decode cX2_init 61 = .ok (.newarray .int, 2) := by decide +kernel
theorem dX2_init_63 : decode cX2_init 63 = .ok (.putfield 35, 3) := by decide +kernel
theorem dX2_init_66 : decode cX2_init 66 = .ok (.aload_n 0, 1) := by decide +kernel
theorem dX2_init_67 : decode cX2_init 67 = .ok (.aload_n 1, 1) := by decide +kernel
theorem dX2_init_68 : decode cX2_init 68 = .ok (.putfield 38, 3) := by decide +kernel
theorem dX2_init_71 : decode cX2_init 71 = .ok (.aload_n 0, 1) := by decide +kernel
theorem dX2_init_72 : decode cX2_init 72 = .ok (.aload_n 2, 1) := by decide +kernel
theorem dX2_init_73 : decode cX2_init 73 = .ok (.putfield 41, 3) := by decide +kernel
theorem dX2_init_76 : decode cX2_init 76 = .ok (.return_, 1) := by decide +kernel
theorem dX2_begin_0 : decode cX2_begin 0 = .ok (.aload_n 0, 1) := by decide +kernel
theorem dX2_begin_1 : decode cX2_begin 1 = .ok (.getfield 12, 3) := by decide +kernel
theorem dX2_begin_4 : decode cX2_begin 4 = .ok (.aload_n 0, 1) := by decide +kernel
theorem dX2_begin_5 : decode cX2_begin 5 = .ok (.getfield 38, 3) := by decide +kernel
theorem dX2_begin_8 : decode cX2_begin 8 = .ok (.invokevirtual 45, 3) := by decide +kernel
theorem dX2_begin_11 : decode cX2_begin 11 = .ok (.iconst 0, 1) := by decide +kernel
theorem dX2_begin_12 : decode cX2_begin 12 = .ok (.istore_n 1, 1) := by decide +kernel
theorem dX2_begin_13 : decode cX2_begin 13 = .ok (.iload_n 1, 1) := by decide +kernel
theorem dX2_begin_14 : decode cX2_begin 14 = .ok (.bipush 32, 2) := by decide +kernel
theorem dX2_begin_16 : decode cX2_begin 16 = .ok (.if_icmp .ge 16, 3) := by decide +kernel
theorem dX2_begin_19 : decode cX2_begin 19 = .ok (.aload_n 0, 1) := by decide +kernel
theorem dX2_begin_20 : decode cX2_begin 20 = .ok (.getfield 21, 3) := by decide +kernel
theorem dX2_begin_23 : decode cX2_begin 23 = .ok (.iload_n 1, 1) := by decide +kernel
theorem dX2_begin_24 : decode cX2_begin 24 = .ok (.iconst 0, 1) := by decide +kernel
theorem dX2_begin_25 : decode cX2_begin 25 = .ok (.bastore, 1) := by decide +kernel
theorem dX2_begin_26 : decode cX2_begin 26 = .ok (.iinc 1 1, 3) := by decide +kernel
theorem dX2_begin_29 : decode cX2_begin 29 = .ok (.goto (-16), 3) := by decide +kernel
theorem dX2_begin_32 : decode cX2_begin 32 = .ok (.aload_n 0, 1) := by decide +kernel
theorem dX2_begin_33 : decode cX2_begin 33 = .ok (.iconst 0, 1) := by decide +kernel
theorem dX2_begin_34 : decode cX2_begin 34 = .ok (.putfield 49, 3) := by decide +kernel
theorem dX2_begin_37 : decode cX2_begin 37 = .ok (.return_, 1) := by decide +kernel
theorem dX2_addUnit_0 : decode cX2_addUnit 0 = .ok (.aload_n 0, 1) := by decide +kernel
theorem dX2_addUnit_1 : decode cX2_addUnit 1 = .ok (.getfield 49, 3) := by decide +kernel
theorem dX2_addUnit_4 : decode cX2_addUnit 4 = .ok (.bipush 60, 2) := by decide +kernel
theorem dX2_addUnit_6 : decode cX2_addUnit 6 = .ok (.if_icmp .ge 43, 3) := by decide +kernel
theorem dX2_addUnit_9 : decode cX2_addUnit 9 = .ok (.aload_n 0, 1) := by decide +kernel
theorem dX2_addUnit_10 : decode cX2_addUnit 10 = .ok (.getfield 28, 3) := by decide +kernel
theorem dX2_addUnit_13 : decode cX2_addUnit 13 = .ok (.aload_n 0, 1) := by decide +kernel
theorem dX2_addUnit_14 : decode cX2_addUnit 14 = .ok (.getfield 49, 3) := by decide +kernel
theorem dX2_addUnit_17 : decode cX2_addUnit 17 = .ok (.iload_n 1, 1) := by decide +kernel
theorem dX2_addUnit_18 : decode cX2_addUnit 18 = .ok (.iastore, 1) := by decide +kernel
theorem dX2_addUnit_19 : decode cX2_addUnit 19 = .ok (.aload_n 0, 1) := by decide +kernel
theorem dX2_addUnit_20 : decode cX2_addUnit 20 = .ok (.getfield 32, 3) := by decide +kernel
theorem dX2_addUnit_23 : decode cX2_addUnit 23 = .ok (.aload_n 0, 1) := by decide +kernel
theorem dX2_addUnit_24 : decode cX2_addUnit 24 = .ok (.getfield 49, 3) := by decide +kernel
theorem dX2_addUnit_27 : decode cX2_addUnit 27 = .ok (.iload_n 2, 1) := by decide +kernel
theorem dX2_addUnit_28 : decode cX2_addUnit 28 = .ok (.iastore, 1) := by decide +kernel
theorem dX2_addUnit_29 : decode cX2_addUnit 29 = .ok (.aload_n 0, 1) := by decide +kernel
theorem dX2_addUnit_30 : decode cX2_addUnit 30 = .ok (.getfield 35, 3) := by decide +kernel
theorem dX2_addUnit_33 : decode cX2_addUnit 33 = .ok (.aload_n 0, 1) := by decide +kernel
theorem dX2_addUnit_34 : decode cX2_addUnit 34 = .ok (.getfield 49, 3) := by decide +kernel
theorem dX2_addUnit_37 : decode cX2_addUnit 37 = .ok (.iload_n 3, 1) := by decide +kernel
theorem dX2_addUnit_38 : decode cX2_addUnit 38 = .ok (.iastore, 1) := by decide +kernel
theorem dX2_addUnit_39 : decode cX2_addUnit 39 = .ok (.aload_n 0, 1) := by decide +kernel
theorem dX2_addUnit_40 : decode cX2_addUnit 40 = .ok (.dup, 1) := by decide +kernel
theorem dX2_addUnit_41 : decode cX2_addUnit 41 = .ok (.getfield 49, 3) := by decide +kernel
theorem dX2_addUnit_44 : decode cX2_addUnit 44 = .ok (.iconst 1, 1) := by decide +kernel
theorem dX2_addUnit_45 : decode cX2_addUnit 45 = .ok (.iadd, 1) := by decide +kernel
theorem dX2_addUnit_46 : decode cX2_addUnit 46 = .ok (.putfield 49, 3) := by decide +kernel
theorem dX2_addUnit_49 : decode cX2_addUnit 49 = .ok (.return_, 1) := by decide +kernel
theorem dX2_lessen_0 : decode cX2_lessen 0 = .ok (.iconst 2, 1) := by decide +kernel
theorem dX2_lessen_1 : decode cX2_lessen 1 = .ok (.aload_n 0, 1) := by decide +kernel
theorem dX2_lessen_2 : decode cX2_lessen 2 = .ok (.getfield 49, 3) := by decide +kernel
theorem dX2_lessen_5 : decode cX2_lessen 5 = .ok (.invokestatic 53, 3) := by decide +kernel
theorem dX2_lessen_8 : decode cX2_lessen 8 = .ok (.istore_n 1, 1) := by decide +kernel
theorem dX2_lessen_9 : decode cX2_lessen 9 = .ok (.iconst 0, 1) := by decide +kernel
theorem dX2_lessen_10 : decode cX2_lessen 10 = .ok (.istore_n 2, 1) := by decide +kernel
theorem dX2_lessen_11 : decode cX2_lessen 11 = .ok (.aload_n 0, 1) := by decide +kernel
theorem dX2_lessen_12 : decode cX2_lessen 12 = .ok (.getfield 49, 3) := by decide +kernel
theorem dX2_lessen_15 : decode cX2_lessen 15 = .ok (.ifCond .le 103, 3) := by decide +kernel
theorem dX2_lessen_18 : decode cX2_lessen 18 = .ok (.aload_n 0, 1) := by decide +kernel
theorem dX2_lessen_19 : decode cX2_lessen 19 = .ok (.getfield 41, 3) := by decide +kernel
theorem dX2_lessen_22 : decode cX2_lessen 22 = .ok (.getfield 59, 3) := by decide +kernel
theorem dX2_lessen_25 : decode cX2_lessen 25 = .ok (.ifCond .ne 93, 3) := by decide +kernel
theorem dX2_lessen_28 : decode cX2_lessen 28 = .ok (.iload_n 2, 1) := by decide +kernel
theorem dX2_lessen_29 : decode cX2_lessen 29 = .ok (.ldc 65, 2) := by decide +kernel
theorem dX2_lessen_31 : decode cX2_lessen 31 = .ok (.if_icmp .ge 87, 3) := by decide +kernel
theorem dX2_lessen_34 : decode cX2_lessen 34 = .ok (.iload_n 1, 1) := by decide +kernel
theorem dX2_lessen_35 : decode cX2_lessen 35 = .ok (.iconst 2, 1) := by decide +kernel
theorem dX2_lessen_36 : decode cX2_lessen 36 = .ok (.if_icmp .lt 24, 3) := by decide +kernel
theorem dX2_lessen_39 : decode cX2_lessen 39 = .ok (.aload_n 0, 1) := by decide +kernel
theorem dX2_lessen_40 : decode cX2_lessen 40 = .ok (.iload_n 1, 1) := by decide +kernel
theorem dX2_lessen_41 : decode cX2_lessen 41 = .ok (.iconst 1, 1) := by decide +kernel
theorem dX2_lessen_42 : decode cX2_lessen 42 = .ok (.invokevirtual 66, 3) := by decide +kernel
theorem dX2_lessen_45 : decode cX2_lessen 45 = .ok (.ifCond .eq 15, 3) := by decide +kernel
theorem dX2_lessen_48 : decode cX2_lessen 48 = .ok (.iconst 2, 1) := by decide +kernel
theorem dX2_lessen_49 : decode cX2_lessen 49 = .ok (.aload_n 0, 1) := by decide +kernel
theorem dX2_lessen_50 : decode cX2_lessen 50 = .ok (.getfield 49, 3) := by decide +kernel
theorem dX2_lessen_53 : decode cX2_lessen 53 = .ok (.invokestatic 53, 3) := by decide +kernel
theorem dX2_lessen_56 : decode cX2_lessen 56 = .ok (.istore_n 1, 1) := by decide +kernel
theorem dX2_lessen_57 : decode cX2_lessen 57 = .ok (.goto 55, 3) := by decide +kernel
theorem dX2_lessen_60 : decode cX2_lessen 60 = .ok (.iload_n 1, 1) := by decide +kernel
theorem dX2_lessen_61 : decode cX2_lessen 61 = .ok (.iconst 2, 1) := by decide +kernel
theorem dX2_lessen_62 : decode cX2_lessen 62 = .ok (.if_icmp .eq 30, 3) := by decide +kernel
theorem dX2_lessen_65 : decode cX2_lessen 65 = .ok (.aload_n 0, 1) := by decide +kernel
theorem dX2_lessen_66 : decode cX2_lessen 66 = .ok (.iload_n 1, 1) := by decide +kernel
theorem dX2_lessen_67 : decode cX2_lessen 67 = .ok (.iconst 0, 1) := by decide +kernel
theorem dX2_lessen_68 : decode cX2_lessen 68 = .ok (.invokevirtual 66, 3) := by decide +kernel
theorem dX2_lessen_71 : decode cX2_lessen 71 = .ok (.ifCond .eq 21, 3) := by decide +kernel
theorem dX2_lessen_74 : decode cX2_lessen 74 = .ok (.iconst 2, 1) := by decide +kernel
theorem dX2_lessen_75 : decode cX2_lessen 75 = .ok (.iload_n 1, 1) := by decide +kernel
theorem dX2_lessen_76 : decode cX2_lessen 76 = .ok (.iconst 1, 1) := by decide +kernel
theorem dX2_lessen_77 : decode cX2_lessen 77 = .ok (.isub, 1) := by decide +kernel
theorem dX2_lessen_78 : decode cX2_lessen 78 = .ok (.invokestatic 70, 3) := by decide +kernel
theorem dX2_lessen_81 : decode cX2_lessen 81 = .ok (.aload_n 0, 1) := by decide +kernel
theorem dX2_lessen_82 : decode cX2_lessen 82 = .ok (.getfield 49, 3) := by decide +kernel
theorem dX2_lessen_85 : decode cX2_lessen 85 = .ok (.invokestatic 53, 3) := by decide +kernel
theorem dX2_lessen_88 : decode cX2_lessen 88 = .ok (.istore_n 1, 1) := by decide +kernel
theorem dX2_lessen_89 : decode cX2_lessen 89 = .ok (.goto 23, 3) := by decide +kernel
theorem dX2_lessen_92 : decode cX2_lessen 92 = .ok (.iload_n 1, 1) := by decide +kernel
theorem dX2_lessen_93 : decode cX2_lessen 93 = .ok (.aload_n 0, 1) := by decide +kernel
theorem dX2_lessen_94 : decode cX2_lessen 94 = .ok (.getfield 49, 3) := by decide +kernel
theorem dX2_lessen_97 : decode cX2_lessen 97 = .ok (.if_icmp .lt 4, 3) := by decide +kernel
theorem dX2_lessen_100 : decode cX2_lessen 100 = .ok (.return_, 1) := by decide +kernel
theorem dX2_lessen_101 : decode cX2_lessen 101 = .ok (.iconst 2, 1) := by decide +kernel
theorem dX2_lessen_102 : decode cX2_lessen 102 = .ok (.iload_n 1, 1) := by decide +kernel
theorem dX2_lessen_103 : decode cX2_lessen 103 = .ok (.imul, 1) := by decide +kernel
theorem dX2_lessen_104 : decode cX2_lessen 104 = .ok (.aload_n 0, 1) := by decide +kernel
theorem dX2_lessen_105 : decode cX2_lessen 105 = .ok (.getfield 49, 3) := by decide +kernel
theorem dX2_lessen_108 : decode cX2_lessen 108 = .ok (.invokestatic 53, 3) := by decide +kernel
theorem dX2_lessen_111 : decode cX2_lessen 111 = .ok (.istore_n 1, 1) := by decide +kernel
theorem dX2_lessen_112 : decode cX2_lessen 112 = .ok (.iinc 2 1, 3) := by decide +kernel
theorem dX2_lessen_115 : decode cX2_lessen 115 = .ok (.goto (-104), 3) := by decide +kernel
theorem dX2_lessen_118 : decode cX2_lessen 118 = .ok (.return_, 1) := by decide +kernel
theorem dX2_takes_0 : decode cX2_takes 0 = .ok (.iconst 0, 1) := by decide +kernel
theorem dX2_takes_1 : decode cX2_takes 1 = .ok (.istore_n 3, 1) := by decide +kernel
theorem dX2_takes_2 : decode cX2_takes 2 = .ok (.iload_n 3, 1) := by decide +kernel
theorem dX2_takes_3 : decode cX2_takes 3 = .ok (.iload_n 1, 1) := by decide +kernel
theorem dX2_takes_4 : decode cX2_takes 4 = .ok (.if_icmp .ge 87, 3) := by decide +kernel
theorem dX2_takes_7 : decode cX2_takes 7 = .ok (.aload_n 0, 1) := by decide +kernel
theorem dX2_takes_8 : decode cX2_takes 8 = .ok (.getfield 41, 3) := by decide +kernel
theorem dX2_takes_11 : decode cX2_takes 11 = .ok (.getfield 59, 3) := by decide +kernel
theorem dX2_takes_14 : decode cX2_takes 14 = .ok (.ifCond .ne 77, 3) := by decide +kernel
theorem dX2_takes_17 : decode cX2_takes 17 = .ok (.iload_n 3, 1) := by decide +kernel
theorem dX2_takes_18 : decode cX2_takes 18 = .ok (.aload_n 0, 1) := by decide +kernel
theorem dX2_takes_19 : decode cX2_takes 19 = .ok (.getfield 49, 3) := by decide +kernel
theorem dX2_takes_22 : decode cX2_takes 22 = .ok (.imul, 1) := by decide +kernel
theorem dX2_takes_23 : decode cX2_takes 23 = .ok (.iload_n 1, 1) := by decide +kernel
theorem dX2_takes_24 : decode cX2_takes 24 = .ok (.idiv, 1) := by decide +kernel
theorem dX2_takes_25 : decode cX2_takes 25 = .ok (.istore 4, 2) := by decide +kernel
theorem dX2_takes_27 : decode cX2_takes 27 = .ok (.iload_n 3, 1) := by decide +kernel
theorem dX2_takes_28 : decode cX2_takes 28 = .ok (.iconst 1, 1) := by decide +kernel
theorem dX2_takes_29 : decode cX2_takes 29 = .ok (.iadd, 1) := by decide +kernel
theorem dX2_takes_30 : decode cX2_takes 30 = .ok (.aload_n 0, 1) := by decide +kernel
theorem dX2_takes_31 : decode cX2_takes 31 = .ok (.getfield 49, 3) := by decide +kernel
theorem dX2_takes_34 : decode cX2_takes 34 = .ok (.imul, 1) := by decide +kernel
theorem dX2_takes_35 : decode cX2_takes 35 = .ok (.iload_n 1, 1) := by decide +kernel
theorem dX2_takes_36 : decode cX2_takes 36 = .ok (.idiv, 1) := by decide +kernel
theorem dX2_takes_37 : decode cX2_takes 37 = .ok (.istore 5, 2) := by decide +kernel
theorem dX2_takes_39 : decode cX2_takes 39 = .ok (.aload_n 0, 1) := by decide +kernel
theorem dX2_takes_40 : decode cX2_takes 40 = .ok (.iload 4, 2) := by decide +kernel
theorem dX2_takes_42 : decode cX2_takes 42 = .ok (.iload 5, 2) := by decide +kernel
theorem dX2_takes_44 : decode cX2_takes 44 = .ok (.iload_n 2, 1) := by decide +kernel
theorem dX2_takes_45 : decode cX2_takes 45 = .ok (.invokevirtual 73, 3) := by decide +kernel
theorem dX2_takes_48 : decode cX2_takes 48 = .ok (.aload_n 0, 1) := by decide +kernel
theorem dX2_takes_49 : decode cX2_takes 49 = .ok (.getfield 41, 3) := by decide +kernel
theorem dX2_takes_52 : decode cX2_takes 52 = .ok (.aload_n 0, 1) := by decide +kernel
theorem dX2_takes_53 : decode cX2_takes 53 = .ok (.getfield 18, 3) := by decide +kernel
theorem dX2_takes_56 : decode cX2_takes 56 = .ok (.invokevirtual 77, 3) := by decide +kernel
theorem dX2_takes_59 : decode cX2_takes 59 = .ok (.iconst 1, 1) := by decide +kernel
theorem dX2_takes_60 : decode cX2_takes 60 = .ok (.if_icmp .ne 25, 3) := by decide +kernel
theorem dX2_takes_63 : decode cX2_takes 63 = .ok (.aload_n 0, 1) := by decide +kernel
theorem dX2_takes_64 : decode cX2_takes 64 = .ok (.getfield 38, 3) := by decide +kernel
theorem dX2_takes_67 : decode cX2_takes 67 = .ok (.aload_n 0, 1) := by decide +kernel
theorem dX2_takes_68 : decode cX2_takes 68 = .ok (.getfield 18, 3) := by decide +kernel
theorem dX2_takes_71 : decode cX2_takes 71 = .ok (.invokevirtual 45, 3) := by decide +kernel
theorem dX2_takes_74 : decode cX2_takes 74 = .ok (.aload_n 0, 1) := by decide +kernel
theorem dX2_takes_75 : decode cX2_takes 75 = .ok (.iload 4, 2) := by decide +kernel
theorem dX2_takes_77 : decode cX2_takes 77 = .ok (.iload 5, 2) := by decide +kernel
theorem dX2_takes_79 : decode cX2_takes 79 = .ok (.iload_n 2, 1) := by decide +kernel
theorem dX2_takes_80 : decode cX2_takes 80 = .ok (.invokevirtual 81, 3) := by decide +kernel
theorem dX2_takes_83 : decode cX2_takes 83 = .ok (.iconst 1, 1) := by decide +kernel
theorem dX2_takes_84 : decode cX2_takes 84 = .ok (.ireturn, 1) := by decide +kernel
theorem dX2_takes_85 : decode cX2_takes 85 = .ok (.iinc 3 1, 3) := by decide +kernel
theorem dX2_takes_88 : decode cX2_takes 88 = .ok (.goto (-86), 3) := by decide +kernel
theorem dX2_takes_91 : decode cX2_takes 91 = .ok (.iconst 0, 1) := by decide +kernel
theorem dX2_takes_92 : decode cX2_takes 92 = .ok (.ireturn, 1) := by decide +kernel
theorem dX2_makeTrial_0 : decode cX2_makeTrial 0 = .ok (.iconst 0, 1) := by decide +kernel
theorem dX2_makeTrial_1 : decode cX2_makeTrial 1 = .ok (.istore 4, 2) := by decide +kernel
theorem dX2_makeTrial_3 : decode cX2_makeTrial 3 = .ok (.iload 4, 2) := by decide +kernel
theorem dX2_makeTrial_5 : decode cX2_makeTrial 5 = .ok (.bipush 32, 2) := by decide +kernel
theorem dX2_makeTrial_7 : decode cX2_makeTrial 7 = .ok (.if_icmp .ge 23, 3) := by decide +kernel
theorem dX2_makeTrial_10 : decode cX2_makeTrial 10 = .ok (.aload_n 0, 1) := by decide +kernel
theorem dX2_makeTrial_11 : decode cX2_makeTrial 11 = .ok (.getfield 25, 3) := by decide +kernel
theorem dX2_makeTrial_14 : decode cX2_makeTrial 14 = .ok (.iload 4, 2) := by decide +kernel
theorem dX2_makeTrial_16 : decode cX2_makeTrial 16 = .ok (.aload_n 0, 1) := by decide +kernel
theorem dX2_makeTrial_17 : decode cX2_makeTrial 17 = .ok (.getfield 21, 3) := by decide +kernel
theorem dX2_makeTrial_20 : decode cX2_makeTrial 20 = .ok (.iload 4, 2) := by decide +kernel
theorem dX2_makeTrial_22 : decode cX2_makeTrial 22 = .ok (.baload, 1) := by decide +kernel
theorem dX2_makeTrial_23 : decode cX2_makeTrial 23 = .ok (.bastore, 1) := by decide +kernel
theorem dX2_makeTrial_24 : decode cX2_makeTrial 24 = .ok (.iinc 4 1, 3) := by decide +kernel
theorem dX2_makeTrial_27 : decode cX2_makeTrial 27 = .ok (.goto (-24), 3) := by decide +kernel
theorem dX2_makeTrial_30 : decode cX2_makeTrial 30 = .ok (.iconst 0, 1) := by decide +kernel
theorem dX2_makeTrial_31 : decode cX2_makeTrial 31 = .ok (.istore 4, 2) := by decide +kernel
theorem dX2_makeTrial_33 : decode cX2_makeTrial 33 = .ok (.iload 4, 2) := by decide +kernel
theorem dX2_makeTrial_35 : decode cX2_makeTrial 35 = .ok (.aload_n 0, 1) := by decide +kernel
theorem dX2_makeTrial_36 : decode cX2_makeTrial 36 = .ok (.getfield 49, 3) := by decide +kernel
theorem dX2_makeTrial_39 : decode cX2_makeTrial 39 = .ok (.if_icmp .ge 69, 3) := by decide +kernel
theorem dX2_makeTrial_42 : decode cX2_makeTrial 42 = .ok (.iload 4, 2) := by decide +kernel
theorem dX2_makeTrial_44 : decode cX2_makeTrial 44 = .ok (.iload_n 1, 1) := by decide +kernel
theorem dX2_makeTrial_45 : decode cX2_makeTrial 45 = .ok (.if_icmp .lt 13, 3) := by decide +kernel
theorem dX2_makeTrial_48 : decode cX2_makeTrial 48 = .ok (.iload 4, 2) := by decide +kernel
theorem dX2_makeTrial_50 : decode cX2_makeTrial 50 = .ok (.iload_n 2, 1) := by decide +kernel
theorem dX2_makeTrial_51 : decode cX2_makeTrial 51 = .ok (.if_icmp .ge 7, 3) := by decide +kernel
theorem dX2_makeTrial_54 : decode cX2_makeTrial 54 = .ok (.iconst 1, 1) := by decide +kernel
theorem dX2_makeTrial_55 : decode cX2_makeTrial 55 = .ok (.goto 4, 3) := by decide +kernel
theorem dX2_makeTrial_58 : decode cX2_makeTrial 58 = .ok (.iconst 0, 1) := by decide +kernel
theorem dX2_makeTrial_59 : decode cX2_makeTrial 59 = .ok (.istore 5, 2) := by decide +kernel
theorem dX2_makeTrial_61 : decode cX2_makeTrial 61 = .ok (.aload_n 0, 1) := by decide +kernel
theorem dX2_makeTrial_62 : decode cX2_makeTrial 62 = .ok (.getfield 28, 3) := by decide +kernel
theorem dX2_makeTrial_65 : decode cX2_makeTrial 65 = .ok (.iload 4, 2) := by decide +kernel
theorem dX2_makeTrial_67 : decode cX2_makeTrial 67 = .ok (.iaload, 1) := by decide +kernel
theorem dX2_makeTrial_68 : decode cX2_makeTrial 68 = .ok (.istore 6, 2) := by decide +kernel
theorem dX2_makeTrial_70 : decode cX2_makeTrial 70 = .ok (.iload 5, 2) := by decide +kernel
theorem dX2_makeTrial_72 : decode cX2_makeTrial 72 = .ok (.iload_n 3, 1) := by decide +kernel
theorem dX2_makeTrial_73 : decode cX2_makeTrial 73 = .ok (.if_icmp .eq 29, 3) := by decide +kernel
theorem dX2_makeTrial_76 : decode cX2_makeTrial 76 = .ok (.iload 6, 2) := by decide +kernel
theorem dX2_makeTrial_78 : decode cX2_makeTrial 78 = .ok (.aload_n 0, 1) := by decide +kernel
theorem dX2_makeTrial_79 : decode cX2_makeTrial 79 = .ok (.getfield 32, 3) := by decide +kernel
theorem dX2_makeTrial_82 : decode cX2_makeTrial 82 = .ok (.iload 4, 2) := by decide +kernel
theorem dX2_makeTrial_84 : decode cX2_makeTrial 84 = .ok (.iaload, 1) := by decide +kernel
theorem dX2_makeTrial_85 : decode cX2_makeTrial 85 = .ok (.if_icmp .ge 17, 3) := by decide +kernel
theorem dX2_makeTrial_88 : decode cX2_makeTrial 88 = .ok (.aload_n 0, 1) := by decide +kernel
theorem dX2_makeTrial_89 : decode cX2_makeTrial 89 = .ok (.getfield 25, 3) := by decide +kernel
theorem dX2_makeTrial_92 : decode cX2_makeTrial 92 = .ok (.iload 6, 2) := by decide +kernel
theorem dX2_makeTrial_94 : decode cX2_makeTrial 94 = .ok (.iconst 1, 1) := by decide +kernel
theorem dX2_makeTrial_95 : decode cX2_makeTrial 95 = .ok (.bastore, 1) := by decide +kernel
theorem dX2_makeTrial_96 : decode cX2_makeTrial 96 = .ok (.iinc 6 1, 3) := by decide +kernel
theorem dX2_makeTrial_99 : decode cX2_makeTrial 99 = .ok (.goto (-29), 3) := by decide +kernel
theorem dX2_makeTrial_102 : decode cX2_makeTrial 102 = .ok (.iinc 4 1, 3) := by decide +kernel
theorem dX2_makeTrial_105 : decode cX2_makeTrial 105 = .ok (.goto (-72), 3) := by decide +kernel
theorem dX2_makeTrial_108 : decode cX2_makeTrial 108 = .ok (.aload_n 0, 1) := by decide +kernel
theorem dX2_makeTrial_109 : decode cX2_makeTrial 109 = .ok (.getfield 18, 3) := by decide +kernel
theorem dX2_makeTrial_112 : decode cX2_makeTrial 112 = .ok (.iconst 0, 1) := by decide +kernel
theorem dX2_makeTrial_113 : decode cX2_makeTrial 113 = .ok (.putfield 84, 3) := by decide +kernel
theorem dX2_makeTrial_116 : decode cX2_makeTrial 116 = .ok (.iconst 0, 1) := by decide +kernel
theorem dX2_makeTrial_117 : decode cX2_makeTrial 117 = .ok (.istore 4, 2) := by decide +kernel
theorem dX2_makeTrial_119 : decode cX2_makeTrial 119 = .ok (.iload 4, 2) := by decide +kernel
theorem dX2_makeTrial_121 : decode cX2_makeTrial 121 = .ok (.aload_n 0, 1) := by decide +kernel
theorem dX2_makeTrial_122 : decode cX2_makeTrial 122 = .ok (.getfield 12, 3) := by decide +kernel
theorem dX2_makeTrial_125 : decode cX2_makeTrial 125 = .ok (.getfield 84, 3) := by decide +kernel
theorem dX2_makeTrial_128 : decode cX2_makeTrial 128 = .ok (.if_icmp .ge 37, 3) := by decide +kernel
theorem dX2_makeTrial_131 : decode cX2_makeTrial 131 = .ok (.aload_n 0, 1) := by decide +kernel
theorem dX2_makeTrial_132 : decode cX2_makeTrial 132 = .ok (.getfield 25, 3) := by decide +kernel
theorem dX2_makeTrial_135 : decode cX2_makeTrial 135 = .ok (.iload 4, 2) := by decide +kernel
theorem dX2_makeTrial_137 : decode cX2_makeTrial 137 = .ok (.baload, 1) := by decide +kernel
theorem dX2_makeTrial_138 : decode cX2_makeTrial 138 = .ok (.ifCond .ne 21, 3) := by decide +kernel
theorem dX2_makeTrial_141 : decode cX2_makeTrial 141 = .ok (.aload_n 0, 1) := by decide +kernel
theorem dX2_makeTrial_142 : decode cX2_makeTrial 142 = .ok (.getfield 18, 3) := by decide +kernel
theorem dX2_makeTrial_145 : decode cX2_makeTrial 145 = .ok (.aload_n 0, 1) := by decide +kernel
theorem dX2_makeTrial_146 : decode cX2_makeTrial 146 = .ok (.getfield 12, 3) := by decide +kernel
theorem dX2_makeTrial_149 : decode cX2_makeTrial 149 = .ok (.getfield 87, 3) := by decide +kernel
theorem dX2_makeTrial_152 : decode cX2_makeTrial 152 = .ok (.iload 4, 2) := by decide +kernel
theorem dX2_makeTrial_154 : decode cX2_makeTrial 154 = .ok (.caload, 1) := by decide +kernel
theorem dX2_makeTrial_155 : decode cX2_makeTrial 155 = .ok (.invokevirtual 91, 3) := by decide +kernel
theorem dX2_makeTrial_158 : decode cX2_makeTrial 158 = .ok (.pop, 1) := by decide +kernel
theorem dX2_makeTrial_159 : decode cX2_makeTrial 159 = .ok (.iinc 4 1, 3) := by decide +kernel
theorem dX2_makeTrial_162 : decode cX2_makeTrial 162 = .ok (.goto (-43), 3) := by decide +kernel
theorem dX2_makeTrial_165 : decode cX2_makeTrial 165 = .ok (.return_, 1) := by decide +kernel
theorem dX2_keepTrial_0 : decode cX2_keepTrial 0 = .ok (.iconst 0, 1) := by decide +kernel
theorem dX2_keepTrial_1 : decode cX2_keepTrial 1 = .ok (.istore 4, 2) := by decide +kernel
theorem dX2_keepTrial_3 : decode cX2_keepTrial 3 = .ok (.iload 4, 2) := by decide +kernel
theorem dX2_keepTrial_5 : decode cX2_keepTrial 5 = .ok (.bipush 32, 2) := by decide +kernel
theorem dX2_keepTrial_7 : decode cX2_keepTrial 7 = .ok (.if_icmp .ge 23, 3) := by decide +kernel
theorem dX2_keepTrial_10 : decode cX2_keepTrial 10 = .ok (.aload_n 0, 1) := by decide +kernel
theorem dX2_keepTrial_11 : decode cX2_keepTrial 11 = .ok (.getfield 21, 3) := by decide +kernel
theorem dX2_keepTrial_14 : decode cX2_keepTrial 14 = .ok (.iload 4, 2) := by decide +kernel
theorem dX2_keepTrial_16 : decode cX2_keepTrial 16 = .ok (.aload_n 0, 1) := by decide +kernel
theorem dX2_keepTrial_17 : decode cX2_keepTrial 17 = .ok (.getfield 25, 3) := by decide +kernel
theorem dX2_keepTrial_20 : decode cX2_keepTrial 20 = .ok (.iload 4, 2) := by decide +kernel
theorem dX2_keepTrial_22 : decode cX2_keepTrial 22 = .ok (.baload, 1) := by decide +kernel
theorem dX2_keepTrial_23 : decode cX2_keepTrial 23 = .ok (.bastore, 1) := by decide +kernel
theorem dX2_keepTrial_24 : decode cX2_keepTrial 24 = .ok (.iinc 4 1, 3) := by decide +kernel
theorem dX2_keepTrial_27 : decode cX2_keepTrial 27 = .ok (.goto (-24), 3) := by decide +kernel
theorem dX2_keepTrial_30 : decode cX2_keepTrial 30 = .ok (.aload_n 0, 1) := by decide +kernel
theorem dX2_keepTrial_31 : decode cX2_keepTrial 31 = .ok (.getfield 49, 3) := by decide +kernel
theorem dX2_keepTrial_34 : decode cX2_keepTrial 34 = .ok (.istore 4, 2) := by decide +kernel
theorem dX2_keepTrial_36 : decode cX2_keepTrial 36 = .ok (.aload_n 0, 1) := by decide +kernel
theorem dX2_keepTrial_37 : decode cX2_keepTrial 37 = .ok (.iconst 0, 1) := by decide +kernel
theorem dX2_keepTrial_38 : decode cX2_keepTrial 38 = .ok (.putfield 49, 3) := by decide +kernel
theorem dX2_keepTrial_41 : decode cX2_keepTrial 41 = .ok (.iconst 0, 1) := by decide +kernel
theorem dX2_keepTrial_42 : decode cX2_keepTrial 42 = .ok (.istore 5, 2) := by decide +kernel
theorem dX2_keepTrial_44 : decode cX2_keepTrial 44 = .ok (.iload 5, 2) := by decide +kernel
theorem dX2_keepTrial_46 : decode cX2_keepTrial 46 = .ok (.iload 4, 2) := by decide +kernel
theorem dX2_keepTrial_48 : decode cX2_keepTrial 48 = .ok (.if_icmp .ge 59, 3) := by decide +kernel
theorem dX2_keepTrial_51 : decode cX2_keepTrial 51 = .ok (.iload 5, 2) := by decide +kernel
theorem dX2_keepTrial_53 : decode cX2_keepTrial 53 = .ok (.iload_n 1, 1) := by decide +kernel
theorem dX2_keepTrial_54 : decode cX2_keepTrial 54 = .ok (.if_icmp .lt 13, 3) := by decide +kernel
theorem dX2_keepTrial_57 : decode cX2_keepTrial 57 = .ok (.iload 5, 2) := by decide +kernel
theorem dX2_keepTrial_59 : decode cX2_keepTrial 59 = .ok (.iload_n 2, 1) := by decide +kernel
theorem dX2_keepTrial_60 : decode cX2_keepTrial 60 = .ok (.if_icmp .ge 7, 3) := by decide +kernel
theorem dX2_keepTrial_63 : decode cX2_keepTrial 63 = .ok (.iconst 1, 1) := by decide +kernel
theorem dX2_keepTrial_64 : decode cX2_keepTrial 64 = .ok (.goto 4, 3) := by decide +kernel
theorem dX2_keepTrial_67 : decode cX2_keepTrial 67 = .ok (.iconst 0, 1) := by decide +kernel
theorem dX2_keepTrial_68 : decode cX2_keepTrial 68 = .ok (.istore 6, 2) := by decide +kernel
theorem dX2_keepTrial_70 : decode cX2_keepTrial 70 = .ok (.iload 6, 2) := by decide +kernel
theorem dX2_keepTrial_72 : decode cX2_keepTrial 72 = .ok (.iload_n 3, 1) := by decide +kernel
theorem dX2_keepTrial_73 : decode cX2_keepTrial 73 = .ok (.if_icmp .ne 28, 3) := by decide +kernel
theorem dX2_keepTrial_76 : decode cX2_keepTrial 76 = .ok (.aload_n 0, 1) := by decide +kernel
theorem dX2_keepTrial_77 : decode cX2_keepTrial 77 = .ok (.aload_n 0, 1) := by decide +kernel
theorem dX2_keepTrial_78 : decode cX2_keepTrial 78 = .ok (.getfield 28, 3) := by decide +kernel
theorem dX2_keepTrial_81 : decode cX2_keepTrial 81 = .ok (.iload 5, 2) := by decide +kernel
theorem dX2_keepTrial_83 : decode cX2_keepTrial 83 = .ok (.iaload, 1) := by decide +kernel
theorem dX2_keepTrial_84 : decode cX2_keepTrial 84 = .ok (.aload_n 0, 1) := by decide +kernel
theorem dX2_keepTrial_85 : decode cX2_keepTrial 85 = .ok (.getfield 32, 3) := by decide +kernel
theorem dX2_keepTrial_88 : decode cX2_keepTrial 88 = .ok (.iload 5, 2) := by decide +kernel
theorem dX2_keepTrial_90 : decode cX2_keepTrial 90 = .ok (.iaload, 1) := by decide +kernel
theorem dX2_keepTrial_91 : decode cX2_keepTrial 91 = .ok (.aload_n 0, 1) := by decide +kernel
theorem dX2_keepTrial_92 : decode cX2_keepTrial 92 = .ok (.getfield 35, 3) := by decide +kernel
theorem dX2_keepTrial_95 : decode cX2_keepTrial 95 = .ok (.iload 5, 2) := by decide +kernel
theorem dX2_keepTrial_97 : decode cX2_keepTrial 97 = .ok (.iaload, 1) := by decide +kernel
theorem dX2_keepTrial_98 : decode cX2_keepTrial 98 = .ok (.invokevirtual 95, 3) := by decide +kernel
theorem dX2_keepTrial_101 : decode cX2_keepTrial 101 = .ok (.iinc 5 1, 3) := by decide +kernel
theorem dX2_keepTrial_104 : decode cX2_keepTrial 104 = .ok (.goto (-60), 3) := by decide +kernel
theorem dX2_keepTrial_107 : decode cX2_keepTrial 107 = .ok (.return_, 1) := by decide +kernel
theorem dX3_init_0 : decode cX3_init 0 = .ok (.aload_n 0, 1) := by decide +kernel
theorem dX3_init_1 : decode cX3_init 1 = .ok (.invokespecial 3, 3) := by decide +kernel
theorem dX3_init_4 : decode cX3_init 4 = .ok (.aload_n 0, 1) := by decide +kernel
theorem dX3_init_5 : decode cX3_init 5 = .ok (.bipush 32, 2) := by decide +kernel
theorem dX3_init_7 : decode cX3_init 7 = .ok (.newarray .char, 2) := by decide +kernel
theorem dX3_init_9 : decode cX3_init 9 = .ok (.putfield 9, 3) := by decide +kernel
theorem dX3_init_12 : decode cX3_init 12 = .ok (.aload_n 0, 1) := by decide +kernel
theorem dX3_init_13 : decode cX3_init 13 = .ok (.sipush 198, 3) := by decide +kernel
theorem dX3_init_16 : decode cX3_init 16 = .ok (.newarray .int, 2) := by decide +kernel
theorem dX3_init_18 : decode cX3_init 18 = .ok (.putfield 15, 3) := by decide +kernel
theorem dX3_init_21 : decode cX3_init 21 = .ok (.aload_n 0, 1) := by decide +kernel
theorem dX3_init_22 : decode cX3_init 22 = .ok (.sipush 198, 3) := by decide +kernel
theorem dX3_init_25 : decode cX3_init 25 = .ok (.newarray .int, 2) := by decide +kernel
theorem dX3_init_27 : decode cX3_init 27 = .ok (.putfield 19, 3) := by decide +kernel
theorem dX3_init_30 : decode cX3_init 30 = .ok (.aload_n 0, 1) := by decide +kernel
theorem dX3_init_31 : decode cX3_init 31 = .ok (.sipush 198, 3) := by decide +kernel
theorem dX3_init_34 : decode cX3_init 34 = .ok (.newarray .int, 2) := by decide +kernel
theorem dX3_init_36 : decode cX3_init 36 = .ok (.putfield 22, 3) := by decide +kernel
theorem dX3_init_39 : decode cX3_init 39 = .ok (.aload_n 0, 1) := by decide +kernel
theorem dX3_init_40 : decode cX3_init 40 = .ok (.aload_n 1, 1) := by decide +kernel
theorem dX3_init_41 : decode cX3_init 41 = .ok (.putfield 25, 3) := by decide +kernel
theorem dX3_init_44 : decode cX3_init 44 = .ok (.return_, 1) := by decide +kernel
theorem dX3_forget_0 : decode cX3_forget 0 = .ok (.aload_n 0, 1) := by decide +kernel
theorem dX3_forget_1 : decode cX3_forget 1 = .ok (.iconst 0, 1) := by decide +kernel
theorem dX3_forget_2 : decode cX3_forget 2 = .ok (.putfield 29, 3) := by decide +kernel
theorem dX3_forget_5 : decode cX3_forget 5 = .ok (.return_, 1) := by decide +kernel
theorem dX3_fits_0 : decode cX3_fits 0 = .ok (.aload_n 0, 1) := by decide +kernel
theorem dX3_fits_1 : decode cX3_fits 1 = .ok (.getfield 25, 3) := by decide +kernel
theorem dX3_fits_4 : decode cX3_fits 4 = .ok (.getfield 33, 3) := by decide +kernel
theorem dX3_fits_7 : decode cX3_fits 7 = .ok (.ifCond .ne 5, 3) := by decide +kernel
theorem dX3_fits_10 : decode cX3_fits 10 = .ok (.iconst 0, 1) := by decide +kernel
theorem dX3_fits_11 : decode cX3_fits 11 = .ok (.ireturn, 1) := by decide +kernel
theorem dX3_fits_12 : decode cX3_fits 12 = .ok (.aload_n 0, 1) := by decide +kernel
theorem dX3_fits_13 : decode cX3_fits 13 = .ok (.getfield 29, 3) := by decide +kernel
theorem dX3_fits_16 : decode cX3_fits 16 = .ok (.ifCond .eq 13, 3) := by decide +kernel
theorem dX3_fits_19 : decode cX3_fits 19 = .ok (.aload_n 0, 1) := by decide +kernel
theorem dX3_fits_20 : decode cX3_fits 20 = .ok (.aload_n 1, 1) := by decide +kernel
theorem dX3_fits_21 : decode cX3_fits 21 = .ok (.invokevirtual 38, 3) := by decide +kernel
theorem dX3_fits_24 : decode cX3_fits 24 = .ok (.iconst 1, 1) := by decide +kernel
theorem dX3_fits_25 : decode cX3_fits 25 = .ok (.iadd, 1) := by decide +kernel
theorem dX3_fits_26 : decode cX3_fits 26 = .ok (.goto 4, 3) := by decide +kernel
theorem dX3_fits_29 : decode cX3_fits 29 = .ok (.iconst 0, 1) := by decide +kernel
theorem dX3_fits_30 : decode cX3_fits 30 = .ok (.istore_n 2, 1) := by decide +kernel
theorem dX3_fits_31 : decode cX3_fits 31 = .ok (.aload_n 0, 1) := by decide +kernel
theorem dX3_fits_32 : decode cX3_fits 32 = .ok (.aload_n 1, 1) := by decide +kernel
theorem dX3_fits_33 : decode cX3_fits 33 = .ok (.getfield 42, 3) := by decide +kernel
theorem dX3_fits_36 : decode cX3_fits 36 = .ok (.putfield 48, 3) := by decide +kernel
theorem dX3_fits_39 : decode cX3_fits 39 = .ok (.iconst 0, 1) := by decide +kernel
theorem dX3_fits_40 : decode cX3_fits 40 = .ok (.istore_n 3, 1) := by decide +kernel
theorem dX3_fits_41 : decode cX3_fits 41 = .ok (.iload_n 3, 1) := by decide +kernel
theorem dX3_fits_42 : decode cX3_fits 42 = .ok (.aload_n 0, 1) := by decide +kernel
theorem dX3_fits_43 : decode cX3_fits 43 = .ok (.getfield 48, 3) := by decide +kernel
theorem dX3_fits_46 : decode cX3_fits 46 = .ok (.if_icmp .ge 21, 3) := by decide +kernel
theorem dX3_fits_49 : decode cX3_fits 49 = .ok (.aload_n 0, 1) := by decide +kernel
theorem dX3_fits_50 : decode cX3_fits 50 = .ok (.getfield 9, 3) := by decide +kernel
theorem dX3_fits_53 : decode cX3_fits 53 = .ok (.iload_n 3, 1) := by decide +kernel
theorem dX3_fits_54 : decode cX3_fits 54 = .ok (.aload_n 1, 1) := by decide +kernel
theorem dX3_fits_55 : decode cX3_fits 55 = .ok (.getfield 49, 3) := by decide +kernel
theorem dX3_fits_58 : decode cX3_fits 58 = .ok (.iload_n 3, 1) := by decide +kernel
theorem dX3_fits_59 : decode cX3_fits 59 = .ok (.caload, 1) := by decide +kernel
theorem dX3_fits_60 : decode cX3_fits 60 = .ok (.castore, 1) := by decide +kernel
theorem dX3_fits_61 : decode cX3_fits 61 = .ok (.iinc 3 1, 3) := by decide +kernel
theorem dX3_fits_64 : decode cX3_fits 64 = .ok (.goto (-23), 3) := by decide +kernel
theorem dX3_fits_67 : decode cX3_fits 67 = .ok (.iload_n 2, 1) := by decide +kernel
theorem dX3_fits_68 : decode cX3_fits 68 = .ok (.istore_n 3, 1) := by decide +kernel
theorem dX3_fits_69 : decode cX3_fits 69 = .ok (.iload_n 3, 1) := by decide +kernel
theorem dX3_fits_70 : decode cX3_fits 70 = .ok (.aload_n 0, 1) := by decide +kernel
theorem dX3_fits_71 : decode cX3_fits 71 = .ok (.getfield 48, 3) := by decide +kernel
theorem dX3_fits_74 : decode cX3_fits 74 = .ok (.if_icmp .gt 45, 3) := by decide +kernel
theorem dX3_fits_77 : decode cX3_fits 77 = .ok (.iconst 0, 1) := by decide +kernel
theorem dX3_fits_78 : decode cX3_fits 78 = .ok (.istore 4, 2) := by decide +kernel
theorem dX3_fits_80 : decode cX3_fits 80 = .ok (.iload 4, 2) := by decide +kernel
theorem dX3_fits_82 : decode cX3_fits 82 = .ok (.aload_n 0, 1) := by decide +kernel
theorem dX3_fits_83 : decode cX3_fits 83 = .ok (.getfield 25, 3) := by decide +kernel
theorem dX3_fits_86 : decode cX3_fits 86 = .ok (.getfield 50, 3) := by decide +kernel
theorem dX3_fits_89 : decode cX3_fits 89 = .ok (.if_icmp .ge 24, 3) := by decide +kernel
theorem dX3_fits_92 : decode cX3_fits 92 = .ok (.aload_n 0, 1) := by decide +kernel
theorem dX3_fits_93 : decode cX3_fits 93 = .ok (.aload_n 0, 1) := by decide +kernel
theorem dX3_fits_94 : decode cX3_fits 94 = .ok (.getfield 25, 3) := by decide +kernel
theorem dX3_fits_97 : decode cX3_fits 97 = .ok (.getfield 53, 3) := by decide +kernel
theorem dX3_fits_100 : decode cX3_fits 100 = .ok (.iload 4, 2) := by decide +kernel
theorem dX3_fits_102 : decode cX3_fits 102 = .ok (.iaload, 1) := by decide +kernel
theorem dX3_fits_103 : decode cX3_fits 103 = .ok (.iload_n 3, 1) := by decide +kernel
theorem dX3_fits_104 : decode cX3_fits 104 = .ok (.invokevirtual 56, 3) := by decide +kernel
theorem dX3_fits_107 : decode cX3_fits 107 = .ok (.iinc 4 1, 3) := by decide +kernel
theorem dX3_fits_110 : decode cX3_fits 110 = .ok (.goto (-30), 3) := by decide +kernel
theorem dX3_fits_113 : decode cX3_fits 113 = .ok (.iinc 3 1, 3) := by decide +kernel
theorem dX3_fits_116 : decode cX3_fits 116 = .ok (.goto (-47), 3) := by decide +kernel
theorem dX3_fits_119 : decode cX3_fits 119 = .ok (.aload_n 0, 1) := by decide +kernel
theorem dX3_fits_120 : decode cX3_fits 120 = .ok (.iconst 1, 1) := by decide +kernel
theorem dX3_fits_121 : decode cX3_fits 121 = .ok (.putfield 29, 3) := by decide +kernel
theorem dX3_fits_124 : decode cX3_fits 124 = .ok (.aload_n 0, 1) := by decide +kernel
theorem dX3_fits_125 : decode cX3_fits 125 = .ok (.getfield 25, 3) := by decide +kernel
theorem dX3_fits_128 : decode cX3_fits 128 = .ok (.getfield 60, 3) := by decide +kernel
theorem dX3_fits_131 : decode cX3_fits 131 = .ok (.aload_n 0, 1) := by decide +kernel
theorem dX3_fits_132 : decode cX3_fits 132 = .ok (.getfield 48, 3) := by decide +kernel
theorem dX3_fits_135 : decode cX3_fits 135 = .ok (.invokestatic 63, 3) := by decide +kernel
theorem dX3_fits_138 : decode cX3_fits 138 = .ok (.istore_n 3, 1) := by decide +kernel
theorem dX3_fits_139 : decode cX3_fits 139 = .ok (.aload_n 0, 1) := by decide +kernel
theorem dX3_fits_140 : decode cX3_fits 140 = .ok (.getfield 15, 3) := by decide +kernel
theorem dX3_fits_143 : decode cX3_fits 143 = .ok (.iload_n 3, 1) := by decide +kernel
theorem dX3_fits_144 : decode cX3_fits 144 = .ok (.iaload, 1) := by decide +kernel
theorem dX3_fits_145 : decode cX3_fits 145 = .ok (.ifCond .ne 18, 3) := by decide +kernel
theorem dX3_fits_148 : decode cX3_fits 148 = .ok (.aload_n 0, 1) := by decide +kernel
theorem dX3_fits_149 : decode cX3_fits 149 = .ok (.getfield 19, 3) := by decide +kernel
theorem dX3_fits_152 : decode cX3_fits 152 = .ok (.iload_n 3, 1) := by decide +kernel
theorem dX3_fits_153 : decode cX3_fits 153 = .ok (.iaload, 1) := by decide +kernel
theorem dX3_fits_154 : decode cX3_fits 154 = .ok (.bipush 60, 2) := by decide +kernel
theorem dX3_fits_156 : decode cX3_fits 156 = .ok (.if_icmp .ge 7, 3) := by decide +kernel
theorem dX3_fits_159 : decode cX3_fits 159 = .ok (.iconst 1, 1) := by decide +kernel
theorem dX3_fits_160 : decode cX3_fits 160 = .ok (.goto 4, 3) := by decide +kernel
theorem dX3_fits_163 : decode cX3_fits 163 = .ok (.iconst 0, 1) := by decide +kernel
theorem dX3_fits_164 : decode cX3_fits 164 = .ok (.ireturn, 1) := by decide +kernel
theorem dX3_alternativeOf_0 : decode cX3_alternativeOf 0 = .ok (.aload_n 0, 1) := by decide +kernel
theorem dX3_alternativeOf_1 : decode cX3_alternativeOf 1 = .ok (.getfield 22, 3) := by decide +kernel
theorem dX3_alternativeOf_4 : decode cX3_alternativeOf 4 = .ok (.iload_n 1, 1) := by decide +kernel
theorem dX3_alternativeOf_5 : decode cX3_alternativeOf 5 = .ok (.iload_n 2, 1) := by decide +kernel
theorem dX3_alternativeOf_6 : decode cX3_alternativeOf 6 = .ok (.invokestatic 63, 3) := by decide +kernel
theorem dX3_alternativeOf_9 : decode cX3_alternativeOf 9 = .ok (.iaload, 1) := by decide +kernel
theorem dX3_alternativeOf_10 : decode cX3_alternativeOf 10 = .ok (.ireturn, 1) := by decide +kernel
theorem dX3_more_0 : decode cX3_more 0 = .ok (.iload_n 2, 1) := by decide +kernel
theorem dX3_more_1 : decode cX3_more 1 = .ok (.ifCond .le 16, 3) := by decide +kernel
theorem dX3_more_4 : decode cX3_more 4 = .ok (.aload_n 0, 1) := by decide +kernel
theorem dX3_more_5 : decode cX3_more 5 = .ok (.getfield 25, 3) := by decide +kernel
theorem dX3_more_8 : decode cX3_more 8 = .ok (.iload_n 1, 1) := by decide +kernel
theorem dX3_more_9 : decode cX3_more 9 = .ok (.invokevirtual 67, 3) := by decide +kernel
theorem dX3_more_12 : decode cX3_more 12 = .ok (.ifCond .ne 5, 3) := by decide +kernel
theorem dX3_more_15 : decode cX3_more 15 = .ok (.iconst (-1), 1) := by decide +kernel
theorem dX3_more_16 : decode cX3_more 16 = .ok (.ireturn, 1) := by decide +kernel
theorem dX3_more_17 : decode cX3_more 17 = .ok (.aload_n 0, 1) := by decide +kernel
theorem dX3_more_18 : decode cX3_more 18 = .ok (.getfield 25, 3) := by decide +kernel
theorem dX3_more_21 : decode cX3_more 21 = .ok (.iload_n 1, 1) := by decide +kernel
theorem dX3_more_22 : decode cX3_more 22 = .ok (.invokevirtual 71, 3) := by decide +kernel
theorem dX3_more_25 : decode cX3_more 25 = .ok (.istore 4, 2) := by decide +kernel
theorem dX3_more_27 : decode cX3_more 27 = .ok (.iconst (-1), 1) := by decide +kernel
theorem dX3_more_28 : decode cX3_more 28 = .ok (.istore 5, 2) := by decide +kernel
theorem dX3_more_30 : decode cX3_more 30 = .ok (.iload 4, 2) := by decide +kernel
theorem dX3_more_32 : decode cX3_more 32 = .ok (.bipush 6, 2) := by decide +kernel
theorem dX3_more_34 : decode cX3_more 34 = .ok (.if_icmp .ge 19, 3) := by decide +kernel
theorem dX3_more_37 : decode cX3_more 37 = .ok (.aload_n 0, 1) := by decide +kernel
theorem dX3_more_38 : decode cX3_more 38 = .ok (.getfield 15, 3) := by decide +kernel
theorem dX3_more_41 : decode cX3_more 41 = .ok (.iload 4, 2) := by decide +kernel
theorem dX3_more_43 : decode cX3_more 43 = .ok (.iload_n 3, 1) := by decide +kernel
theorem dX3_more_44 : decode cX3_more 44 = .ok (.invokestatic 63, 3) := by decide +kernel
theorem dX3_more_47 : decode cX3_more 47 = .ok (.iaload, 1) := by decide +kernel
theorem dX3_more_48 : decode cX3_more 48 = .ok (.istore 5, 2) := by decide +kernel
theorem dX3_more_50 : decode cX3_more 50 = .ok (.goto 42, 3) := by decide +kernel
theorem dX3_more_53 : decode cX3_more 53 = .ok (.iload_n 3, 1) := by decide +kernel
theorem dX3_more_54 : decode cX3_more 54 = .ok (.ifCond .le 38, 3) := by decide +kernel
theorem dX3_more_57 : decode cX3_more 57 = .ok (.iload_n 3, 1) := by decide +kernel
theorem dX3_more_58 : decode cX3_more 58 = .ok (.aload_n 0, 1) := by decide +kernel
theorem dX3_more_59 : decode cX3_more 59 = .ok (.getfield 48, 3) := by decide +kernel
theorem dX3_more_62 : decode cX3_more 62 = .ok (.if_icmp .gt 30, 3) := by decide +kernel
theorem dX3_more_65 : decode cX3_more 65 = .ok (.aload_n 0, 1) := by decide +kernel
theorem dX3_more_66 : decode cX3_more 66 = .ok (.getfield 9, 3) := by decide +kernel
theorem dX3_more_69 : decode cX3_more 69 = .ok (.aload_n 0, 1) := by decide +kernel
theorem dX3_more_70 : decode cX3_more 70 = .ok (.getfield 48, 3) := by decide +kernel
theorem dX3_more_73 : decode cX3_more 73 = .ok (.iload_n 3, 1) := by decide +kernel
theorem dX3_more_74 : decode cX3_more 74 = .ok (.isub, 1) := by decide +kernel
theorem dX3_more_75 : decode cX3_more 75 = .ok (.caload, 1) := by decide +kernel
theorem dX3_more_76 : decode cX3_more 76 = .ok (.aload_n 0, 1) := by decide +kernel
theorem dX3_more_77 : decode cX3_more 77 = .ok (.getfield 25, 3) := by decide +kernel
theorem dX3_more_80 : decode cX3_more 80 = .ok (.iload_n 1, 1) := by decide +kernel
theorem dX3_more_81 : decode cX3_more 81 = .ok (.invokevirtual 75, 3) := by decide +kernel
theorem dX3_more_84 : decode cX3_more 84 = .ok (.if_icmp .ne 8, 3) := by decide +kernel
theorem dX3_more_87 : decode cX3_more 87 = .ok (.iload_n 3, 1) := by decide +kernel
theorem dX3_more_88 : decode cX3_more 88 = .ok (.iconst 1, 1) := by decide +kernel
theorem dX3_more_89 : decode cX3_more 89 = .ok (.isub, 1) := by decide +kernel
theorem dX3_more_90 : decode cX3_more 90 = .ok (.istore 5, 2) := by decide +kernel
theorem dX3_more_92 : decode cX3_more 92 = .ok (.iload_n 2, 1) := by decide +kernel
theorem dX3_more_93 : decode cX3_more 93 = .ok (.ifCond .gt 14, 3) := by decide +kernel
theorem dX3_more_96 : decode cX3_more 96 = .ok (.aload_n 0, 1) := by decide +kernel
theorem dX3_more_97 : decode cX3_more 97 = .ok (.getfield 25, 3) := by decide +kernel
theorem dX3_more_100 : decode cX3_more 100 = .ok (.iload_n 1, 1) := by decide +kernel
theorem dX3_more_101 : decode cX3_more 101 = .ok (.invokevirtual 79, 3) := by decide +kernel
theorem dX3_more_104 : decode cX3_more 104 = .ok (.ifCond .eq 7, 3) := by decide +kernel
theorem dX3_more_107 : decode cX3_more 107 = .ok (.iconst 1, 1) := by decide +kernel
theorem dX3_more_108 : decode cX3_more 108 = .ok (.goto 4, 3) := by decide +kernel
theorem dX3_more_111 : decode cX3_more 111 = .ok (.iconst 0, 1) := by decide +kernel
theorem dX3_more_112 : decode cX3_more 112 = .ok (.istore 6, 2) := by decide +kernel
theorem dX3_more_114 : decode cX3_more 114 = .ok (.iload 6, 2) := by decide +kernel
theorem dX3_more_116 : decode cX3_more 116 = .ok (.ifCond .eq 13, 3) := by decide +kernel
theorem dX3_more_119 : decode cX3_more 119 = .ok (.iload 5, 2) := by decide +kernel
theorem dX3_more_121 : decode cX3_more 121 = .ok (.iload_n 3, 1) := by decide +kernel
theorem dX3_more_122 : decode cX3_more 122 = .ok (.if_icmp .ne 7, 3) := by decide +kernel
theorem dX3_more_125 : decode cX3_more 125 = .ok (.iconst (-1), 1) := by decide +kernel
theorem dX3_more_126 : decode cX3_more 126 = .ok (.goto 5, 3) := by decide +kernel
theorem dX3_more_129 : decode cX3_more 129 = .ok (.iload 5, 2) := by decide +kernel
theorem dX3_more_131 : decode cX3_more 131 = .ok (.ireturn, 1) := by decide +kernel
theorem dX3_cellOf_0 : decode cX3_cellOf 0 = .ok (.iload_n 0, 1) := by decide +kernel
theorem dX3_cellOf_1 : decode cX3_cellOf 1 = .ok (.ifCond .lt 19, 3) := by decide +kernel
theorem dX3_cellOf_4 : decode cX3_cellOf 4 = .ok (.iload_n 0, 1) := by decide +kernel
theorem dX3_cellOf_5 : decode cX3_cellOf 5 = .ok (.bipush 6, 2) := by decide +kernel
theorem dX3_cellOf_7 : decode cX3_cellOf 7 = .ok (.if_icmp .ge 13, 3) := by decide +kernel
theorem dX3_cellOf_10 : decode cX3_cellOf 10 = .ok (.iload_n 1, 1) := by decide +kernel
theorem dX3_cellOf_11 : decode cX3_cellOf 11 = .ok (.ifCond .lt 9, 3) := by decide +kernel
theorem dX3_cellOf_14 : decode cX3_cellOf 14 = .ok (.iload_n 1, 1) := by decide +kernel
theorem dX3_cellOf_15 : decode cX3_cellOf 15 = .ok (.bipush 33, 2) := by decide +kernel
theorem dX3_cellOf_17 : decode cX3_cellOf 17 = .ok (.if_icmp .lt 7, 3) := by decide +kernel
theorem dX3_cellOf_20 : decode cX3_cellOf 20 = .ok (.iconst 0, 1) := by decide +kernel
theorem dX3_cellOf_21 : decode cX3_cellOf 21 = .ok (.goto 9, 3) := by decide +kernel
theorem dX3_cellOf_24 : decode cX3_cellOf 24 = .ok (.iload_n 0, 1) := by decide +kernel
theorem dX3_cellOf_25 : decode cX3_cellOf 25 = .ok (.bipush 33, 2) := by decide +kernel
theorem dX3_cellOf_27 : decode cX3_cellOf 27 = .ok (.imul, 1) := by decide +kernel
theorem dX3_cellOf_28 : decode cX3_cellOf 28 = .ok (.iload_n 1, 1) := by decide +kernel
theorem dX3_cellOf_29 : decode cX3_cellOf 29 = .ok (.iadd, 1) := by decide +kernel
theorem dX3_cellOf_30 : decode cX3_cellOf 30 = .ok (.ireturn, 1) := by decide +kernel
theorem dX3_sameAtEnd_0 : decode cX3_sameAtEnd 0 = .ok (.iconst 0, 1) := by decide +kernel
theorem dX3_sameAtEnd_1 : decode cX3_sameAtEnd 1 = .ok (.istore_n 2, 1) := by decide +kernel
theorem dX3_sameAtEnd_2 : decode cX3_sameAtEnd 2 = .ok (.iload_n 2, 1) := by decide +kernel
theorem dX3_sameAtEnd_3 : decode cX3_sameAtEnd 3 = .ok (.aload_n 0, 1) := by decide +kernel
theorem dX3_sameAtEnd_4 : decode cX3_sameAtEnd 4 = .ok (.getfield 48, 3) := by decide +kernel
theorem dX3_sameAtEnd_7 : decode cX3_sameAtEnd 7 = .ok (.if_icmp .ge 46, 3) := by decide +kernel
theorem dX3_sameAtEnd_10 : decode cX3_sameAtEnd 10 = .ok (.iload_n 2, 1) := by decide +kernel
theorem dX3_sameAtEnd_11 : decode cX3_sameAtEnd 11 = .ok (.aload_n 1, 1) := by decide +kernel
theorem dX3_sameAtEnd_12 : decode cX3_sameAtEnd 12 = .ok (.getfield 42, 3) := by decide +kernel
theorem dX3_sameAtEnd_15 : decode cX3_sameAtEnd 15 = .ok (.if_icmp .ge 38, 3) := by decide +kernel
theorem dX3_sameAtEnd_18 : decode cX3_sameAtEnd 18 = .ok (.aload_n 0, 1) := by decide +kernel
theorem dX3_sameAtEnd_19 : decode cX3_sameAtEnd 19 = .ok (.getfield 9, 3) := by decide +kernel
theorem dX3_sameAtEnd_22 : decode cX3_sameAtEnd 22 = .ok (.aload_n 0, 1) := by decide +kernel
theorem dX3_sameAtEnd_23 : decode cX3_sameAtEnd 23 = .ok (.getfield 48, 3) := by decide +kernel
theorem dX3_sameAtEnd_26 : decode cX3_sameAtEnd 26 = .ok (.iconst 1, 1) := by decide +kernel
theorem dX3_sameAtEnd_27 : decode cX3_sameAtEnd 27 = .ok (.isub, 1) := by decide +kernel
theorem dX3_sameAtEnd_28 : decode cX3_sameAtEnd 28 = .ok (.iload_n 2, 1) := by decide +kernel
theorem dX3_sameAtEnd_29 : decode cX3_sameAtEnd 29 = .ok (.isub, 1) := by decide +kernel
theorem dX3_sameAtEnd_30 : decode cX3_sameAtEnd 30 = .ok (.caload, 1) := by decide +kernel
theorem dX3_sameAtEnd_31 : decode cX3_sameAtEnd 31 = .ok (.aload_n 1, 1) := by decide +kernel
theorem dX3_sameAtEnd_32 : decode cX3_sameAtEnd 32 = .ok (.getfield 49, 3) := by decide +kernel
theorem dX3_sameAtEnd_35 : decode cX3_sameAtEnd 35 = .ok (.aload_n 1, 1) := by decide +kernel
theorem dX3_sameAtEnd_36 : decode cX3_sameAtEnd 36 = .ok (.getfield 42, 3) := by decide +kernel
theorem dX3_sameAtEnd_39 : decode cX3_sameAtEnd 39 = .ok (.iconst 1, 1) := by decide +kernel
theorem dX3_sameAtEnd_40 : decode cX3_sameAtEnd 40 = .ok (.isub, 1) := by decide +kernel
theorem dX3_sameAtEnd_41 : decode cX3_sameAtEnd 41 = .ok (.iload_n 2, 1) := by decide +kernel
theorem dX3_sameAtEnd_42 : decode cX3_sameAtEnd 42 = .ok (.isub, 1) := by decide +kernel
theorem dX3_sameAtEnd_43 : decode cX3_sameAtEnd 43 = .ok (.caload, 1) := by decide +kernel
theorem dX3_sameAtEnd_44 : decode cX3_sameAtEnd 44 = .ok (.if_icmp .ne 9, 3) := by decide +kernel
theorem dX3_sameAtEnd_47 : decode cX3_sameAtEnd 47 = .ok (.iinc 2 1, 3) := by decide +kernel
theorem dX3_sameAtEnd_50 : decode cX3_sameAtEnd 50 = .ok (.goto (-48), 3) := by decide +kernel
theorem dX3_sameAtEnd_53 : decode cX3_sameAtEnd 53 = .ok (.iload_n 2, 1) := by decide +kernel
theorem dX3_sameAtEnd_54 : decode cX3_sameAtEnd 54 = .ok (.ireturn, 1) := by decide +kernel
theorem dX3_settle_0 : decode cX3_settle 0 = .ok (.iload_n 1, 1) := by decide +kernel
theorem dX3_settle_1 : decode cX3_settle 1 = .ok (.iload_n 2, 1) := by decide +kernel
theorem dX3_settle_2 : decode cX3_settle 2 = .ok (.invokestatic 63, 3) := by decide +kernel
theorem dX3_settle_5 : decode cX3_settle 5 = .ok (.istore_n 3, 1) := by decide +kernel
theorem dX3_settle_6 : decode cX3_settle 6 = .ok (.aload_n 0, 1) := by decide +kernel
theorem dX3_settle_7 : decode cX3_settle 7 = .ok (.getfield 15, 3) := by decide +kernel
theorem dX3_settle_10 : decode cX3_settle 10 = .ok (.iload_n 3, 1) := by decide +kernel
theorem dX3_settle_11 : decode cX3_settle 11 = .ok (.iconst (-1), 1) := by decide +kernel
theorem dX3_settle_12 : decode cX3_settle 12 = .ok (.iastore, 1) := by decide +kernel
theorem dX3_settle_13 : decode cX3_settle 13 = .ok (.aload_n 0, 1) := by decide +kernel
theorem dX3_settle_14 : decode cX3_settle 14 = .ok (.getfield 25, 3) := by decide +kernel
theorem dX3_settle_17 : decode cX3_settle 17 = .ok (.iload_n 1, 1) := by decide +kernel
theorem dX3_settle_18 : decode cX3_settle 18 = .ok (.invokevirtual 82, 3) := by decide +kernel
theorem dX3_settle_21 : decode cX3_settle 21 = .ok (.istore 4, 2) := by decide +kernel
theorem dX3_settle_23 : decode cX3_settle 23 = .ok (.aload_n 0, 1) := by decide +kernel
theorem dX3_settle_24 : decode cX3_settle 24 = .ok (.getfield 15, 3) := by decide +kernel
theorem dX3_settle_27 : decode cX3_settle 27 = .ok (.iload_n 3, 1) := by decide +kernel
theorem dX3_settle_28 : decode cX3_settle 28 = .ok (.iaload, 1) := by decide +kernel
theorem dX3_settle_29 : decode cX3_settle 29 = .ok (.ifCond .ge 53, 3) := by decide +kernel
theorem dX3_settle_32 : decode cX3_settle 32 = .ok (.iload 4, 2) := by decide +kernel
theorem dX3_settle_34 : decode cX3_settle 34 = .ok (.aload_n 0, 1) := by decide +kernel
theorem dX3_settle_35 : decode cX3_settle 35 = .ok (.getfield 25, 3) := by decide +kernel
theorem dX3_settle_38 : decode cX3_settle 38 = .ok (.iload_n 1, 1) := by decide +kernel
theorem dX3_settle_39 : decode cX3_settle 39 = .ok (.invokevirtual 85, 3) := by decide +kernel
theorem dX3_settle_42 : decode cX3_settle 42 = .ok (.if_icmp .ge 40, 3) := by decide +kernel
theorem dX3_settle_45 : decode cX3_settle 45 = .ok (.aload_n 0, 1) := by decide +kernel
theorem dX3_settle_46 : decode cX3_settle 46 = .ok (.getfield 15, 3) := by decide +kernel
theorem dX3_settle_49 : decode cX3_settle 49 = .ok (.iload_n 3, 1) := by decide +kernel
theorem dX3_settle_50 : decode cX3_settle 50 = .ok (.aload_n 0, 1) := by decide +kernel
theorem dX3_settle_51 : decode cX3_settle 51 = .ok (.iload 4, 2) := by decide +kernel
theorem dX3_settle_53 : decode cX3_settle 53 = .ok (.iload_n 2, 1) := by decide +kernel
theorem dX3_settle_54 : decode cX3_settle 54 = .ok (.invokevirtual 88, 3) := by decide +kernel
theorem dX3_settle_57 : decode cX3_settle 57 = .ok (.iastore, 1) := by decide +kernel
theorem dX3_settle_58 : decode cX3_settle 58 = .ok (.aload_n 0, 1) := by decide +kernel
theorem dX3_settle_59 : decode cX3_settle 59 = .ok (.getfield 19, 3) := by decide +kernel
theorem dX3_settle_62 : decode cX3_settle 62 = .ok (.iload_n 3, 1) := by decide +kernel
theorem dX3_settle_63 : decode cX3_settle 63 = .ok (.aload_n 0, 1) := by decide +kernel
theorem dX3_settle_64 : decode cX3_settle 64 = .ok (.getfield 91, 3) := by decide +kernel
theorem dX3_settle_67 : decode cX3_settle 67 = .ok (.iastore, 1) := by decide +kernel
theorem dX3_settle_68 : decode cX3_settle 68 = .ok (.aload_n 0, 1) := by decide +kernel
theorem dX3_settle_69 : decode cX3_settle 69 = .ok (.getfield 22, 3) := by decide +kernel
theorem dX3_settle_72 : decode cX3_settle 72 = .ok (.iload_n 3, 1) := by decide +kernel
theorem dX3_settle_73 : decode cX3_settle 73 = .ok (.iload 4, 2) := by decide +kernel
theorem dX3_settle_75 : decode cX3_settle 75 = .ok (.iastore, 1) := by decide +kernel
theorem dX3_settle_76 : decode cX3_settle 76 = .ok (.iinc 4 1, 3) := by decide +kernel
theorem dX3_settle_79 : decode cX3_settle 79 = .ok (.goto (-56), 3) := by decide +kernel
theorem dX3_settle_82 : decode cX3_settle 82 = .ok (.return_, 1) := by decide +kernel
theorem dX3_behind_0 : decode cX3_behind 0 = .ok (.aload_n 0, 1) := by decide +kernel
theorem dX3_behind_1 : decode cX3_behind 1 = .ok (.iconst 0, 1) := by decide +kernel
theorem dX3_behind_2 : decode cX3_behind 2 = .ok (.putfield 91, 3) := by decide +kernel
theorem dX3_behind_5 : decode cX3_behind 5 = .ok (.iload_n 2, 1) := by decide +kernel
theorem dX3_behind_6 : decode cX3_behind 6 = .ok (.istore_n 3, 1) := by decide +kernel
theorem dX3_behind_7 : decode cX3_behind 7 = .ok (.aload_n 0, 1) := by decide +kernel
theorem dX3_behind_8 : decode cX3_behind 8 = .ok (.getfield 25, 3) := by decide +kernel
theorem dX3_behind_11 : decode cX3_behind 11 = .ok (.iload_n 1, 1) := by decide +kernel
theorem dX3_behind_12 : decode cX3_behind 12 = .ok (.invokevirtual 94, 3) := by decide +kernel
theorem dX3_behind_15 : decode cX3_behind 15 = .ok (.istore 4, 2) := by decide +kernel
theorem dX3_behind_17 : decode cX3_behind 17 = .ok (.iload 4, 2) := by decide +kernel
theorem dX3_behind_19 : decode cX3_behind 19 = .ok (.aload_n 0, 1) := by decide +kernel
theorem dX3_behind_20 : decode cX3_behind 20 = .ok (.getfield 25, 3) := by decide +kernel
theorem dX3_behind_23 : decode cX3_behind 23 = .ok (.iload_n 1, 1) := by decide +kernel
theorem dX3_behind_24 : decode cX3_behind 24 = .ok (.invokevirtual 97, 3) := by decide +kernel
theorem dX3_behind_27 : decode cX3_behind 27 = .ok (.if_icmp .ge 94, 3) := by decide +kernel
theorem dX3_behind_30 : decode cX3_behind 30 = .ok (.aload_n 0, 1) := by decide +kernel
theorem dX3_behind_31 : decode cX3_behind 31 = .ok (.iload 4, 2) := by decide +kernel
theorem dX3_behind_33 : decode cX3_behind 33 = .ok (.iconst 0, 1) := by decide +kernel
theorem dX3_behind_34 : decode cX3_behind 34 = .ok (.iload_n 3, 1) := by decide +kernel
theorem dX3_behind_35 : decode cX3_behind 35 = .ok (.invokevirtual 100, 3) := by decide +kernel
theorem dX3_behind_38 : decode cX3_behind 38 = .ok (.istore 5, 2) := by decide +kernel
theorem dX3_behind_40 : decode cX3_behind 40 = .ok (.iload 5, 2) := by decide +kernel
theorem dX3_behind_42 : decode cX3_behind 42 = .ok (.ifCond .ge 17, 3) := by decide +kernel
theorem dX3_behind_45 : decode cX3_behind 45 = .ok (.aload_n 0, 1) := by decide +kernel
theorem dX3_behind_46 : decode cX3_behind 46 = .ok (.getfield 25, 3) := by decide +kernel
theorem dX3_behind_49 : decode cX3_behind 49 = .ok (.iload 4, 2) := by decide +kernel
theorem dX3_behind_51 : decode cX3_behind 51 = .ok (.invokevirtual 104, 3) := by decide +kernel
theorem dX3_behind_54 : decode cX3_behind 54 = .ok (.ifCond .ne 5, 3) := by decide +kernel
theorem dX3_behind_57 : decode cX3_behind 57 = .ok (.iconst (-1), 1) := by decide +kernel
theorem dX3_behind_58 : decode cX3_behind 58 = .ok (.ireturn, 1) := by decide +kernel
theorem dX3_behind_59 : decode cX3_behind 59 = .ok (.iconst 1, 1) := by decide +kernel
theorem dX3_behind_60 : decode cX3_behind 60 = .ok (.istore 6, 2) := by decide +kernel
theorem dX3_behind_62 : decode cX3_behind 62 = .ok (.iload 5, 2) := by decide +kernel
theorem dX3_behind_64 : decode cX3_behind 64 = .ok (.ifCond .lt 51, 3) := by decide +kernel
theorem dX3_behind_67 : decode cX3_behind 67 = .ok (.iload 6, 2) := by decide +kernel
theorem dX3_behind_69 : decode cX3_behind 69 = .ok (.bipush 33, 2) := by decide +kernel
theorem dX3_behind_71 : decode cX3_behind 71 = .ok (.if_icmp .gt 44, 3) := by decide +kernel
theorem dX3_behind_74 : decode cX3_behind 74 = .ok (.aload_n 0, 1) := by decide +kernel
theorem dX3_behind_75 : decode cX3_behind 75 = .ok (.bipush 60, 2) := by decide +kernel
theorem dX3_behind_77 : decode cX3_behind 77 = .ok (.aload_n 0, 1) := by decide +kernel
theorem dX3_behind_78 : decode cX3_behind 78 = .ok (.getfield 91, 3) := by decide +kernel
theorem dX3_behind_81 : decode cX3_behind 81 = .ok (.aload_n 0, 1) := by decide +kernel
theorem dX3_behind_82 : decode cX3_behind 82 = .ok (.iload 4, 2) := by decide +kernel
theorem dX3_behind_84 : decode cX3_behind 84 = .ok (.iload_n 3, 1) := by decide +kernel
theorem dX3_behind_85 : decode cX3_behind 85 = .ok (.invokevirtual 107, 3) := by decide +kernel
theorem dX3_behind_88 : decode cX3_behind 88 = .ok (.iadd, 1) := by decide +kernel
theorem dX3_behind_89 : decode cX3_behind 89 = .ok (.invokestatic 110, 3) := by decide +kernel
theorem dX3_behind_92 : decode cX3_behind 92 = .ok (.putfield 91, 3) := by decide +kernel
theorem dX3_behind_95 : decode cX3_behind 95 = .ok (.iload 5, 2) := by decide +kernel
theorem dX3_behind_97 : decode cX3_behind 97 = .ok (.istore_n 3, 1) := by decide +kernel
theorem dX3_behind_98 : decode cX3_behind 98 = .ok (.aload_n 0, 1) := by decide +kernel
theorem dX3_behind_99 : decode cX3_behind 99 = .ok (.iload 4, 2) := by decide +kernel
theorem dX3_behind_101 : decode cX3_behind 101 = .ok (.iload 6, 2) := by decide +kernel
theorem dX3_behind_103 : decode cX3_behind 103 = .ok (.iload_n 3, 1) := by decide +kernel
theorem dX3_behind_104 : decode cX3_behind 104 = .ok (.invokevirtual 100, 3) := by decide +kernel
theorem dX3_behind_107 : decode cX3_behind 107 = .ok (.istore 5, 2) := by decide +kernel
theorem dX3_behind_109 : decode cX3_behind 109 = .ok (.iinc 6 1, 3) := by decide +kernel
theorem dX3_behind_112 : decode cX3_behind 112 = .ok (.goto (-50), 3) := by decide +kernel
theorem dX3_behind_115 : decode cX3_behind 115 = .ok (.iinc 4 1, 3) := by decide +kernel
theorem dX3_behind_118 : decode cX3_behind 118 = .ok (.goto (-101), 3) := by decide +kernel
theorem dX3_behind_121 : decode cX3_behind 121 = .ok (.iload_n 3, 1) := by decide +kernel
theorem dX3_behind_122 : decode cX3_behind 122 = .ok (.ireturn, 1) := by decide +kernel
theorem dX3_nodesOf_0 : decode cX3_nodesOf 0 = .ok (.aload_n 0, 1) := by decide +kernel
theorem dX3_nodesOf_1 : decode cX3_nodesOf 1 = .ok (.getfield 25, 3) := by decide +kernel
theorem dX3_nodesOf_4 : decode cX3_nodesOf 4 = .ok (.iload_n 1, 1) := by decide +kernel
theorem dX3_nodesOf_5 : decode cX3_nodesOf 5 = .ok (.invokevirtual 71, 3) := by decide +kernel
theorem dX3_nodesOf_8 : decode cX3_nodesOf 8 = .ok (.istore_n 3, 1) := by decide +kernel
theorem dX3_nodesOf_9 : decode cX3_nodesOf 9 = .ok (.iload_n 3, 1) := by decide +kernel
theorem dX3_nodesOf_10 : decode cX3_nodesOf 10 = .ok (.bipush 6, 2) := by decide +kernel
theorem dX3_nodesOf_12 : decode cX3_nodesOf 12 = .ok (.if_icmp .ge 16, 3) := by decide +kernel
theorem dX3_nodesOf_15 : decode cX3_nodesOf 15 = .ok (.iconst 1, 1) := by decide +kernel
theorem dX3_nodesOf_16 : decode cX3_nodesOf 16 = .ok (.aload_n 0, 1) := by decide +kernel
theorem dX3_nodesOf_17 : decode cX3_nodesOf 17 = .ok (.getfield 19, 3) := by decide +kernel
theorem dX3_nodesOf_20 : decode cX3_nodesOf 20 = .ok (.iload_n 3, 1) := by decide +kernel
theorem dX3_nodesOf_21 : decode cX3_nodesOf 21 = .ok (.iload_n 2, 1) := by decide +kernel
theorem dX3_nodesOf_22 : decode cX3_nodesOf 22 = .ok (.invokestatic 63, 3) := by decide +kernel
theorem dX3_nodesOf_25 : decode cX3_nodesOf 25 = .ok (.iaload, 1) := by decide +kernel
theorem dX3_nodesOf_26 : decode cX3_nodesOf 26 = .ok (.iadd, 1) := by decide +kernel
theorem dX3_nodesOf_27 : decode cX3_nodesOf 27 = .ok (.ireturn, 1) := by decide +kernel
theorem dX3_nodesOf_28 : decode cX3_nodesOf 28 = .ok (.aload_n 0, 1) := by decide +kernel
theorem dX3_nodesOf_29 : decode cX3_nodesOf 29 = .ok (.getfield 25, 3) := by decide +kernel
theorem dX3_nodesOf_32 : decode cX3_nodesOf 32 = .ok (.iload_n 1, 1) := by decide +kernel
theorem dX3_nodesOf_33 : decode cX3_nodesOf 33 = .ok (.invokevirtual 115, 3) := by decide +kernel
theorem dX3_nodesOf_36 : decode cX3_nodesOf 36 = .ok (.ifCond .eq 7, 3) := by decide +kernel
theorem dX3_nodesOf_39 : decode cX3_nodesOf 39 = .ok (.iconst 1, 1) := by decide +kernel
theorem dX3_nodesOf_40 : decode cX3_nodesOf 40 = .ok (.goto 4, 3) := by decide +kernel
theorem dX3_nodesOf_43 : decode cX3_nodesOf 43 = .ok (.iconst 0, 1) := by decide +kernel
theorem dX3_nodesOf_44 : decode cX3_nodesOf 44 = .ok (.ireturn, 1) := by decide +kernel
theorem dX4_init_0 : decode cX4_init 0 = .ok (.aload_n 0, 1) := by decide +kernel
theorem dX4_init_1 : decode cX4_init 1 = .ok (.invokespecial 3, 3) := by decide +kernel
theorem dX4_init_4 : decode cX4_init 4 = .ok (.aload_n 0, 1) := by decide +kernel
theorem dX4_init_5 : decode cX4_init 5 = .ok (.new 9, 3) := by decide +kernel
theorem dX4_init_8 : decode cX4_init 8 = .ok (.dup, 1) := by decide +kernel
theorem dX4_init_9 : decode cX4_init 9 = .ok (.invokespecial 11, 3) := by decide +kernel
theorem dX4_init_12 : decode cX4_init 12 = .ok (.putfield 12, 3) := by decide +kernel
theorem dX4_init_15 : decode cX4_init 15 = .ok (.aload_n 0, 1) := by decide +kernel
theorem dX4_init_16 : decode cX4_init 16 = .ok (.bipush 60, 2) := by decide +kernel
theorem dX4_init_18 : decode cX4_init 18 = .ok (.newarray .boolean, 2) := by decide +kernel
theorem dX4_init_20 : decode cX4_init 20 = .ok (.putfield 18, 3) := by decide +kernel
theorem dX4_init_23 : decode cX4_init 23 = .ok (.aload_n 0, 1) := by decide +kernel
theorem dX4_init_24 : decode cX4_init 24 = .ok (.aload_n 1, 1) := by decide +kernel
theorem dX4_init_25 : decode cX4_init 25 = .ok (.putfield 22, 3) := by decide +kernel
theorem dX4_init_28 : decode cX4_init 28 = .ok (.aload_n 0, 1) := by decide +kernel
theorem dX4_init_29 : decode cX4_init 29 = .ok (.aload_n 2, 1) := by decide +kernel
theorem dX4_init_30 : decode cX4_init 30 = .ok (.putfield 25, 3) := by decide +kernel
theorem dX4_init_33 : decode cX4_init 33 = .ok (.aload_n 0, 1) := by decide +kernel
theorem dX4_init_34 : decode cX4_init 34 = .ok (.aload_n 3, 1) := by decide +kernel
theorem dX4_init_35 : decode cX4_init 35 = .ok (.putfield 29, 3) := by decide +kernel
theorem dX4_init_38 : decode cX4_init 38 = .ok (.aload_n 0, 1) := by decide +kernel
theorem dX4_init_39 : decode cX4_init 39 = .ok (.aload 4, 2) := by decide +kernel
theorem dX4_init_41 : decode cX4_init 41 = .ok (.putfield 33, 3) := by decide +kernel
theorem dX4_init_44 : decode cX4_init 44 = .ok (.aload_n 0, 1) := by decide +kernel
theorem dX4_init_45 : decode cX4_init 45 = .ok (.new 37, 3) := by decide +kernel
theorem dX4_init_48 : decode cX4_init 48 = .ok (.dup, 1) := by decide +kernel
theorem dX4_init_49 : decode cX4_init 49 = .ok (.aload_n 1, 1) := by decide +kernel
theorem dX4_init_50 : decode cX4_init 50 = .ok (.aload_n 2, 1) := by decide +kernel
theorem dX4_init_51 : decode cX4_init 51 = .ok (.invokespecial 39, 3) := by decide +kernel
theorem dX4_init_54 : decode cX4_init 54 = .ok (.putfield 42, 3) := by decide +kernel
theorem dX4_init_57 : decode cX4_init 57 = .ok (.return_, 1) := by decide +kernel
theorem dX4_bySigns_0 : decode cX4_bySigns 0 = .ok (.aload_n 0, 1) := by decide +kernel
theorem dX4_bySigns_1 : decode cX4_bySigns 1 = .ok (.getfield 42, 3) := by decide +kernel
theorem dX4_bySigns_4 : decode cX4_bySigns 4 = .ok (.invokevirtual 46, 3) := by decide +kernel
theorem dX4_bySigns_7 : decode cX4_bySigns 7 = .ok (.iconst 0, 1) := by decide +kernel
theorem dX4_bySigns_8 : decode cX4_bySigns 8 = .ok (.istore_n 2, 1) := by decide +kernel
theorem dX4_bySigns_9 : decode cX4_bySigns 9 = .ok (.iconst 1, 1) := by decide +kernel
theorem dX4_bySigns_10 : decode cX4_bySigns 10 = .ok (.istore_n 3, 1) := by decide +kernel
theorem dX4_bySigns_11 : decode cX4_bySigns 11 = .ok (.iload_n 3, 1) := by decide +kernel
theorem dX4_bySigns_12 : decode cX4_bySigns 12 = .ok (.aload_n 0, 1) := by decide +kernel
theorem dX4_bySigns_13 : decode cX4_bySigns 13 = .ok (.getfield 22, 3) := by decide +kernel
theorem dX4_bySigns_16 : decode cX4_bySigns 16 = .ok (.getfield 49, 3) := by decide +kernel
theorem dX4_bySigns_19 : decode cX4_bySigns 19 = .ok (.if_icmp .gt 44, 3) := by decide +kernel
theorem dX4_bySigns_22 : decode cX4_bySigns 22 = .ok (.iload_n 1, 1) := by decide +kernel
theorem dX4_bySigns_23 : decode cX4_bySigns 23 = .ok (.ifCond .eq 22, 3) := by decide +kernel
theorem dX4_bySigns_26 : decode cX4_bySigns 26 = .ok (.iload_n 3, 1) := by decide +kernel
theorem dX4_bySigns_27 : decode cX4_bySigns 27 = .ok (.aload_n 0, 1) := by decide +kernel
theorem dX4_bySigns_28 : decode cX4_bySigns 28 = .ok (.getfield 22, 3) := by decide +kernel
theorem dX4_bySigns_31 : decode cX4_bySigns 31 = .ok (.getfield 49, 3) := by decide +kernel
theorem dX4_bySigns_34 : decode cX4_bySigns 34 = .ok (.if_icmp .eq 11, 3) := by decide +kernel
theorem dX4_bySigns_37 : decode cX4_bySigns 37 = .ok (.aload_n 0, 1) := by decide +kernel
theorem dX4_bySigns_38 : decode cX4_bySigns 38 = .ok (.iload_n 3, 1) := by decide +kernel
theorem dX4_bySigns_39 : decode cX4_bySigns 39 = .ok (.invokevirtual 53, 3) := by decide +kernel
theorem dX4_bySigns_42 : decode cX4_bySigns 42 = .ok (.ifCond .eq 15, 3) := by decide +kernel
theorem dX4_bySigns_45 : decode cX4_bySigns 45 = .ok (.aload_n 0, 1) := by decide +kernel
theorem dX4_bySigns_46 : decode cX4_bySigns 46 = .ok (.getfield 42, 3) := by decide +kernel
theorem dX4_bySigns_49 : decode cX4_bySigns 49 = .ok (.iload_n 2, 1) := by decide +kernel
theorem dX4_bySigns_50 : decode cX4_bySigns 50 = .ok (.iload_n 3, 1) := by decide +kernel
theorem dX4_bySigns_51 : decode cX4_bySigns 51 = .ok (.iconst 0, 1) := by decide +kernel
theorem dX4_bySigns_52 : decode cX4_bySigns 52 = .ok (.invokevirtual 57, 3) := by decide +kernel
theorem dX4_bySigns_55 : decode cX4_bySigns 55 = .ok (.iload_n 3, 1) := by decide +kernel
theorem dX4_bySigns_56 : decode cX4_bySigns 56 = .ok (.istore_n 2, 1) := by decide +kernel
theorem dX4_bySigns_57 : decode cX4_bySigns 57 = .ok (.iinc 3 1, 3) := by decide +kernel
theorem dX4_bySigns_60 : decode cX4_bySigns 60 = .ok (.goto (-49), 3) := by decide +kernel
theorem dX4_bySigns_63 : decode cX4_bySigns 63 = .ok (.aload_n 0, 1) := by decide +kernel
theorem dX4_bySigns_64 : decode cX4_bySigns 64 = .ok (.getfield 42, 3) := by decide +kernel
theorem dX4_bySigns_67 : decode cX4_bySigns 67 = .ok (.invokevirtual 61, 3) := by decide +kernel
theorem dX4_bySigns_70 : decode cX4_bySigns 70 = .ok (.return_, 1) := by decide +kernel
theorem dX4_byLevels_0 : decode cX4_byLevels 0 = .ok (.aload_n 0, 1) := by decide +kernel
theorem dX4_byLevels_1 : decode cX4_byLevels 1 = .ok (.getfield 33, 3) := by decide +kernel
theorem dX4_byLevels_4 : decode cX4_byLevels 4 = .ok (.aload_n 0, 1) := by decide +kernel
theorem dX4_byLevels_5 : decode cX4_byLevels 5 = .ok (.getfield 22, 3) := by decide +kernel
theorem dX4_byLevels_8 : decode cX4_byLevels 8 = .ok (.invokevirtual 64, 3) := by decide +kernel
theorem dX4_byLevels_11 : decode cX4_byLevels 11 = .ok (.istore_n 2, 1) := by decide +kernel
theorem dX4_byLevels_12 : decode cX4_byLevels 12 = .ok (.iconst 0, 1) := by decide +kernel
theorem dX4_byLevels_13 : decode cX4_byLevels 13 = .ok (.istore_n 3, 1) := by decide +kernel
end
section
theorem dX4_byLevels_14 : decode cX4_byLevels 14 = .ok (.iload_n 2, 1) := by decide +kernel
theorem dX4_byLevels_15 : decode cX4_byLevels 15 = .ok (.ifCond .eq 129, 3) := by decide +kernel
theorem dX4_byLevels_18 : decode cX4_byLevels 18 = .ok (.iload_n 3, 1) := by decide +kernel
theorem dX4_byLevels_19 : decode cX4_byLevels 19 = .ok (.bipush 32, 2) := by decide +kernel
theorem dX4_byLevels_21 : decode cX4_byLevels 21 = .ok (.if_icmp .gt 123, 3) := by decide +kernel
theorem dX4_byLevels_24 : decode cX4_byLevels 24 = .ok (.aload_n 0, 1) := by decide +kernel
theorem dX4_byLevels_25 : decode cX4_byLevels 25 = .ok (.getfield 22, 3) := by decide +kernel
theorem dX4_byLevels_28 : decode cX4_byLevels 28 = .ok (.getfield 49, 3) := by decide +kernel
theorem dX4_byLevels_31 : decode cX4_byLevels 31 = .ok (.istore 4, 2) := by decide +kernel
theorem dX4_byLevels_33 : decode cX4_byLevels 33 = .ok (.aload_n 0, 1) := by decide +kernel
theorem dX4_byLevels_34 : decode cX4_byLevels 34 = .ok (.getfield 42, 3) := by decide +kernel
theorem dX4_byLevels_37 : decode cX4_byLevels 37 = .ok (.invokevirtual 46, 3) := by decide +kernel
theorem dX4_byLevels_40 : decode cX4_byLevels 40 = .ok (.aload_n 0, 1) := by decide +kernel
theorem dX4_byLevels_41 : decode cX4_byLevels 41 = .ok (.getfield 33, 3) := by decide +kernel
theorem dX4_byLevels_44 : decode cX4_byLevels 44 = .ok (.invokevirtual 70, 3) := by decide +kernel
theorem dX4_byLevels_47 : decode cX4_byLevels 47 = .ok (.istore 5, 2) := by decide +kernel
theorem dX4_byLevels_49 : decode cX4_byLevels 49 = .ok (.iconst 1, 1) := by decide +kernel
theorem dX4_byLevels_50 : decode cX4_byLevels 50 = .ok (.istore 6, 2) := by decide +kernel
theorem dX4_byLevels_52 : decode cX4_byLevels 52 = .ok (.iload 6, 2) := by decide +kernel
theorem dX4_byLevels_54 : decode cX4_byLevels 54 = .ok (.iload 5, 2) := by decide +kernel
theorem dX4_byLevels_56 : decode cX4_byLevels 56 = .ok (.if_icmp .gt 36, 3) := by decide +kernel
theorem dX4_byLevels_59 : decode cX4_byLevels 59 = .ok (.aload_n 0, 1) := by decide +kernel
theorem dX4_byLevels_60 : decode cX4_byLevels 60 = .ok (.getfield 25, 3) := by decide +kernel
theorem dX4_byLevels_63 : decode cX4_byLevels 63 = .ok (.getfield 74, 3) := by decide +kernel
theorem dX4_byLevels_66 : decode cX4_byLevels 66 = .ok (.ifCond .ne 26, 3) := by decide +kernel
theorem dX4_byLevels_69 : decode cX4_byLevels 69 = .ok (.aload_n 0, 1) := by decide +kernel
theorem dX4_byLevels_70 : decode cX4_byLevels 70 = .ok (.iload 6, 2) := by decide +kernel
theorem dX4_byLevels_72 : decode cX4_byLevels 72 = .ok (.invokevirtual 80, 3) := by decide +kernel
theorem dX4_byLevels_75 : decode cX4_byLevels 75 = .ok (.aload_n 0, 1) := by decide +kernel
theorem dX4_byLevels_76 : decode cX4_byLevels 76 = .ok (.getfield 42, 3) := by decide +kernel
theorem dX4_byLevels_79 : decode cX4_byLevels 79 = .ok (.invokevirtual 61, 3) := by decide +kernel
theorem dX4_byLevels_82 : decode cX4_byLevels 82 = .ok (.aload_n 0, 1) := by decide +kernel
theorem dX4_byLevels_83 : decode cX4_byLevels 83 = .ok (.invokevirtual 84, 3) := by decide +kernel
theorem dX4_byLevels_86 : decode cX4_byLevels 86 = .ok (.iinc 6 1, 3) := by decide +kernel
theorem dX4_byLevels_89 : decode cX4_byLevels 89 = .ok (.goto (-37), 3) := by decide +kernel
theorem dX4_byLevels_92 : decode cX4_byLevels 92 = .ok (.iload_n 1, 1) := by decide +kernel
theorem dX4_byLevels_93 : decode cX4_byLevels 93 = .ok (.ifCond .eq 43, 3) := by decide +kernel
theorem dX4_byLevels_96 : decode cX4_byLevels 96 = .ok (.aload_n 0, 1) := by decide +kernel
theorem dX4_byLevels_97 : decode cX4_byLevels 97 = .ok (.getfield 25, 3) := by decide +kernel
theorem dX4_byLevels_100 : decode cX4_byLevels 100 = .ok (.getfield 74, 3) := by decide +kernel
theorem dX4_byLevels_103 : decode cX4_byLevels 103 = .ok (.ifCond .ne 33, 3) := by decide +kernel
theorem dX4_byLevels_106 : decode cX4_byLevels 106 = .ok (.aload_n 0, 1) := by decide +kernel
theorem dX4_byLevels_107 : decode cX4_byLevels 107 = .ok (.getfield 22, 3) := by decide +kernel
theorem dX4_byLevels_110 : decode cX4_byLevels 110 = .ok (.getfield 49, 3) := by decide +kernel
theorem dX4_byLevels_113 : decode cX4_byLevels 113 = .ok (.iload 4, 2) := by decide +kernel
theorem dX4_byLevels_115 : decode cX4_byLevels 115 = .ok (.if_icmp .ge 21, 3) := by decide +kernel
theorem dX4_byLevels_118 : decode cX4_byLevels 118 = .ok (.aload_n 0, 1) := by decide +kernel
theorem dX4_byLevels_119 : decode cX4_byLevels 119 = .ok (.getfield 33, 3) := by decide +kernel
theorem dX4_byLevels_122 : decode cX4_byLevels 122 = .ok (.aload_n 0, 1) := by decide +kernel
theorem dX4_byLevels_123 : decode cX4_byLevels 123 = .ok (.getfield 22, 3) := by decide +kernel
theorem dX4_byLevels_126 : decode cX4_byLevels 126 = .ok (.invokevirtual 64, 3) := by decide +kernel
theorem dX4_byLevels_129 : decode cX4_byLevels 129 = .ok (.ifCond .eq 7, 3) := by decide +kernel
theorem dX4_byLevels_132 : decode cX4_byLevels 132 = .ok (.iconst 1, 1) := by decide +kernel
theorem dX4_byLevels_133 : decode cX4_byLevels 133 = .ok (.goto 4, 3) := by decide +kernel
theorem dX4_byLevels_136 : decode cX4_byLevels 136 = .ok (.iconst 0, 1) := by decide +kernel
theorem dX4_byLevels_137 : decode cX4_byLevels 137 = .ok (.istore_n 2, 1) := by decide +kernel
theorem dX4_byLevels_138 : decode cX4_byLevels 138 = .ok (.iinc 3 1, 3) := by decide +kernel
theorem dX4_byLevels_141 : decode cX4_byLevels 141 = .ok (.goto (-127), 3) := by decide +kernel
theorem dX4_byLevels_144 : decode cX4_byLevels 144 = .ok (.return_, 1) := by decide +kernel
theorem dX4_byMoves_0 : decode cX4_byMoves 0 = .ok (.aload_n 0, 1) := by decide +kernel
theorem dX4_byMoves_1 : decode cX4_byMoves 1 = .ok (.getfield 33, 3) := by decide +kernel
theorem dX4_byMoves_4 : decode cX4_byMoves 4 = .ok (.aload_n 0, 1) := by decide +kernel
theorem dX4_byMoves_5 : decode cX4_byMoves 5 = .ok (.getfield 22, 3) := by decide +kernel
theorem dX4_byMoves_8 : decode cX4_byMoves 8 = .ok (.invokevirtual 64, 3) := by decide +kernel
theorem dX4_byMoves_11 : decode cX4_byMoves 11 = .ok (.pop, 1) := by decide +kernel
theorem dX4_byMoves_12 : decode cX4_byMoves 12 = .ok (.aload_n 0, 1) := by decide +kernel
theorem dX4_byMoves_13 : decode cX4_byMoves 13 = .ok (.getfield 22, 3) := by decide +kernel
theorem dX4_byMoves_16 : decode cX4_byMoves 16 = .ok (.getfield 49, 3) := by decide +kernel
theorem dX4_byMoves_19 : decode cX4_byMoves 19 = .ok (.istore_n 1, 1) := by decide +kernel
theorem dX4_byMoves_20 : decode cX4_byMoves 20 = .ok (.iconst 0, 1) := by decide +kernel
theorem dX4_byMoves_21 : decode cX4_byMoves 21 = .ok (.istore_n 2, 1) := by decide +kernel
theorem dX4_byMoves_22 : decode cX4_byMoves 22 = .ok (.iconst 0, 1) := by decide +kernel
theorem dX4_byMoves_23 : decode cX4_byMoves 23 = .ok (.istore_n 3, 1) := by decide +kernel
theorem dX4_byMoves_24 : decode cX4_byMoves 24 = .ok (.iload_n 1, 1) := by decide +kernel
theorem dX4_byMoves_25 : decode cX4_byMoves 25 = .ok (.ifCond .le 93, 3) := by decide +kernel
theorem dX4_byMoves_28 : decode cX4_byMoves 28 = .ok (.aload_n 0, 1) := by decide +kernel
theorem dX4_byMoves_29 : decode cX4_byMoves 29 = .ok (.getfield 25, 3) := by decide +kernel
theorem dX4_byMoves_32 : decode cX4_byMoves 32 = .ok (.getfield 74, 3) := by decide +kernel
theorem dX4_byMoves_35 : decode cX4_byMoves 35 = .ok (.ifCond .ne 83, 3) := by decide +kernel
theorem dX4_byMoves_38 : decode cX4_byMoves 38 = .ok (.iload_n 3, 1) := by decide +kernel
theorem dX4_byMoves_39 : decode cX4_byMoves 39 = .ok (.ldc 87, 2) := by decide +kernel
theorem dX4_byMoves_41 : decode cX4_byMoves 41 = .ok (.if_icmp .ge 77, 3) := by decide +kernel
theorem dX4_byMoves_44 : decode cX4_byMoves 44 = .ok (.iload_n 2, 1) := by decide +kernel
theorem dX4_byMoves_45 : decode cX4_byMoves 45 = .ok (.aload_n 0, 1) := by decide +kernel
theorem dX4_byMoves_46 : decode cX4_byMoves 46 = .ok (.getfield 33, 3) := by decide +kernel
theorem dX4_byMoves_49 : decode cX4_byMoves 49 = .ok (.getfield 88, 3) := by decide +kernel
theorem dX4_byMoves_52 : decode cX4_byMoves 52 = .ok (.if_icmp .lt 11, 3) := by decide +kernel
theorem dX4_byMoves_55 : decode cX4_byMoves 55 = .ok (.iinc 1 (-1), 3) := by decide +kernel
theorem dX4_byMoves_58 : decode cX4_byMoves 58 = .ok (.iconst 0, 1) := by decide +kernel
theorem dX4_byMoves_59 : decode cX4_byMoves 59 = .ok (.istore_n 2, 1) := by decide +kernel
theorem dX4_byMoves_60 : decode cX4_byMoves 60 = .ok (.goto 52, 3) := by decide +kernel
theorem dX4_byMoves_63 : decode cX4_byMoves 63 = .ok (.aload_n 0, 1) := by decide +kernel
theorem dX4_byMoves_64 : decode cX4_byMoves 64 = .ok (.getfield 33, 3) := by decide +kernel
theorem dX4_byMoves_67 : decode cX4_byMoves 67 = .ok (.getfield 89, 3) := by decide +kernel
theorem dX4_byMoves_70 : decode cX4_byMoves 70 = .ok (.iload_n 2, 1) := by decide +kernel
theorem dX4_byMoves_71 : decode cX4_byMoves 71 = .ok (.iaload, 1) := by decide +kernel
theorem dX4_byMoves_72 : decode cX4_byMoves 72 = .ok (.iload_n 1, 1) := by decide +kernel
theorem dX4_byMoves_73 : decode cX4_byMoves 73 = .ok (.if_icmp .ne 36, 3) := by decide +kernel
theorem dX4_byMoves_76 : decode cX4_byMoves 76 = .ok (.aload_n 0, 1) := by decide +kernel
theorem dX4_byMoves_77 : decode cX4_byMoves 77 = .ok (.iload_n 2, 1) := by decide +kernel
theorem dX4_byMoves_78 : decode cX4_byMoves 78 = .ok (.invokevirtual 93, 3) := by decide +kernel
theorem dX4_byMoves_81 : decode cX4_byMoves 81 = .ok (.ifCond .eq 28, 3) := by decide +kernel
theorem dX4_byMoves_84 : decode cX4_byMoves 84 = .ok (.aload_n 0, 1) := by decide +kernel
theorem dX4_byMoves_85 : decode cX4_byMoves 85 = .ok (.getfield 33, 3) := by decide +kernel
theorem dX4_byMoves_88 : decode cX4_byMoves 88 = .ok (.aload_n 0, 1) := by decide +kernel
theorem dX4_byMoves_89 : decode cX4_byMoves 89 = .ok (.getfield 22, 3) := by decide +kernel
theorem dX4_byMoves_92 : decode cX4_byMoves 92 = .ok (.invokevirtual 64, 3) := by decide +kernel
theorem dX4_byMoves_95 : decode cX4_byMoves 95 = .ok (.pop, 1) := by decide +kernel
theorem dX4_byMoves_96 : decode cX4_byMoves 96 = .ok (.aload_n 0, 1) := by decide +kernel
theorem dX4_byMoves_97 : decode cX4_byMoves 97 = .ok (.getfield 22, 3) := by decide +kernel
theorem dX4_byMoves_100 : decode cX4_byMoves 100 = .ok (.getfield 49, 3) := by decide +kernel
theorem dX4_byMoves_103 : decode cX4_byMoves 103 = .ok (.istore_n 1, 1) := by decide +kernel
theorem dX4_byMoves_104 : decode cX4_byMoves 104 = .ok (.iconst 0, 1) := by decide +kernel
theorem dX4_byMoves_105 : decode cX4_byMoves 105 = .ok (.istore_n 2, 1) := by decide +kernel
theorem dX4_byMoves_106 : decode cX4_byMoves 106 = .ok (.goto 6, 3) := by decide +kernel
theorem dX4_byMoves_109 : decode cX4_byMoves 109 = .ok (.iinc 2 1, 3) := by decide +kernel
theorem dX4_byMoves_112 : decode cX4_byMoves 112 = .ok (.iinc 3 1, 3) := by decide +kernel
theorem dX4_byMoves_115 : decode cX4_byMoves 115 = .ok (.goto (-91), 3) := by decide +kernel
theorem dX4_byMoves_118 : decode cX4_byMoves 118 = .ok (.return_, 1) := by decide +kernel
theorem dX4_beginsWord_0 : decode cX4_beginsWord 0 = .ok (.iload_n 1, 1) := by decide +kernel
theorem dX4_beginsWord_1 : decode cX4_beginsWord 1 = .ok (.ifCond .le 48, 3) := by decide +kernel
theorem dX4_beginsWord_4 : decode cX4_beginsWord 4 = .ok (.iload_n 1, 1) := by decide +kernel
theorem dX4_beginsWord_5 : decode cX4_beginsWord 5 = .ok (.aload_n 0, 1) := by decide +kernel
theorem dX4_beginsWord_6 : decode cX4_beginsWord 6 = .ok (.getfield 22, 3) := by decide +kernel
theorem dX4_beginsWord_9 : decode cX4_beginsWord 9 = .ok (.getfield 49, 3) := by decide +kernel
theorem dX4_beginsWord_12 : decode cX4_beginsWord 12 = .ok (.if_icmp .ge 37, 3) := by decide +kernel
theorem dX4_beginsWord_15 : decode cX4_beginsWord 15 = .ok (.aload_n 0, 1) := by decide +kernel
theorem dX4_beginsWord_16 : decode cX4_beginsWord 16 = .ok (.getfield 22, 3) := by decide +kernel
theorem dX4_beginsWord_19 : decode cX4_beginsWord 19 = .ok (.getfield 96, 3) := by decide +kernel
theorem dX4_beginsWord_22 : decode cX4_beginsWord 22 = .ok (.iload_n 1, 1) := by decide +kernel
theorem dX4_beginsWord_23 : decode cX4_beginsWord 23 = .ok (.caload, 1) := by decide +kernel
theorem dX4_beginsWord_24 : decode cX4_beginsWord 24 = .ok (.bipush 32, 2) := by decide +kernel
theorem dX4_beginsWord_26 : decode cX4_beginsWord 26 = .ok (.if_icmp .eq 23, 3) := by decide +kernel
theorem dX4_beginsWord_29 : decode cX4_beginsWord 29 = .ok (.aload_n 0, 1) := by decide +kernel
theorem dX4_beginsWord_30 : decode cX4_beginsWord 30 = .ok (.getfield 22, 3) := by decide +kernel
theorem dX4_beginsWord_33 : decode cX4_beginsWord 33 = .ok (.getfield 96, 3) := by decide +kernel
theorem dX4_beginsWord_36 : decode cX4_beginsWord 36 = .ok (.iload_n 1, 1) := by decide +kernel
theorem dX4_beginsWord_37 : decode cX4_beginsWord 37 = .ok (.iconst 1, 1) := by decide +kernel
theorem dX4_beginsWord_38 : decode cX4_beginsWord 38 = .ok (.isub, 1) := by decide +kernel
theorem dX4_beginsWord_39 : decode cX4_beginsWord 39 = .ok (.caload, 1) := by decide +kernel
theorem dX4_beginsWord_40 : decode cX4_beginsWord 40 = .ok (.bipush 32, 2) := by decide +kernel
theorem dX4_beginsWord_42 : decode cX4_beginsWord 42 = .ok (.if_icmp .ne 7, 3) := by decide +kernel
theorem dX4_beginsWord_45 : decode cX4_beginsWord 45 = .ok (.iconst 1, 1) := by decide +kernel
theorem dX4_beginsWord_46 : decode cX4_beginsWord 46 = .ok (.goto 4, 3) := by decide +kernel
theorem dX4_beginsWord_49 : decode cX4_beginsWord 49 = .ok (.iconst 0, 1) := by decide +kernel
theorem dX4_beginsWord_50 : decode cX4_beginsWord 50 = .ok (.ireturn, 1) := by decide +kernel
theorem dX4_chooseUnits_0 : decode cX4_chooseUnits 0 = .ok (.aload_n 0, 1) := by decide +kernel
theorem dX4_chooseUnits_1 : decode cX4_chooseUnits 1 = .ok (.getfield 42, 3) := by decide +kernel
theorem dX4_chooseUnits_4 : decode cX4_chooseUnits 4 = .ok (.iconst 0, 1) := by decide +kernel
theorem dX4_chooseUnits_5 : decode cX4_chooseUnits 5 = .ok (.putfield 99, 3) := by decide +kernel
theorem dX4_chooseUnits_8 : decode cX4_chooseUnits 8 = .ok (.aload_n 0, 1) := by decide +kernel
theorem dX4_chooseUnits_9 : decode cX4_chooseUnits 9 = .ok (.getfield 18, 3) := by decide +kernel
theorem dX4_chooseUnits_12 : decode cX4_chooseUnits 12 = .ok (.iconst 0, 1) := by decide +kernel
theorem dX4_chooseUnits_13 : decode cX4_chooseUnits 13 = .ok (.iconst 1, 1) := by decide +kernel
theorem dX4_chooseUnits_14 : decode cX4_chooseUnits 14 = .ok (.bastore, 1) := by decide +kernel
theorem dX4_chooseUnits_15 : decode cX4_chooseUnits 15 = .ok (.iconst 1, 1) := by decide +kernel
theorem dX4_chooseUnits_16 : decode cX4_chooseUnits 16 = .ok (.istore_n 2, 1) := by decide +kernel
theorem dX4_chooseUnits_17 : decode cX4_chooseUnits 17 = .ok (.iload_n 2, 1) := by decide +kernel
theorem dX4_chooseUnits_18 : decode cX4_chooseUnits 18 = .ok (.aload_n 0, 1) := by decide +kernel
theorem dX4_chooseUnits_19 : decode cX4_chooseUnits 19 = .ok (.getfield 33, 3) := by decide +kernel
theorem dX4_chooseUnits_22 : decode cX4_chooseUnits 22 = .ok (.getfield 88, 3) := by decide +kernel
theorem dX4_chooseUnits_25 : decode cX4_chooseUnits 25 = .ok (.if_icmp .ge 73, 3) := by decide +kernel
theorem dX4_chooseUnits_28 : decode cX4_chooseUnits 28 = .ok (.aload_n 0, 1) := by decide +kernel
theorem dX4_chooseUnits_29 : decode cX4_chooseUnits 29 = .ok (.getfield 33, 3) := by decide +kernel
theorem dX4_chooseUnits_32 : decode cX4_chooseUnits 32 = .ok (.getfield 102, 3) := by decide +kernel
theorem dX4_chooseUnits_35 : decode cX4_chooseUnits 35 = .ok (.iload_n 2, 1) := by decide +kernel
theorem dX4_chooseUnits_36 : decode cX4_chooseUnits 36 = .ok (.iaload, 1) := by decide +kernel
theorem dX4_chooseUnits_37 : decode cX4_chooseUnits 37 = .ok (.iload_n 1, 1) := by decide +kernel
theorem dX4_chooseUnits_38 : decode cX4_chooseUnits 38 = .ok (.if_icmp .ne 54, 3) := by decide +kernel
theorem dX4_chooseUnits_41 : decode cX4_chooseUnits 41 = .ok (.aload_n 0, 1) := by decide +kernel
theorem dX4_chooseUnits_42 : decode cX4_chooseUnits 42 = .ok (.getfield 18, 3) := by decide +kernel
theorem dX4_chooseUnits_45 : decode cX4_chooseUnits 45 = .ok (.iload_n 2, 1) := by decide +kernel
theorem dX4_chooseUnits_46 : decode cX4_chooseUnits 46 = .ok (.iconst 0, 1) := by decide +kernel
theorem dX4_chooseUnits_47 : decode cX4_chooseUnits 47 = .ok (.bastore, 1) := by decide +kernel
theorem dX4_chooseUnits_48 : decode cX4_chooseUnits 48 = .ok (.aload_n 0, 1) := by decide +kernel
theorem dX4_chooseUnits_49 : decode cX4_chooseUnits 49 = .ok (.iload_n 2, 1) := by decide +kernel
theorem dX4_chooseUnits_50 : decode cX4_chooseUnits 50 = .ok (.invokevirtual 105, 3) := by decide +kernel
theorem dX4_chooseUnits_53 : decode cX4_chooseUnits 53 = .ok (.ifCond .eq 39, 3) := by decide +kernel
theorem dX4_chooseUnits_56 : decode cX4_chooseUnits 56 = .ok (.aload_n 0, 1) := by decide +kernel
theorem dX4_chooseUnits_57 : decode cX4_chooseUnits 57 = .ok (.getfield 42, 3) := by decide +kernel
theorem dX4_chooseUnits_60 : decode cX4_chooseUnits 60 = .ok (.aload_n 0, 1) := by decide +kernel
theorem dX4_chooseUnits_61 : decode cX4_chooseUnits 61 = .ok (.getfield 33, 3) := by decide +kernel
theorem dX4_chooseUnits_64 : decode cX4_chooseUnits 64 = .ok (.getfield 108, 3) := by decide +kernel
theorem dX4_chooseUnits_67 : decode cX4_chooseUnits 67 = .ok (.iload_n 2, 1) := by decide +kernel
theorem dX4_chooseUnits_68 : decode cX4_chooseUnits 68 = .ok (.iaload, 1) := by decide +kernel
theorem dX4_chooseUnits_69 : decode cX4_chooseUnits 69 = .ok (.aload_n 0, 1) := by decide +kernel
theorem dX4_chooseUnits_70 : decode cX4_chooseUnits 70 = .ok (.getfield 33, 3) := by decide +kernel
theorem dX4_chooseUnits_73 : decode cX4_chooseUnits 73 = .ok (.getfield 108, 3) := by decide +kernel
theorem dX4_chooseUnits_76 : decode cX4_chooseUnits 76 = .ok (.iload_n 2, 1) := by decide +kernel
theorem dX4_chooseUnits_77 : decode cX4_chooseUnits 77 = .ok (.iaload, 1) := by decide +kernel
theorem dX4_chooseUnits_78 : decode cX4_chooseUnits 78 = .ok (.aload_n 0, 1) := by decide +kernel
theorem dX4_chooseUnits_79 : decode cX4_chooseUnits 79 = .ok (.getfield 33, 3) := by decide +kernel
theorem dX4_chooseUnits_82 : decode cX4_chooseUnits 82 = .ok (.getfield 89, 3) := by decide +kernel
theorem dX4_chooseUnits_85 : decode cX4_chooseUnits 85 = .ok (.iload_n 2, 1) := by decide +kernel
theorem dX4_chooseUnits_86 : decode cX4_chooseUnits 86 = .ok (.iaload, 1) := by decide +kernel
theorem dX4_chooseUnits_87 : decode cX4_chooseUnits 87 = .ok (.iadd, 1) := by decide +kernel
theorem dX4_chooseUnits_88 : decode cX4_chooseUnits 88 = .ok (.iload_n 2, 1) := by decide +kernel
theorem dX4_chooseUnits_89 : decode cX4_chooseUnits 89 = .ok (.invokevirtual 57, 3) := by decide +kernel
theorem dX4_chooseUnits_92 : decode cX4_chooseUnits 92 = .ok (.iinc 2 1, 3) := by decide +kernel
theorem dX4_chooseUnits_95 : decode cX4_chooseUnits 95 = .ok (.goto (-78), 3) := by decide +kernel
theorem dX4_chooseUnits_98 : decode cX4_chooseUnits 98 = .ok (.return_, 1) := by decide +kernel
theorem dX4_isBelowKept_0 : decode cX4_isBelowKept 0 = .ok (.aload_n 0, 1) := by decide +kernel
theorem dX4_isBelowKept_1 : decode cX4_isBelowKept 1 = .ok (.getfield 33, 3) := by decide +kernel
theorem dX4_isBelowKept_4 : decode cX4_isBelowKept 4 = .ok (.getfield 110, 3) := by decide +kernel
theorem dX4_isBelowKept_7 : decode cX4_isBelowKept 7 = .ok (.iload_n 1, 1) := by decide +kernel
theorem dX4_isBelowKept_8 : decode cX4_isBelowKept 8 = .ok (.iaload, 1) := by decide +kernel
theorem dX4_isBelowKept_9 : decode cX4_isBelowKept 9 = .ok (.istore_n 2, 1) := by decide +kernel
theorem dX4_isBelowKept_10 : decode cX4_isBelowKept 10 = .ok (.iload_n 2, 1) := by decide +kernel
theorem dX4_isBelowKept_11 : decode cX4_isBelowKept 11 = .ok (.ifCond .lt 27, 3) := by decide +kernel
theorem dX4_isBelowKept_14 : decode cX4_isBelowKept 14 = .ok (.iload_n 2, 1) := by decide +kernel
theorem dX4_isBelowKept_15 : decode cX4_isBelowKept 15 = .ok (.aload_n 0, 1) := by decide +kernel
theorem dX4_isBelowKept_16 : decode cX4_isBelowKept 16 = .ok (.getfield 33, 3) := by decide +kernel
theorem dX4_isBelowKept_19 : decode cX4_isBelowKept 19 = .ok (.getfield 88, 3) := by decide +kernel
theorem dX4_isBelowKept_22 : decode cX4_isBelowKept 22 = .ok (.if_icmp .ge 16, 3) := by decide +kernel
theorem dX4_isBelowKept_25 : decode cX4_isBelowKept 25 = .ok (.aload_n 0, 1) := by decide +kernel
theorem dX4_isBelowKept_26 : decode cX4_isBelowKept 26 = .ok (.getfield 18, 3) := by decide +kernel
theorem dX4_isBelowKept_29 : decode cX4_isBelowKept 29 = .ok (.iload_n 2, 1) := by decide +kernel
theorem dX4_isBelowKept_30 : decode cX4_isBelowKept 30 = .ok (.baload, 1) := by decide +kernel
theorem dX4_isBelowKept_31 : decode cX4_isBelowKept 31 = .ok (.ifCond .eq 7, 3) := by decide +kernel
theorem dX4_isBelowKept_34 : decode cX4_isBelowKept 34 = .ok (.iconst 1, 1) := by decide +kernel
theorem dX4_isBelowKept_35 : decode cX4_isBelowKept 35 = .ok (.goto 4, 3) := by decide +kernel
theorem dX4_isBelowKept_38 : decode cX4_isBelowKept 38 = .ok (.iconst 0, 1) := by decide +kernel
theorem dX4_isBelowKept_39 : decode cX4_isBelowKept 39 = .ok (.ireturn, 1) := by decide +kernel
theorem dX4_keepUnits_0 : decode cX4_keepUnits 0 = .ok (.iconst 0, 1) := by decide +kernel
theorem dX4_keepUnits_1 : decode cX4_keepUnits 1 = .ok (.istore_n 1, 1) := by decide +kernel
theorem dX4_keepUnits_2 : decode cX4_keepUnits 2 = .ok (.iload_n 1, 1) := by decide +kernel
theorem dX4_keepUnits_3 : decode cX4_keepUnits 3 = .ok (.aload_n 0, 1) := by decide +kernel
theorem dX4_keepUnits_4 : decode cX4_keepUnits 4 = .ok (.getfield 42, 3) := by decide +kernel
theorem dX4_keepUnits_7 : decode cX4_keepUnits 7 = .ok (.getfield 99, 3) := by decide +kernel
theorem dX4_keepUnits_10 : decode cX4_keepUnits 10 = .ok (.if_icmp .ge 24, 3) := by decide +kernel
theorem dX4_keepUnits_13 : decode cX4_keepUnits 13 = .ok (.aload_n 0, 1) := by decide +kernel
theorem dX4_keepUnits_14 : decode cX4_keepUnits 14 = .ok (.getfield 18, 3) := by decide +kernel
theorem dX4_keepUnits_17 : decode cX4_keepUnits 17 = .ok (.aload_n 0, 1) := by decide +kernel
theorem dX4_keepUnits_18 : decode cX4_keepUnits 18 = .ok (.getfield 42, 3) := by decide +kernel
theorem dX4_keepUnits_21 : decode cX4_keepUnits 21 = .ok (.getfield 113, 3) := by decide +kernel
theorem dX4_keepUnits_24 : decode cX4_keepUnits 24 = .ok (.iload_n 1, 1) := by decide +kernel
theorem dX4_keepUnits_25 : decode cX4_keepUnits 25 = .ok (.iaload, 1) := by decide +kernel
theorem dX4_keepUnits_26 : decode cX4_keepUnits 26 = .ok (.iconst 1, 1) := by decide +kernel
theorem dX4_keepUnits_27 : decode cX4_keepUnits 27 = .ok (.bastore, 1) := by decide +kernel
theorem dX4_keepUnits_28 : decode cX4_keepUnits 28 = .ok (.iinc 1 1, 3) := by decide +kernel
theorem dX4_keepUnits_31 : decode cX4_keepUnits 31 = .ok (.goto (-29), 3) := by decide +kernel
theorem dX4_keepUnits_34 : decode cX4_keepUnits 34 = .ok (.return_, 1) := by decide +kernel
theorem dX4_takesMove_0 : decode cX4_takesMove 0 = .ok (.aload_n 0, 1) := by decide +kernel
theorem dX4_takesMove_1 : decode cX4_takesMove 1 = .ok (.getfield 33, 3) := by decide +kernel
theorem dX4_takesMove_4 : decode cX4_takesMove 4 = .ok (.getfield 108, 3) := by decide +kernel
theorem dX4_takesMove_7 : decode cX4_takesMove 7 = .ok (.iload_n 1, 1) := by decide +kernel
theorem dX4_takesMove_8 : decode cX4_takesMove 8 = .ok (.iaload, 1) := by decide +kernel
theorem dX4_takesMove_9 : decode cX4_takesMove 9 = .ok (.istore_n 2, 1) := by decide +kernel
theorem dX4_takesMove_10 : decode cX4_takesMove 10 = .ok (.iload_n 2, 1) := by decide +kernel
theorem dX4_takesMove_11 : decode cX4_takesMove 11 = .ok (.aload_n 0, 1) := by decide +kernel
theorem dX4_takesMove_12 : decode cX4_takesMove 12 = .ok (.getfield 33, 3) := by decide +kernel
theorem dX4_takesMove_15 : decode cX4_takesMove 15 = .ok (.getfield 89, 3) := by decide +kernel
theorem dX4_takesMove_18 : decode cX4_takesMove 18 = .ok (.iload_n 1, 1) := by decide +kernel
theorem dX4_takesMove_19 : decode cX4_takesMove 19 = .ok (.iaload, 1) := by decide +kernel
theorem dX4_takesMove_20 : decode cX4_takesMove 20 = .ok (.iadd, 1) := by decide +kernel
theorem dX4_takesMove_21 : decode cX4_takesMove 21 = .ok (.istore_n 3, 1) := by decide +kernel
theorem dX4_takesMove_22 : decode cX4_takesMove 22 = .ok (.iload_n 1, 1) := by decide +kernel
theorem dX4_takesMove_23 : decode cX4_takesMove 23 = .ok (.istore 4, 2) := by decide +kernel
theorem dX4_takesMove_25 : decode cX4_takesMove 25 = .ok (.iload 4, 2) := by decide +kernel
theorem dX4_takesMove_27 : decode cX4_takesMove 27 = .ok (.aload_n 0, 1) := by decide +kernel
theorem dX4_takesMove_28 : decode cX4_takesMove 28 = .ok (.getfield 33, 3) := by decide +kernel
theorem dX4_takesMove_31 : decode cX4_takesMove 31 = .ok (.getfield 88, 3) := by decide +kernel
theorem dX4_takesMove_34 : decode cX4_takesMove 34 = .ok (.if_icmp .ge 169, 3) := by decide +kernel
theorem dX4_takesMove_37 : decode cX4_takesMove 37 = .ok (.iload 4, 2) := by decide +kernel
theorem dX4_takesMove_39 : decode cX4_takesMove 39 = .ok (.iload_n 1, 1) := by decide +kernel
theorem dX4_takesMove_40 : decode cX4_takesMove 40 = .ok (.if_icmp .eq 13, 3) := by decide +kernel
theorem dX4_takesMove_43 : decode cX4_takesMove 43 = .ok (.aload_n 0, 1) := by decide +kernel
theorem dX4_takesMove_44 : decode cX4_takesMove 44 = .ok (.iload 4, 2) := by decide +kernel
theorem dX4_takesMove_46 : decode cX4_takesMove 46 = .ok (.iload_n 1, 1) := by decide +kernel
theorem dX4_takesMove_47 : decode cX4_takesMove 47 = .ok (.invokevirtual 116, 3) := by decide +kernel
theorem dX4_takesMove_50 : decode cX4_takesMove 50 = .ok (.ifCond .eq 153, 3) := by decide +kernel
theorem dX4_takesMove_53 : decode cX4_takesMove 53 = .ok (.aload_n 0, 1) := by decide +kernel
theorem dX4_takesMove_54 : decode cX4_takesMove 54 = .ok (.iload_n 1, 1) := by decide +kernel
theorem dX4_takesMove_55 : decode cX4_takesMove 55 = .ok (.iload 4, 2) := by decide +kernel
theorem dX4_takesMove_57 : decode cX4_takesMove 57 = .ok (.invokevirtual 120, 3) := by decide +kernel
theorem dX4_takesMove_60 : decode cX4_takesMove 60 = .ok (.ifCond .eq 137, 3) := by decide +kernel
theorem dX4_takesMove_63 : decode cX4_takesMove 63 = .ok (.aload_n 0, 1) := by decide +kernel
theorem dX4_takesMove_64 : decode cX4_takesMove 64 = .ok (.getfield 12, 3) := by decide +kernel
theorem dX4_takesMove_67 : decode cX4_takesMove 67 = .ok (.iconst 0, 1) := by decide +kernel
theorem dX4_takesMove_68 : decode cX4_takesMove 68 = .ok (.putfield 49, 3) := by decide +kernel
theorem dX4_takesMove_71 : decode cX4_takesMove 71 = .ok (.aload_n 0, 1) := by decide +kernel
theorem dX4_takesMove_72 : decode cX4_takesMove 72 = .ok (.getfield 12, 3) := by decide +kernel
theorem dX4_takesMove_75 : decode cX4_takesMove 75 = .ok (.aload_n 0, 1) := by decide +kernel
theorem dX4_takesMove_76 : decode cX4_takesMove 76 = .ok (.getfield 22, 3) := by decide +kernel
theorem dX4_takesMove_79 : decode cX4_takesMove 79 = .ok (.iconst 0, 1) := by decide +kernel
theorem dX4_takesMove_80 : decode cX4_takesMove 80 = .ok (.iload_n 2, 1) := by decide +kernel
theorem dX4_takesMove_81 : decode cX4_takesMove 81 = .ok (.invokevirtual 123, 3) := by decide +kernel
theorem dX4_takesMove_84 : decode cX4_takesMove 84 = .ok (.aload_n 0, 1) := by decide +kernel
theorem dX4_takesMove_85 : decode cX4_takesMove 85 = .ok (.getfield 12, 3) := by decide +kernel
theorem dX4_takesMove_88 : decode cX4_takesMove 88 = .ok (.aload_n 0, 1) := by decide +kernel
theorem dX4_takesMove_89 : decode cX4_takesMove 89 = .ok (.getfield 22, 3) := by decide +kernel
theorem dX4_takesMove_92 : decode cX4_takesMove 92 = .ok (.aload_n 0, 1) := by decide +kernel
theorem dX4_takesMove_93 : decode cX4_takesMove 93 = .ok (.getfield 33, 3) := by decide +kernel
theorem dX4_takesMove_96 : decode cX4_takesMove 96 = .ok (.getfield 108, 3) := by decide +kernel
theorem dX4_takesMove_99 : decode cX4_takesMove 99 = .ok (.iload 4, 2) := by decide +kernel
theorem dX4_takesMove_101 : decode cX4_takesMove 101 = .ok (.iaload, 1) := by decide +kernel
theorem dX4_takesMove_102 : decode cX4_takesMove 102 = .ok (.aload_n 0, 1) := by decide +kernel
theorem dX4_takesMove_103 : decode cX4_takesMove 103 = .ok (.getfield 33, 3) := by decide +kernel
theorem dX4_takesMove_106 : decode cX4_takesMove 106 = .ok (.getfield 108, 3) := by decide +kernel
theorem dX4_takesMove_109 : decode cX4_takesMove 109 = .ok (.iload 4, 2) := by decide +kernel
theorem dX4_takesMove_111 : decode cX4_takesMove 111 = .ok (.iaload, 1) := by decide +kernel
theorem dX4_takesMove_112 : decode cX4_takesMove 112 = .ok (.iload 4, 2) := by decide +kernel
theorem dX4_takesMove_114 : decode cX4_takesMove 114 = .ok (.iload_n 1, 1) := by decide +kernel
theorem dX4_takesMove_115 : decode cX4_takesMove 115 = .ok (.if_icmp .ne 7, 3) := by decide +kernel
theorem dX4_takesMove_118 : decode cX4_takesMove 118 = .ok (.iconst 0, 1) := by decide +kernel
theorem dX4_takesMove_119 : decode cX4_takesMove 119 = .ok (.goto 13, 3) := by decide +kernel
theorem dX4_takesMove_122 : decode cX4_takesMove 122 = .ok (.aload_n 0, 1) := by decide +kernel
theorem dX4_takesMove_123 : decode cX4_takesMove 123 = .ok (.getfield 33, 3) := by decide +kernel
theorem dX4_takesMove_126 : decode cX4_takesMove 126 = .ok (.getfield 89, 3) := by decide +kernel
theorem dX4_takesMove_129 : decode cX4_takesMove 129 = .ok (.iload 4, 2) := by decide +kernel
theorem dX4_takesMove_131 : decode cX4_takesMove 131 = .ok (.iaload, 1) := by decide +kernel
theorem dX4_takesMove_132 : decode cX4_takesMove 132 = .ok (.iadd, 1) := by decide +kernel
theorem dX4_takesMove_133 : decode cX4_takesMove 133 = .ok (.invokevirtual 123, 3) := by decide +kernel
theorem dX4_takesMove_136 : decode cX4_takesMove 136 = .ok (.aload_n 0, 1) := by decide +kernel
theorem dX4_takesMove_137 : decode cX4_takesMove 137 = .ok (.getfield 12, 3) := by decide +kernel
theorem dX4_takesMove_140 : decode cX4_takesMove 140 = .ok (.aload_n 0, 1) := by decide +kernel
theorem dX4_takesMove_141 : decode cX4_takesMove 141 = .ok (.getfield 22, 3) := by decide +kernel
theorem dX4_takesMove_144 : decode cX4_takesMove 144 = .ok (.iload_n 3, 1) := by decide +kernel
theorem dX4_takesMove_145 : decode cX4_takesMove 145 = .ok (.aload_n 0, 1) := by decide +kernel
theorem dX4_takesMove_146 : decode cX4_takesMove 146 = .ok (.getfield 22, 3) := by decide +kernel
theorem dX4_takesMove_149 : decode cX4_takesMove 149 = .ok (.getfield 49, 3) := by decide +kernel
theorem dX4_takesMove_152 : decode cX4_takesMove 152 = .ok (.invokevirtual 123, 3) := by decide +kernel
theorem dX4_takesMove_155 : decode cX4_takesMove 155 = .ok (.aload_n 0, 1) := by decide +kernel
theorem dX4_takesMove_156 : decode cX4_takesMove 156 = .ok (.getfield 29, 3) := by decide +kernel
theorem dX4_takesMove_159 : decode cX4_takesMove 159 = .ok (.aload_n 0, 1) := by decide +kernel
theorem dX4_takesMove_160 : decode cX4_takesMove 160 = .ok (.getfield 12, 3) := by decide +kernel
theorem dX4_takesMove_163 : decode cX4_takesMove 163 = .ok (.invokevirtual 127, 3) := by decide +kernel
theorem dX4_takesMove_166 : decode cX4_takesMove 166 = .ok (.ifCond .eq 31, 3) := by decide +kernel
theorem dX4_takesMove_169 : decode cX4_takesMove 169 = .ok (.aload_n 0, 1) := by decide +kernel
theorem dX4_takesMove_170 : decode cX4_takesMove 170 = .ok (.getfield 25, 3) := by decide +kernel
theorem dX4_takesMove_173 : decode cX4_takesMove 173 = .ok (.aload_n 0, 1) := by decide +kernel
theorem dX4_takesMove_174 : decode cX4_takesMove 174 = .ok (.getfield 12, 3) := by decide +kernel
theorem dX4_takesMove_177 : decode cX4_takesMove 177 = .ok (.invokevirtual 132, 3) := by decide +kernel
theorem dX4_takesMove_180 : decode cX4_takesMove 180 = .ok (.iconst 1, 1) := by decide +kernel
theorem dX4_takesMove_181 : decode cX4_takesMove 181 = .ok (.if_icmp .ne 16, 3) := by decide +kernel
theorem dX4_takesMove_184 : decode cX4_takesMove 184 = .ok (.aload_n 0, 1) := by decide +kernel
theorem dX4_takesMove_185 : decode cX4_takesMove 185 = .ok (.getfield 22, 3) := by decide +kernel
theorem dX4_takesMove_188 : decode cX4_takesMove 188 = .ok (.aload_n 0, 1) := by decide +kernel
theorem dX4_takesMove_189 : decode cX4_takesMove 189 = .ok (.getfield 12, 3) := by decide +kernel
theorem dX4_takesMove_192 : decode cX4_takesMove 192 = .ok (.invokevirtual 136, 3) := by decide +kernel
theorem dX4_takesMove_195 : decode cX4_takesMove 195 = .ok (.iconst 1, 1) := by decide +kernel
theorem dX4_takesMove_196 : decode cX4_takesMove 196 = .ok (.ireturn, 1) := by decide +kernel
theorem dX4_takesMove_197 : decode cX4_takesMove 197 = .ok (.iinc 4 1, 3) := by decide +kernel
theorem dX4_takesMove_200 : decode cX4_takesMove 200 = .ok (.goto (-175), 3) := by decide +kernel
theorem dX4_takesMove_203 : decode cX4_takesMove 203 = .ok (.iconst 0, 1) := by decide +kernel
theorem dX4_takesMove_204 : decode cX4_takesMove 204 = .ok (.ireturn, 1) := by decide +kernel
theorem dX4_isBelow_0 : decode cX4_isBelow 0 = .ok (.aload_n 0, 1) := by decide +kernel
theorem dX4_isBelow_1 : decode cX4_isBelow 1 = .ok (.getfield 33, 3) := by decide +kernel
theorem dX4_isBelow_4 : decode cX4_isBelow 4 = .ok (.getfield 102, 3) := by decide +kernel
theorem dX4_isBelow_7 : decode cX4_isBelow 7 = .ok (.iload_n 1, 1) := by decide +kernel
theorem dX4_isBelow_8 : decode cX4_isBelow 8 = .ok (.iaload, 1) := by decide +kernel
theorem dX4_isBelow_9 : decode cX4_isBelow 9 = .ok (.aload_n 0, 1) := by decide +kernel
theorem dX4_isBelow_10 : decode cX4_isBelow 10 = .ok (.getfield 33, 3) := by decide +kernel
theorem dX4_isBelow_13 : decode cX4_isBelow 13 = .ok (.getfield 102, 3) := by decide +kernel
theorem dX4_isBelow_16 : decode cX4_isBelow 16 = .ok (.iload_n 2, 1) := by decide +kernel
theorem dX4_isBelow_17 : decode cX4_isBelow 17 = .ok (.iaload, 1) := by decide +kernel
theorem dX4_isBelow_18 : decode cX4_isBelow 18 = .ok (.if_icmp .le 7, 3) := by decide +kernel
theorem dX4_isBelow_21 : decode cX4_isBelow 21 = .ok (.iconst 1, 1) := by decide +kernel
theorem dX4_isBelow_22 : decode cX4_isBelow 22 = .ok (.goto 4, 3) := by decide +kernel
theorem dX4_isBelow_25 : decode cX4_isBelow 25 = .ok (.iconst 0, 1) := by decide +kernel
theorem dX4_isBelow_26 : decode cX4_isBelow 26 = .ok (.ireturn, 1) := by decide +kernel
theorem dX4_isMove_0 : decode cX4_isMove 0 = .ok (.iload_n 2, 1) := by decide +kernel
theorem dX4_isMove_1 : decode cX4_isMove 1 = .ok (.iload_n 1, 1) := by decide +kernel
theorem dX4_isMove_2 : decode cX4_isMove 2 = .ok (.if_icmp .ne 13, 3) := by decide +kernel
theorem dX4_isMove_5 : decode cX4_isMove 5 = .ok (.aload_n 0, 1) := by decide +kernel
theorem dX4_isMove_6 : decode cX4_isMove 6 = .ok (.getfield 33, 3) := by decide +kernel
theorem dX4_isMove_9 : decode cX4_isMove 9 = .ok (.getfield 140, 3) := by decide +kernel
theorem dX4_isMove_12 : decode cX4_isMove 12 = .ok (.iload_n 1, 1) := by decide +kernel
theorem dX4_isMove_13 : decode cX4_isMove 13 = .ok (.baload, 1) := by decide +kernel
theorem dX4_isMove_14 : decode cX4_isMove 14 = .ok (.ireturn, 1) := by decide +kernel
theorem dX4_isMove_15 : decode cX4_isMove 15 = .ok (.aload_n 0, 1) := by decide +kernel
theorem dX4_isMove_16 : decode cX4_isMove 16 = .ok (.getfield 33, 3) := by decide +kernel
theorem dX4_isMove_19 : decode cX4_isMove 19 = .ok (.getfield 143, 3) := by decide +kernel
theorem dX4_isMove_22 : decode cX4_isMove 22 = .ok (.iload_n 2, 1) := by decide +kernel
theorem dX4_isMove_23 : decode cX4_isMove 23 = .ok (.iaload, 1) := by decide +kernel
theorem dX4_isMove_24 : decode cX4_isMove 24 = .ok (.bipush 6, 2) := by decide +kernel
theorem dX4_isMove_26 : decode cX4_isMove 26 = .ok (.if_icmp .ge 49, 3) := by decide +kernel
theorem dX4_isMove_29 : decode cX4_isMove 29 = .ok (.aload_n 0, 1) := by decide +kernel
theorem dX4_isMove_30 : decode cX4_isMove 30 = .ok (.getfield 33, 3) := by decide +kernel
theorem dX4_isMove_33 : decode cX4_isMove 33 = .ok (.getfield 143, 3) := by decide +kernel
theorem dX4_isMove_36 : decode cX4_isMove 36 = .ok (.iload_n 2, 1) := by decide +kernel
theorem dX4_isMove_37 : decode cX4_isMove 37 = .ok (.iaload, 1) := by decide +kernel
theorem dX4_isMove_38 : decode cX4_isMove 38 = .ok (.aload_n 0, 1) := by decide +kernel
theorem dX4_isMove_39 : decode cX4_isMove 39 = .ok (.getfield 33, 3) := by decide +kernel
theorem dX4_isMove_42 : decode cX4_isMove 42 = .ok (.getfield 143, 3) := by decide +kernel
theorem dX4_isMove_45 : decode cX4_isMove 45 = .ok (.iload_n 1, 1) := by decide +kernel
theorem dX4_isMove_46 : decode cX4_isMove 46 = .ok (.iaload, 1) := by decide +kernel
theorem dX4_isMove_47 : decode cX4_isMove 47 = .ok (.if_icmp .ne 28, 3) := by decide +kernel
theorem dX4_isMove_50 : decode cX4_isMove 50 = .ok (.aload_n 0, 1) := by decide +kernel
theorem dX4_isMove_51 : decode cX4_isMove 51 = .ok (.getfield 33, 3) := by decide +kernel
theorem dX4_isMove_54 : decode cX4_isMove 54 = .ok (.getfield 89, 3) := by decide +kernel
theorem dX4_isMove_57 : decode cX4_isMove 57 = .ok (.iload_n 2, 1) := by decide +kernel
theorem dX4_isMove_58 : decode cX4_isMove 58 = .ok (.iaload, 1) := by decide +kernel
theorem dX4_isMove_59 : decode cX4_isMove 59 = .ok (.aload_n 0, 1) := by decide +kernel
theorem dX4_isMove_60 : decode cX4_isMove 60 = .ok (.getfield 33, 3) := by decide +kernel
theorem dX4_isMove_63 : decode cX4_isMove 63 = .ok (.getfield 89, 3) := by decide +kernel
theorem dX4_isMove_66 : decode cX4_isMove 66 = .ok (.iload_n 1, 1) := by decide +kernel
theorem dX4_isMove_67 : decode cX4_isMove 67 = .ok (.iaload, 1) := by decide +kernel
theorem dX4_isMove_68 : decode cX4_isMove 68 = .ok (.if_icmp .ge 7, 3) := by decide +kernel
theorem dX4_isMove_71 : decode cX4_isMove 71 = .ok (.iconst 1, 1) := by decide +kernel
theorem dX4_isMove_72 : decode cX4_isMove 72 = .ok (.goto 4, 3) := by decide +kernel
theorem dX4_isMove_75 : decode cX4_isMove 75 = .ok (.iconst 0, 1) := by decide +kernel
theorem dX4_isMove_76 : decode cX4_isMove 76 = .ok (.ireturn, 1) := by decide +kernel
theorem dX5_init_0 : decode cX5_init 0 = .ok (.aload_n 0, 1) := by decide +kernel
theorem dX5_init_1 : decode cX5_init 1 = .ok (.invokespecial 1, 3) := by decide +kernel
theorem dX5_init_4 : decode cX5_init 4 = .ok (.aload_n 0, 1) := by decide +kernel
theorem dX5_init_5 : decode cX5_init 5 = .ok (.iload_n 1, 1) := by decide +kernel
theorem dX5_init_6 : decode cX5_init 6 = .ok (.putfield 7, 3) := by decide +kernel
theorem dX5_init_9 : decode cX5_init 9 = .ok (.aload_n 0, 1) := by decide +kernel
theorem dX5_init_10 : decode cX5_init 10 = .ok (.iload_n 2, 1) := by decide +kernel
theorem dX5_init_11 : decode cX5_init 11 = .ok (.putfield 13, 3) := by decide +kernel
theorem dX5_init_14 : decode cX5_init 14 = .ok (.aload_n 0, 1) := by decide +kernel
theorem dX5_init_15 : decode cX5_init 15 = .ok (.iload_n 3, 1) := by decide +kernel
theorem dX5_init_16 : decode cX5_init 16 = .ok (.putfield 17, 3) := by decide +kernel
theorem dX5_init_19 : decode cX5_init 19 = .ok (.aload_n 0, 1) := by decide +kernel
theorem dX5_init_20 : decode cX5_init 20 = .ok (.iload 4, 2) := by decide +kernel
theorem dX5_init_22 : decode cX5_init 22 = .ok (.putfield 20, 3) := by decide +kernel
theorem dX5_init_25 : decode cX5_init 25 = .ok (.aload_n 0, 1) := by decide +kernel
theorem dX5_init_26 : decode cX5_init 26 = .ok (.aconst_null, 1) := by decide +kernel
theorem dX5_init_27 : decode cX5_init 27 = .ok (.putfield 23, 3) := by decide +kernel
theorem dX5_init_30 : decode cX5_init 30 = .ok (.aload_n 0, 1) := by decide +kernel
theorem dX5_init_31 : decode cX5_init 31 = .ok (.aconst_null, 1) := by decide +kernel
theorem dX5_init_32 : decode cX5_init 32 = .ok (.putfield 27, 3) := by decide +kernel
theorem dX5_init_35 : decode cX5_init 35 = .ok (.aload_n 0, 1) := by decide +kernel
theorem dX5_init_36 : decode cX5_init 36 = .ok (.iconst 1, 1) := by decide +kernel
theorem dX5_init_37 : decode cX5_init 37 = .ok (.putfield 30, 3) := by decide +kernel
theorem dX5_init_40 : decode cX5_init 40 = .ok (.return_, 1) := by decide +kernel
theorem dX5_init__0 : decode cX5_init_ 0 = .ok (.aload_n 0, 1) := by decide +kernel
theorem dX5_init__1 : decode cX5_init_ 1 = .ok (.invokespecial 1, 3) := by decide +kernel
theorem dX5_init__4 : decode cX5_init_ 4 = .ok (.aload_n 0, 1) := by decide +kernel
theorem dX5_init__5 : decode cX5_init_ 5 = .ok (.iload_n 1, 1) := by decide +kernel
theorem dX5_init__6 : decode cX5_init_ 6 = .ok (.putfield 7, 3) := by decide +kernel
theorem dX5_init__9 : decode cX5_init_ 9 = .ok (.aload_n 0, 1) := by decide +kernel
theorem dX5_init__10 : decode cX5_init_ 10 = .ok (.bipush 32, 2) := by decide +kernel
theorem dX5_init__12 : decode cX5_init_ 12 = .ok (.putfield 13, 3) := by decide +kernel
theorem dX5_init__15 : decode cX5_init_ 15 = .ok (.aload_n 0, 1) := by decide +kernel
theorem dX5_init__16 : decode cX5_init_ 16 = .ok (.bipush 32, 2) := by decide +kernel
theorem dX5_init__18 : decode cX5_init_ 18 = .ok (.putfield 17, 3) := by decide +kernel
theorem dX5_init__21 : decode cX5_init_ 21 = .ok (.aload_n 0, 1) := by decide +kernel
theorem dX5_init__22 : decode cX5_init_ 22 = .ok (.iconst 0, 1) := by decide +kernel
theorem dX5_init__23 : decode cX5_init_ 23 = .ok (.putfield 20, 3) := by decide +kernel
theorem dX5_init__26 : decode cX5_init_ 26 = .ok (.aload_n 0, 1) := by decide +kernel
theorem dX5_init__27 : decode cX5_init_ 27 = .ok (.aload_n 2, 1) := by decide +kernel
theorem dX5_init__28 : decode cX5_init_ 28 = .ok (.putfield 23, 3) := by decide +kernel
theorem dX5_init__31 : decode cX5_init_ 31 = .ok (.aload_n 0, 1) := by decide +kernel
theorem dX5_init__32 : decode cX5_init_ 32 = .ok (.aload_n 3, 1) := by decide +kernel
theorem dX5_init__33 : decode cX5_init_ 33 = .ok (.putfield 27, 3) := by decide +kernel
theorem dX5_init__36 : decode cX5_init_ 36 = .ok (.aload_n 0, 1) := by decide +kernel
theorem dX5_init__37 : decode cX5_init_ 37 = .ok (.iload 4, 2) := by decide +kernel
theorem dX5_init__39 : decode cX5_init_ 39 = .ok (.putfield 30, 3) := by decide +kernel
theorem dX5_init__42 : decode cX5_init_ 42 = .ok (.return_, 1) := by decide +kernel
theorem dX6_init_0 : decode cX6_init 0 = .ok (.aload_n 0, 1) := by decide +kernel
theorem dX6_init_1 : decode cX6_init 1 = .ok (.invokespecial 3, 3) := by decide +kernel
theorem dX6_init_4 : decode cX6_init 4 = .ok (.aload_n 0, 1) := by decide +kernel
theorem dX6_init_5 : decode cX6_init 5 = .ok (.bipush 32, 2) := by decide +kernel
theorem dX6_init_7 : decode cX6_init 7 = .ok (.newarray .char, 2) := by decide +kernel
theorem dX6_init_9 : decode cX6_init 9 = .ok (.putfield 9, 3) := by decide +kernel
theorem dX6_init_12 : decode cX6_init 12 = .ok (.return_, 1) := by decide +kernel
theorem dX6_put_0 : decode cX6_put 0 = .ok (.aload_n 0, 1) := by decide +kernel
theorem dX6_put_1 : decode cX6_put 1 = .ok (.getfield 15, 3) := by decide +kernel
theorem dX6_put_4 : decode cX6_put 4 = .ok (.bipush 32, 2) := by decide +kernel
theorem dX6_put_6 : decode cX6_put 6 = .ok (.if_icmp .lt 5, 3) := by decide +kernel
theorem dX6_put_9 : decode cX6_put 9 = .ok (.iconst 0, 1) := by decide +kernel
theorem dX6_put_10 : decode cX6_put 10 = .ok (.ireturn, 1) := by decide +kernel
theorem dX6_put_11 : decode cX6_put 11 = .ok (.aload_n 0, 1) := by decide +kernel
theorem dX6_put_12 : decode cX6_put 12 = .ok (.getfield 9, 3) := by decide +kernel
theorem dX6_put_15 : decode cX6_put 15 = .ok (.aload_n 0, 1) := by decide +kernel
theorem dX6_put_16 : decode cX6_put 16 = .ok (.getfield 15, 3) := by decide +kernel
theorem dX6_put_19 : decode cX6_put 19 = .ok (.iload_n 1, 1) := by decide +kernel
theorem dX6_put_20 : decode cX6_put 20 = .ok (.castore, 1) := by decide +kernel
theorem dX6_put_21 : decode cX6_put 21 = .ok (.aload_n 0, 1) := by decide +kernel
theorem dX6_put_22 : decode cX6_put 22 = .ok (.dup, 1) := by decide +kernel
theorem dX6_put_23 : decode cX6_put 23 = .ok (.getfield 15, 3) := by decide +kernel
theorem dX6_put_26 : decode cX6_put 26 = .ok (.iconst 1, 1) := by decide +kernel
theorem dX6_put_27 : decode cX6_put 27 = .ok (.iadd, 1) := by decide +kernel
theorem dX6_put_28 : decode cX6_put 28 = .ok (.putfield 15, 3) := by decide +kernel
theorem dX6_put_31 : decode cX6_put 31 = .ok (.iconst 1, 1) := by decide +kernel
theorem dX6_put_32 : decode cX6_put 32 = .ok (.ireturn, 1) := by decide +kernel
theorem dX6_putSome_0 : decode cX6_putSome 0 = .ok (.iload_n 2, 1) := by decide +kernel
theorem dX6_putSome_1 : decode cX6_putSome 1 = .ok (.istore 4, 2) := by decide +kernel
theorem dX6_putSome_3 : decode cX6_putSome 3 = .ok (.iload 4, 2) := by decide +kernel
theorem dX6_putSome_5 : decode cX6_putSome 5 = .ok (.ifCond .lt 36, 3) := by decide +kernel
theorem dX6_putSome_8 : decode cX6_putSome 8 = .ok (.iload 4, 2) := by decide +kernel
theorem dX6_putSome_10 : decode cX6_putSome 10 = .ok (.iload_n 3, 1) := by decide +kernel
theorem dX6_putSome_11 : decode cX6_putSome 11 = .ok (.if_icmp .ge 30, 3) := by decide +kernel
theorem dX6_putSome_14 : decode cX6_putSome 14 = .ok (.iload 4, 2) := by decide +kernel
theorem dX6_putSome_16 : decode cX6_putSome 16 = .ok (.aload_n 1, 1) := by decide +kernel
theorem dX6_putSome_17 : decode cX6_putSome 17 = .ok (.getfield 15, 3) := by decide +kernel
theorem dX6_putSome_20 : decode cX6_putSome 20 = .ok (.if_icmp .ge 21, 3) := by decide +kernel
theorem dX6_putSome_23 : decode cX6_putSome 23 = .ok (.aload_n 0, 1) := by decide +kernel
theorem dX6_putSome_24 : decode cX6_putSome 24 = .ok (.aload_n 1, 1) := by decide +kernel
theorem dX6_putSome_25 : decode cX6_putSome 25 = .ok (.getfield 9, 3) := by decide +kernel
theorem dX6_putSome_28 : decode cX6_putSome 28 = .ok (.iload 4, 2) := by decide +kernel
theorem dX6_putSome_30 : decode cX6_putSome 30 = .ok (.caload, 1) := by decide +kernel
theorem dX6_putSome_31 : decode cX6_putSome 31 = .ok (.invokevirtual 19, 3) := by decide +kernel
theorem dX6_putSome_34 : decode cX6_putSome 34 = .ok (.pop, 1) := by decide +kernel
theorem dX6_putSome_35 : decode cX6_putSome 35 = .ok (.iinc 4 1, 3) := by decide +kernel
theorem dX6_putSome_38 : decode cX6_putSome 38 = .ok (.goto (-35), 3) := by decide +kernel
theorem dX6_putSome_41 : decode cX6_putSome 41 = .ok (.return_, 1) := by decide +kernel
theorem dX6_become_0 : decode cX6_become 0 = .ok (.aload_n 0, 1) := by decide +kernel
theorem dX6_become_1 : decode cX6_become 1 = .ok (.iconst 0, 1) := by decide +kernel
theorem dX6_become_2 : decode cX6_become 2 = .ok (.putfield 15, 3) := by decide +kernel
theorem dX6_become_5 : decode cX6_become 5 = .ok (.aload_n 0, 1) := by decide +kernel
theorem dX6_become_6 : decode cX6_become 6 = .ok (.aload_n 1, 1) := by decide +kernel
theorem dX6_become_7 : decode cX6_become 7 = .ok (.iconst 0, 1) := by decide +kernel
theorem dX6_become_8 : decode cX6_become 8 = .ok (.aload_n 1, 1) := by decide +kernel
theorem dX6_become_9 : decode cX6_become 9 = .ok (.getfield 15, 3) := by decide +kernel
theorem dX6_become_12 : decode cX6_become 12 = .ok (.invokevirtual 23, 3) := by decide +kernel
theorem dX6_become_15 : decode cX6_become 15 = .ok (.return_, 1) := by decide +kernel
theorem dX6_holdsSign_0 : decode cX6_holdsSign 0 = .ok (.iconst 0, 1) := by decide +kernel
theorem dX6_holdsSign_1 : decode cX6_holdsSign 1 = .ok (.istore_n 3, 1) := by decide +kernel
theorem dX6_holdsSign_2 : decode cX6_holdsSign 2 = .ok (.iconst 0, 1) := by decide +kernel
theorem dX6_holdsSign_3 : decode cX6_holdsSign 3 = .ok (.istore 4, 2) := by decide +kernel
theorem dX6_holdsSign_5 : decode cX6_holdsSign 5 = .ok (.iload 4, 2) := by decide +kernel
theorem dX6_holdsSign_7 : decode cX6_holdsSign 7 = .ok (.aload_n 0, 1) := by decide +kernel
theorem dX6_holdsSign_8 : decode cX6_holdsSign 8 = .ok (.getfield 15, 3) := by decide +kernel
theorem dX6_holdsSign_11 : decode cX6_holdsSign 11 = .ok (.if_icmp .ge 23, 3) := by decide +kernel
theorem dX6_holdsSign_14 : decode cX6_holdsSign 14 = .ok (.aload_n 0, 1) := by decide +kernel
theorem dX6_holdsSign_15 : decode cX6_holdsSign 15 = .ok (.getfield 9, 3) := by decide +kernel
theorem dX6_holdsSign_18 : decode cX6_holdsSign 18 = .ok (.iload 4, 2) := by decide +kernel
theorem dX6_holdsSign_20 : decode cX6_holdsSign 20 = .ok (.caload, 1) := by decide +kernel
theorem dX6_holdsSign_21 : decode cX6_holdsSign 21 = .ok (.iload_n 1, 1) := by decide +kernel
theorem dX6_holdsSign_22 : decode cX6_holdsSign 22 = .ok (.if_icmp .ne 6, 3) := by decide +kernel
theorem dX6_holdsSign_25 : decode cX6_holdsSign 25 = .ok (.iinc 3 1, 3) := by decide +kernel
theorem dX6_holdsSign_28 : decode cX6_holdsSign 28 = .ok (.iinc 4 1, 3) := by decide +kernel
theorem dX6_holdsSign_31 : decode cX6_holdsSign 31 = .ok (.goto (-26), 3) := by decide +kernel
theorem dX6_holdsSign_34 : decode cX6_holdsSign 34 = .ok (.iload_n 3, 1) := by decide +kernel
theorem dX6_holdsSign_35 : decode cX6_holdsSign 35 = .ok (.iload_n 2, 1) := by decide +kernel
theorem dX6_holdsSign_36 : decode cX6_holdsSign 36 = .ok (.if_icmp .lt 7, 3) := by decide +kernel
theorem dX6_holdsSign_39 : decode cX6_holdsSign 39 = .ok (.iconst 1, 1) := by decide +kernel
theorem dX6_holdsSign_40 : decode cX6_holdsSign 40 = .ok (.goto 4, 3) := by decide +kernel
theorem dX6_holdsSign_43 : decode cX6_holdsSign 43 = .ok (.iconst 0, 1) := by decide +kernel
theorem dX6_holdsSign_44 : decode cX6_holdsSign 44 = .ok (.ireturn, 1) := by decide +kernel
theorem dX6_holdsPair_0 : decode cX6_holdsPair 0 = .ok (.iconst 0, 1) := by decide +kernel
theorem dX6_holdsPair_1 : decode cX6_holdsPair 1 = .ok (.istore 4, 2) := by decide +kernel
theorem dX6_holdsPair_3 : decode cX6_holdsPair 3 = .ok (.iconst 0, 1) := by decide +kernel
theorem dX6_holdsPair_4 : decode cX6_holdsPair 4 = .ok (.istore 5, 2) := by decide +kernel
theorem dX6_holdsPair_6 : decode cX6_holdsPair 6 = .ok (.iload 5, 2) := by decide +kernel
theorem dX6_holdsPair_8 : decode cX6_holdsPair 8 = .ok (.aload_n 0, 1) := by decide +kernel
theorem dX6_holdsPair_9 : decode cX6_holdsPair 9 = .ok (.getfield 15, 3) := by decide +kernel
theorem dX6_holdsPair_12 : decode cX6_holdsPair 12 = .ok (.if_icmp .ge 54, 3) := by decide +kernel
theorem dX6_holdsPair_15 : decode cX6_holdsPair 15 = .ok (.iload 4, 2) := by decide +kernel
theorem dX6_holdsPair_17 : decode cX6_holdsPair 17 = .ok (.ifCond .eq 16, 3) := by decide +kernel
theorem dX6_holdsPair_20 : decode cX6_holdsPair 20 = .ok (.aload_n 0, 1) := by decide +kernel
theorem dX6_holdsPair_21 : decode cX6_holdsPair 21 = .ok (.getfield 9, 3) := by decide +kernel
theorem dX6_holdsPair_24 : decode cX6_holdsPair 24 = .ok (.iload 5, 2) := by decide +kernel
theorem dX6_holdsPair_26 : decode cX6_holdsPair 26 = .ok (.caload, 1) := by decide +kernel
theorem dX6_holdsPair_27 : decode cX6_holdsPair 27 = .ok (.iload_n 2, 1) := by decide +kernel
theorem dX6_holdsPair_28 : decode cX6_holdsPair 28 = .ok (.if_icmp .ne 5, 3) := by decide +kernel
theorem dX6_holdsPair_31 : decode cX6_holdsPair 31 = .ok (.iconst 1, 1) := by decide +kernel
theorem dX6_holdsPair_32 : decode cX6_holdsPair 32 = .ok (.ireturn, 1) := by decide +kernel
theorem dX6_holdsPair_33 : decode cX6_holdsPair 33 = .ok (.aload_n 0, 1) := by decide +kernel
theorem dX6_holdsPair_34 : decode cX6_holdsPair 34 = .ok (.getfield 9, 3) := by decide +kernel
theorem dX6_holdsPair_37 : decode cX6_holdsPair 37 = .ok (.iload 5, 2) := by decide +kernel
theorem dX6_holdsPair_39 : decode cX6_holdsPair 39 = .ok (.caload, 1) := by decide +kernel
theorem dX6_holdsPair_40 : decode cX6_holdsPair 40 = .ok (.iload_n 1, 1) := by decide +kernel
theorem dX6_holdsPair_41 : decode cX6_holdsPair 41 = .ok (.if_icmp .eq 12, 3) := by decide +kernel
theorem dX6_holdsPair_44 : decode cX6_holdsPair 44 = .ok (.iload 4, 2) := by decide +kernel
theorem dX6_holdsPair_46 : decode cX6_holdsPair 46 = .ok (.ifCond .eq 11, 3) := by decide +kernel
theorem dX6_holdsPair_49 : decode cX6_holdsPair 49 = .ok (.iload_n 3, 1) := by decide +kernel
theorem dX6_holdsPair_50 : decode cX6_holdsPair 50 = .ok (.ifCond .ne 7, 3) := by decide +kernel
theorem dX6_holdsPair_53 : decode cX6_holdsPair 53 = .ok (.iconst 1, 1) := by decide +kernel
theorem dX6_holdsPair_54 : decode cX6_holdsPair 54 = .ok (.goto 4, 3) := by decide +kernel
theorem dX6_holdsPair_57 : decode cX6_holdsPair 57 = .ok (.iconst 0, 1) := by decide +kernel
theorem dX6_holdsPair_58 : decode cX6_holdsPair 58 = .ok (.istore 4, 2) := by decide +kernel
theorem dX6_holdsPair_60 : decode cX6_holdsPair 60 = .ok (.iinc 5 1, 3) := by decide +kernel
theorem dX6_holdsPair_63 : decode cX6_holdsPair 63 = .ok (.goto (-57), 3) := by decide +kernel
theorem dX6_holdsPair_66 : decode cX6_holdsPair 66 = .ok (.iconst 0, 1) := by decide +kernel
theorem dX6_holdsPair_67 : decode cX6_holdsPair 67 = .ok (.ireturn, 1) := by decide +kernel
theorem dX7_init_0 : decode cX7_init 0 = .ok (.aload_n 0, 1) := by decide +kernel
theorem dX7_init_1 : decode cX7_init 1 = .ok (.invokespecial 3, 3) := by decide +kernel
theorem dX7_init_4 : decode cX7_init 4 = .ok (.aload_n 0, 1) := by decide +kernel
theorem dX7_init_5 : decode cX7_init 5 = .ok (.bipush 60, 2) := by decide +kernel
theorem dX7_init_7 : decode cX7_init 7 = .ok (.newarray .int, 2) := by decide +kernel
theorem dX7_init_9 : decode cX7_init 9 = .ok (.putfield 9, 3) := by decide +kernel
theorem dX7_init_12 : decode cX7_init 12 = .ok (.aload_n 0, 1) := by decide +kernel
theorem dX7_init_13 : decode cX7_init 13 = .ok (.bipush 60, 2) := by decide +kernel
theorem dX7_init_15 : decode cX7_init 15 = .ok (.newarray .boolean, 2) := by decide +kernel
theorem dX7_init_17 : decode cX7_init 17 = .ok (.putfield 15, 3) := by decide +kernel
theorem dX7_init_20 : decode cX7_init 20 = .ok (.aload_n 0, 1) := by decide +kernel
theorem dX7_init_21 : decode cX7_init 21 = .ok (.bipush 60, 2) := by decide +kernel
theorem dX7_init_23 : decode cX7_init 23 = .ok (.newarray .int, 2) := by decide +kernel
theorem dX7_init_25 : decode cX7_init 25 = .ok (.putfield 19, 3) := by decide +kernel
theorem dX7_init_28 : decode cX7_init 28 = .ok (.aload_n 0, 1) := by decide +kernel
theorem dX7_init_29 : decode cX7_init 29 = .ok (.bipush 60, 2) := by decide +kernel
theorem dX7_init_31 : decode cX7_init 31 = .ok (.newarray .int, 2) := by decide +kernel
theorem dX7_init_33 : decode cX7_init 33 = .ok (.putfield 22, 3) := by decide +kernel
theorem dX7_init_36 : decode cX7_init 36 = .ok (.aload_n 0, 1) := by decide +kernel
theorem dX7_init_37 : decode cX7_init 37 = .ok (.bipush 60, 2) := by decide +kernel
theorem dX7_init_39 : decode cX7_init 39 = .ok (.newarray .int, 2) := by decide +kernel
theorem dX7_init_41 : decode cX7_init 41 = .ok (.putfield 25, 3) := by decide +kernel
theorem dX7_init_44 : decode cX7_init 44 = .ok (.aload_n 0, 1) := by decide +kernel
theorem dX7_init_45 : decode cX7_init 45 = .ok (.bipush 60, 2) := by decide +kernel
theorem dX7_init_47 : decode cX7_init 47 = .ok (.newarray .int, 2) := by decide +kernel
theorem dX7_init_49 : decode cX7_init 49 = .ok (.putfield 28, 3) := by decide +kernel
theorem dX7_init_52 : decode cX7_init 52 = .ok (.aload_n 0, 1) := by decide +kernel
theorem dX7_init_53 : decode cX7_init 53 = .ok (.aload_n 1, 1) := by decide +kernel
theorem dX7_init_54 : decode cX7_init 54 = .ok (.putfield 31, 3) := by decide +kernel
theorem dX7_init_57 : decode cX7_init 57 = .ok (.aload_n 0, 1) := by decide +kernel
theorem dX7_init_58 : decode cX7_init 58 = .ok (.aload_n 2, 1) := by decide +kernel
theorem dX7_init_59 : decode cX7_init 59 = .ok (.putfield 35, 3) := by decide +kernel
theorem dX7_init_62 : decode cX7_init 62 = .ok (.return_, 1) := by decide +kernel
theorem dX7_build_0 : decode cX7_build 0 = .ok (.aload_n 0, 1) := by decide +kernel
theorem dX7_build_1 : decode cX7_build 1 = .ok (.iconst 0, 1) := by decide +kernel
theorem dX7_build_2 : decode cX7_build 2 = .ok (.putfield 39, 3) := by decide +kernel
theorem dX7_build_5 : decode cX7_build 5 = .ok (.aload_n 0, 1) := by decide +kernel
theorem dX7_build_6 : decode cX7_build 6 = .ok (.getfield 35, 3) := by decide +kernel
theorem dX7_build_9 : decode cX7_build 9 = .ok (.aload_n 1, 1) := by decide +kernel
theorem dX7_build_10 : decode cX7_build 10 = .ok (.invokevirtual 43, 3) := by decide +kernel
theorem dX7_build_13 : decode cX7_build 13 = .ok (.ifCond .ne 5, 3) := by decide +kernel
theorem dX7_build_16 : decode cX7_build 16 = .ok (.iconst 0, 1) := by decide +kernel
theorem dX7_build_17 : decode cX7_build 17 = .ok (.ireturn, 1) := by decide +kernel
theorem dX7_build_18 : decode cX7_build 18 = .ok (.aload_n 0, 1) := by decide +kernel
theorem dX7_build_19 : decode cX7_build 19 = .ok (.aload_n 1, 1) := by decide +kernel
theorem dX7_build_20 : decode cX7_build 20 = .ok (.getfield 49, 3) := by decide +kernel
theorem dX7_build_23 : decode cX7_build 23 = .ok (.putfield 52, 3) := by decide +kernel
theorem dX7_build_26 : decode cX7_build 26 = .ok (.aload_n 0, 1) := by decide +kernel
theorem dX7_build_27 : decode cX7_build 27 = .ok (.getfield 9, 3) := by decide +kernel
theorem dX7_build_30 : decode cX7_build 30 = .ok (.iconst 0, 1) := by decide +kernel
theorem dX7_build_31 : decode cX7_build 31 = .ok (.aload_n 0, 1) := by decide +kernel
theorem dX7_build_32 : decode cX7_build 32 = .ok (.getfield 31, 3) := by decide +kernel
theorem dX7_build_35 : decode cX7_build 35 = .ok (.getfield 55, 3) := by decide +kernel
theorem dX7_build_38 : decode cX7_build 38 = .ok (.iastore, 1) := by decide +kernel
theorem dX7_build_39 : decode cX7_build 39 = .ok (.aload_n 0, 1) := by decide +kernel
theorem dX7_build_40 : decode cX7_build 40 = .ok (.getfield 15, 3) := by decide +kernel
theorem dX7_build_43 : decode cX7_build 43 = .ok (.iconst 0, 1) := by decide +kernel
theorem dX7_build_44 : decode cX7_build 44 = .ok (.iconst 0, 1) := by decide +kernel
theorem dX7_build_45 : decode cX7_build 45 = .ok (.bastore, 1) := by decide +kernel
theorem dX7_build_46 : decode cX7_build 46 = .ok (.aload_n 0, 1) := by decide +kernel
theorem dX7_build_47 : decode cX7_build 47 = .ok (.getfield 19, 3) := by decide +kernel
theorem dX7_build_50 : decode cX7_build 50 = .ok (.iconst 0, 1) := by decide +kernel
theorem dX7_build_51 : decode cX7_build 51 = .ok (.iconst 0, 1) := by decide +kernel
theorem dX7_build_52 : decode cX7_build 52 = .ok (.iastore, 1) := by decide +kernel
theorem dX7_build_53 : decode cX7_build 53 = .ok (.aload_n 0, 1) := by decide +kernel
theorem dX7_build_54 : decode cX7_build 54 = .ok (.getfield 22, 3) := by decide +kernel
theorem dX7_build_57 : decode cX7_build 57 = .ok (.iconst 0, 1) := by decide +kernel
theorem dX7_build_58 : decode cX7_build 58 = .ok (.aload_n 0, 1) := by decide +kernel
theorem dX7_build_59 : decode cX7_build 59 = .ok (.getfield 52, 3) := by decide +kernel
theorem dX7_build_62 : decode cX7_build 62 = .ok (.iastore, 1) := by decide +kernel
theorem dX7_build_63 : decode cX7_build 63 = .ok (.aload_n 0, 1) := by decide +kernel
theorem dX7_build_64 : decode cX7_build 64 = .ok (.getfield 25, 3) := by decide +kernel
theorem dX7_build_67 : decode cX7_build 67 = .ok (.iconst 0, 1) := by decide +kernel
theorem dX7_build_68 : decode cX7_build 68 = .ok (.iconst 0, 1) := by decide +kernel
theorem dX7_build_69 : decode cX7_build 69 = .ok (.iastore, 1) := by decide +kernel
theorem dX7_build_70 : decode cX7_build 70 = .ok (.aload_n 0, 1) := by decide +kernel
theorem dX7_build_71 : decode cX7_build 71 = .ok (.getfield 28, 3) := by decide +kernel
theorem dX7_build_74 : decode cX7_build 74 = .ok (.iconst 0, 1) := by decide +kernel
theorem dX7_build_75 : decode cX7_build 75 = .ok (.iconst (-1), 1) := by decide +kernel
theorem dX7_build_76 : decode cX7_build 76 = .ok (.iastore, 1) := by decide +kernel
theorem dX7_build_77 : decode cX7_build 77 = .ok (.aload_n 0, 1) := by decide +kernel
theorem dX7_build_78 : decode cX7_build 78 = .ok (.iconst 1, 1) := by decide +kernel
theorem dX7_build_79 : decode cX7_build 79 = .ok (.putfield 39, 3) := by decide +kernel
theorem dX7_build_82 : decode cX7_build 82 = .ok (.aload_n 0, 1) := by decide +kernel
theorem dX7_build_83 : decode cX7_build 83 = .ok (.iconst 0, 1) := by decide +kernel
theorem dX7_build_84 : decode cX7_build 84 = .ok (.iconst 1, 1) := by decide +kernel
theorem dX7_build_85 : decode cX7_build 85 = .ok (.invokevirtual 60, 3) := by decide +kernel
theorem dX7_build_88 : decode cX7_build 88 = .ok (.iconst 1, 1) := by decide +kernel
theorem dX7_build_89 : decode cX7_build 89 = .ok (.ireturn, 1) := by decide +kernel
theorem dX7_told_0 : decode cX7_told 0 = .ok (.sipush 10000, 3) := by decide +kernel
theorem dX7_told_3 : decode cX7_told 3 = .ok (.aload_n 0, 1) := by decide +kernel
theorem dX7_told_4 : decode cX7_told 4 = .ok (.getfield 9, 3) := by decide +kernel
theorem dX7_told_7 : decode cX7_told 7 = .ok (.iload_n 1, 1) := by decide +kernel
theorem dX7_told_8 : decode cX7_told 8 = .ok (.iaload, 1) := by decide +kernel
theorem dX7_told_9 : decode cX7_told 9 = .ok (.imul, 1) := by decide +kernel
theorem dX7_told_10 : decode cX7_told 10 = .ok (.aload_n 0, 1) := by decide +kernel
theorem dX7_told_11 : decode cX7_told 11 = .ok (.getfield 15, 3) := by decide +kernel
theorem dX7_told_14 : decode cX7_told 14 = .ok (.iload_n 1, 1) := by decide +kernel
theorem dX7_told_15 : decode cX7_told 15 = .ok (.baload, 1) := by decide +kernel
theorem dX7_told_16 : decode cX7_told 16 = .ok (.ifCond .eq 9, 3) := by decide +kernel
theorem dX7_told_19 : decode cX7_told 19 = .ok (.sipush 5000, 3) := by decide +kernel
theorem dX7_told_22 : decode cX7_told 22 = .ok (.goto 4, 3) := by decide +kernel
theorem dX7_told_25 : decode cX7_told 25 = .ok (.iconst 0, 1) := by decide +kernel
theorem dX7_told_26 : decode cX7_told 26 = .ok (.iadd, 1) := by decide +kernel
theorem dX7_told_27 : decode cX7_told 27 = .ok (.bipush 40, 2) := by decide +kernel
theorem dX7_told_29 : decode cX7_told 29 = .ok (.aload_n 0, 1) := by decide +kernel
theorem dX7_told_30 : decode cX7_told 30 = .ok (.getfield 19, 3) := by decide +kernel
theorem dX7_told_33 : decode cX7_told 33 = .ok (.iload_n 1, 1) := by decide +kernel
theorem dX7_told_34 : decode cX7_told 34 = .ok (.iaload, 1) := by decide +kernel
theorem dX7_told_35 : decode cX7_told 35 = .ok (.imul, 1) := by decide +kernel
theorem dX7_told_36 : decode cX7_told 36 = .ok (.iadd, 1) := by decide +kernel
theorem dX7_told_37 : decode cX7_told 37 = .ok (.aload_n 0, 1) := by decide +kernel
theorem dX7_told_38 : decode cX7_told 38 = .ok (.getfield 22, 3) := by decide +kernel
theorem dX7_told_41 : decode cX7_told 41 = .ok (.iload_n 1, 1) := by decide +kernel
theorem dX7_told_42 : decode cX7_told 42 = .ok (.iaload, 1) := by decide +kernel
theorem dX7_told_43 : decode cX7_told 43 = .ok (.iadd, 1) := by decide +kernel
theorem dX7_told_44 : decode cX7_told 44 = .ok (.ireturn, 1) := by decide +kernel
theorem dX7_deepest_0 : decode cX7_deepest 0 = .ok (.iconst 0, 1) := by decide +kernel
theorem dX7_deepest_1 : decode cX7_deepest 1 = .ok (.istore_n 1, 1) := by decide +kernel
theorem dX7_deepest_2 : decode cX7_deepest 2 = .ok (.iconst 0, 1) := by decide +kernel
theorem dX7_deepest_3 : decode cX7_deepest 3 = .ok (.istore_n 2, 1) := by decide +kernel
theorem dX7_deepest_4 : decode cX7_deepest 4 = .ok (.iload_n 2, 1) := by decide +kernel
theorem dX7_deepest_5 : decode cX7_deepest 5 = .ok (.aload_n 0, 1) := by decide +kernel
theorem dX7_deepest_6 : decode cX7_deepest 6 = .ok (.getfield 39, 3) := by decide +kernel
theorem dX7_deepest_9 : decode cX7_deepest 9 = .ok (.if_icmp .ge 20, 3) := by decide +kernel
theorem dX7_deepest_12 : decode cX7_deepest 12 = .ok (.iload_n 1, 1) := by decide +kernel
theorem dX7_deepest_13 : decode cX7_deepest 13 = .ok (.aload_n 0, 1) := by decide +kernel
theorem dX7_deepest_14 : decode cX7_deepest 14 = .ok (.getfield 25, 3) := by decide +kernel
theorem dX7_deepest_17 : decode cX7_deepest 17 = .ok (.iload_n 2, 1) := by decide +kernel
theorem dX7_deepest_18 : decode cX7_deepest 18 = .ok (.iaload, 1) := by decide +kernel
theorem dX7_deepest_19 : decode cX7_deepest 19 = .ok (.invokestatic 64, 3) := by decide +kernel
theorem dX7_deepest_22 : decode cX7_deepest 22 = .ok (.istore_n 1, 1) := by decide +kernel
theorem dX7_deepest_23 : decode cX7_deepest 23 = .ok (.iinc 2 1, 3) := by decide +kernel
theorem dX7_deepest_26 : decode cX7_deepest 26 = .ok (.goto (-22), 3) := by decide +kernel
theorem dX7_deepest_29 : decode cX7_deepest 29 = .ok (.iload_n 1, 1) := by decide +kernel
theorem dX7_deepest_30 : decode cX7_deepest 30 = .ok (.ireturn, 1) := by decide +kernel
theorem dX7_grow_0 : decode cX7_grow 0 = .ok (.iload_n 2, 1) := by decide +kernel
theorem dX7_grow_1 : decode cX7_grow 1 = .ok (.bipush 60, 2) := by decide +kernel
theorem dX7_grow_3 : decode cX7_grow 3 = .ok (.if_icmp .lt 4, 3) := by decide +kernel
theorem dX7_grow_6 : decode cX7_grow 6 = .ok (.return_, 1) := by decide +kernel
theorem dX7_grow_7 : decode cX7_grow 7 = .ok (.aload_n 0, 1) := by decide +kernel
theorem dX7_grow_8 : decode cX7_grow 8 = .ok (.getfield 52, 3) := by decide +kernel
theorem dX7_grow_11 : decode cX7_grow 11 = .ok (.aload_n 0, 1) := by decide +kernel
theorem dX7_grow_12 : decode cX7_grow 12 = .ok (.getfield 19, 3) := by decide +kernel
theorem dX7_grow_15 : decode cX7_grow 15 = .ok (.iload_n 1, 1) := by decide +kernel
theorem dX7_grow_16 : decode cX7_grow 16 = .ok (.iaload, 1) := by decide +kernel
theorem dX7_grow_17 : decode cX7_grow 17 = .ok (.isub, 1) := by decide +kernel
theorem dX7_grow_18 : decode cX7_grow 18 = .ok (.istore_n 3, 1) := by decide +kernel
theorem dX7_grow_19 : decode cX7_grow 19 = .ok (.aload_n 0, 1) := by decide +kernel
theorem dX7_grow_20 : decode cX7_grow 20 = .ok (.getfield 35, 3) := by decide +kernel
theorem dX7_grow_23 : decode cX7_grow 23 = .ok (.aload_n 0, 1) := by decide +kernel
theorem dX7_grow_24 : decode cX7_grow 24 = .ok (.getfield 9, 3) := by decide +kernel
theorem dX7_grow_27 : decode cX7_grow 27 = .ok (.iload_n 1, 1) := by decide +kernel
theorem dX7_grow_28 : decode cX7_grow 28 = .ok (.iaload, 1) := by decide +kernel
theorem dX7_grow_29 : decode cX7_grow 29 = .ok (.iload_n 3, 1) := by decide +kernel
theorem dX7_grow_30 : decode cX7_grow 30 = .ok (.invokevirtual 70, 3) := by decide +kernel
theorem dX7_grow_33 : decode cX7_grow 33 = .ok (.istore 4, 2) := by decide +kernel
theorem dX7_grow_35 : decode cX7_grow 35 = .ok (.aload_n 0, 1) := by decide +kernel
theorem dX7_grow_36 : decode cX7_grow 36 = .ok (.getfield 31, 3) := by decide +kernel
theorem dX7_grow_39 : decode cX7_grow 39 = .ok (.iload 4, 2) := by decide +kernel
theorem dX7_grow_41 : decode cX7_grow 41 = .ok (.invokevirtual 73, 3) := by decide +kernel
theorem dX7_grow_44 : decode cX7_grow 44 = .ok (.istore 5, 2) := by decide +kernel
theorem dX7_grow_46 : decode cX7_grow 46 = .ok (.iload 5, 2) := by decide +kernel
theorem dX7_grow_48 : decode cX7_grow 48 = .ok (.aload_n 0, 1) := by decide +kernel
theorem dX7_grow_49 : decode cX7_grow 49 = .ok (.getfield 31, 3) := by decide +kernel
theorem dX7_grow_52 : decode cX7_grow 52 = .ok (.iload 4, 2) := by decide +kernel
theorem dX7_grow_54 : decode cX7_grow 54 = .ok (.invokevirtual 77, 3) := by decide +kernel
theorem dX7_grow_57 : decode cX7_grow 57 = .ok (.if_icmp .ge 120, 3) := by decide +kernel
theorem dX7_grow_60 : decode cX7_grow 60 = .ok (.aload_n 0, 1) := by decide +kernel
theorem dX7_grow_61 : decode cX7_grow 61 = .ok (.getfield 35, 3) := by decide +kernel
theorem dX7_grow_64 : decode cX7_grow 64 = .ok (.iload 5, 2) := by decide +kernel
theorem dX7_grow_66 : decode cX7_grow 66 = .ok (.iconst 0, 1) := by decide +kernel
theorem dX7_grow_67 : decode cX7_grow 67 = .ok (.iload_n 3, 1) := by decide +kernel
theorem dX7_grow_68 : decode cX7_grow 68 = .ok (.invokevirtual 80, 3) := by decide +kernel
theorem dX7_grow_71 : decode cX7_grow 71 = .ok (.istore 6, 2) := by decide +kernel
theorem dX7_grow_73 : decode cX7_grow 73 = .ok (.iconst 1, 1) := by decide +kernel
theorem dX7_grow_74 : decode cX7_grow 74 = .ok (.istore 7, 2) := by decide +kernel
theorem dX7_grow_76 : decode cX7_grow 76 = .ok (.iload 6, 2) := by decide +kernel
theorem dX7_grow_78 : decode cX7_grow 78 = .ok (.ifCond .lt 93, 3) := by decide +kernel
theorem dX7_grow_81 : decode cX7_grow 81 = .ok (.iload 7, 2) := by decide +kernel
theorem dX7_grow_83 : decode cX7_grow 83 = .ok (.bipush 33, 2) := by decide +kernel
theorem dX7_grow_85 : decode cX7_grow 85 = .ok (.if_icmp .gt 86, 3) := by decide +kernel
theorem dX7_grow_88 : decode cX7_grow 88 = .ok (.aload_n 0, 1) := by decide +kernel
theorem dX7_grow_89 : decode cX7_grow 89 = .ok (.iload 5, 2) := by decide +kernel
theorem dX7_grow_91 : decode cX7_grow 91 = .ok (.iload_n 1, 1) := by decide +kernel
theorem dX7_grow_92 : decode cX7_grow 92 = .ok (.iload_n 3, 1) := by decide +kernel
theorem dX7_grow_93 : decode cX7_grow 93 = .ok (.iload 6, 2) := by decide +kernel
theorem dX7_grow_95 : decode cX7_grow 95 = .ok (.invokevirtual 84, 3) := by decide +kernel
theorem dX7_grow_98 : decode cX7_grow 98 = .ok (.istore 8, 2) := by decide +kernel
theorem dX7_grow_100 : decode cX7_grow 100 = .ok (.iload 8, 2) := by decide +kernel
theorem dX7_grow_102 : decode cX7_grow 102 = .ok (.ifCond .lt 20, 3) := by decide +kernel
theorem dX7_grow_105 : decode cX7_grow 105 = .ok (.aload_n 0, 1) := by decide +kernel
theorem dX7_grow_106 : decode cX7_grow 106 = .ok (.getfield 15, 3) := by decide +kernel
theorem dX7_grow_109 : decode cX7_grow 109 = .ok (.iload 8, 2) := by decide +kernel
theorem dX7_grow_111 : decode cX7_grow 111 = .ok (.aload_n 0, 1) := by decide +kernel
theorem dX7_grow_112 : decode cX7_grow 112 = .ok (.iload 5, 2) := by decide +kernel
theorem dX7_grow_114 : decode cX7_grow 114 = .ok (.iload 7, 2) := by decide +kernel
theorem dX7_grow_116 : decode cX7_grow 116 = .ok (.iload 6, 2) := by decide +kernel
theorem dX7_grow_118 : decode cX7_grow 118 = .ok (.invokevirtual 88, 3) := by decide +kernel
theorem dX7_grow_121 : decode cX7_grow 121 = .ok (.bastore, 1) := by decide +kernel
theorem dX7_grow_122 : decode cX7_grow 122 = .ok (.iload 8, 2) := by decide +kernel
theorem dX7_grow_124 : decode cX7_grow 124 = .ok (.ifCond .lt 24, 3) := by decide +kernel
theorem dX7_grow_127 : decode cX7_grow 127 = .ok (.aload_n 0, 1) := by decide +kernel
theorem dX7_grow_128 : decode cX7_grow 128 = .ok (.getfield 9, 3) := by decide +kernel
theorem dX7_grow_131 : decode cX7_grow 131 = .ok (.iload 8, 2) := by decide +kernel
theorem dX7_grow_133 : decode cX7_grow 133 = .ok (.iaload, 1) := by decide +kernel
theorem dX7_grow_134 : decode cX7_grow 134 = .ok (.bipush 6, 2) := by decide +kernel
theorem dX7_grow_136 : decode cX7_grow 136 = .ok (.if_icmp .ge 12, 3) := by decide +kernel
theorem dX7_grow_139 : decode cX7_grow 139 = .ok (.aload_n 0, 1) := by decide +kernel
theorem dX7_grow_140 : decode cX7_grow 140 = .ok (.iload 8, 2) := by decide +kernel
theorem dX7_grow_142 : decode cX7_grow 142 = .ok (.iload_n 2, 1) := by decide +kernel
theorem dX7_grow_143 : decode cX7_grow 143 = .ok (.iconst 1, 1) := by decide +kernel
theorem dX7_grow_144 : decode cX7_grow 144 = .ok (.iadd, 1) := by decide +kernel
theorem dX7_grow_145 : decode cX7_grow 145 = .ok (.invokevirtual 60, 3) := by decide +kernel
theorem dX7_grow_148 : decode cX7_grow 148 = .ok (.iload 6, 2) := by decide +kernel
theorem dX7_grow_150 : decode cX7_grow 150 = .ok (.istore_n 3, 1) := by decide +kernel
theorem dX7_grow_151 : decode cX7_grow 151 = .ok (.aload_n 0, 1) := by decide +kernel
theorem dX7_grow_152 : decode cX7_grow 152 = .ok (.getfield 35, 3) := by decide +kernel
theorem dX7_grow_155 : decode cX7_grow 155 = .ok (.iload 5, 2) := by decide +kernel
theorem dX7_grow_157 : decode cX7_grow 157 = .ok (.iload 7, 2) := by decide +kernel
theorem dX7_grow_159 : decode cX7_grow 159 = .ok (.iload_n 3, 1) := by decide +kernel
theorem dX7_grow_160 : decode cX7_grow 160 = .ok (.invokevirtual 80, 3) := by decide +kernel
theorem dX7_grow_163 : decode cX7_grow 163 = .ok (.istore 6, 2) := by decide +kernel
theorem dX7_grow_165 : decode cX7_grow 165 = .ok (.iinc 7 1, 3) := by decide +kernel
theorem dX7_grow_168 : decode cX7_grow 168 = .ok (.goto (-92), 3) := by decide +kernel
theorem dX7_grow_171 : decode cX7_grow 171 = .ok (.iinc 5 1, 3) := by decide +kernel
theorem dX7_grow_174 : decode cX7_grow 174 = .ok (.goto (-128), 3) := by decide +kernel
theorem dX7_grow_177 : decode cX7_grow 177 = .ok (.return_, 1) := by decide +kernel
theorem dX7_put_0 : decode cX7_put 0 = .ok (.aload_n 0, 1) := by decide +kernel
theorem dX7_put_1 : decode cX7_put 1 = .ok (.getfield 31, 3) := by decide +kernel
theorem dX7_put_4 : decode cX7_put 4 = .ok (.iload_n 1, 1) := by decide +kernel
theorem dX7_put_5 : decode cX7_put 5 = .ok (.invokevirtual 92, 3) := by decide +kernel
theorem dX7_put_8 : decode cX7_put 8 = .ok (.istore 5, 2) := by decide +kernel
theorem dX7_put_10 : decode cX7_put 10 = .ok (.iload 5, 2) := by decide +kernel
theorem dX7_put_12 : decode cX7_put 12 = .ok (.bipush 6, 2) := by decide +kernel
theorem dX7_put_14 : decode cX7_put 14 = .ok (.if_icmp .ne 14, 3) := by decide +kernel
theorem dX7_put_17 : decode cX7_put 17 = .ok (.aload_n 0, 1) := by decide +kernel
theorem dX7_put_18 : decode cX7_put 18 = .ok (.getfield 31, 3) := by decide +kernel
theorem dX7_put_21 : decode cX7_put 21 = .ok (.iload_n 1, 1) := by decide +kernel
theorem dX7_put_22 : decode cX7_put 22 = .ok (.invokevirtual 95, 3) := by decide +kernel
theorem dX7_put_25 : decode cX7_put 25 = .ok (.ifCond .eq 12, 3) := by decide +kernel
theorem dX7_put_28 : decode cX7_put 28 = .ok (.aload_n 0, 1) := by decide +kernel
theorem dX7_put_29 : decode cX7_put 29 = .ok (.getfield 39, 3) := by decide +kernel
theorem dX7_put_32 : decode cX7_put 32 = .ok (.bipush 60, 2) := by decide +kernel
theorem dX7_put_34 : decode cX7_put 34 = .ok (.if_icmp .lt 5, 3) := by decide +kernel
theorem dX7_put_37 : decode cX7_put 37 = .ok (.iconst (-1), 1) := by decide +kernel
theorem dX7_put_38 : decode cX7_put 38 = .ok (.ireturn, 1) := by decide +kernel
theorem dX7_put_39 : decode cX7_put 39 = .ok (.aload_n 0, 1) := by decide +kernel
theorem dX7_put_40 : decode cX7_put 40 = .ok (.getfield 39, 3) := by decide +kernel
theorem dX7_put_43 : decode cX7_put 43 = .ok (.istore 6, 2) := by decide +kernel
theorem dX7_put_45 : decode cX7_put 45 = .ok (.aload_n 0, 1) := by decide +kernel
theorem dX7_put_46 : decode cX7_put 46 = .ok (.getfield 9, 3) := by decide +kernel
theorem dX7_put_49 : decode cX7_put 49 = .ok (.iload 6, 2) := by decide +kernel
theorem dX7_put_51 : decode cX7_put 51 = .ok (.iload 5, 2) := by decide +kernel
theorem dX7_put_53 : decode cX7_put 53 = .ok (.iastore, 1) := by decide +kernel
theorem dX7_put_54 : decode cX7_put 54 = .ok (.aload_n 0, 1) := by decide +kernel
theorem dX7_put_55 : decode cX7_put 55 = .ok (.getfield 19, 3) := by decide +kernel
theorem dX7_put_58 : decode cX7_put 58 = .ok (.iload 6, 2) := by decide +kernel
theorem dX7_put_60 : decode cX7_put 60 = .ok (.aload_n 0, 1) := by decide +kernel
theorem dX7_put_61 : decode cX7_put 61 = .ok (.getfield 52, 3) := by decide +kernel
theorem dX7_put_64 : decode cX7_put 64 = .ok (.iload_n 3, 1) := by decide +kernel
theorem dX7_put_65 : decode cX7_put 65 = .ok (.isub, 1) := by decide +kernel
theorem dX7_put_66 : decode cX7_put 66 = .ok (.iastore, 1) := by decide +kernel
theorem dX7_put_67 : decode cX7_put 67 = .ok (.aload_n 0, 1) := by decide +kernel
theorem dX7_put_68 : decode cX7_put 68 = .ok (.getfield 22, 3) := by decide +kernel
theorem dX7_put_71 : decode cX7_put 71 = .ok (.iload 6, 2) := by decide +kernel
theorem dX7_put_73 : decode cX7_put 73 = .ok (.iload_n 3, 1) := by decide +kernel
theorem dX7_put_74 : decode cX7_put 74 = .ok (.iload 4, 2) := by decide +kernel
theorem dX7_put_76 : decode cX7_put 76 = .ok (.isub, 1) := by decide +kernel
theorem dX7_put_77 : decode cX7_put 77 = .ok (.iastore, 1) := by decide +kernel
theorem dX7_put_78 : decode cX7_put 78 = .ok (.aload_n 0, 1) := by decide +kernel
theorem dX7_put_79 : decode cX7_put 79 = .ok (.getfield 25, 3) := by decide +kernel
theorem dX7_put_82 : decode cX7_put 82 = .ok (.iload 6, 2) := by decide +kernel
theorem dX7_put_84 : decode cX7_put 84 = .ok (.aload_n 0, 1) := by decide +kernel
theorem dX7_put_85 : decode cX7_put 85 = .ok (.getfield 25, 3) := by decide +kernel
theorem dX7_put_88 : decode cX7_put 88 = .ok (.iload_n 2, 1) := by decide +kernel
theorem dX7_put_89 : decode cX7_put 89 = .ok (.iaload, 1) := by decide +kernel
theorem dX7_put_90 : decode cX7_put 90 = .ok (.iconst 1, 1) := by decide +kernel
theorem dX7_put_91 : decode cX7_put 91 = .ok (.iadd, 1) := by decide +kernel
theorem dX7_put_92 : decode cX7_put 92 = .ok (.iastore, 1) := by decide +kernel
theorem dX7_put_93 : decode cX7_put 93 = .ok (.aload_n 0, 1) := by decide +kernel
theorem dX7_put_94 : decode cX7_put 94 = .ok (.getfield 28, 3) := by decide +kernel
theorem dX7_put_97 : decode cX7_put 97 = .ok (.iload 6, 2) := by decide +kernel
theorem dX7_put_99 : decode cX7_put 99 = .ok (.iload_n 2, 1) := by decide +kernel
theorem dX7_put_100 : decode cX7_put 100 = .ok (.iastore, 1) := by decide +kernel
theorem dX7_put_101 : decode cX7_put 101 = .ok (.aload_n 0, 1) := by decide +kernel
theorem dX7_put_102 : decode cX7_put 102 = .ok (.dup, 1) := by decide +kernel
theorem dX7_put_103 : decode cX7_put 103 = .ok (.getfield 39, 3) := by decide +kernel
theorem dX7_put_106 : decode cX7_put 106 = .ok (.iconst 1, 1) := by decide +kernel
theorem dX7_put_107 : decode cX7_put 107 = .ok (.iadd, 1) := by decide +kernel
theorem dX7_put_108 : decode cX7_put 108 = .ok (.putfield 39, 3) := by decide +kernel
theorem dX7_put_111 : decode cX7_put 111 = .ok (.iload 6, 2) := by decide +kernel
theorem dX7_put_113 : decode cX7_put 113 = .ok (.ireturn, 1) := by decide +kernel
theorem dX7_isLoose_0 : decode cX7_isLoose 0 = .ok (.aload_n 0, 1) := by decide +kernel
theorem dX7_isLoose_1 : decode cX7_isLoose 1 = .ok (.getfield 31, 3) := by decide +kernel
theorem dX7_isLoose_4 : decode cX7_isLoose 4 = .ok (.iload_n 1, 1) := by decide +kernel
theorem dX7_isLoose_5 : decode cX7_isLoose 5 = .ok (.invokevirtual 99, 3) := by decide +kernel
theorem dX7_isLoose_8 : decode cX7_isLoose 8 = .ok (.ifCond .eq 5, 3) := by decide +kernel
theorem dX7_isLoose_11 : decode cX7_isLoose 11 = .ok (.iconst 1, 1) := by decide +kernel
theorem dX7_isLoose_12 : decode cX7_isLoose 12 = .ok (.ireturn, 1) := by decide +kernel
theorem dX7_isLoose_13 : decode cX7_isLoose 13 = .ok (.aload_n 0, 1) := by decide +kernel
theorem dX7_isLoose_14 : decode cX7_isLoose 14 = .ok (.getfield 31, 3) := by decide +kernel
theorem dX7_isLoose_17 : decode cX7_isLoose 17 = .ok (.iload_n 1, 1) := by decide +kernel
theorem dX7_isLoose_18 : decode cX7_isLoose 18 = .ok (.invokevirtual 102, 3) := by decide +kernel
theorem dX7_isLoose_21 : decode cX7_isLoose 21 = .ok (.ifCond .eq 25, 3) := by decide +kernel
theorem dX7_isLoose_24 : decode cX7_isLoose 24 = .ok (.iload_n 2, 1) := by decide +kernel
theorem dX7_isLoose_25 : decode cX7_isLoose 25 = .ok (.iconst 1, 1) := by decide +kernel
theorem dX7_isLoose_26 : decode cX7_isLoose 26 = .ok (.if_icmp .gt 16, 3) := by decide +kernel
theorem dX7_isLoose_29 : decode cX7_isLoose 29 = .ok (.aload_n 0, 1) := by decide +kernel
theorem dX7_isLoose_30 : decode cX7_isLoose 30 = .ok (.getfield 35, 3) := by decide +kernel
theorem dX7_isLoose_33 : decode cX7_isLoose 33 = .ok (.iload_n 1, 1) := by decide +kernel
theorem dX7_isLoose_34 : decode cX7_isLoose 34 = .ok (.iload_n 2, 1) := by decide +kernel
theorem dX7_isLoose_35 : decode cX7_isLoose 35 = .ok (.iload_n 3, 1) := by decide +kernel
theorem dX7_isLoose_36 : decode cX7_isLoose 36 = .ok (.invokevirtual 80, 3) := by decide +kernel
theorem dX7_isLoose_39 : decode cX7_isLoose 39 = .ok (.ifCond .lt 7, 3) := by decide +kernel
theorem dX7_isLoose_42 : decode cX7_isLoose 42 = .ok (.iconst 1, 1) := by decide +kernel
theorem dX7_isLoose_43 : decode cX7_isLoose 43 = .ok (.goto 4, 3) := by decide +kernel
theorem dX7_isLoose_46 : decode cX7_isLoose 46 = .ok (.iconst 0, 1) := by decide +kernel
theorem dX7_isLoose_47 : decode cX7_isLoose 47 = .ok (.ireturn, 1) := by decide +kernel
theorem dX8_init_0 : decode cX8_init 0 = .ok (.aload_n 0, 1) := by decide +kernel
theorem dX8_init_1 : decode cX8_init 1 = .ok (.invokespecial 1, 3) := by decide +kernel
theorem dX8_init_4 : decode cX8_init 4 = .ok (.aload_n 0, 1) := by decide +kernel
theorem dX8_init_5 : decode cX8_init 5 = .ok (.new 7, 3) := by decide +kernel
theorem dX8_init_8 : decode cX8_init 8 = .ok (.dup, 1) := by decide +kernel
theorem dX8_init_9 : decode cX8_init 9 = .ok (.invokespecial 9, 3) := by decide +kernel
theorem dX8_init_12 : decode cX8_init 12 = .ok (.putfield 10, 3) := by decide +kernel
theorem dX8_init_15 : decode cX8_init 15 = .ok (.aload_n 0, 1) := by decide +kernel
theorem dX8_init_16 : decode cX8_init 16 = .ok (.bipush 60, 2) := by decide +kernel
theorem dX8_init_18 : decode cX8_init 18 = .ok (.newarray .char, 2) := by decide +kernel
theorem dX8_init_20 : decode cX8_init 20 = .ok (.putfield 16, 3) := by decide +kernel
theorem dX8_init_23 : decode cX8_init 23 = .ok (.aload_n 0, 1) := by decide +kernel
theorem dX8_init_24 : decode cX8_init 24 = .ok (.bipush 6, 2) := by decide +kernel
theorem dX8_init_26 : decode cX8_init 26 = .ok (.anewarray 20, 3) := by decide +kernel
theorem dX8_init_29 : decode cX8_init 29 = .ok (.putfield 22, 3) := by decide +kernel
theorem dX8_init_32 : decode cX8_init 32 = .ok (.aload_n 0, 1) := by decide +kernel
theorem dX8_init_33 : decode cX8_init 33 = .ok (.new 26, 3) := by decide +kernel
theorem dX8_init_36 : decode cX8_init 36 = .ok (.dup, 1) := by decide +kernel
theorem dX8_init_37 : decode cX8_init 37 = .ok (.invokespecial 28, 3) := by decide +kernel
theorem dX8_init_40 : decode cX8_init 40 = .ok (.putfield 29, 3) := by decide +kernel
theorem dX8_init_43 : decode cX8_init 43 = .ok (.aload_n 0, 1) := by decide +kernel
theorem dX8_init_44 : decode cX8_init 44 = .ok (.new 33, 3) := by decide +kernel
theorem dX8_init_47 : decode cX8_init 47 = .ok (.dup, 1) := by decide +kernel
theorem dX8_init_48 : decode cX8_init 48 = .ok (.invokespecial 35, 3) := by decide +kernel
theorem dX8_init_51 : decode cX8_init 51 = .ok (.putfield 36, 3) := by decide +kernel
theorem dX8_init_54 : decode cX8_init 54 = .ok (.aload_n 0, 1) := by decide +kernel
theorem dX8_init_55 : decode cX8_init 55 = .ok (.new 40, 3) := by decide +kernel
theorem dX8_init_58 : decode cX8_init 58 = .ok (.dup, 1) := by decide +kernel
theorem dX8_init_59 : decode cX8_init 59 = .ok (.aload_n 0, 1) := by decide +kernel
theorem dX8_init_60 : decode cX8_init 60 = .ok (.getfield 36, 3) := by decide +kernel
theorem dX8_init_63 : decode cX8_init 63 = .ok (.invokespecial 42, 3) := by decide +kernel
theorem dX8_init_66 : decode cX8_init 66 = .ok (.putfield 45, 3) := by decide +kernel
theorem dX8_init_69 : decode cX8_init 69 = .ok (.aload_n 0, 1) := by decide +kernel
theorem dX8_init_70 : decode cX8_init 70 = .ok (.new 49, 3) := by decide +kernel
theorem dX8_init_73 : decode cX8_init 73 = .ok (.dup, 1) := by decide +kernel
theorem dX8_init_74 : decode cX8_init 74 = .ok (.aload_n 0, 1) := by decide +kernel
theorem dX8_init_75 : decode cX8_init 75 = .ok (.getfield 36, 3) := by decide +kernel
theorem dX8_init_78 : decode cX8_init 78 = .ok (.aload_n 0, 1) := by decide +kernel
theorem dX8_init_79 : decode cX8_init 79 = .ok (.getfield 45, 3) := by decide +kernel
theorem dX8_init_82 : decode cX8_init 82 = .ok (.invokespecial 51, 3) := by decide +kernel
theorem dX8_init_85 : decode cX8_init 85 = .ok (.putfield 54, 3) := by decide +kernel
theorem dX8_init_88 : decode cX8_init 88 = .ok (.aload_n 0, 1) := by decide +kernel
theorem dX8_init_89 : decode cX8_init 89 = .ok (.new 58, 3) := by decide +kernel
theorem dX8_init_92 : decode cX8_init 92 = .ok (.dup, 1) := by decide +kernel
theorem dX8_init_93 : decode cX8_init 93 = .ok (.aload_n 0, 1) := by decide +kernel
theorem dX8_init_94 : decode cX8_init 94 = .ok (.getfield 10, 3) := by decide +kernel
theorem dX8_init_97 : decode cX8_init 97 = .ok (.aload_n 0, 1) := by decide +kernel
theorem dX8_init_98 : decode cX8_init 98 = .ok (.getfield 29, 3) := by decide +kernel
theorem dX8_init_101 : decode cX8_init 101 = .ok (.aload_n 0, 1) := by decide +kernel
theorem dX8_init_102 : decode cX8_init 102 = .ok (.getfield 45, 3) := by decide +kernel
theorem dX8_init_105 : decode cX8_init 105 = .ok (.aload_n 0, 1) := by decide +kernel
theorem dX8_init_106 : decode cX8_init 106 = .ok (.getfield 54, 3) := by decide +kernel
theorem dX8_init_109 : decode cX8_init 109 = .ok (.invokespecial 60, 3) := by decide +kernel
theorem dX8_init_112 : decode cX8_init 112 = .ok (.putfield 63, 3) := by decide +kernel
theorem dX8_init_115 : decode cX8_init 115 = .ok (.return_, 1) := by decide +kernel
theorem dX8_type_0 : decode cX8_type 0 = .ok (.iload_n 1, 1) := by decide +kernel
theorem dX8_type_1 : decode cX8_type 1 = .ok (.invokestatic 67, 3) := by decide +kernel
theorem dX8_type_4 : decode cX8_type 4 = .ok (.ifCond .eq 18, 3) := by decide +kernel
theorem dX8_type_7 : decode cX8_type 7 = .ok (.aload_n 0, 1) := by decide +kernel
theorem dX8_type_8 : decode cX8_type 8 = .ok (.getfield 10, 3) := by decide +kernel
theorem dX8_type_11 : decode cX8_type 11 = .ok (.iload_n 1, 1) := by decide +kernel
theorem dX8_type_12 : decode cX8_type 12 = .ok (.invokevirtual 71, 3) := by decide +kernel
theorem dX8_type_15 : decode cX8_type 15 = .ok (.ifCond .eq 7, 3) := by decide +kernel
theorem dX8_type_18 : decode cX8_type 18 = .ok (.iconst 1, 1) := by decide +kernel
theorem dX8_type_19 : decode cX8_type 19 = .ok (.goto 4, 3) := by decide +kernel
theorem dX8_type_22 : decode cX8_type 22 = .ok (.iconst 0, 1) := by decide +kernel
theorem dX8_type_23 : decode cX8_type 23 = .ok (.ireturn, 1) := by decide +kernel
theorem dX8_clear_0 : decode cX8_clear 0 = .ok (.aload_n 0, 1) := by decide +kernel
theorem dX8_clear_1 : decode cX8_clear 1 = .ok (.getfield 10, 3) := by decide +kernel
theorem dX8_clear_4 : decode cX8_clear 4 = .ok (.iconst 0, 1) := by decide +kernel
theorem dX8_clear_5 : decode cX8_clear 5 = .ok (.putfield 74, 3) := by decide +kernel
theorem dX8_clear_8 : decode cX8_clear 8 = .ok (.return_, 1) := by decide +kernel
theorem dX8_write_0 : decode cX8_write 0 = .ok (.iload_n 1, 1) := by decide +kernel
theorem dX8_write_1 : decode cX8_write 1 = .ok (.invokestatic 78, 3) := by decide +kernel
theorem dX8_write_4 : decode cX8_write 4 = .ok (.ifCond .eq 12, 3) := by decide +kernel
theorem dX8_write_7 : decode cX8_write 7 = .ok (.aload_n 0, 1) := by decide +kernel
theorem dX8_write_8 : decode cX8_write 8 = .ok (.getfield 81, 3) := by decide +kernel
theorem dX8_write_11 : decode cX8_write 11 = .ok (.bipush 60, 2) := by decide +kernel
theorem dX8_write_13 : decode cX8_write 13 = .ok (.if_icmp .lt 5, 3) := by decide +kernel
theorem dX8_write_16 : decode cX8_write 16 = .ok (.iconst 0, 1) := by decide +kernel
theorem dX8_write_17 : decode cX8_write 17 = .ok (.ireturn, 1) := by decide +kernel
theorem dX8_write_18 : decode cX8_write 18 = .ok (.aload_n 0, 1) := by decide +kernel
theorem dX8_write_19 : decode cX8_write 19 = .ok (.getfield 16, 3) := by decide +kernel
theorem dX8_write_22 : decode cX8_write 22 = .ok (.aload_n 0, 1) := by decide +kernel
theorem dX8_write_23 : decode cX8_write 23 = .ok (.getfield 81, 3) := by decide +kernel
theorem dX8_write_26 : decode cX8_write 26 = .ok (.iload_n 1, 1) := by decide +kernel
theorem dX8_write_27 : decode cX8_write 27 = .ok (.castore, 1) := by decide +kernel
theorem dX8_write_28 : decode cX8_write 28 = .ok (.aload_n 0, 1) := by decide +kernel
theorem dX8_write_29 : decode cX8_write 29 = .ok (.dup, 1) := by decide +kernel
theorem dX8_write_30 : decode cX8_write 30 = .ok (.getfield 81, 3) := by decide +kernel
theorem dX8_write_33 : decode cX8_write 33 = .ok (.iconst 1, 1) := by decide +kernel
theorem dX8_write_34 : decode cX8_write 34 = .ok (.iadd, 1) := by decide +kernel
theorem dX8_write_35 : decode cX8_write 35 = .ok (.putfield 81, 3) := by decide +kernel
theorem dX8_write_38 : decode cX8_write 38 = .ok (.iconst 1, 1) := by decide +kernel
theorem dX8_write_39 : decode cX8_write 39 = .ok (.ireturn, 1) := by decide +kernel
theorem dX8_read_0 : decode cX8_read 0 = .ok (.aload_n 0, 1) := by decide +kernel
theorem dX8_read_1 : decode cX8_read 1 = .ok (.getfield 36, 3) := by decide +kernel
theorem dX8_read_4 : decode cX8_read 4 = .ok (.aload_n 0, 1) := by decide +kernel
theorem dX8_read_5 : decode cX8_read 5 = .ok (.getfield 16, 3) := by decide +kernel
theorem dX8_read_8 : decode cX8_read 8 = .ok (.aload_n 0, 1) := by decide +kernel
theorem dX8_read_9 : decode cX8_read 9 = .ok (.getfield 81, 3) := by decide +kernel
theorem dX8_read_12 : decode cX8_read 12 = .ok (.invokevirtual 84, 3) := by decide +kernel
theorem dX8_read_15 : decode cX8_read 15 = .ok (.aload_n 0, 1) := by decide +kernel
theorem dX8_read_16 : decode cX8_read 16 = .ok (.getfield 45, 3) := by decide +kernel
theorem dX8_read_19 : decode cX8_read 19 = .ok (.invokevirtual 88, 3) := by decide +kernel
theorem dX8_read_22 : decode cX8_read 22 = .ok (.aload_n 0, 1) := by decide +kernel
theorem dX8_read_23 : decode cX8_read 23 = .ok (.iconst 0, 1) := by decide +kernel
theorem dX8_read_24 : decode cX8_read 24 = .ok (.putfield 81, 3) := by decide +kernel
theorem dX8_read_27 : decode cX8_read 27 = .ok (.aload_n 0, 1) := by decide +kernel
theorem dX8_read_28 : decode cX8_read 28 = .ok (.getfield 36, 3) := by decide +kernel
theorem dX8_read_31 : decode cX8_read 31 = .ok (.getfield 91, 3) := by decide +kernel
theorem dX8_read_34 : decode cX8_read 34 = .ok (.ifCond .eq 13, 3) := by decide +kernel
theorem dX8_read_37 : decode cX8_read 37 = .ok (.aload_n 0, 1) := by decide +kernel
theorem dX8_read_38 : decode cX8_read 38 = .ok (.getfield 36, 3) := by decide +kernel
theorem dX8_read_41 : decode cX8_read 41 = .ok (.getfield 95, 3) := by decide +kernel
theorem dX8_read_44 : decode cX8_read 44 = .ok (.goto 4, 3) := by decide +kernel
theorem dX8_read_47 : decode cX8_read 47 = .ok (.iconst (-1), 1) := by decide +kernel
theorem dX8_read_48 : decode cX8_read 48 = .ok (.ireturn, 1) := by decide +kernel
theorem dX8_has_0 : decode cX8_has 0 = .ok (.iload_n 1, 1) := by decide +kernel
theorem dX8_has_1 : decode cX8_has 1 = .ok (.invokestatic 67, 3) := by decide +kernel
theorem dX8_has_4 : decode cX8_has 4 = .ok (.ifCond .eq 14, 3) := by decide +kernel
theorem dX8_has_7 : decode cX8_has 7 = .ok (.iload_n 2, 1) := by decide +kernel
theorem dX8_has_8 : decode cX8_has 8 = .ok (.iconst 1, 1) := by decide +kernel
theorem dX8_has_9 : decode cX8_has 9 = .ok (.if_icmp .lt 9, 3) := by decide +kernel
theorem dX8_has_12 : decode cX8_has 12 = .ok (.iload_n 2, 1) := by decide +kernel
theorem dX8_has_13 : decode cX8_has 13 = .ok (.bipush 9, 2) := by decide +kernel
theorem dX8_has_15 : decode cX8_has 15 = .ok (.if_icmp .le 5, 3) := by decide +kernel
theorem dX8_has_18 : decode cX8_has 18 = .ok (.iconst 0, 1) := by decide +kernel
theorem dX8_has_19 : decode cX8_has 19 = .ok (.ireturn, 1) := by decide +kernel
theorem dX8_has_20 : decode cX8_has 20 = .ok (.aload_n 0, 1) := by decide +kernel
theorem dX8_has_21 : decode cX8_has 21 = .ok (.getfield 98, 3) := by decide +kernel
theorem dX8_has_24 : decode cX8_has 24 = .ok (.bipush 6, 2) := by decide +kernel
theorem dX8_has_26 : decode cX8_has 26 = .ok (.if_icmp .ge 25, 3) := by decide +kernel
theorem dX8_has_29 : decode cX8_has 29 = .ok (.aload_n 0, 1) := by decide +kernel
theorem dX8_has_30 : decode cX8_has 30 = .ok (.new 20, 3) := by decide +kernel
theorem dX8_has_33 : decode cX8_has 33 = .ok (.dup, 1) := by decide +kernel
theorem dX8_has_34 : decode cX8_has 34 = .ok (.iconst 0, 1) := by decide +kernel
theorem dX8_has_35 : decode cX8_has 35 = .ok (.iload_n 1, 1) := by decide +kernel
theorem dX8_has_36 : decode cX8_has 36 = .ok (.iload_n 1, 1) := by decide +kernel
theorem dX8_has_37 : decode cX8_has 37 = .ok (.iload_n 2, 1) := by decide +kernel
theorem dX8_has_38 : decode cX8_has 38 = .ok (.invokespecial 101, 3) := by decide +kernel
theorem dX8_has_41 : decode cX8_has 41 = .ok (.invokevirtual 104, 3) := by decide +kernel
theorem dX8_has_44 : decode cX8_has 44 = .ok (.ifCond .eq 7, 3) := by decide +kernel
theorem dX8_has_47 : decode cX8_has 47 = .ok (.iconst 1, 1) := by decide +kernel
theorem dX8_has_48 : decode cX8_has 48 = .ok (.goto 4, 3) := by decide +kernel
theorem dX8_has_51 : decode cX8_has 51 = .ok (.iconst 0, 1) := by decide +kernel
theorem dX8_has_52 : decode cX8_has 52 = .ok (.ireturn, 1) := by decide +kernel
theorem dX8_pair_0 : decode cX8_pair 0 = .ok (.iload_n 1, 1) := by decide +kernel
theorem dX8_pair_1 : decode cX8_pair 1 = .ok (.invokestatic 67, 3) := by decide +kernel
theorem dX8_pair_4 : decode cX8_pair 4 = .ok (.ifCond .eq 10, 3) := by decide +kernel
theorem dX8_pair_7 : decode cX8_pair 7 = .ok (.iload_n 2, 1) := by decide +kernel
theorem dX8_pair_8 : decode cX8_pair 8 = .ok (.invokestatic 67, 3) := by decide +kernel
theorem dX8_pair_11 : decode cX8_pair 11 = .ok (.ifCond .ne 5, 3) := by decide +kernel
theorem dX8_pair_14 : decode cX8_pair 14 = .ok (.iconst 0, 1) := by decide +kernel
theorem dX8_pair_15 : decode cX8_pair 15 = .ok (.ireturn, 1) := by decide +kernel
theorem dX8_pair_16 : decode cX8_pair 16 = .ok (.aload_n 0, 1) := by decide +kernel
theorem dX8_pair_17 : decode cX8_pair 17 = .ok (.getfield 98, 3) := by decide +kernel
theorem dX8_pair_20 : decode cX8_pair 20 = .ok (.bipush 6, 2) := by decide +kernel
theorem dX8_pair_22 : decode cX8_pair 22 = .ok (.if_icmp .ge 33, 3) := by decide +kernel
theorem dX8_pair_25 : decode cX8_pair 25 = .ok (.aload_n 0, 1) := by decide +kernel
theorem dX8_pair_26 : decode cX8_pair 26 = .ok (.new 20, 3) := by decide +kernel
theorem dX8_pair_29 : decode cX8_pair 29 = .ok (.dup, 1) := by decide +kernel
theorem dX8_pair_30 : decode cX8_pair 30 = .ok (.iload_n 3, 1) := by decide +kernel
theorem dX8_pair_31 : decode cX8_pair 31 = .ok (.ifCond .eq 7, 3) := by decide +kernel
theorem dX8_pair_34 : decode cX8_pair 34 = .ok (.iconst 2, 1) := by decide +kernel
theorem dX8_pair_35 : decode cX8_pair 35 = .ok (.goto 4, 3) := by decide +kernel
theorem dX8_pair_38 : decode cX8_pair 38 = .ok (.iconst 1, 1) := by decide +kernel
theorem dX8_pair_39 : decode cX8_pair 39 = .ok (.iload_n 1, 1) := by decide +kernel
theorem dX8_pair_40 : decode cX8_pair 40 = .ok (.iload_n 2, 1) := by decide +kernel
theorem dX8_pair_41 : decode cX8_pair 41 = .ok (.iconst 0, 1) := by decide +kernel
theorem dX8_pair_42 : decode cX8_pair 42 = .ok (.invokespecial 101, 3) := by decide +kernel
theorem dX8_pair_45 : decode cX8_pair 45 = .ok (.invokevirtual 104, 3) := by decide +kernel
theorem dX8_pair_48 : decode cX8_pair 48 = .ok (.ifCond .eq 7, 3) := by decide +kernel
theorem dX8_pair_51 : decode cX8_pair 51 = .ok (.iconst 1, 1) := by decide +kernel
theorem dX8_pair_52 : decode cX8_pair 52 = .ok (.goto 4, 3) := by decide +kernel
theorem dX8_pair_55 : decode cX8_pair 55 = .ok (.iconst 0, 1) := by decide +kernel
theorem dX8_pair_56 : decode cX8_pair 56 = .ok (.ireturn, 1) := by decide +kernel
theorem dX8_size_0 : decode cX8_size 0 = .ok (.iload_n 1, 1) := by decide +kernel
theorem dX8_size_1 : decode cX8_size 1 = .ok (.iconst (-1), 1) := by decide +kernel
theorem dX8_size_2 : decode cX8_size 2 = .ok (.if_icmp .lt 9, 3) := by decide +kernel
theorem dX8_size_5 : decode cX8_size 5 = .ok (.iload_n 1, 1) := by decide +kernel
theorem dX8_size_6 : decode cX8_size 6 = .ok (.bipush 32, 2) := by decide +kernel
theorem dX8_size_8 : decode cX8_size 8 = .ok (.if_icmp .le 5, 3) := by decide +kernel
theorem dX8_size_11 : decode cX8_size 11 = .ok (.iconst 0, 1) := by decide +kernel
theorem dX8_size_12 : decode cX8_size 12 = .ok (.ireturn, 1) := by decide +kernel
theorem dX8_size_13 : decode cX8_size 13 = .ok (.aload_n 0, 1) := by decide +kernel
theorem dX8_size_14 : decode cX8_size 14 = .ok (.getfield 98, 3) := by decide +kernel
theorem dX8_size_17 : decode cX8_size 17 = .ok (.bipush 6, 2) := by decide +kernel
theorem dX8_size_19 : decode cX8_size 19 = .ok (.if_icmp .ge 36, 3) := by decide +kernel
theorem dX8_size_22 : decode cX8_size 22 = .ok (.aload_n 0, 1) := by decide +kernel
theorem dX8_size_23 : decode cX8_size 23 = .ok (.new 20, 3) := by decide +kernel
theorem dX8_size_26 : decode cX8_size 26 = .ok (.dup, 1) := by decide +kernel
theorem dX8_size_27 : decode cX8_size 27 = .ok (.iload_n 1, 1) := by decide +kernel
theorem dX8_size_28 : decode cX8_size 28 = .ok (.iconst (-1), 1) := by decide +kernel
theorem dX8_size_29 : decode cX8_size 29 = .ok (.if_icmp .ne 7, 3) := by decide +kernel
theorem dX8_size_32 : decode cX8_size 32 = .ok (.iconst 4, 1) := by decide +kernel
theorem dX8_size_33 : decode cX8_size 33 = .ok (.goto 4, 3) := by decide +kernel
theorem dX8_size_36 : decode cX8_size 36 = .ok (.iconst 3, 1) := by decide +kernel
theorem dX8_size_37 : decode cX8_size 37 = .ok (.bipush 32, 2) := by decide +kernel
theorem dX8_size_39 : decode cX8_size 39 = .ok (.bipush 32, 2) := by decide +kernel
theorem dX8_size_41 : decode cX8_size 41 = .ok (.iload_n 1, 1) := by decide +kernel
theorem dX8_size_42 : decode cX8_size 42 = .ok (.invokespecial 101, 3) := by decide +kernel
theorem dX8_size_45 : decode cX8_size 45 = .ok (.invokevirtual 104, 3) := by decide +kernel
theorem dX8_size_48 : decode cX8_size 48 = .ok (.ifCond .eq 7, 3) := by decide +kernel
theorem dX8_size_51 : decode cX8_size 51 = .ok (.iconst 1, 1) := by decide +kernel
theorem dX8_size_52 : decode cX8_size 52 = .ok (.goto 4, 3) := by decide +kernel
theorem dX8_size_55 : decode cX8_size 55 = .ok (.iconst 0, 1) := by decide +kernel
theorem dX8_size_56 : decode cX8_size 56 = .ok (.ireturn, 1) := by decide +kernel
theorem dX8_not_0 : decode cX8_not 0 = .ok (.aload_n 0, 1) := by decide +kernel
theorem dX8_not_1 : decode cX8_not 1 = .ok (.getfield 98, 3) := by decide +kernel
theorem dX8_not_4 : decode cX8_not 4 = .ok (.iconst 1, 1) := by decide +kernel
theorem dX8_not_5 : decode cX8_not 5 = .ok (.if_icmp .ge 5, 3) := by decide +kernel
theorem dX8_not_8 : decode cX8_not 8 = .ok (.iconst 0, 1) := by decide +kernel
theorem dX8_not_9 : decode cX8_not 9 = .ok (.ireturn, 1) := by decide +kernel
theorem dX8_not_10 : decode cX8_not 10 = .ok (.aload_n 0, 1) := by decide +kernel
theorem dX8_not_11 : decode cX8_not 11 = .ok (.getfield 22, 3) := by decide +kernel
theorem dX8_not_14 : decode cX8_not 14 = .ok (.aload_n 0, 1) := by decide +kernel
theorem dX8_not_15 : decode cX8_not 15 = .ok (.getfield 98, 3) := by decide +kernel
theorem dX8_not_18 : decode cX8_not 18 = .ok (.iconst 1, 1) := by decide +kernel
theorem dX8_not_19 : decode cX8_not 19 = .ok (.isub, 1) := by decide +kernel
theorem dX8_not_20 : decode cX8_not 20 = .ok (.aaload, 1) := by decide +kernel
theorem dX8_not_21 : decode cX8_not 21 = .ok (.astore_n 1, 1) := by decide +kernel
theorem dX8_not_22 : decode cX8_not 22 = .ok (.aload_n 1, 1) := by decide +kernel
theorem dX8_not_23 : decode cX8_not 23 = .ok (.ifnull 12, 3) := by decide +kernel
theorem dX8_not_26 : decode cX8_not 26 = .ok (.aload_n 1, 1) := by decide +kernel
theorem dX8_not_27 : decode cX8_not 27 = .ok (.getfield 108, 3) := by decide +kernel
theorem dX8_not_30 : decode cX8_not 30 = .ok (.bipush 6, 2) := by decide +kernel
theorem dX8_not_32 : decode cX8_not 32 = .ok (.if_icmp .lt 5, 3) := by decide +kernel
theorem dX8_not_35 : decode cX8_not 35 = .ok (.iconst 0, 1) := by decide +kernel
theorem dX8_not_36 : decode cX8_not 36 = .ok (.ireturn, 1) := by decide +kernel
theorem dX8_not_37 : decode cX8_not 37 = .ok (.aload_n 0, 1) := by decide +kernel
theorem dX8_not_38 : decode cX8_not 38 = .ok (.getfield 22, 3) := by decide +kernel
theorem dX8_not_41 : decode cX8_not 41 = .ok (.aload_n 0, 1) := by decide +kernel
theorem dX8_not_42 : decode cX8_not 42 = .ok (.getfield 98, 3) := by decide +kernel
theorem dX8_not_45 : decode cX8_not 45 = .ok (.iconst 1, 1) := by decide +kernel
theorem dX8_not_46 : decode cX8_not 46 = .ok (.isub, 1) := by decide +kernel
theorem dX8_not_47 : decode cX8_not 47 = .ok (.new 20, 3) := by decide +kernel
theorem dX8_not_50 : decode cX8_not 50 = .ok (.dup, 1) := by decide +kernel
theorem dX8_not_51 : decode cX8_not 51 = .ok (.iconst 5, 1) := by decide +kernel
theorem dX8_not_52 : decode cX8_not 52 = .ok (.aload_n 1, 1) := by decide +kernel
theorem dX8_not_53 : decode cX8_not 53 = .ok (.aconst_null, 1) := by decide +kernel
theorem dX8_not_54 : decode cX8_not 54 = .ok (.aload_n 1, 1) := by decide +kernel
theorem dX8_not_55 : decode cX8_not 55 = .ok (.getfield 108, 3) := by decide +kernel
theorem dX8_not_58 : decode cX8_not 58 = .ok (.iconst 1, 1) := by decide +kernel
theorem dX8_not_59 : decode cX8_not 59 = .ok (.iadd, 1) := by decide +kernel
theorem dX8_not_60 : decode cX8_not 60 = .ok (.invokespecial 111, 3) := by decide +kernel
theorem dX8_not_63 : decode cX8_not 63 = .ok (.aastore, 1) := by decide +kernel
theorem dX8_not_64 : decode cX8_not 64 = .ok (.iconst 1, 1) := by decide +kernel
theorem dX8_not_65 : decode cX8_not 65 = .ok (.ireturn, 1) := by decide +kernel
theorem dX8_join_0 : decode cX8_join 0 = .ok (.aload_n 0, 1) := by decide +kernel
theorem dX8_join_1 : decode cX8_join 1 = .ok (.getfield 98, 3) := by decide +kernel
theorem dX8_join_4 : decode cX8_join 4 = .ok (.iconst 2, 1) := by decide +kernel
theorem dX8_join_5 : decode cX8_join 5 = .ok (.if_icmp .ge 5, 3) := by decide +kernel
theorem dX8_join_8 : decode cX8_join 8 = .ok (.iconst 0, 1) := by decide +kernel
theorem dX8_join_9 : decode cX8_join 9 = .ok (.ireturn, 1) := by decide +kernel
theorem dX8_join_10 : decode cX8_join 10 = .ok (.aload_n 0, 1) := by decide +kernel
theorem dX8_join_11 : decode cX8_join 11 = .ok (.getfield 22, 3) := by decide +kernel
theorem dX8_join_14 : decode cX8_join 14 = .ok (.aload_n 0, 1) := by decide +kernel
theorem dX8_join_15 : decode cX8_join 15 = .ok (.getfield 98, 3) := by decide +kernel
theorem dX8_join_18 : decode cX8_join 18 = .ok (.iconst 2, 1) := by decide +kernel
theorem dX8_join_19 : decode cX8_join 19 = .ok (.isub, 1) := by decide +kernel
theorem dX8_join_20 : decode cX8_join 20 = .ok (.aaload, 1) := by decide +kernel
theorem dX8_join_21 : decode cX8_join 21 = .ok (.astore_n 2, 1) := by decide +kernel
theorem dX8_join_22 : decode cX8_join 22 = .ok (.aload_n 0, 1) := by decide +kernel
theorem dX8_join_23 : decode cX8_join 23 = .ok (.getfield 22, 3) := by decide +kernel
theorem dX8_join_26 : decode cX8_join 26 = .ok (.aload_n 0, 1) := by decide +kernel
theorem dX8_join_27 : decode cX8_join 27 = .ok (.getfield 98, 3) := by decide +kernel
theorem dX8_join_30 : decode cX8_join 30 = .ok (.iconst 1, 1) := by decide +kernel
theorem dX8_join_31 : decode cX8_join 31 = .ok (.isub, 1) := by decide +kernel
theorem dX8_join_32 : decode cX8_join 32 = .ok (.aaload, 1) := by decide +kernel
theorem dX8_join_33 : decode cX8_join 33 = .ok (.astore_n 3, 1) := by decide +kernel
theorem dX8_join_34 : decode cX8_join 34 = .ok (.aload_n 2, 1) := by decide +kernel
theorem dX8_join_35 : decode cX8_join 35 = .ok (.ifnull 7, 3) := by decide +kernel
theorem dX8_join_38 : decode cX8_join 38 = .ok (.aload_n 3, 1) := by decide +kernel
theorem dX8_join_39 : decode cX8_join 39 = .ok (.ifnonnull 5, 3) := by decide +kernel
theorem dX8_join_42 : decode cX8_join 42 = .ok (.iconst 0, 1) := by decide +kernel
theorem dX8_join_43 : decode cX8_join 43 = .ok (.ireturn, 1) := by decide +kernel
theorem dX8_join_44 : decode cX8_join 44 = .ok (.iconst 1, 1) := by decide +kernel
theorem dX8_join_45 : decode cX8_join 45 = .ok (.aload_n 2, 1) := by decide +kernel
theorem dX8_join_46 : decode cX8_join 46 = .ok (.getfield 108, 3) := by decide +kernel
theorem dX8_join_49 : decode cX8_join 49 = .ok (.aload_n 3, 1) := by decide +kernel
theorem dX8_join_50 : decode cX8_join 50 = .ok (.getfield 108, 3) := by decide +kernel
theorem dX8_join_53 : decode cX8_join 53 = .ok (.invokestatic 114, 3) := by decide +kernel
theorem dX8_join_56 : decode cX8_join 56 = .ok (.iadd, 1) := by decide +kernel
theorem dX8_join_57 : decode cX8_join 57 = .ok (.istore 4, 2) := by decide +kernel
theorem dX8_join_59 : decode cX8_join 59 = .ok (.iload 4, 2) := by decide +kernel
theorem dX8_join_61 : decode cX8_join 61 = .ok (.bipush 6, 2) := by decide +kernel
theorem dX8_join_63 : decode cX8_join 63 = .ok (.if_icmp .le 5, 3) := by decide +kernel
theorem dX8_join_66 : decode cX8_join 66 = .ok (.iconst 0, 1) := by decide +kernel
theorem dX8_join_67 : decode cX8_join 67 = .ok (.ireturn, 1) := by decide +kernel
theorem dX8_join_68 : decode cX8_join 68 = .ok (.aload_n 0, 1) := by decide +kernel
theorem dX8_join_69 : decode cX8_join 69 = .ok (.dup, 1) := by decide +kernel
theorem dX8_join_70 : decode cX8_join 70 = .ok (.getfield 98, 3) := by decide +kernel
theorem dX8_join_73 : decode cX8_join 73 = .ok (.iconst 1, 1) := by decide +kernel
theorem dX8_join_74 : decode cX8_join 74 = .ok (.isub, 1) := by decide +kernel
theorem dX8_join_75 : decode cX8_join 75 = .ok (.putfield 98, 3) := by decide +kernel
theorem dX8_join_78 : decode cX8_join 78 = .ok (.aload_n 0, 1) := by decide +kernel
theorem dX8_join_79 : decode cX8_join 79 = .ok (.getfield 22, 3) := by decide +kernel
theorem dX8_join_82 : decode cX8_join 82 = .ok (.aload_n 0, 1) := by decide +kernel
theorem dX8_join_83 : decode cX8_join 83 = .ok (.getfield 98, 3) := by decide +kernel
theorem dX8_join_86 : decode cX8_join 86 = .ok (.aconst_null, 1) := by decide +kernel
theorem dX8_join_87 : decode cX8_join 87 = .ok (.aastore, 1) := by decide +kernel
theorem dX8_join_88 : decode cX8_join 88 = .ok (.aload_n 0, 1) := by decide +kernel
theorem dX8_join_89 : decode cX8_join 89 = .ok (.getfield 22, 3) := by decide +kernel
theorem dX8_join_92 : decode cX8_join 92 = .ok (.aload_n 0, 1) := by decide +kernel
theorem dX8_join_93 : decode cX8_join 93 = .ok (.getfield 98, 3) := by decide +kernel
theorem dX8_join_96 : decode cX8_join 96 = .ok (.iconst 1, 1) := by decide +kernel
theorem dX8_join_97 : decode cX8_join 97 = .ok (.isub, 1) := by decide +kernel
theorem dX8_join_98 : decode cX8_join 98 = .ok (.new 20, 3) := by decide +kernel
theorem dX8_join_101 : decode cX8_join 101 = .ok (.dup, 1) := by decide +kernel
theorem dX8_join_102 : decode cX8_join 102 = .ok (.iload_n 1, 1) := by decide +kernel
theorem dX8_join_103 : decode cX8_join 103 = .ok (.ifCond .eq 8, 3) := by decide +kernel
theorem dX8_join_106 : decode cX8_join 106 = .ok (.bipush 7, 2) := by decide +kernel
theorem dX8_join_108 : decode cX8_join 108 = .ok (.goto 5, 3) := by decide +kernel
theorem dX8_join_111 : decode cX8_join 111 = .ok (.bipush 6, 2) := by decide +kernel
theorem dX8_join_113 : decode cX8_join 113 = .ok (.aload_n 2, 1) := by decide +kernel
theorem dX8_join_114 : decode cX8_join 114 = .ok (.aload_n 3, 1) := by decide +kernel
theorem dX8_join_115 : decode cX8_join 115 = .ok (.iload 4, 2) := by decide +kernel
theorem dX8_join_117 : decode cX8_join 117 = .ok (.invokespecial 111, 3) := by decide +kernel
theorem dX8_join_120 : decode cX8_join 120 = .ok (.aastore, 1) := by decide +kernel
theorem dX8_join_121 : decode cX8_join 121 = .ok (.iconst 1, 1) := by decide +kernel
theorem dX8_join_122 : decode cX8_join 122 = .ok (.ireturn, 1) := by decide +kernel
theorem dX8_mark_0 : decode cX8_mark 0 = .ok (.aload_n 0, 1) := by decide +kernel
theorem dX8_mark_1 : decode cX8_mark 1 = .ok (.getfield 98, 3) := by decide +kernel
theorem dX8_mark_4 : decode cX8_mark 4 = .ok (.iconst 1, 1) := by decide +kernel
theorem dX8_mark_5 : decode cX8_mark 5 = .ok (.if_icmp .ge 5, 3) := by decide +kernel
theorem dX8_mark_8 : decode cX8_mark 8 = .ok (.iconst 0, 1) := by decide +kernel
theorem dX8_mark_9 : decode cX8_mark 9 = .ok (.ireturn, 1) := by decide +kernel
theorem dX8_mark_10 : decode cX8_mark 10 = .ok (.aload_n 0, 1) := by decide +kernel
theorem dX8_mark_11 : decode cX8_mark 11 = .ok (.dup, 1) := by decide +kernel
theorem dX8_mark_12 : decode cX8_mark 12 = .ok (.getfield 98, 3) := by decide +kernel
theorem dX8_mark_15 : decode cX8_mark 15 = .ok (.iconst 1, 1) := by decide +kernel
theorem dX8_mark_16 : decode cX8_mark 16 = .ok (.isub, 1) := by decide +kernel
theorem dX8_mark_17 : decode cX8_mark 17 = .ok (.putfield 98, 3) := by decide +kernel
theorem dX8_mark_20 : decode cX8_mark 20 = .ok (.iload_n 1, 1) := by decide +kernel
theorem dX8_mark_21 : decode cX8_mark 21 = .ok (.ifCond .eq 22, 3) := by decide +kernel
theorem dX8_mark_24 : decode cX8_mark 24 = .ok (.aload_n 0, 1) := by decide +kernel
theorem dX8_mark_25 : decode cX8_mark 25 = .ok (.getfield 29, 3) := by decide +kernel
theorem dX8_mark_28 : decode cX8_mark 28 = .ok (.aload_n 0, 1) := by decide +kernel
theorem dX8_mark_29 : decode cX8_mark 29 = .ok (.getfield 22, 3) := by decide +kernel
theorem dX8_mark_32 : decode cX8_mark 32 = .ok (.aload_n 0, 1) := by decide +kernel
theorem dX8_mark_33 : decode cX8_mark 33 = .ok (.getfield 98, 3) := by decide +kernel
theorem dX8_mark_36 : decode cX8_mark 36 = .ok (.aaload, 1) := by decide +kernel
theorem dX8_mark_37 : decode cX8_mark 37 = .ok (.putfield 120, 3) := by decide +kernel
theorem dX8_mark_40 : decode cX8_mark 40 = .ok (.goto 19, 3) := by decide +kernel
theorem dX8_mark_43 : decode cX8_mark 43 = .ok (.aload_n 0, 1) := by decide +kernel
theorem dX8_mark_44 : decode cX8_mark 44 = .ok (.getfield 29, 3) := by decide +kernel
theorem dX8_mark_47 : decode cX8_mark 47 = .ok (.aload_n 0, 1) := by decide +kernel
theorem dX8_mark_48 : decode cX8_mark 48 = .ok (.getfield 22, 3) := by decide +kernel
theorem dX8_mark_51 : decode cX8_mark 51 = .ok (.aload_n 0, 1) := by decide +kernel
theorem dX8_mark_52 : decode cX8_mark 52 = .ok (.getfield 98, 3) := by decide +kernel
theorem dX8_mark_55 : decode cX8_mark 55 = .ok (.aaload, 1) := by decide +kernel
theorem dX8_mark_56 : decode cX8_mark 56 = .ok (.putfield 124, 3) := by decide +kernel
theorem dX8_mark_59 : decode cX8_mark 59 = .ok (.aload_n 0, 1) := by decide +kernel
theorem dX8_mark_60 : decode cX8_mark 60 = .ok (.getfield 22, 3) := by decide +kernel
theorem dX8_mark_63 : decode cX8_mark 63 = .ok (.aload_n 0, 1) := by decide +kernel
theorem dX8_mark_64 : decode cX8_mark 64 = .ok (.getfield 98, 3) := by decide +kernel
theorem dX8_mark_67 : decode cX8_mark 67 = .ok (.aconst_null, 1) := by decide +kernel
theorem dX8_mark_68 : decode cX8_mark 68 = .ok (.aastore, 1) := by decide +kernel
theorem dX8_mark_69 : decode cX8_mark 69 = .ok (.aload_n 0, 1) := by decide +kernel
theorem dX8_mark_70 : decode cX8_mark 70 = .ok (.getfield 29, 3) := by decide +kernel
theorem dX8_mark_73 : decode cX8_mark 73 = .ok (.invokevirtual 127, 3) := by decide +kernel
theorem dX8_mark_76 : decode cX8_mark 76 = .ok (.iconst 1, 1) := by decide +kernel
theorem dX8_mark_77 : decode cX8_mark 77 = .ok (.ireturn, 1) := by decide +kernel
theorem dX8_remember_0 : decode cX8_remember 0 = .ok (.aload_n 0, 1) := by decide +kernel
theorem dX8_remember_1 : decode cX8_remember 1 = .ok (.getfield 29, 3) := by decide +kernel
theorem dX8_remember_4 : decode cX8_remember 4 = .ok (.iload_n 1, 1) := by decide +kernel
theorem dX8_remember_5 : decode cX8_remember 5 = .ok (.putfield 128, 3) := by decide +kernel
theorem dX8_remember_8 : decode cX8_remember 8 = .ok (.aload_n 0, 1) := by decide +kernel
theorem dX8_remember_9 : decode cX8_remember 9 = .ok (.getfield 29, 3) := by decide +kernel
theorem dX8_remember_12 : decode cX8_remember 12 = .ok (.invokevirtual 127, 3) := by decide +kernel
theorem dX8_remember_15 : decode cX8_remember 15 = .ok (.return_, 1) := by decide +kernel
theorem dX8_outcome_0 : decode cX8_outcome 0 = .ok (.aload_n 0, 1) := by decide +kernel
theorem dX8_outcome_1 : decode cX8_outcome 1 = .ok (.getfield 29, 3) := by decide +kernel
theorem dX8_outcome_4 : decode cX8_outcome 4 = .ok (.aload_n 0, 1) := by decide +kernel
theorem dX8_outcome_5 : decode cX8_outcome 5 = .ok (.getfield 10, 3) := by decide +kernel
theorem dX8_outcome_8 : decode cX8_outcome 8 = .ok (.invokevirtual 131, 3) := by decide +kernel
theorem dX8_outcome_11 : decode cX8_outcome 11 = .ok (.ireturn, 1) := by decide +kernel
theorem dX8_nodes_0 : decode cX8_nodes 0 = .ok (.aload_n 0, 1) := by decide +kernel
theorem dX8_nodes_1 : decode cX8_nodes 1 = .ok (.getfield 36, 3) := by decide +kernel
theorem dX8_nodes_4 : decode cX8_nodes 4 = .ok (.getfield 91, 3) := by decide +kernel
theorem dX8_nodes_7 : decode cX8_nodes 7 = .ok (.ifCond .ne 5, 3) := by decide +kernel
theorem dX8_nodes_10 : decode cX8_nodes 10 = .ok (.iconst (-1), 1) := by decide +kernel
theorem dX8_nodes_11 : decode cX8_nodes 11 = .ok (.ireturn, 1) := by decide +kernel
theorem dX8_nodes_12 : decode cX8_nodes 12 = .ok (.aload_n 0, 1) := by decide +kernel
theorem dX8_nodes_13 : decode cX8_nodes 13 = .ok (.getfield 54, 3) := by decide +kernel
theorem dX8_nodes_16 : decode cX8_nodes 16 = .ok (.aload_n 0, 1) := by decide +kernel
theorem dX8_nodes_17 : decode cX8_nodes 17 = .ok (.getfield 10, 3) := by decide +kernel
theorem dX8_nodes_20 : decode cX8_nodes 20 = .ok (.invokevirtual 135, 3) := by decide +kernel
theorem dX8_nodes_23 : decode cX8_nodes 23 = .ok (.pop, 1) := by decide +kernel
theorem dX8_nodes_24 : decode cX8_nodes 24 = .ok (.aload_n 0, 1) := by decide +kernel
theorem dX8_nodes_25 : decode cX8_nodes 25 = .ok (.getfield 54, 3) := by decide +kernel
theorem dX8_nodes_28 : decode cX8_nodes 28 = .ok (.getfield 139, 3) := by decide +kernel
theorem dX8_nodes_31 : decode cX8_nodes 31 = .ok (.ireturn, 1) := by decide +kernel
theorem dX8_node_0 : decode cX8_node 0 = .ok (.aload_n 0, 1) := by decide +kernel
theorem dX8_node_1 : decode cX8_node 1 = .ok (.iload_n 1, 1) := by decide +kernel
theorem dX8_node_2 : decode cX8_node 2 = .ok (.invokevirtual 140, 3) := by decide +kernel
theorem dX8_node_5 : decode cX8_node 5 = .ok (.ifCond .eq 14, 3) := by decide +kernel
theorem dX8_node_8 : decode cX8_node 8 = .ok (.aload_n 0, 1) := by decide +kernel
theorem dX8_node_9 : decode cX8_node 9 = .ok (.getfield 54, 3) := by decide +kernel
theorem dX8_node_12 : decode cX8_node 12 = .ok (.iload_n 1, 1) := by decide +kernel
theorem dX8_node_13 : decode cX8_node 13 = .ok (.invokevirtual 144, 3) := by decide +kernel
theorem dX8_node_16 : decode cX8_node 16 = .ok (.goto 4, 3) := by decide +kernel
theorem dX8_node_19 : decode cX8_node 19 = .ok (.iconst (-1), 1) := by decide +kernel
theorem dX8_node_20 : decode cX8_node 20 = .ok (.ireturn, 1) := by decide +kernel
theorem dX8_depth_0 : decode cX8_depth 0 = .ok (.aload_n 0, 1) := by decide +kernel
theorem dX8_depth_1 : decode cX8_depth 1 = .ok (.iload_n 1, 1) := by decide +kernel
theorem dX8_depth_2 : decode cX8_depth 2 = .ok (.invokevirtual 140, 3) := by decide +kernel
theorem dX8_depth_5 : decode cX8_depth 5 = .ok (.ifCond .eq 15, 3) := by decide +kernel
theorem dX8_depth_8 : decode cX8_depth 8 = .ok (.aload_n 0, 1) := by decide +kernel
theorem dX8_depth_9 : decode cX8_depth 9 = .ok (.getfield 54, 3) := by decide +kernel
theorem dX8_depth_12 : decode cX8_depth 12 = .ok (.getfield 148, 3) := by decide +kernel
theorem dX8_depth_15 : decode cX8_depth 15 = .ok (.iload_n 1, 1) := by decide +kernel
theorem dX8_depth_16 : decode cX8_depth 16 = .ok (.iaload, 1) := by decide +kernel
theorem dX8_depth_17 : decode cX8_depth 17 = .ok (.goto 4, 3) := by decide +kernel
theorem dX8_depth_20 : decode cX8_depth 20 = .ok (.iconst (-1), 1) := by decide +kernel
theorem dX8_depth_21 : decode cX8_depth 21 = .ok (.ireturn, 1) := by decide +kernel
theorem dX8_reduce_0 : decode cX8_reduce 0 = .ok (.iload_n 1, 1) := by decide +kernel
theorem dX8_reduce_1 : decode cX8_reduce 1 = .ok (.ifCond .lt 19, 3) := by decide +kernel
theorem dX8_reduce_4 : decode cX8_reduce 4 = .ok (.iload_n 1, 1) := by decide +kernel
theorem dX8_reduce_5 : decode cX8_reduce 5 = .ok (.iconst 4, 1) := by decide +kernel
theorem dX8_reduce_6 : decode cX8_reduce 6 = .ok (.if_icmp .gt 14, 3) := by decide +kernel
theorem dX8_reduce_9 : decode cX8_reduce 9 = .ok (.iload_n 2, 1) := by decide +kernel
theorem dX8_reduce_10 : decode cX8_reduce 10 = .ok (.ifCond .lt 10, 3) := by decide +kernel
theorem dX8_reduce_13 : decode cX8_reduce 13 = .ok (.iload_n 2, 1) := by decide +kernel
theorem dX8_reduce_14 : decode cX8_reduce 14 = .ok (.sipush 400, 3) := by decide +kernel
theorem dX8_reduce_17 : decode cX8_reduce 17 = .ok (.if_icmp .le 5, 3) := by decide +kernel
theorem dX8_reduce_20 : decode cX8_reduce 20 = .ok (.iconst (-1), 1) := by decide +kernel
theorem dX8_reduce_21 : decode cX8_reduce 21 = .ok (.ireturn, 1) := by decide +kernel
theorem dX8_reduce_22 : decode cX8_reduce 22 = .ok (.aload_n 0, 1) := by decide +kernel
theorem dX8_reduce_23 : decode cX8_reduce 23 = .ok (.getfield 29, 3) := by decide +kernel
theorem dX8_reduce_26 : decode cX8_reduce 26 = .ok (.aload_n 0, 1) := by decide +kernel
theorem dX8_reduce_27 : decode cX8_reduce 27 = .ok (.getfield 10, 3) := by decide +kernel
theorem dX8_reduce_30 : decode cX8_reduce 30 = .ok (.invokevirtual 131, 3) := by decide +kernel
theorem dX8_reduce_33 : decode cX8_reduce 33 = .ok (.iconst 1, 1) := by decide +kernel
theorem dX8_reduce_34 : decode cX8_reduce 34 = .ok (.if_icmp .eq 6, 3) := by decide +kernel
theorem dX8_reduce_37 : decode cX8_reduce 37 = .ok (.bipush (-2), 2) := by decide +kernel
theorem dX8_reduce_39 : decode cX8_reduce 39 = .ok (.ireturn, 1) := by decide +kernel
theorem dX8_reduce_40 : decode cX8_reduce 40 = .ok (.iload_n 1, 1) := by decide +kernel
theorem dX8_reduce_41 : decode cX8_reduce 41 = .ok (.iconst 2, 1) := by decide +kernel
theorem dX8_reduce_42 : decode cX8_reduce 42 = .ok (.if_icmp .lt 20, 3) := by decide +kernel
theorem dX8_reduce_45 : decode cX8_reduce 45 = .ok (.aload_n 0, 1) := by decide +kernel
theorem dX8_reduce_46 : decode cX8_reduce 46 = .ok (.getfield 54, 3) := by decide +kernel
theorem dX8_reduce_49 : decode cX8_reduce 49 = .ok (.aload_n 0, 1) := by decide +kernel
theorem dX8_reduce_50 : decode cX8_reduce 50 = .ok (.getfield 10, 3) := by decide +kernel
theorem dX8_reduce_53 : decode cX8_reduce 53 = .ok (.invokevirtual 135, 3) := by decide +kernel
theorem dX8_reduce_56 : decode cX8_reduce 56 = .ok (.ifCond .ne 6, 3) := by decide +kernel
theorem dX8_reduce_59 : decode cX8_reduce 59 = .ok (.bipush (-3), 2) := by decide +kernel
theorem dX8_reduce_61 : decode cX8_reduce 61 = .ok (.ireturn, 1) := by decide +kernel
theorem dX8_reduce_62 : decode cX8_reduce 62 = .ok (.aload_n 0, 1) := by decide +kernel
theorem dX8_reduce_63 : decode cX8_reduce 63 = .ok (.dup, 1) := by decide +kernel
theorem dX8_reduce_64 : decode cX8_reduce 64 = .ok (.getfield 152, 3) := by decide +kernel
theorem dX8_reduce_67 : decode cX8_reduce 67 = .ok (.iconst 1, 1) := by decide +kernel
theorem dX8_reduce_68 : decode cX8_reduce 68 = .ok (.iadd, 1) := by decide +kernel
theorem dX8_reduce_69 : decode cX8_reduce 69 = .ok (.putfield 152, 3) := by decide +kernel
theorem dX8_reduce_72 : decode cX8_reduce 72 = .ok (.aload_n 0, 1) := by decide +kernel
theorem dX8_reduce_73 : decode cX8_reduce 73 = .ok (.getfield 29, 3) := by decide +kernel
theorem dX8_reduce_76 : decode cX8_reduce 76 = .ok (.iload_n 2, 1) := by decide +kernel
theorem dX8_reduce_77 : decode cX8_reduce 77 = .ok (.invokevirtual 155, 3) := by decide +kernel
theorem dX8_reduce_80 : decode cX8_reduce 80 = .ok (.iload_n 1, 1) := by decide +kernel
theorem dX8_reduce_81 : decode cX8_reduce 81 = .ok (.iconst 1, 1) := by decide +kernel
theorem dX8_reduce_82 : decode cX8_reduce 82 = .ok (.if_icmp .gt 23, 3) := by decide +kernel
theorem dX8_reduce_85 : decode cX8_reduce 85 = .ok (.aload_n 0, 1) := by decide +kernel
theorem dX8_reduce_86 : decode cX8_reduce 86 = .ok (.getfield 63, 3) := by decide +kernel
theorem dX8_reduce_89 : decode cX8_reduce 89 = .ok (.iload_n 1, 1) := by decide +kernel
theorem dX8_reduce_90 : decode cX8_reduce 90 = .ok (.iconst 1, 1) := by decide +kernel
theorem dX8_reduce_91 : decode cX8_reduce 91 = .ok (.if_icmp .ne 7, 3) := by decide +kernel
theorem dX8_reduce_94 : decode cX8_reduce 94 = .ok (.iconst 1, 1) := by decide +kernel
theorem dX8_reduce_95 : decode cX8_reduce 95 = .ok (.goto 4, 3) := by decide +kernel
theorem dX8_reduce_98 : decode cX8_reduce 98 = .ok (.iconst 0, 1) := by decide +kernel
theorem dX8_reduce_99 : decode cX8_reduce 99 = .ok (.invokevirtual 159, 3) := by decide +kernel
theorem dX8_reduce_102 : decode cX8_reduce 102 = .ok (.goto 35, 3) := by decide +kernel
theorem dX8_reduce_105 : decode cX8_reduce 105 = .ok (.iload_n 1, 1) := by decide +kernel
theorem dX8_reduce_106 : decode cX8_reduce 106 = .ok (.iconst 3, 1) := by decide +kernel
theorem dX8_reduce_107 : decode cX8_reduce 107 = .ok (.if_icmp .gt 23, 3) := by decide +kernel
theorem dX8_reduce_110 : decode cX8_reduce 110 = .ok (.aload_n 0, 1) := by decide +kernel
theorem dX8_reduce_111 : decode cX8_reduce 111 = .ok (.getfield 63, 3) := by decide +kernel
theorem dX8_reduce_114 : decode cX8_reduce 114 = .ok (.iload_n 1, 1) := by decide +kernel
theorem dX8_reduce_115 : decode cX8_reduce 115 = .ok (.iconst 3, 1) := by decide +kernel
theorem dX8_reduce_116 : decode cX8_reduce 116 = .ok (.if_icmp .ne 7, 3) := by decide +kernel
theorem dX8_reduce_119 : decode cX8_reduce 119 = .ok (.iconst 1, 1) := by decide +kernel
theorem dX8_reduce_120 : decode cX8_reduce 120 = .ok (.goto 4, 3) := by decide +kernel
theorem dX8_reduce_123 : decode cX8_reduce 123 = .ok (.iconst 0, 1) := by decide +kernel
theorem dX8_reduce_124 : decode cX8_reduce 124 = .ok (.invokevirtual 163, 3) := by decide +kernel
theorem dX8_reduce_127 : decode cX8_reduce 127 = .ok (.goto 10, 3) := by decide +kernel
theorem dX8_reduce_130 : decode cX8_reduce 130 = .ok (.aload_n 0, 1) := by decide +kernel
theorem dX8_reduce_131 : decode cX8_reduce 131 = .ok (.getfield 63, 3) := by decide +kernel
theorem dX8_reduce_134 : decode cX8_reduce 134 = .ok (.invokevirtual 166, 3) := by decide +kernel
theorem dX8_reduce_137 : decode cX8_reduce 137 = .ok (.aload_n 0, 1) := by decide +kernel
theorem dX8_reduce_138 : decode cX8_reduce 138 = .ok (.getfield 10, 3) := by decide +kernel
theorem dX8_reduce_141 : decode cX8_reduce 141 = .ok (.getfield 74, 3) := by decide +kernel
theorem dX8_reduce_144 : decode cX8_reduce 144 = .ok (.ireturn, 1) := by decide +kernel
theorem dX8_length_0 : decode cX8_length 0 = .ok (.aload_n 0, 1) := by decide +kernel
theorem dX8_length_1 : decode cX8_length 1 = .ok (.getfield 10, 3) := by decide +kernel
theorem dX8_length_4 : decode cX8_length 4 = .ok (.getfield 74, 3) := by decide +kernel
theorem dX8_length_7 : decode cX8_length 7 = .ok (.ireturn, 1) := by decide +kernel
theorem dX8_at_0 : decode cX8_at 0 = .ok (.iload_n 1, 1) := by decide +kernel
theorem dX8_at_1 : decode cX8_at 1 = .ok (.ifCond .lt 14, 3) := by decide +kernel
theorem dX8_at_4 : decode cX8_at 4 = .ok (.iload_n 1, 1) := by decide +kernel
theorem dX8_at_5 : decode cX8_at 5 = .ok (.aload_n 0, 1) := by decide +kernel
theorem dX8_at_6 : decode cX8_at 6 = .ok (.getfield 10, 3) := by decide +kernel
theorem dX8_at_9 : decode cX8_at 9 = .ok (.getfield 74, 3) := by decide +kernel
theorem dX8_at_12 : decode cX8_at 12 = .ok (.if_icmp .lt 7, 3) := by decide +kernel
theorem dX8_at_15 : decode cX8_at 15 = .ok (.iconst 0, 1) := by decide +kernel
theorem dX8_at_16 : decode cX8_at 16 = .ok (.goto 12, 3) := by decide +kernel
theorem dX8_at_19 : decode cX8_at 19 = .ok (.aload_n 0, 1) := by decide +kernel
theorem dX8_at_20 : decode cX8_at 20 = .ok (.getfield 10, 3) := by decide +kernel
theorem dX8_at_23 : decode cX8_at 23 = .ok (.getfield 169, 3) := by decide +kernel
theorem dX8_at_26 : decode cX8_at 26 = .ok (.iload_n 1, 1) := by decide +kernel
theorem dX8_at_27 : decode cX8_at 27 = .ok (.caload, 1) := by decide +kernel
theorem dX8_at_28 : decode cX8_at 28 = .ok (.ireturn, 1) := by decide +kernel
theorem dX8_count_0 : decode cX8_count 0 = .ok (.iload_n 1, 1) := by decide +kernel
theorem dX8_count_1 : decode cX8_count 1 = .ok (.tableswitch 80 0 4 #[35, 43, 51, 56, 72], 35) := by decide +kernel
theorem dX8_count_36 : decode cX8_count 36 = .ok (.aload_n 0, 1) := by decide +kernel
theorem dX8_count_37 : decode cX8_count 37 = .ok (.getfield 29, 3) := by decide +kernel
theorem dX8_count_40 : decode cX8_count 40 = .ok (.getfield 172, 3) := by decide +kernel
theorem dX8_count_43 : decode cX8_count 43 = .ok (.ireturn, 1) := by decide +kernel
theorem dX8_count_44 : decode cX8_count 44 = .ok (.aload_n 0, 1) := by decide +kernel
theorem dX8_count_45 : decode cX8_count 45 = .ok (.getfield 29, 3) := by decide +kernel
theorem dX8_count_48 : decode cX8_count 48 = .ok (.getfield 175, 3) := by decide +kernel
theorem dX8_count_51 : decode cX8_count 51 = .ok (.ireturn, 1) := by decide +kernel
theorem dX8_count_52 : decode cX8_count 52 = .ok (.aload_n 0, 1) := by decide +kernel
theorem dX8_count_53 : decode cX8_count 53 = .ok (.getfield 152, 3) := by decide +kernel
theorem dX8_count_56 : decode cX8_count 56 = .ok (.ireturn, 1) := by decide +kernel
theorem dX8_count_57 : decode cX8_count 57 = .ok (.aload_n 0, 1) := by decide +kernel
theorem dX8_count_58 : decode cX8_count 58 = .ok (.getfield 29, 3) := by decide +kernel
theorem dX8_count_61 : decode cX8_count 61 = .ok (.getfield 178, 3) := by decide +kernel
theorem dX8_count_64 : decode cX8_count 64 = .ok (.ifCond .eq 7, 3) := by decide +kernel
theorem dX8_count_67 : decode cX8_count 67 = .ok (.iconst 1, 1) := by decide +kernel
theorem dX8_count_68 : decode cX8_count 68 = .ok (.goto 4, 3) := by decide +kernel
theorem dX8_count_71 : decode cX8_count 71 = .ok (.iconst 0, 1) := by decide +kernel
theorem dX8_count_72 : decode cX8_count 72 = .ok (.ireturn, 1) := by decide +kernel
theorem dX8_count_73 : decode cX8_count 73 = .ok (.aload_n 0, 1) := by decide +kernel
theorem dX8_count_74 : decode cX8_count 74 = .ok (.getfield 29, 3) := by decide +kernel
theorem dX8_count_77 : decode cX8_count 77 = .ok (.getfield 181, 3) := by decide +kernel
theorem dX8_count_80 : decode cX8_count 80 = .ok (.ireturn, 1) := by decide +kernel
theorem dX8_count_81 : decode cX8_count 81 = .ok (.iconst (-1), 1) := by decide +kernel
theorem dX8_count_82 : decode cX8_count 82 = .ok (.ireturn, 1) := by decide +kernel
theorem dX8_push_0 : decode cX8_push 0 = .ok (.aload_n 0, 1) := by decide +kernel
theorem dX8_push_1 : decode cX8_push 1 = .ok (.getfield 98, 3) := by decide +kernel
theorem dX8_push_4 : decode cX8_push 4 = .ok (.bipush 6, 2) := by decide +kernel
theorem dX8_push_6 : decode cX8_push 6 = .ok (.if_icmp .lt 5, 3) := by decide +kernel
theorem dX8_push_9 : decode cX8_push 9 = .ok (.iconst 0, 1) := by decide +kernel
theorem dX8_push_10 : decode cX8_push 10 = .ok (.ireturn, 1) := by decide +kernel
theorem dX8_push_11 : decode cX8_push 11 = .ok (.aload_n 0, 1) := by decide +kernel
theorem dX8_push_12 : decode cX8_push 12 = .ok (.getfield 22, 3) := by decide +kernel
theorem dX8_push_15 : decode cX8_push 15 = .ok (.aload_n 0, 1) := by decide +kernel
theorem dX8_push_16 : decode cX8_push 16 = .ok (.getfield 98, 3) := by decide +kernel
theorem dX8_push_19 : decode cX8_push 19 = .ok (.aload_n 1, 1) := by decide +kernel
theorem dX8_push_20 : decode cX8_push 20 = .ok (.aastore, 1) := by decide +kernel
theorem dX8_push_21 : decode cX8_push 21 = .ok (.aload_n 0, 1) := by decide +kernel
theorem dX8_push_22 : decode cX8_push 22 = .ok (.dup, 1) := by decide +kernel
theorem dX8_push_23 : decode cX8_push 23 = .ok (.getfield 98, 3) := by decide +kernel
theorem dX8_push_26 : decode cX8_push 26 = .ok (.iconst 1, 1) := by decide +kernel
theorem dX8_push_27 : decode cX8_push 27 = .ok (.iadd, 1) := by decide +kernel
theorem dX8_push_28 : decode cX8_push 28 = .ok (.putfield 98, 3) := by decide +kernel
theorem dX8_push_31 : decode cX8_push 31 = .ok (.iconst 1, 1) := by decide +kernel
theorem dX8_push_32 : decode cX8_push 32 = .ok (.ireturn, 1) := by decide +kernel
theorem dX8_hasNode_0 : decode cX8_hasNode 0 = .ok (.iload_n 1, 1) := by decide +kernel
theorem dX8_hasNode_1 : decode cX8_hasNode 1 = .ok (.ifCond .lt 19, 3) := by decide +kernel
theorem dX8_hasNode_4 : decode cX8_hasNode 4 = .ok (.iload_n 1, 1) := by decide +kernel
theorem dX8_hasNode_5 : decode cX8_hasNode 5 = .ok (.bipush 60, 2) := by decide +kernel
theorem dX8_hasNode_7 : decode cX8_hasNode 7 = .ok (.if_icmp .ge 13, 3) := by decide +kernel
theorem dX8_hasNode_10 : decode cX8_hasNode 10 = .ok (.aload_n 0, 1) := by decide +kernel
theorem dX8_hasNode_11 : decode cX8_hasNode 11 = .ok (.getfield 36, 3) := by decide +kernel
theorem dX8_hasNode_14 : decode cX8_hasNode 14 = .ok (.getfield 91, 3) := by decide +kernel
theorem dX8_hasNode_17 : decode cX8_hasNode 17 = .ok (.ifCond .ne 5, 3) := by decide +kernel
theorem dX8_hasNode_20 : decode cX8_hasNode 20 = .ok (.iconst 0, 1) := by decide +kernel
theorem dX8_hasNode_21 : decode cX8_hasNode 21 = .ok (.ireturn, 1) := by decide +kernel
theorem dX8_hasNode_22 : decode cX8_hasNode 22 = .ok (.aload_n 0, 1) := by decide +kernel
theorem dX8_hasNode_23 : decode cX8_hasNode 23 = .ok (.getfield 54, 3) := by decide +kernel
theorem dX8_hasNode_26 : decode cX8_hasNode 26 = .ok (.aload_n 0, 1) := by decide +kernel
theorem dX8_hasNode_27 : decode cX8_hasNode 27 = .ok (.getfield 10, 3) := by decide +kernel
theorem dX8_hasNode_30 : decode cX8_hasNode 30 = .ok (.invokevirtual 135, 3) := by decide +kernel
theorem dX8_hasNode_33 : decode cX8_hasNode 33 = .ok (.ifCond .eq 18, 3) := by decide +kernel
theorem dX8_hasNode_36 : decode cX8_hasNode 36 = .ok (.iload_n 1, 1) := by decide +kernel
theorem dX8_hasNode_37 : decode cX8_hasNode 37 = .ok (.aload_n 0, 1) := by decide +kernel
theorem dX8_hasNode_38 : decode cX8_hasNode 38 = .ok (.getfield 54, 3) := by decide +kernel
theorem dX8_hasNode_41 : decode cX8_hasNode 41 = .ok (.getfield 139, 3) := by decide +kernel
theorem dX8_hasNode_44 : decode cX8_hasNode 44 = .ok (.if_icmp .ge 7, 3) := by decide +kernel
theorem dX8_hasNode_47 : decode cX8_hasNode 47 = .ok (.iconst 1, 1) := by decide +kernel
theorem dX8_hasNode_48 : decode cX8_hasNode 48 = .ok (.goto 4, 3) := by decide +kernel
theorem dX8_hasNode_51 : decode cX8_hasNode 51 = .ok (.iconst 0, 1) := by decide +kernel
theorem dX8_hasNode_52 : decode cX8_hasNode 52 = .ok (.ireturn, 1) := by decide +kernel
theorem dX8_isTextSign_0 : decode cX8_isTextSign 0 = .ok (.iload_n 0, 1) := by decide +kernel
theorem dX8_isTextSign_1 : decode cX8_isTextSign 1 = .ok (.bipush 97, 2) := by decide +kernel
theorem dX8_isTextSign_3 : decode cX8_isTextSign 3 = .ok (.if_icmp .lt 9, 3) := by decide +kernel
theorem dX8_isTextSign_6 : decode cX8_isTextSign 6 = .ok (.iload_n 0, 1) := by decide +kernel
theorem dX8_isTextSign_7 : decode cX8_isTextSign 7 = .ok (.bipush 122, 2) := by decide +kernel
theorem dX8_isTextSign_9 : decode cX8_isTextSign 9 = .ok (.if_icmp .le 45, 3) := by decide +kernel
theorem dX8_isTextSign_12 : decode cX8_isTextSign 12 = .ok (.iload_n 0, 1) := by decide +kernel
theorem dX8_isTextSign_13 : decode cX8_isTextSign 13 = .ok (.bipush 48, 2) := by decide +kernel
theorem dX8_isTextSign_15 : decode cX8_isTextSign 15 = .ok (.if_icmp .lt 9, 3) := by decide +kernel
theorem dX8_isTextSign_18 : decode cX8_isTextSign 18 = .ok (.iload_n 0, 1) := by decide +kernel
theorem dX8_isTextSign_19 : decode cX8_isTextSign 19 = .ok (.bipush 57, 2) := by decide +kernel
theorem dX8_isTextSign_21 : decode cX8_isTextSign 21 = .ok (.if_icmp .le 33, 3) := by decide +kernel
theorem dX8_isTextSign_24 : decode cX8_isTextSign 24 = .ok (.iload_n 0, 1) := by decide +kernel
theorem dX8_isTextSign_25 : decode cX8_isTextSign 25 = .ok (.bipush 32, 2) := by decide +kernel
theorem dX8_isTextSign_27 : decode cX8_isTextSign 27 = .ok (.if_icmp .eq 27, 3) := by decide +kernel
theorem dX8_isTextSign_30 : decode cX8_isTextSign 30 = .ok (.iload_n 0, 1) := by decide +kernel
theorem dX8_isTextSign_31 : decode cX8_isTextSign 31 = .ok (.bipush 44, 2) := by decide +kernel
theorem dX8_isTextSign_33 : decode cX8_isTextSign 33 = .ok (.if_icmp .eq 21, 3) := by decide +kernel
theorem dX8_isTextSign_36 : decode cX8_isTextSign 36 = .ok (.iload_n 0, 1) := by decide +kernel
theorem dX8_isTextSign_37 : decode cX8_isTextSign 37 = .ok (.bipush 45, 2) := by decide +kernel
theorem dX8_isTextSign_39 : decode cX8_isTextSign 39 = .ok (.if_icmp .eq 15, 3) := by decide +kernel
theorem dX8_isTextSign_42 : decode cX8_isTextSign 42 = .ok (.iload_n 0, 1) := by decide +kernel
theorem dX8_isTextSign_43 : decode cX8_isTextSign 43 = .ok (.bipush 40, 2) := by decide +kernel
theorem dX8_isTextSign_45 : decode cX8_isTextSign 45 = .ok (.if_icmp .eq 9, 3) := by decide +kernel
theorem dX8_isTextSign_48 : decode cX8_isTextSign 48 = .ok (.iload_n 0, 1) := by decide +kernel
theorem dX8_isTextSign_49 : decode cX8_isTextSign 49 = .ok (.bipush 41, 2) := by decide +kernel
theorem dX8_isTextSign_51 : decode cX8_isTextSign 51 = .ok (.if_icmp .ne 7, 3) := by decide +kernel
theorem dX8_isTextSign_54 : decode cX8_isTextSign 54 = .ok (.iconst 1, 1) := by decide +kernel
theorem dX8_isTextSign_55 : decode cX8_isTextSign 55 = .ok (.goto 4, 3) := by decide +kernel
theorem dX8_isTextSign_58 : decode cX8_isTextSign 58 = .ok (.iconst 0, 1) := by decide +kernel
theorem dX8_isTextSign_59 : decode cX8_isTextSign 59 = .ok (.ireturn, 1) := by decide +kernel
theorem dX8_isName_0 : decode cX8_isName 0 = .ok (.iload_n 0, 1) := by decide +kernel
theorem dX8_isName_1 : decode cX8_isName 1 = .ok (.bipush 65, 2) := by decide +kernel
theorem dX8_isName_3 : decode cX8_isName 3 = .ok (.if_icmp .lt 13, 3) := by decide +kernel
theorem dX8_isName_6 : decode cX8_isName 6 = .ok (.iload_n 0, 1) := by decide +kernel
theorem dX8_isName_7 : decode cX8_isName 7 = .ok (.bipush 70, 2) := by decide +kernel
theorem dX8_isName_9 : decode cX8_isName 9 = .ok (.if_icmp .gt 7, 3) := by decide +kernel
theorem dX8_isName_12 : decode cX8_isName 12 = .ok (.iconst 1, 1) := by decide +kernel
theorem dX8_isName_13 : decode cX8_isName 13 = .ok (.goto 4, 3) := by decide +kernel
theorem dX8_isName_16 : decode cX8_isName 16 = .ok (.iconst 0, 1) := by decide +kernel
theorem dX8_isName_17 : decode cX8_isName 17 = .ok (.ireturn, 1) := by decide +kernel
theorem dX8_isTail_0 : decode cX8_isTail 0 = .ok (.iload_n 0, 1) := by decide +kernel
theorem dX8_isTail_1 : decode cX8_isTail 1 = .ok (.bipush 63, 2) := by decide +kernel
theorem dX8_isTail_3 : decode cX8_isTail 3 = .ok (.if_icmp .eq 15, 3) := by decide +kernel
theorem dX8_isTail_6 : decode cX8_isTail 6 = .ok (.iload_n 0, 1) := by decide +kernel
theorem dX8_isTail_7 : decode cX8_isTail 7 = .ok (.bipush 42, 2) := by decide +kernel
theorem dX8_isTail_9 : decode cX8_isTail 9 = .ok (.if_icmp .eq 9, 3) := by decide +kernel
theorem dX8_isTail_12 : decode cX8_isTail 12 = .ok (.iload_n 0, 1) := by decide +kernel
theorem dX8_isTail_13 : decode cX8_isTail 13 = .ok (.bipush 43, 2) := by decide +kernel
theorem dX8_isTail_15 : decode cX8_isTail 15 = .ok (.if_icmp .ne 7, 3) := by decide +kernel
theorem dX8_isTail_18 : decode cX8_isTail 18 = .ok (.iconst 1, 1) := by decide +kernel
theorem dX8_isTail_19 : decode cX8_isTail 19 = .ok (.goto 4, 3) := by decide +kernel
theorem dX8_isTail_22 : decode cX8_isTail 22 = .ok (.iconst 0, 1) := by decide +kernel
theorem dX8_isTail_23 : decode cX8_isTail 23 = .ok (.ireturn, 1) := by decide +kernel
theorem dX8_isGrammarSign_0 : decode cX8_isGrammarSign 0 = .ok (.iload_n 0, 1) := by decide +kernel
theorem dX8_isGrammarSign_1 : decode cX8_isGrammarSign 1 = .ok (.invokestatic 67, 3) := by decide +kernel
theorem dX8_isGrammarSign_4 : decode cX8_isGrammarSign 4 = .ok (.ifCond .ne 35, 3) := by decide +kernel
theorem dX8_isGrammarSign_7 : decode cX8_isGrammarSign 7 = .ok (.iload_n 0, 1) := by decide +kernel
theorem dX8_isGrammarSign_8 : decode cX8_isGrammarSign 8 = .ok (.invokestatic 184, 3) := by decide +kernel
theorem dX8_isGrammarSign_11 : decode cX8_isGrammarSign 11 = .ok (.ifCond .ne 28, 3) := by decide +kernel
theorem dX8_isGrammarSign_14 : decode cX8_isGrammarSign 14 = .ok (.iload_n 0, 1) := by decide +kernel
theorem dX8_isGrammarSign_15 : decode cX8_isGrammarSign 15 = .ok (.invokestatic 187, 3) := by decide +kernel
theorem dX8_isGrammarSign_18 : decode cX8_isGrammarSign 18 = .ok (.ifCond .ne 21, 3) := by decide +kernel
theorem dX8_isGrammarSign_21 : decode cX8_isGrammarSign 21 = .ok (.iload_n 0, 1) := by decide +kernel
theorem dX8_isGrammarSign_22 : decode cX8_isGrammarSign 22 = .ok (.bipush 61, 2) := by decide +kernel
theorem dX8_isGrammarSign_24 : decode cX8_isGrammarSign 24 = .ok (.if_icmp .eq 15, 3) := by decide +kernel
theorem dX8_isGrammarSign_27 : decode cX8_isGrammarSign 27 = .ok (.iload_n 0, 1) := by decide +kernel
theorem dX8_isGrammarSign_28 : decode cX8_isGrammarSign 28 = .ok (.bipush 47, 2) := by decide +kernel
theorem dX8_isGrammarSign_30 : decode cX8_isGrammarSign 30 = .ok (.if_icmp .eq 9, 3) := by decide +kernel
theorem dX8_isGrammarSign_33 : decode cX8_isGrammarSign 33 = .ok (.iload_n 0, 1) := by decide +kernel
theorem dX8_isGrammarSign_34 : decode cX8_isGrammarSign 34 = .ok (.bipush 59, 2) := by decide +kernel
theorem dX8_isGrammarSign_36 : decode cX8_isGrammarSign 36 = .ok (.if_icmp .ne 7, 3) := by decide +kernel
theorem dX8_isGrammarSign_39 : decode cX8_isGrammarSign 39 = .ok (.iconst 1, 1) := by decide +kernel
theorem dX8_isGrammarSign_40 : decode cX8_isGrammarSign 40 = .ok (.goto 4, 3) := by decide +kernel
theorem dX8_isGrammarSign_43 : decode cX8_isGrammarSign 43 = .ok (.iconst 0, 1) := by decide +kernel
theorem dX8_isGrammarSign_44 : decode cX8_isGrammarSign 44 = .ok (.ireturn, 1) := by decide +kernel
theorem dX9_init_0 : decode cX9_init 0 = .ok (.aload_n 0, 1) := by decide +kernel
theorem dX9_init_1 : decode cX9_init 1 = .ok (.invokespecial 1, 3) := by decide +kernel
theorem dX9_init_4 : decode cX9_init 4 = .ok (.aload_n 0, 1) := by decide +kernel
theorem dX9_init_5 : decode cX9_init 5 = .ok (.bipush 32, 2) := by decide +kernel
theorem dX9_init_7 : decode cX9_init 7 = .ok (.newarray .int, 2) := by decide +kernel
theorem dX9_init_9 : decode cX9_init 9 = .ok (.putfield 7, 3) := by decide +kernel
theorem dX9_init_12 : decode cX9_init 12 = .ok (.aload_n 0, 1) := by decide +kernel
theorem dX9_init_13 : decode cX9_init 13 = .ok (.bipush 60, 2) := by decide +kernel
theorem dX9_init_15 : decode cX9_init 15 = .ok (.newarray .int, 2) := by decide +kernel
theorem dX9_init_17 : decode cX9_init 17 = .ok (.putfield 13, 3) := by decide +kernel
theorem dX9_init_20 : decode cX9_init 20 = .ok (.aload_n 0, 1) := by decide +kernel
theorem dX9_init_21 : decode cX9_init 21 = .ok (.bipush 8, 2) := by decide +kernel
theorem dX9_init_23 : decode cX9_init 23 = .ok (.newarray .int, 2) := by decide +kernel
theorem dX9_init_25 : decode cX9_init 25 = .ok (.putfield 16, 3) := by decide +kernel
theorem dX9_init_28 : decode cX9_init 28 = .ok (.aload_n 0, 1) := by decide +kernel
theorem dX9_init_29 : decode cX9_init 29 = .ok (.bipush 8, 2) := by decide +kernel
theorem dX9_init_31 : decode cX9_init 31 = .ok (.newarray .int, 2) := by decide +kernel
theorem dX9_init_33 : decode cX9_init 33 = .ok (.putfield 19, 3) := by decide +kernel
theorem dX9_init_36 : decode cX9_init 36 = .ok (.aload_n 0, 1) := by decide +kernel
theorem dX9_init_37 : decode cX9_init 37 = .ok (.sipush 512, 3) := by decide +kernel
theorem dX9_init_40 : decode cX9_init 40 = .ok (.newarray .int, 2) := by decide +kernel
theorem dX9_init_42 : decode cX9_init 42 = .ok (.putfield 22, 3) := by decide +kernel
theorem dX9_init_45 : decode cX9_init 45 = .ok (.aload_n 0, 1) := by decide +kernel
theorem dX9_init_46 : decode cX9_init 46 = .ok (.sipush 512, 3) := by decide +kernel
theorem dX9_init_49 : decode cX9_init 49 = .ok (.newarray .int, 2) := by decide +kernel
theorem dX9_init_51 : decode cX9_init 51 = .ok (.putfield 25, 3) := by decide +kernel
theorem dX9_init_54 : decode cX9_init 54 = .ok (.aload_n 0, 1) := by decide +kernel
theorem dX9_init_55 : decode cX9_init 55 = .ok (.sipush 512, 3) := by decide +kernel
theorem dX9_init_58 : decode cX9_init 58 = .ok (.newarray .int, 2) := by decide +kernel
theorem dX9_init_60 : decode cX9_init 60 = .ok (.putfield 28, 3) := by decide +kernel
theorem dX9_init_63 : decode cX9_init 63 = .ok (.aload_n 0, 1) := by decide +kernel
theorem dX9_init_64 : decode cX9_init 64 = .ok (.bipush 64, 2) := by decide +kernel
theorem dX9_init_66 : decode cX9_init 66 = .ok (.newarray .boolean, 2) := by decide +kernel
theorem dX9_init_68 : decode cX9_init 68 = .ok (.putfield 31, 3) := by decide +kernel
theorem dX9_init_71 : decode cX9_init 71 = .ok (.aload_n 0, 1) := by decide +kernel
theorem dX9_init_72 : decode cX9_init 72 = .ok (.bipush 64, 2) := by decide +kernel
theorem dX9_init_74 : decode cX9_init 74 = .ok (.newarray .int, 2) := by decide +kernel
theorem dX9_init_76 : decode cX9_init 76 = .ok (.putfield 35, 3) := by decide +kernel
theorem dX9_init_79 : decode cX9_init 79 = .ok (.aload_n 0, 1) := by decide +kernel
theorem dX9_init_80 : decode cX9_init 80 = .ok (.bipush 64, 2) := by decide +kernel
theorem dX9_init_82 : decode cX9_init 82 = .ok (.newarray .int, 2) := by decide +kernel
theorem dX9_init_84 : decode cX9_init 84 = .ok (.putfield 38, 3) := by decide +kernel
theorem dX9_init_87 : decode cX9_init 87 = .ok (.aload_n 0, 1) := by decide +kernel
theorem dX9_init_88 : decode cX9_init 88 = .ok (.bipush 64, 2) := by decide +kernel
theorem dX9_init_90 : decode cX9_init 90 = .ok (.newarray .int, 2) := by decide +kernel
theorem dX9_init_92 : decode cX9_init 92 = .ok (.putfield 41, 3) := by decide +kernel
theorem dX9_init_95 : decode cX9_init 95 = .ok (.aload_n 0, 1) := by decide +kernel
theorem dX9_init_96 : decode cX9_init 96 = .ok (.bipush 6, 2) := by decide +kernel
theorem dX9_init_98 : decode cX9_init 98 = .ok (.newarray .int, 2) := by decide +kernel
theorem dX9_init_100 : decode cX9_init 100 = .ok (.putfield 44, 3) := by decide +kernel
theorem dX9_init_103 : decode cX9_init 103 = .ok (.aload_n 0, 1) := by decide +kernel
theorem dX9_init_104 : decode cX9_init 104 = .ok (.bipush 6, 2) := by decide +kernel
theorem dX9_init_106 : decode cX9_init 106 = .ok (.newarray .int, 2) := by decide +kernel
theorem dX9_init_108 : decode cX9_init 108 = .ok (.putfield 47, 3) := by decide +kernel
theorem dX9_init_111 : decode cX9_init 111 = .ok (.aload_n 0, 1) := by decide +kernel
theorem dX9_init_112 : decode cX9_init 112 = .ok (.bipush 6, 2) := by decide +kernel
theorem dX9_init_114 : decode cX9_init 114 = .ok (.newarray .boolean, 2) := by decide +kernel
theorem dX9_init_116 : decode cX9_init 116 = .ok (.putfield 50, 3) := by decide +kernel
theorem dX9_init_119 : decode cX9_init 119 = .ok (.aload_n 0, 1) := by decide +kernel
theorem dX9_init_120 : decode cX9_init 120 = .ok (.bipush 36, 2) := by decide +kernel
theorem dX9_init_122 : decode cX9_init 122 = .ok (.newarray .boolean, 2) := by decide +kernel
theorem dX9_init_124 : decode cX9_init 124 = .ok (.putfield 53, 3) := by decide +kernel
theorem dX9_init_127 : decode cX9_init 127 = .ok (.aload_n 0, 1) := by decide +kernel
theorem dX9_init_128 : decode cX9_init 128 = .ok (.bipush 6, 2) := by decide +kernel
theorem dX9_init_130 : decode cX9_init 130 = .ok (.newarray .int, 2) := by decide +kernel
theorem dX9_init_132 : decode cX9_init 132 = .ok (.putfield 56, 3) := by decide +kernel
theorem dX9_init_135 : decode cX9_init 135 = .ok (.aload_n 0, 1) := by decide +kernel
theorem dX9_init_136 : decode cX9_init 136 = .ok (.bipush 32, 2) := by decide +kernel
theorem dX9_init_138 : decode cX9_init 138 = .ok (.newarray .int, 2) := by decide +kernel
theorem dX9_init_140 : decode cX9_init 140 = .ok (.putfield 59, 3) := by decide +kernel
theorem dX9_init_143 : decode cX9_init 143 = .ok (.aload_n 0, 1) := by decide +kernel
theorem dX9_init_144 : decode cX9_init 144 = .ok (.sipush 198, 3) := by decide +kernel
theorem dX9_init_147 : decode cX9_init 147 = .ok (.newarray .int, 2) := by decide +kernel
theorem dX9_init_149 : decode cX9_init 149 = .ok (.putfield 62, 3) := by decide +kernel
theorem dX9_init_152 : decode cX9_init 152 = .ok (.aload_n 0, 1) := by decide +kernel
theorem dX9_init_153 : decode cX9_init 153 = .ok (.bipush 61, 2) := by decide +kernel
theorem dX9_init_155 : decode cX9_init 155 = .ok (.newarray .int, 2) := by decide +kernel
theorem dX9_init_157 : decode cX9_init 157 = .ok (.putfield 65, 3) := by decide +kernel
theorem dX9_init_160 : decode cX9_init 160 = .ok (.aload_n 0, 1) := by decide +kernel
theorem dX9_init_161 : decode cX9_init 161 = .ok (.bipush 61, 2) := by decide +kernel
theorem dX9_init_163 : decode cX9_init 163 = .ok (.newarray .int, 2) := by decide +kernel
theorem dX9_init_165 : decode cX9_init 165 = .ok (.putfield 68, 3) := by decide +kernel
theorem dX9_init_168 : decode cX9_init 168 = .ok (.aload_n 0, 1) := by decide +kernel
theorem dX9_init_169 : decode cX9_init 169 = .ok (.bipush 61, 2) := by decide +kernel
theorem dX9_init_171 : decode cX9_init 171 = .ok (.newarray .int, 2) := by decide +kernel
theorem dX9_init_173 : decode cX9_init 173 = .ok (.putfield 71, 3) := by decide +kernel
theorem dX9_init_176 : decode cX9_init 176 = .ok (.aload_n 0, 1) := by decide +kernel
theorem dX9_init_177 : decode cX9_init 177 = .ok (.bipush 61, 2) := by decide +kernel
theorem dX9_init_179 : decode cX9_init 179 = .ok (.newarray .int, 2) := by decide +kernel
theorem dX9_init_181 : decode cX9_init 181 = .ok (.putfield 74, 3) := by decide +kernel
theorem dX9_init_184 : decode cX9_init 184 = .ok (.aload_n 0, 1) := by decide +kernel
theorem dX9_init_185 : decode cX9_init 185 = .ok (.bipush 61, 2) := by decide +kernel
theorem dX9_init_187 : decode cX9_init 187 = .ok (.newarray .int, 2) := by decide +kernel
theorem dX9_init_189 : decode cX9_init 189 = .ok (.putfield 77, 3) := by decide +kernel
theorem dX9_init_192 : decode cX9_init 192 = .ok (.aload_n 0, 1) := by decide +kernel
theorem dX9_init_193 : decode cX9_init 193 = .ok (.bipush 61, 2) := by decide +kernel
theorem dX9_init_195 : decode cX9_init 195 = .ok (.newarray .int, 2) := by decide +kernel
theorem dX9_init_197 : decode cX9_init 197 = .ok (.putfield 80, 3) := by decide +kernel
theorem dX9_init_200 : decode cX9_init 200 = .ok (.aload_n 0, 1) := by decide +kernel
theorem dX9_init_201 : decode cX9_init 201 = .ok (.bipush 62, 2) := by decide +kernel
theorem dX9_init_203 : decode cX9_init 203 = .ok (.newarray .int, 2) := by decide +kernel
theorem dX9_init_205 : decode cX9_init 205 = .ok (.putfield 83, 3) := by decide +kernel
theorem dX9_init_208 : decode cX9_init 208 = .ok (.aload_n 0, 1) := by decide +kernel
theorem dX9_init_209 : decode cX9_init 209 = .ok (.bipush 62, 2) := by decide +kernel
theorem dX9_init_211 : decode cX9_init 211 = .ok (.newarray .int, 2) := by decide +kernel
theorem dX9_init_213 : decode cX9_init 213 = .ok (.putfield 86, 3) := by decide +kernel
theorem dX9_init_216 : decode cX9_init 216 = .ok (.aload_n 0, 1) := by decide +kernel
theorem dX9_init_217 : decode cX9_init 217 = .ok (.bipush 62, 2) := by decide +kernel
theorem dX9_init_219 : decode cX9_init 219 = .ok (.newarray .int, 2) := by decide +kernel
theorem dX9_init_221 : decode cX9_init 221 = .ok (.putfield 89, 3) := by decide +kernel
theorem dX9_init_224 : decode cX9_init 224 = .ok (.aload_n 0, 1) := by decide +kernel
theorem dX9_init_225 : decode cX9_init 225 = .ok (.bipush 62, 2) := by decide +kernel
theorem dX9_init_227 : decode cX9_init 227 = .ok (.newarray .int, 2) := by decide +kernel
theorem dX9_init_229 : decode cX9_init 229 = .ok (.putfield 92, 3) := by decide +kernel
theorem dX9_init_232 : decode cX9_init 232 = .ok (.aload_n 0, 1) := by decide +kernel
theorem dX9_init_233 : decode cX9_init 233 = .ok (.bipush 62, 2) := by decide +kernel
theorem dX9_init_235 : decode cX9_init 235 = .ok (.newarray .int, 2) := by decide +kernel
theorem dX9_init_237 : decode cX9_init 237 = .ok (.putfield 95, 3) := by decide +kernel
theorem dX9_init_240 : decode cX9_init 240 = .ok (.aload_n 0, 1) := by decide +kernel
theorem dX9_init_241 : decode cX9_init 241 = .ok (.iconst 1, 1) := by decide +kernel
theorem dX9_init_242 : decode cX9_init 242 = .ok (.putfield 98, 3) := by decide +kernel
theorem dX9_init_245 : decode cX9_init 245 = .ok (.aload_n 0, 1) := by decide +kernel
theorem dX9_init_246 : decode cX9_init 246 = .ok (.bipush 24, 2) := by decide +kernel
theorem dX9_init_248 : decode cX9_init 248 = .ok (.newarray .int, 2) := by decide +kernel
theorem dX9_init_250 : decode cX9_init 250 = .ok (.putfield 102, 3) := by decide +kernel
theorem dX9_init_253 : decode cX9_init 253 = .ok (.aload_n 0, 1) := by decide +kernel
theorem dX9_init_254 : decode cX9_init 254 = .ok (.sipush 768, 3) := by decide +kernel
theorem dX9_init_257 : decode cX9_init 257 = .ok (.newarray .int, 2) := by decide +kernel
theorem dX9_init_259 : decode cX9_init 259 = .ok (.putfield 105, 3) := by decide +kernel
theorem dX9_init_262 : decode cX9_init 262 = .ok (.aload_n 0, 1) := by decide +kernel
theorem dX9_init_263 : decode cX9_init 263 = .ok (.bipush 32, 2) := by decide +kernel
theorem dX9_init_265 : decode cX9_init 265 = .ok (.newarray .int, 2) := by decide +kernel
theorem dX9_init_267 : decode cX9_init 267 = .ok (.putfield 108, 3) := by decide +kernel
theorem dX9_init_270 : decode cX9_init 270 = .ok (.aload_n 0, 1) := by decide +kernel
theorem dX9_init_271 : decode cX9_init 271 = .ok (.bipush 32, 2) := by decide +kernel
theorem dX9_init_273 : decode cX9_init 273 = .ok (.newarray .int, 2) := by decide +kernel
theorem dX9_init_275 : decode cX9_init 275 = .ok (.putfield 111, 3) := by decide +kernel
theorem dX9_init_278 : decode cX9_init 278 = .ok (.aload_n 0, 1) := by decide +kernel
theorem dX9_init_279 : decode cX9_init 279 = .ok (.bipush 64, 2) := by decide +kernel
theorem dX9_init_281 : decode cX9_init 281 = .ok (.newarray .int, 2) := by decide +kernel
theorem dX9_init_283 : decode cX9_init 283 = .ok (.putfield 114, 3) := by decide +kernel
theorem dX9_init_286 : decode cX9_init 286 = .ok (.aload_n 0, 1) := by decide +kernel
theorem dX9_init_287 : decode cX9_init 287 = .ok (.bipush 64, 2) := by decide +kernel
theorem dX9_init_289 : decode cX9_init 289 = .ok (.newarray .int, 2) := by decide +kernel
theorem dX9_init_291 : decode cX9_init 291 = .ok (.putfield 117, 3) := by decide +kernel
theorem dX9_init_294 : decode cX9_init 294 = .ok (.aload_n 0, 1) := by decide +kernel
theorem dX9_init_295 : decode cX9_init 295 = .ok (.bipush 61, 2) := by decide +kernel
theorem dX9_init_297 : decode cX9_init 297 = .ok (.newarray .boolean, 2) := by decide +kernel
theorem dX9_init_299 : decode cX9_init 299 = .ok (.putfield 120, 3) := by decide +kernel
theorem dX9_init_302 : decode cX9_init 302 = .ok (.aload_n 0, 1) := by decide +kernel
theorem dX9_init_303 : decode cX9_init 303 = .ok (.bipush 6, 2) := by decide +kernel
theorem dX9_init_305 : decode cX9_init 305 = .ok (.newarray .boolean, 2) := by decide +kernel
theorem dX9_init_307 : decode cX9_init 307 = .ok (.putfield 123, 3) := by decide +kernel
theorem dX9_init_310 : decode cX9_init 310 = .ok (.aload_n 0, 1) := by decide +kernel
theorem dX9_init_311 : decode cX9_init 311 = .ok (.bipush 60, 2) := by decide +kernel
theorem dX9_init_313 : decode cX9_init 313 = .ok (.newarray .int, 2) := by decide +kernel
theorem dX9_init_315 : decode cX9_init 315 = .ok (.putfield 126, 3) := by decide +kernel
theorem dX9_init_318 : decode cX9_init 318 = .ok (.aload_n 0, 1) := by decide +kernel
theorem dX9_init_319 : decode cX9_init 319 = .ok (.bipush 60, 2) := by decide +kernel
theorem dX9_init_321 : decode cX9_init 321 = .ok (.newarray .int, 2) := by decide +kernel
theorem dX9_init_323 : decode cX9_init 323 = .ok (.putfield 129, 3) := by decide +kernel
theorem dX9_init_326 : decode cX9_init 326 = .ok (.aload_n 0, 1) := by decide +kernel
theorem dX9_init_327 : decode cX9_init 327 = .ok (.bipush 60, 2) := by decide +kernel
theorem dX9_init_329 : decode cX9_init 329 = .ok (.newarray .int, 2) := by decide +kernel
theorem dX9_init_331 : decode cX9_init 331 = .ok (.putfield 132, 3) := by decide +kernel
theorem dX9_init_334 : decode cX9_init 334 = .ok (.aload_n 0, 1) := by decide +kernel
theorem dX9_init_335 : decode cX9_init 335 = .ok (.bipush 60, 2) := by decide +kernel
theorem dX9_init_337 : decode cX9_init 337 = .ok (.newarray .int, 2) := by decide +kernel
theorem dX9_init_339 : decode cX9_init 339 = .ok (.putfield 135, 3) := by decide +kernel
theorem dX9_init_342 : decode cX9_init 342 = .ok (.aload_n 0, 1) := by decide +kernel
theorem dX9_init_343 : decode cX9_init 343 = .ok (.bipush 60, 2) := by decide +kernel
theorem dX9_init_345 : decode cX9_init 345 = .ok (.newarray .int, 2) := by decide +kernel
theorem dX9_init_347 : decode cX9_init 347 = .ok (.putfield 138, 3) := by decide +kernel
theorem dX9_init_350 : decode cX9_init 350 = .ok (.return_, 1) := by decide +kernel
theorem dX9_isText_0 : decode cX9_isText 0 = .ok (.iload_n 0, 1) := by decide +kernel
theorem dX9_isText_1 : decode cX9_isText 1 = .ok (.bipush 97, 2) := by decide +kernel
theorem dX9_isText_3 : decode cX9_isText 3 = .ok (.if_icmp .lt 9, 3) := by decide +kernel
theorem dX9_isText_6 : decode cX9_isText 6 = .ok (.iload_n 0, 1) := by decide +kernel
theorem dX9_isText_7 : decode cX9_isText 7 = .ok (.bipush 122, 2) := by decide +kernel
theorem dX9_isText_9 : decode cX9_isText 9 = .ok (.if_icmp .le 45, 3) := by decide +kernel
theorem dX9_isText_12 : decode cX9_isText 12 = .ok (.iload_n 0, 1) := by decide +kernel
theorem dX9_isText_13 : decode cX9_isText 13 = .ok (.bipush 48, 2) := by decide +kernel
theorem dX9_isText_15 : decode cX9_isText 15 = .ok (.if_icmp .lt 9, 3) := by decide +kernel
theorem dX9_isText_18 : decode cX9_isText 18 = .ok (.iload_n 0, 1) := by decide +kernel
theorem dX9_isText_19 : decode cX9_isText 19 = .ok (.bipush 57, 2) := by decide +kernel
theorem dX9_isText_21 : decode cX9_isText 21 = .ok (.if_icmp .le 33, 3) := by decide +kernel
theorem dX9_isText_24 : decode cX9_isText 24 = .ok (.iload_n 0, 1) := by decide +kernel
theorem dX9_isText_25 : decode cX9_isText 25 = .ok (.bipush 32, 2) := by decide +kernel
theorem dX9_isText_27 : decode cX9_isText 27 = .ok (.if_icmp .eq 27, 3) := by decide +kernel
theorem dX9_isText_30 : decode cX9_isText 30 = .ok (.iload_n 0, 1) := by decide +kernel
theorem dX9_isText_31 : decode cX9_isText 31 = .ok (.bipush 44, 2) := by decide +kernel
theorem dX9_isText_33 : decode cX9_isText 33 = .ok (.if_icmp .eq 21, 3) := by decide +kernel
theorem dX9_isText_36 : decode cX9_isText 36 = .ok (.iload_n 0, 1) := by decide +kernel
theorem dX9_isText_37 : decode cX9_isText 37 = .ok (.bipush 45, 2) := by decide +kernel
theorem dX9_isText_39 : decode cX9_isText 39 = .ok (.if_icmp .eq 15, 3) := by decide +kernel
theorem dX9_isText_42 : decode cX9_isText 42 = .ok (.iload_n 0, 1) := by decide +kernel
theorem dX9_isText_43 : decode cX9_isText 43 = .ok (.bipush 40, 2) := by decide +kernel
theorem dX9_isText_45 : decode cX9_isText 45 = .ok (.if_icmp .eq 9, 3) := by decide +kernel
theorem dX9_isText_48 : decode cX9_isText 48 = .ok (.iload_n 0, 1) := by decide +kernel
theorem dX9_isText_49 : decode cX9_isText 49 = .ok (.bipush 41, 2) := by decide +kernel
theorem dX9_isText_51 : decode cX9_isText 51 = .ok (.if_icmp .ne 7, 3) := by decide +kernel
theorem dX9_isText_54 : decode cX9_isText 54 = .ok (.iconst 1, 1) := by decide +kernel
theorem dX9_isText_55 : decode cX9_isText 55 = .ok (.goto 4, 3) := by decide +kernel
theorem dX9_isText_58 : decode cX9_isText 58 = .ok (.iconst 0, 1) := by decide +kernel
theorem dX9_isText_59 : decode cX9_isText 59 = .ok (.ireturn, 1) := by decide +kernel
theorem dX9_isName_0 : decode cX9_isName 0 = .ok (.iload_n 0, 1) := by decide +kernel
theorem dX9_isName_1 : decode cX9_isName 1 = .ok (.bipush 65, 2) := by decide +kernel
theorem dX9_isName_3 : decode cX9_isName 3 = .ok (.if_icmp .lt 13, 3) := by decide +kernel
theorem dX9_isName_6 : decode cX9_isName 6 = .ok (.iload_n 0, 1) := by decide +kernel
theorem dX9_isName_7 : decode cX9_isName 7 = .ok (.bipush 70, 2) := by decide +kernel
theorem dX9_isName_9 : decode cX9_isName 9 = .ok (.if_icmp .gt 7, 3) := by decide +kernel
theorem dX9_isName_12 : decode cX9_isName 12 = .ok (.iconst 1, 1) := by decide +kernel
theorem dX9_isName_13 : decode cX9_isName 13 = .ok (.goto 4, 3) := by decide +kernel
theorem dX9_isName_16 : decode cX9_isName 16 = .ok (.iconst 0, 1) := by decide +kernel
theorem dX9_isName_17 : decode cX9_isName 17 = .ok (.ireturn, 1) := by decide +kernel
theorem dX9_type_0 : decode cX9_type 0 = .ok (.iload_n 1, 1) := by decide +kernel
theorem dX9_type_1 : decode cX9_type 1 = .ok (.invokestatic 141, 3) := by decide +kernel
theorem dX9_type_4 : decode cX9_type 4 = .ok (.ifCond .eq 12, 3) := by decide +kernel
theorem dX9_type_7 : decode cX9_type 7 = .ok (.aload_n 0, 1) := by decide +kernel
theorem dX9_type_8 : decode cX9_type 8 = .ok (.getfield 145, 3) := by decide +kernel
theorem dX9_type_11 : decode cX9_type 11 = .ok (.bipush 32, 2) := by decide +kernel
theorem dX9_type_13 : decode cX9_type 13 = .ok (.if_icmp .ne 5, 3) := by decide +kernel
theorem dX9_type_16 : decode cX9_type 16 = .ok (.iconst 0, 1) := by decide +kernel
theorem dX9_type_17 : decode cX9_type 17 = .ok (.ireturn, 1) := by decide +kernel
theorem dX9_type_18 : decode cX9_type 18 = .ok (.aload_n 0, 1) := by decide +kernel
theorem dX9_type_19 : decode cX9_type 19 = .ok (.getfield 7, 3) := by decide +kernel
theorem dX9_type_22 : decode cX9_type 22 = .ok (.aload_n 0, 1) := by decide +kernel
theorem dX9_type_23 : decode cX9_type 23 = .ok (.getfield 145, 3) := by decide +kernel
theorem dX9_type_26 : decode cX9_type 26 = .ok (.iload_n 1, 1) := by decide +kernel
theorem dX9_type_27 : decode cX9_type 27 = .ok (.iastore, 1) := by decide +kernel
theorem dX9_type_28 : decode cX9_type 28 = .ok (.aload_n 0, 1) := by decide +kernel
theorem dX9_type_29 : decode cX9_type 29 = .ok (.dup, 1) := by decide +kernel
theorem dX9_type_30 : decode cX9_type 30 = .ok (.getfield 145, 3) := by decide +kernel
theorem dX9_type_33 : decode cX9_type 33 = .ok (.iconst 1, 1) := by decide +kernel
theorem dX9_type_34 : decode cX9_type 34 = .ok (.iadd, 1) := by decide +kernel
theorem dX9_type_35 : decode cX9_type 35 = .ok (.putfield 145, 3) := by decide +kernel
theorem dX9_type_38 : decode cX9_type 38 = .ok (.iconst 1, 1) := by decide +kernel
theorem dX9_type_39 : decode cX9_type 39 = .ok (.ireturn, 1) := by decide +kernel
theorem dX9_clear_0 : decode cX9_clear 0 = .ok (.aload_n 0, 1) := by decide +kernel
theorem dX9_clear_1 : decode cX9_clear 1 = .ok (.iconst 0, 1) := by decide +kernel
theorem dX9_clear_2 : decode cX9_clear 2 = .ok (.putfield 145, 3) := by decide +kernel
theorem dX9_clear_5 : decode cX9_clear 5 = .ok (.return_, 1) := by decide +kernel
theorem dX9_write_0 : decode cX9_write 0 = .ok (.iload_n 1, 1) := by decide +kernel
theorem dX9_write_1 : decode cX9_write 1 = .ok (.invokestatic 141, 3) := by decide +kernel
theorem dX9_write_4 : decode cX9_write 4 = .ok (.ifCond .ne 46, 3) := by decide +kernel
theorem dX9_write_7 : decode cX9_write 7 = .ok (.iload_n 1, 1) := by decide +kernel
theorem dX9_write_8 : decode cX9_write 8 = .ok (.invokestatic 149, 3) := by decide +kernel
theorem dX9_write_11 : decode cX9_write 11 = .ok (.ifCond .ne 39, 3) := by decide +kernel
theorem dX9_write_14 : decode cX9_write 14 = .ok (.iload_n 1, 1) := by decide +kernel
theorem dX9_write_15 : decode cX9_write 15 = .ok (.bipush 61, 2) := by decide +kernel
theorem dX9_write_17 : decode cX9_write 17 = .ok (.if_icmp .eq 33, 3) := by decide +kernel
theorem dX9_write_20 : decode cX9_write 20 = .ok (.iload_n 1, 1) := by decide +kernel
end
section
theorem dX9_write_21 : decode cX9_write 21 = .ok (.bipush 47, 2) := by decide +kernel
theorem dX9_write_23 : decode cX9_write 23 = .ok (.if_icmp .eq 27, 3) := by decide +kernel
theorem dX9_write_26 : decode cX9_write 26 = .ok (.iload_n 1, 1) := by decide +kernel
theorem dX9_write_27 : decode cX9_write 27 = .ok (.bipush 59, 2) := by decide +kernel
theorem dX9_write_29 : decode cX9_write 29 = .ok (.if_icmp .eq 21, 3) := by decide +kernel
theorem dX9_write_32 : decode cX9_write 32 = .ok (.iload_n 1, 1) := by decide +kernel
theorem dX9_write_33 : decode cX9_write 33 = .ok (.bipush 63, 2) := by decide +kernel
theorem dX9_write_35 : decode cX9_write 35 = .ok (.if_icmp .eq 15, 3) := by decide +kernel
theorem dX9_write_38 : decode cX9_write 38 = .ok (.iload_n 1, 1) := by decide +kernel
theorem dX9_write_39 : decode cX9_write 39 = .ok (.bipush 42, 2) := by decide +kernel
theorem dX9_write_41 : decode cX9_write 41 = .ok (.if_icmp .eq 9, 3) := by decide +kernel
theorem dX9_write_44 : decode cX9_write 44 = .ok (.iload_n 1, 1) := by decide +kernel
theorem dX9_write_45 : decode cX9_write 45 = .ok (.bipush 43, 2) := by decide +kernel
theorem dX9_write_47 : decode cX9_write 47 = .ok (.if_icmp .ne 7, 3) := by decide +kernel
theorem dX9_write_50 : decode cX9_write 50 = .ok (.iconst 1, 1) := by decide +kernel
theorem dX9_write_51 : decode cX9_write 51 = .ok (.goto 4, 3) := by decide +kernel
theorem dX9_write_54 : decode cX9_write 54 = .ok (.iconst 0, 1) := by decide +kernel
theorem dX9_write_55 : decode cX9_write 55 = .ok (.istore_n 2, 1) := by decide +kernel
theorem dX9_write_56 : decode cX9_write 56 = .ok (.iload_n 2, 1) := by decide +kernel
theorem dX9_write_57 : decode cX9_write 57 = .ok (.ifCond .eq 12, 3) := by decide +kernel
theorem dX9_write_60 : decode cX9_write 60 = .ok (.aload_n 0, 1) := by decide +kernel
theorem dX9_write_61 : decode cX9_write 61 = .ok (.getfield 152, 3) := by decide +kernel
theorem dX9_write_64 : decode cX9_write 64 = .ok (.bipush 60, 2) := by decide +kernel
theorem dX9_write_66 : decode cX9_write 66 = .ok (.if_icmp .ne 5, 3) := by decide +kernel
theorem dX9_write_69 : decode cX9_write 69 = .ok (.iconst 0, 1) := by decide +kernel
theorem dX9_write_70 : decode cX9_write 70 = .ok (.ireturn, 1) := by decide +kernel
theorem dX9_write_71 : decode cX9_write 71 = .ok (.aload_n 0, 1) := by decide +kernel
theorem dX9_write_72 : decode cX9_write 72 = .ok (.getfield 13, 3) := by decide +kernel
theorem dX9_write_75 : decode cX9_write 75 = .ok (.aload_n 0, 1) := by decide +kernel
theorem dX9_write_76 : decode cX9_write 76 = .ok (.getfield 152, 3) := by decide +kernel
theorem dX9_write_79 : decode cX9_write 79 = .ok (.iload_n 1, 1) := by decide +kernel
theorem dX9_write_80 : decode cX9_write 80 = .ok (.iastore, 1) := by decide +kernel
theorem dX9_write_81 : decode cX9_write 81 = .ok (.aload_n 0, 1) := by decide +kernel
theorem dX9_write_82 : decode cX9_write 82 = .ok (.dup, 1) := by decide +kernel
theorem dX9_write_83 : decode cX9_write 83 = .ok (.getfield 152, 3) := by decide +kernel
theorem dX9_write_86 : decode cX9_write 86 = .ok (.iconst 1, 1) := by decide +kernel
theorem dX9_write_87 : decode cX9_write 87 = .ok (.iadd, 1) := by decide +kernel
theorem dX9_write_88 : decode cX9_write 88 = .ok (.putfield 152, 3) := by decide +kernel
theorem dX9_write_91 : decode cX9_write 91 = .ok (.iconst 1, 1) := by decide +kernel
theorem dX9_write_92 : decode cX9_write 92 = .ok (.ireturn, 1) := by decide +kernel
theorem dX9_push_0 : decode cX9_push 0 = .ok (.aload_n 0, 1) := by decide +kernel
theorem dX9_push_1 : decode cX9_push 1 = .ok (.getfield 22, 3) := by decide +kernel
theorem dX9_push_4 : decode cX9_push 4 = .ok (.bipush 64, 2) := by decide +kernel
theorem dX9_push_6 : decode cX9_push 6 = .ok (.aload_n 0, 1) := by decide +kernel
theorem dX9_push_7 : decode cX9_push 7 = .ok (.getfield 155, 3) := by decide +kernel
theorem dX9_push_10 : decode cX9_push 10 = .ok (.imul, 1) := by decide +kernel
theorem dX9_push_11 : decode cX9_push 11 = .ok (.iload_n 1, 1) := by decide +kernel
theorem dX9_push_12 : decode cX9_push 12 = .ok (.iastore, 1) := by decide +kernel
theorem dX9_push_13 : decode cX9_push 13 = .ok (.aload_n 0, 1) := by decide +kernel
theorem dX9_push_14 : decode cX9_push 14 = .ok (.getfield 25, 3) := by decide +kernel
theorem dX9_push_17 : decode cX9_push 17 = .ok (.bipush 64, 2) := by decide +kernel
theorem dX9_push_19 : decode cX9_push 19 = .ok (.aload_n 0, 1) := by decide +kernel
theorem dX9_push_20 : decode cX9_push 20 = .ok (.getfield 155, 3) := by decide +kernel
theorem dX9_push_23 : decode cX9_push 23 = .ok (.imul, 1) := by decide +kernel
theorem dX9_push_24 : decode cX9_push 24 = .ok (.iload_n 2, 1) := by decide +kernel
theorem dX9_push_25 : decode cX9_push 25 = .ok (.iastore, 1) := by decide +kernel
theorem dX9_push_26 : decode cX9_push 26 = .ok (.aload_n 0, 1) := by decide +kernel
theorem dX9_push_27 : decode cX9_push 27 = .ok (.getfield 28, 3) := by decide +kernel
theorem dX9_push_30 : decode cX9_push 30 = .ok (.bipush 64, 2) := by decide +kernel
theorem dX9_push_32 : decode cX9_push 32 = .ok (.aload_n 0, 1) := by decide +kernel
theorem dX9_push_33 : decode cX9_push 33 = .ok (.getfield 155, 3) := by decide +kernel
theorem dX9_push_36 : decode cX9_push 36 = .ok (.imul, 1) := by decide +kernel
theorem dX9_push_37 : decode cX9_push 37 = .ok (.iload_n 3, 1) := by decide +kernel
theorem dX9_push_38 : decode cX9_push 38 = .ok (.iastore, 1) := by decide +kernel
theorem dX9_push_39 : decode cX9_push 39 = .ok (.aload_n 0, 1) := by decide +kernel
theorem dX9_push_40 : decode cX9_push 40 = .ok (.getfield 16, 3) := by decide +kernel
theorem dX9_push_43 : decode cX9_push 43 = .ok (.aload_n 0, 1) := by decide +kernel
theorem dX9_push_44 : decode cX9_push 44 = .ok (.getfield 155, 3) := by decide +kernel
theorem dX9_push_47 : decode cX9_push 47 = .ok (.iconst 1, 1) := by decide +kernel
theorem dX9_push_48 : decode cX9_push 48 = .ok (.iastore, 1) := by decide +kernel
theorem dX9_push_49 : decode cX9_push 49 = .ok (.aload_n 0, 1) := by decide +kernel
theorem dX9_push_50 : decode cX9_push 50 = .ok (.getfield 19, 3) := by decide +kernel
theorem dX9_push_53 : decode cX9_push 53 = .ok (.aload_n 0, 1) := by decide +kernel
theorem dX9_push_54 : decode cX9_push 54 = .ok (.getfield 155, 3) := by decide +kernel
theorem dX9_push_57 : decode cX9_push 57 = .ok (.iconst 1, 1) := by decide +kernel
theorem dX9_push_58 : decode cX9_push 58 = .ok (.iastore, 1) := by decide +kernel
theorem dX9_push_59 : decode cX9_push 59 = .ok (.aload_n 0, 1) := by decide +kernel
theorem dX9_push_60 : decode cX9_push 60 = .ok (.dup, 1) := by decide +kernel
theorem dX9_push_61 : decode cX9_push 61 = .ok (.getfield 155, 3) := by decide +kernel
theorem dX9_push_64 : decode cX9_push 64 = .ok (.iconst 1, 1) := by decide +kernel
theorem dX9_push_65 : decode cX9_push 65 = .ok (.iadd, 1) := by decide +kernel
theorem dX9_push_66 : decode cX9_push 66 = .ok (.putfield 155, 3) := by decide +kernel
theorem dX9_push_69 : decode cX9_push 69 = .ok (.return_, 1) := by decide +kernel
theorem dX9_has_0 : decode cX9_has 0 = .ok (.iload_n 1, 1) := by decide +kernel
theorem dX9_has_1 : decode cX9_has 1 = .ok (.invokestatic 141, 3) := by decide +kernel
theorem dX9_has_4 : decode cX9_has 4 = .ok (.ifCond .eq 23, 3) := by decide +kernel
theorem dX9_has_7 : decode cX9_has 7 = .ok (.iload_n 2, 1) := by decide +kernel
theorem dX9_has_8 : decode cX9_has 8 = .ok (.iconst 1, 1) := by decide +kernel
theorem dX9_has_9 : decode cX9_has 9 = .ok (.if_icmp .lt 18, 3) := by decide +kernel
theorem dX9_has_12 : decode cX9_has 12 = .ok (.iload_n 2, 1) := by decide +kernel
theorem dX9_has_13 : decode cX9_has 13 = .ok (.bipush 9, 2) := by decide +kernel
theorem dX9_has_15 : decode cX9_has 15 = .ok (.if_icmp .gt 12, 3) := by decide +kernel
theorem dX9_has_18 : decode cX9_has 18 = .ok (.aload_n 0, 1) := by decide +kernel
theorem dX9_has_19 : decode cX9_has 19 = .ok (.getfield 155, 3) := by decide +kernel
theorem dX9_has_22 : decode cX9_has 22 = .ok (.bipush 6, 2) := by decide +kernel
theorem dX9_has_24 : decode cX9_has 24 = .ok (.if_icmp .ne 5, 3) := by decide +kernel
theorem dX9_has_27 : decode cX9_has 27 = .ok (.iconst 0, 1) := by decide +kernel
theorem dX9_has_28 : decode cX9_has 28 = .ok (.ireturn, 1) := by decide +kernel
theorem dX9_has_29 : decode cX9_has 29 = .ok (.aload_n 0, 1) := by decide +kernel
theorem dX9_has_30 : decode cX9_has 30 = .ok (.iconst 0, 1) := by decide +kernel
theorem dX9_has_31 : decode cX9_has 31 = .ok (.iload_n 1, 1) := by decide +kernel
theorem dX9_has_32 : decode cX9_has 32 = .ok (.iload_n 2, 1) := by decide +kernel
theorem dX9_has_33 : decode cX9_has 33 = .ok (.invokevirtual 158, 3) := by decide +kernel
theorem dX9_has_36 : decode cX9_has 36 = .ok (.iconst 1, 1) := by decide +kernel
theorem dX9_has_37 : decode cX9_has 37 = .ok (.ireturn, 1) := by decide +kernel
theorem dX9_pair_0 : decode cX9_pair 0 = .ok (.iload_n 1, 1) := by decide +kernel
theorem dX9_pair_1 : decode cX9_pair 1 = .ok (.invokestatic 141, 3) := by decide +kernel
theorem dX9_pair_4 : decode cX9_pair 4 = .ok (.ifCond .eq 19, 3) := by decide +kernel
theorem dX9_pair_7 : decode cX9_pair 7 = .ok (.iload_n 2, 1) := by decide +kernel
theorem dX9_pair_8 : decode cX9_pair 8 = .ok (.invokestatic 141, 3) := by decide +kernel
theorem dX9_pair_11 : decode cX9_pair 11 = .ok (.ifCond .eq 12, 3) := by decide +kernel
theorem dX9_pair_14 : decode cX9_pair 14 = .ok (.aload_n 0, 1) := by decide +kernel
theorem dX9_pair_15 : decode cX9_pair 15 = .ok (.getfield 155, 3) := by decide +kernel
theorem dX9_pair_18 : decode cX9_pair 18 = .ok (.bipush 6, 2) := by decide +kernel
theorem dX9_pair_20 : decode cX9_pair 20 = .ok (.if_icmp .ne 5, 3) := by decide +kernel
theorem dX9_pair_23 : decode cX9_pair 23 = .ok (.iconst 0, 1) := by decide +kernel
theorem dX9_pair_24 : decode cX9_pair 24 = .ok (.ireturn, 1) := by decide +kernel
theorem dX9_pair_25 : decode cX9_pair 25 = .ok (.aload_n 0, 1) := by decide +kernel
theorem dX9_pair_26 : decode cX9_pair 26 = .ok (.iload_n 3, 1) := by decide +kernel
theorem dX9_pair_27 : decode cX9_pair 27 = .ok (.ifCond .eq 7, 3) := by decide +kernel
theorem dX9_pair_30 : decode cX9_pair 30 = .ok (.iconst 2, 1) := by decide +kernel
theorem dX9_pair_31 : decode cX9_pair 31 = .ok (.goto 4, 3) := by decide +kernel
theorem dX9_pair_34 : decode cX9_pair 34 = .ok (.iconst 1, 1) := by decide +kernel
theorem dX9_pair_35 : decode cX9_pair 35 = .ok (.iload_n 1, 1) := by decide +kernel
theorem dX9_pair_36 : decode cX9_pair 36 = .ok (.iload_n 2, 1) := by decide +kernel
theorem dX9_pair_37 : decode cX9_pair 37 = .ok (.invokevirtual 158, 3) := by decide +kernel
theorem dX9_pair_40 : decode cX9_pair 40 = .ok (.iconst 1, 1) := by decide +kernel
theorem dX9_pair_41 : decode cX9_pair 41 = .ok (.ireturn, 1) := by decide +kernel
theorem dX9_size_0 : decode cX9_size 0 = .ok (.iload_n 1, 1) := by decide +kernel
theorem dX9_size_1 : decode cX9_size 1 = .ok (.iconst (-1), 1) := by decide +kernel
theorem dX9_size_2 : decode cX9_size 2 = .ok (.if_icmp .lt 18, 3) := by decide +kernel
theorem dX9_size_5 : decode cX9_size 5 = .ok (.iload_n 1, 1) := by decide +kernel
theorem dX9_size_6 : decode cX9_size 6 = .ok (.bipush 32, 2) := by decide +kernel
theorem dX9_size_8 : decode cX9_size 8 = .ok (.if_icmp .gt 12, 3) := by decide +kernel
theorem dX9_size_11 : decode cX9_size 11 = .ok (.aload_n 0, 1) := by decide +kernel
theorem dX9_size_12 : decode cX9_size 12 = .ok (.getfield 155, 3) := by decide +kernel
theorem dX9_size_15 : decode cX9_size 15 = .ok (.bipush 6, 2) := by decide +kernel
theorem dX9_size_17 : decode cX9_size 17 = .ok (.if_icmp .ne 5, 3) := by decide +kernel
theorem dX9_size_20 : decode cX9_size 20 = .ok (.iconst 0, 1) := by decide +kernel
theorem dX9_size_21 : decode cX9_size 21 = .ok (.ireturn, 1) := by decide +kernel
theorem dX9_size_22 : decode cX9_size 22 = .ok (.aload_n 0, 1) := by decide +kernel
theorem dX9_size_23 : decode cX9_size 23 = .ok (.iload_n 1, 1) := by decide +kernel
theorem dX9_size_24 : decode cX9_size 24 = .ok (.ifCond .ge 7, 3) := by decide +kernel
theorem dX9_size_27 : decode cX9_size 27 = .ok (.iconst 4, 1) := by decide +kernel
theorem dX9_size_28 : decode cX9_size 28 = .ok (.goto 4, 3) := by decide +kernel
theorem dX9_size_31 : decode cX9_size 31 = .ok (.iconst 3, 1) := by decide +kernel
theorem dX9_size_32 : decode cX9_size 32 = .ok (.iload_n 1, 1) := by decide +kernel
theorem dX9_size_33 : decode cX9_size 33 = .ok (.iconst 0, 1) := by decide +kernel
theorem dX9_size_34 : decode cX9_size 34 = .ok (.invokevirtual 158, 3) := by decide +kernel
theorem dX9_size_37 : decode cX9_size 37 = .ok (.iconst 1, 1) := by decide +kernel
theorem dX9_size_38 : decode cX9_size 38 = .ok (.ireturn, 1) := by decide +kernel
theorem dX9_copyStep_0 : decode cX9_copyStep 0 = .ok (.aload_n 0, 1) := by decide +kernel
theorem dX9_copyStep_1 : decode cX9_copyStep 1 = .ok (.getfield 22, 3) := by decide +kernel
theorem dX9_copyStep_4 : decode cX9_copyStep 4 = .ok (.iload_n 2, 1) := by decide +kernel
theorem dX9_copyStep_5 : decode cX9_copyStep 5 = .ok (.aload_n 0, 1) := by decide +kernel
theorem dX9_copyStep_6 : decode cX9_copyStep 6 = .ok (.getfield 22, 3) := by decide +kernel
theorem dX9_copyStep_9 : decode cX9_copyStep 9 = .ok (.iload_n 1, 1) := by decide +kernel
theorem dX9_copyStep_10 : decode cX9_copyStep 10 = .ok (.iaload, 1) := by decide +kernel
theorem dX9_copyStep_11 : decode cX9_copyStep 11 = .ok (.iastore, 1) := by decide +kernel
theorem dX9_copyStep_12 : decode cX9_copyStep 12 = .ok (.aload_n 0, 1) := by decide +kernel
theorem dX9_copyStep_13 : decode cX9_copyStep 13 = .ok (.getfield 25, 3) := by decide +kernel
theorem dX9_copyStep_16 : decode cX9_copyStep 16 = .ok (.iload_n 2, 1) := by decide +kernel
theorem dX9_copyStep_17 : decode cX9_copyStep 17 = .ok (.aload_n 0, 1) := by decide +kernel
theorem dX9_copyStep_18 : decode cX9_copyStep 18 = .ok (.getfield 25, 3) := by decide +kernel
theorem dX9_copyStep_21 : decode cX9_copyStep 21 = .ok (.iload_n 1, 1) := by decide +kernel
theorem dX9_copyStep_22 : decode cX9_copyStep 22 = .ok (.iaload, 1) := by decide +kernel
theorem dX9_copyStep_23 : decode cX9_copyStep 23 = .ok (.iastore, 1) := by decide +kernel
theorem dX9_copyStep_24 : decode cX9_copyStep 24 = .ok (.aload_n 0, 1) := by decide +kernel
theorem dX9_copyStep_25 : decode cX9_copyStep 25 = .ok (.getfield 28, 3) := by decide +kernel
theorem dX9_copyStep_28 : decode cX9_copyStep 28 = .ok (.iload_n 2, 1) := by decide +kernel
theorem dX9_copyStep_29 : decode cX9_copyStep 29 = .ok (.aload_n 0, 1) := by decide +kernel
theorem dX9_copyStep_30 : decode cX9_copyStep 30 = .ok (.getfield 28, 3) := by decide +kernel
theorem dX9_copyStep_33 : decode cX9_copyStep 33 = .ok (.iload_n 1, 1) := by decide +kernel
theorem dX9_copyStep_34 : decode cX9_copyStep 34 = .ok (.iaload, 1) := by decide +kernel
theorem dX9_copyStep_35 : decode cX9_copyStep 35 = .ok (.iastore, 1) := by decide +kernel
theorem dX9_copyStep_36 : decode cX9_copyStep 36 = .ok (.return_, 1) := by decide +kernel
theorem dX9_not_0 : decode cX9_not 0 = .ok (.aload_n 0, 1) := by decide +kernel
theorem dX9_not_1 : decode cX9_not 1 = .ok (.getfield 155, 3) := by decide +kernel
theorem dX9_not_4 : decode cX9_not 4 = .ok (.ifCond .eq 19, 3) := by decide +kernel
theorem dX9_not_7 : decode cX9_not 7 = .ok (.aload_n 0, 1) := by decide +kernel
theorem dX9_not_8 : decode cX9_not 8 = .ok (.getfield 19, 3) := by decide +kernel
theorem dX9_not_11 : decode cX9_not 11 = .ok (.aload_n 0, 1) := by decide +kernel
theorem dX9_not_12 : decode cX9_not 12 = .ok (.getfield 155, 3) := by decide +kernel
theorem dX9_not_15 : decode cX9_not 15 = .ok (.iconst 1, 1) := by decide +kernel
theorem dX9_not_16 : decode cX9_not 16 = .ok (.isub, 1) := by decide +kernel
theorem dX9_not_17 : decode cX9_not 17 = .ok (.iaload, 1) := by decide +kernel
theorem dX9_not_18 : decode cX9_not 18 = .ok (.bipush 6, 2) := by decide +kernel
theorem dX9_not_20 : decode cX9_not 20 = .ok (.if_icmp .ne 5, 3) := by decide +kernel
theorem dX9_not_23 : decode cX9_not 23 = .ok (.iconst 0, 1) := by decide +kernel
theorem dX9_not_24 : decode cX9_not 24 = .ok (.ireturn, 1) := by decide +kernel
theorem dX9_not_25 : decode cX9_not 25 = .ok (.aload_n 0, 1) := by decide +kernel
theorem dX9_not_26 : decode cX9_not 26 = .ok (.getfield 155, 3) := by decide +kernel
theorem dX9_not_29 : decode cX9_not 29 = .ok (.iconst 1, 1) := by decide +kernel
theorem dX9_not_30 : decode cX9_not 30 = .ok (.isub, 1) := by decide +kernel
theorem dX9_not_31 : decode cX9_not 31 = .ok (.istore_n 1, 1) := by decide +kernel
theorem dX9_not_32 : decode cX9_not 32 = .ok (.aload_n 0, 1) := by decide +kernel
theorem dX9_not_33 : decode cX9_not 33 = .ok (.getfield 22, 3) := by decide +kernel
theorem dX9_not_36 : decode cX9_not 36 = .ok (.bipush 64, 2) := by decide +kernel
theorem dX9_not_38 : decode cX9_not 38 = .ok (.iload_n 1, 1) := by decide +kernel
theorem dX9_not_39 : decode cX9_not 39 = .ok (.imul, 1) := by decide +kernel
theorem dX9_not_40 : decode cX9_not 40 = .ok (.aload_n 0, 1) := by decide +kernel
theorem dX9_not_41 : decode cX9_not 41 = .ok (.getfield 16, 3) := by decide +kernel
theorem dX9_not_44 : decode cX9_not 44 = .ok (.iload_n 1, 1) := by decide +kernel
theorem dX9_not_45 : decode cX9_not 45 = .ok (.iaload, 1) := by decide +kernel
theorem dX9_not_46 : decode cX9_not 46 = .ok (.iadd, 1) := by decide +kernel
theorem dX9_not_47 : decode cX9_not 47 = .ok (.iconst 5, 1) := by decide +kernel
theorem dX9_not_48 : decode cX9_not 48 = .ok (.iastore, 1) := by decide +kernel
theorem dX9_not_49 : decode cX9_not 49 = .ok (.aload_n 0, 1) := by decide +kernel
theorem dX9_not_50 : decode cX9_not 50 = .ok (.getfield 16, 3) := by decide +kernel
theorem dX9_not_53 : decode cX9_not 53 = .ok (.iload_n 1, 1) := by decide +kernel
theorem dX9_not_54 : decode cX9_not 54 = .ok (.dup2, 1) := by decide +kernel
theorem dX9_not_55 : decode cX9_not 55 = .ok (.iaload, 1) := by decide +kernel
theorem dX9_not_56 : decode cX9_not 56 = .ok (.iconst 1, 1) := by decide +kernel
theorem dX9_not_57 : decode cX9_not 57 = .ok (.iadd, 1) := by decide +kernel
theorem dX9_not_58 : decode cX9_not 58 = .ok (.iastore, 1) := by decide +kernel
theorem dX9_not_59 : decode cX9_not 59 = .ok (.aload_n 0, 1) := by decide +kernel
theorem dX9_not_60 : decode cX9_not 60 = .ok (.getfield 19, 3) := by decide +kernel
theorem dX9_not_63 : decode cX9_not 63 = .ok (.iload_n 1, 1) := by decide +kernel
theorem dX9_not_64 : decode cX9_not 64 = .ok (.dup2, 1) := by decide +kernel
theorem dX9_not_65 : decode cX9_not 65 = .ok (.iaload, 1) := by decide +kernel
theorem dX9_not_66 : decode cX9_not 66 = .ok (.iconst 1, 1) := by decide +kernel
theorem dX9_not_67 : decode cX9_not 67 = .ok (.iadd, 1) := by decide +kernel
theorem dX9_not_68 : decode cX9_not 68 = .ok (.iastore, 1) := by decide +kernel
theorem dX9_not_69 : decode cX9_not 69 = .ok (.iconst 1, 1) := by decide +kernel
theorem dX9_not_70 : decode cX9_not 70 = .ok (.ireturn, 1) := by decide +kernel
theorem dX9_join_0 : decode cX9_join 0 = .ok (.aload_n 0, 1) := by decide +kernel
theorem dX9_join_1 : decode cX9_join 1 = .ok (.getfield 155, 3) := by decide +kernel
theorem dX9_join_4 : decode cX9_join 4 = .ok (.iconst 2, 1) := by decide +kernel
theorem dX9_join_5 : decode cX9_join 5 = .ok (.if_icmp .ge 5, 3) := by decide +kernel
theorem dX9_join_8 : decode cX9_join 8 = .ok (.iconst 0, 1) := by decide +kernel
theorem dX9_join_9 : decode cX9_join 9 = .ok (.ireturn, 1) := by decide +kernel
theorem dX9_join_10 : decode cX9_join 10 = .ok (.aload_n 0, 1) := by decide +kernel
theorem dX9_join_11 : decode cX9_join 11 = .ok (.getfield 155, 3) := by decide +kernel
theorem dX9_join_14 : decode cX9_join 14 = .ok (.iconst 2, 1) := by decide +kernel
theorem dX9_join_15 : decode cX9_join 15 = .ok (.isub, 1) := by decide +kernel
theorem dX9_join_16 : decode cX9_join 16 = .ok (.istore_n 2, 1) := by decide +kernel
theorem dX9_join_17 : decode cX9_join 17 = .ok (.aload_n 0, 1) := by decide +kernel
theorem dX9_join_18 : decode cX9_join 18 = .ok (.getfield 155, 3) := by decide +kernel
theorem dX9_join_21 : decode cX9_join 21 = .ok (.iconst 1, 1) := by decide +kernel
theorem dX9_join_22 : decode cX9_join 22 = .ok (.isub, 1) := by decide +kernel
theorem dX9_join_23 : decode cX9_join 23 = .ok (.istore_n 3, 1) := by decide +kernel
theorem dX9_join_24 : decode cX9_join 24 = .ok (.iconst 1, 1) := by decide +kernel
theorem dX9_join_25 : decode cX9_join 25 = .ok (.aload_n 0, 1) := by decide +kernel
theorem dX9_join_26 : decode cX9_join 26 = .ok (.getfield 19, 3) := by decide +kernel
theorem dX9_join_29 : decode cX9_join 29 = .ok (.iload_n 2, 1) := by decide +kernel
theorem dX9_join_30 : decode cX9_join 30 = .ok (.iaload, 1) := by decide +kernel
theorem dX9_join_31 : decode cX9_join 31 = .ok (.aload_n 0, 1) := by decide +kernel
theorem dX9_join_32 : decode cX9_join 32 = .ok (.getfield 19, 3) := by decide +kernel
theorem dX9_join_35 : decode cX9_join 35 = .ok (.iload_n 3, 1) := by decide +kernel
theorem dX9_join_36 : decode cX9_join 36 = .ok (.iaload, 1) := by decide +kernel
theorem dX9_join_37 : decode cX9_join 37 = .ok (.if_icmp .le 12, 3) := by decide +kernel
theorem dX9_join_40 : decode cX9_join 40 = .ok (.aload_n 0, 1) := by decide +kernel
theorem dX9_join_41 : decode cX9_join 41 = .ok (.getfield 19, 3) := by decide +kernel
theorem dX9_join_44 : decode cX9_join 44 = .ok (.iload_n 2, 1) := by decide +kernel
theorem dX9_join_45 : decode cX9_join 45 = .ok (.iaload, 1) := by decide +kernel
theorem dX9_join_46 : decode cX9_join 46 = .ok (.goto 9, 3) := by decide +kernel
theorem dX9_join_49 : decode cX9_join 49 = .ok (.aload_n 0, 1) := by decide +kernel
theorem dX9_join_50 : decode cX9_join 50 = .ok (.getfield 19, 3) := by decide +kernel
theorem dX9_join_53 : decode cX9_join 53 = .ok (.iload_n 3, 1) := by decide +kernel
theorem dX9_join_54 : decode cX9_join 54 = .ok (.iaload, 1) := by decide +kernel
theorem dX9_join_55 : decode cX9_join 55 = .ok (.iadd, 1) := by decide +kernel
theorem dX9_join_56 : decode cX9_join 56 = .ok (.istore 4, 2) := by decide +kernel
theorem dX9_join_58 : decode cX9_join 58 = .ok (.iload 4, 2) := by decide +kernel
theorem dX9_join_60 : decode cX9_join 60 = .ok (.bipush 6, 2) := by decide +kernel
theorem dX9_join_62 : decode cX9_join 62 = .ok (.if_icmp .le 5, 3) := by decide +kernel
theorem dX9_join_65 : decode cX9_join 65 = .ok (.iconst 0, 1) := by decide +kernel
theorem dX9_join_66 : decode cX9_join 66 = .ok (.ireturn, 1) := by decide +kernel
theorem dX9_join_67 : decode cX9_join 67 = .ok (.iconst 0, 1) := by decide +kernel
theorem dX9_join_68 : decode cX9_join 68 = .ok (.istore 5, 2) := by decide +kernel
theorem dX9_join_70 : decode cX9_join 70 = .ok (.iload 5, 2) := by decide +kernel
theorem dX9_join_72 : decode cX9_join 72 = .ok (.aload_n 0, 1) := by decide +kernel
theorem dX9_join_73 : decode cX9_join 73 = .ok (.getfield 16, 3) := by decide +kernel
theorem dX9_join_76 : decode cX9_join 76 = .ok (.iload_n 3, 1) := by decide +kernel
theorem dX9_join_77 : decode cX9_join 77 = .ok (.iaload, 1) := by decide +kernel
theorem dX9_join_78 : decode cX9_join 78 = .ok (.if_icmp .ge 34, 3) := by decide +kernel
theorem dX9_join_81 : decode cX9_join 81 = .ok (.aload_n 0, 1) := by decide +kernel
theorem dX9_join_82 : decode cX9_join 82 = .ok (.bipush 64, 2) := by decide +kernel
theorem dX9_join_84 : decode cX9_join 84 = .ok (.iload_n 3, 1) := by decide +kernel
theorem dX9_join_85 : decode cX9_join 85 = .ok (.imul, 1) := by decide +kernel
theorem dX9_join_86 : decode cX9_join 86 = .ok (.iload 5, 2) := by decide +kernel
theorem dX9_join_88 : decode cX9_join 88 = .ok (.iadd, 1) := by decide +kernel
theorem dX9_join_89 : decode cX9_join 89 = .ok (.bipush 64, 2) := by decide +kernel
theorem dX9_join_91 : decode cX9_join 91 = .ok (.iload_n 2, 1) := by decide +kernel
theorem dX9_join_92 : decode cX9_join 92 = .ok (.imul, 1) := by decide +kernel
theorem dX9_join_93 : decode cX9_join 93 = .ok (.aload_n 0, 1) := by decide +kernel
theorem dX9_join_94 : decode cX9_join 94 = .ok (.getfield 16, 3) := by decide +kernel
theorem dX9_join_97 : decode cX9_join 97 = .ok (.iload_n 2, 1) := by decide +kernel
theorem dX9_join_98 : decode cX9_join 98 = .ok (.iaload, 1) := by decide +kernel
theorem dX9_join_99 : decode cX9_join 99 = .ok (.iadd, 1) := by decide +kernel
theorem dX9_join_100 : decode cX9_join 100 = .ok (.iload 5, 2) := by decide +kernel
theorem dX9_join_102 : decode cX9_join 102 = .ok (.iadd, 1) := by decide +kernel
theorem dX9_join_103 : decode cX9_join 103 = .ok (.invokevirtual 162, 3) := by decide +kernel
theorem dX9_join_106 : decode cX9_join 106 = .ok (.iinc 5 1, 3) := by decide +kernel
theorem dX9_join_109 : decode cX9_join 109 = .ok (.goto (-39), 3) := by decide +kernel
theorem dX9_join_112 : decode cX9_join 112 = .ok (.aload_n 0, 1) := by decide +kernel
theorem dX9_join_113 : decode cX9_join 113 = .ok (.getfield 16, 3) := by decide +kernel
theorem dX9_join_116 : decode cX9_join 116 = .ok (.iload_n 2, 1) := by decide +kernel
theorem dX9_join_117 : decode cX9_join 117 = .ok (.dup2, 1) := by decide +kernel
theorem dX9_join_118 : decode cX9_join 118 = .ok (.iaload, 1) := by decide +kernel
theorem dX9_join_119 : decode cX9_join 119 = .ok (.aload_n 0, 1) := by decide +kernel
theorem dX9_join_120 : decode cX9_join 120 = .ok (.getfield 16, 3) := by decide +kernel
theorem dX9_join_123 : decode cX9_join 123 = .ok (.iload_n 3, 1) := by decide +kernel
theorem dX9_join_124 : decode cX9_join 124 = .ok (.iaload, 1) := by decide +kernel
theorem dX9_join_125 : decode cX9_join 125 = .ok (.iadd, 1) := by decide +kernel
theorem dX9_join_126 : decode cX9_join 126 = .ok (.iastore, 1) := by decide +kernel
theorem dX9_join_127 : decode cX9_join 127 = .ok (.aload_n 0, 1) := by decide +kernel
theorem dX9_join_128 : decode cX9_join 128 = .ok (.getfield 22, 3) := by decide +kernel
theorem dX9_join_131 : decode cX9_join 131 = .ok (.bipush 64, 2) := by decide +kernel
theorem dX9_join_133 : decode cX9_join 133 = .ok (.iload_n 2, 1) := by decide +kernel
theorem dX9_join_134 : decode cX9_join 134 = .ok (.imul, 1) := by decide +kernel
theorem dX9_join_135 : decode cX9_join 135 = .ok (.aload_n 0, 1) := by decide +kernel
theorem dX9_join_136 : decode cX9_join 136 = .ok (.getfield 16, 3) := by decide +kernel
theorem dX9_join_139 : decode cX9_join 139 = .ok (.iload_n 2, 1) := by decide +kernel
theorem dX9_join_140 : decode cX9_join 140 = .ok (.iaload, 1) := by decide +kernel
theorem dX9_join_141 : decode cX9_join 141 = .ok (.iadd, 1) := by decide +kernel
theorem dX9_join_142 : decode cX9_join 142 = .ok (.iload_n 1, 1) := by decide +kernel
theorem dX9_join_143 : decode cX9_join 143 = .ok (.ifCond .eq 8, 3) := by decide +kernel
theorem dX9_join_146 : decode cX9_join 146 = .ok (.bipush 7, 2) := by decide +kernel
theorem dX9_join_148 : decode cX9_join 148 = .ok (.goto 5, 3) := by decide +kernel
theorem dX9_join_151 : decode cX9_join 151 = .ok (.bipush 6, 2) := by decide +kernel
theorem dX9_join_153 : decode cX9_join 153 = .ok (.iastore, 1) := by decide +kernel
theorem dX9_join_154 : decode cX9_join 154 = .ok (.aload_n 0, 1) := by decide +kernel
theorem dX9_join_155 : decode cX9_join 155 = .ok (.getfield 16, 3) := by decide +kernel
theorem dX9_join_158 : decode cX9_join 158 = .ok (.iload_n 2, 1) := by decide +kernel
theorem dX9_join_159 : decode cX9_join 159 = .ok (.dup2, 1) := by decide +kernel
theorem dX9_join_160 : decode cX9_join 160 = .ok (.iaload, 1) := by decide +kernel
theorem dX9_join_161 : decode cX9_join 161 = .ok (.iconst 1, 1) := by decide +kernel
theorem dX9_join_162 : decode cX9_join 162 = .ok (.iadd, 1) := by decide +kernel
theorem dX9_join_163 : decode cX9_join 163 = .ok (.iastore, 1) := by decide +kernel
theorem dX9_join_164 : decode cX9_join 164 = .ok (.aload_n 0, 1) := by decide +kernel
theorem dX9_join_165 : decode cX9_join 165 = .ok (.getfield 19, 3) := by decide +kernel
theorem dX9_join_168 : decode cX9_join 168 = .ok (.iload_n 2, 1) := by decide +kernel
theorem dX9_join_169 : decode cX9_join 169 = .ok (.iload 4, 2) := by decide +kernel
theorem dX9_join_171 : decode cX9_join 171 = .ok (.iastore, 1) := by decide +kernel
theorem dX9_join_172 : decode cX9_join 172 = .ok (.aload_n 0, 1) := by decide +kernel
theorem dX9_join_173 : decode cX9_join 173 = .ok (.dup, 1) := by decide +kernel
theorem dX9_join_174 : decode cX9_join 174 = .ok (.getfield 155, 3) := by decide +kernel
theorem dX9_join_177 : decode cX9_join 177 = .ok (.iconst 1, 1) := by decide +kernel
theorem dX9_join_178 : decode cX9_join 178 = .ok (.isub, 1) := by decide +kernel
theorem dX9_join_179 : decode cX9_join 179 = .ok (.putfield 155, 3) := by decide +kernel
theorem dX9_join_182 : decode cX9_join 182 = .ok (.iconst 1, 1) := by decide +kernel
theorem dX9_join_183 : decode cX9_join 183 = .ok (.ireturn, 1) := by decide +kernel
theorem dX9_mark_0 : decode cX9_mark 0 = .ok (.aload_n 0, 1) := by decide +kernel
theorem dX9_mark_1 : decode cX9_mark 1 = .ok (.getfield 155, 3) := by decide +kernel
theorem dX9_mark_4 : decode cX9_mark 4 = .ok (.ifCond .ne 5, 3) := by decide +kernel
theorem dX9_mark_7 : decode cX9_mark 7 = .ok (.iconst 0, 1) := by decide +kernel
theorem dX9_mark_8 : decode cX9_mark 8 = .ok (.ireturn, 1) := by decide +kernel
theorem dX9_mark_9 : decode cX9_mark 9 = .ok (.aload_n 0, 1) := by decide +kernel
theorem dX9_mark_10 : decode cX9_mark 10 = .ok (.dup, 1) := by decide +kernel
theorem dX9_mark_11 : decode cX9_mark 11 = .ok (.getfield 155, 3) := by decide +kernel
theorem dX9_mark_14 : decode cX9_mark 14 = .ok (.iconst 1, 1) := by decide +kernel
theorem dX9_mark_15 : decode cX9_mark 15 = .ok (.isub, 1) := by decide +kernel
theorem dX9_mark_16 : decode cX9_mark 16 = .ok (.putfield 155, 3) := by decide +kernel
theorem dX9_mark_19 : decode cX9_mark 19 = .ok (.iload_n 1, 1) := by decide +kernel
theorem dX9_mark_20 : decode cX9_mark 20 = .ok (.ifCond .eq 8, 3) := by decide +kernel
theorem dX9_mark_23 : decode cX9_mark 23 = .ok (.bipush 7, 2) := by decide +kernel
theorem dX9_mark_25 : decode cX9_mark 25 = .ok (.goto 5, 3) := by decide +kernel
theorem dX9_mark_28 : decode cX9_mark 28 = .ok (.bipush 6, 2) := by decide +kernel
theorem dX9_mark_30 : decode cX9_mark 30 = .ok (.istore_n 2, 1) := by decide +kernel
theorem dX9_mark_31 : decode cX9_mark 31 = .ok (.iconst 0, 1) := by decide +kernel
theorem dX9_mark_32 : decode cX9_mark 32 = .ok (.istore_n 3, 1) := by decide +kernel
theorem dX9_mark_33 : decode cX9_mark 33 = .ok (.iload_n 3, 1) := by decide +kernel
theorem dX9_mark_34 : decode cX9_mark 34 = .ok (.aload_n 0, 1) := by decide +kernel
theorem dX9_mark_35 : decode cX9_mark 35 = .ok (.getfield 16, 3) := by decide +kernel
theorem dX9_mark_38 : decode cX9_mark 38 = .ok (.aload_n 0, 1) := by decide +kernel
theorem dX9_mark_39 : decode cX9_mark 39 = .ok (.getfield 155, 3) := by decide +kernel
theorem dX9_mark_42 : decode cX9_mark 42 = .ok (.iaload, 1) := by decide +kernel
theorem dX9_mark_43 : decode cX9_mark 43 = .ok (.if_icmp .ge 28, 3) := by decide +kernel
theorem dX9_mark_46 : decode cX9_mark 46 = .ok (.aload_n 0, 1) := by decide +kernel
theorem dX9_mark_47 : decode cX9_mark 47 = .ok (.bipush 64, 2) := by decide +kernel
theorem dX9_mark_49 : decode cX9_mark 49 = .ok (.aload_n 0, 1) := by decide +kernel
theorem dX9_mark_50 : decode cX9_mark 50 = .ok (.getfield 155, 3) := by decide +kernel
theorem dX9_mark_53 : decode cX9_mark 53 = .ok (.imul, 1) := by decide +kernel
theorem dX9_mark_54 : decode cX9_mark 54 = .ok (.iload_n 3, 1) := by decide +kernel
theorem dX9_mark_55 : decode cX9_mark 55 = .ok (.iadd, 1) := by decide +kernel
theorem dX9_mark_56 : decode cX9_mark 56 = .ok (.bipush 64, 2) := by decide +kernel
theorem dX9_mark_58 : decode cX9_mark 58 = .ok (.iload_n 2, 1) := by decide +kernel
theorem dX9_mark_59 : decode cX9_mark 59 = .ok (.imul, 1) := by decide +kernel
theorem dX9_mark_60 : decode cX9_mark 60 = .ok (.iload_n 3, 1) := by decide +kernel
theorem dX9_mark_61 : decode cX9_mark 61 = .ok (.iadd, 1) := by decide +kernel
theorem dX9_mark_62 : decode cX9_mark 62 = .ok (.invokevirtual 162, 3) := by decide +kernel
theorem dX9_mark_65 : decode cX9_mark 65 = .ok (.iinc 3 1, 3) := by decide +kernel
theorem dX9_mark_68 : decode cX9_mark 68 = .ok (.goto (-35), 3) := by decide +kernel
theorem dX9_mark_71 : decode cX9_mark 71 = .ok (.aload_n 0, 1) := by decide +kernel
theorem dX9_mark_72 : decode cX9_mark 72 = .ok (.getfield 16, 3) := by decide +kernel
theorem dX9_mark_75 : decode cX9_mark 75 = .ok (.iload_n 2, 1) := by decide +kernel
theorem dX9_mark_76 : decode cX9_mark 76 = .ok (.aload_n 0, 1) := by decide +kernel
theorem dX9_mark_77 : decode cX9_mark 77 = .ok (.getfield 16, 3) := by decide +kernel
theorem dX9_mark_80 : decode cX9_mark 80 = .ok (.aload_n 0, 1) := by decide +kernel
theorem dX9_mark_81 : decode cX9_mark 81 = .ok (.getfield 155, 3) := by decide +kernel
theorem dX9_mark_84 : decode cX9_mark 84 = .ok (.iaload, 1) := by decide +kernel
theorem dX9_mark_85 : decode cX9_mark 85 = .ok (.iastore, 1) := by decide +kernel
theorem dX9_mark_86 : decode cX9_mark 86 = .ok (.aload_n 0, 1) := by decide +kernel
theorem dX9_mark_87 : decode cX9_mark 87 = .ok (.iconst 0, 1) := by decide +kernel
theorem dX9_mark_88 : decode cX9_mark 88 = .ok (.putfield 166, 3) := by decide +kernel
theorem dX9_mark_91 : decode cX9_mark 91 = .ok (.iconst 1, 1) := by decide +kernel
theorem dX9_mark_92 : decode cX9_mark 92 = .ok (.ireturn, 1) := by decide +kernel
theorem dX9_holdsStep_0 : decode cX9_holdsStep 0 = .ok (.aload_n 0, 1) := by decide +kernel
theorem dX9_holdsStep_1 : decode cX9_holdsStep 1 = .ok (.getfield 25, 3) := by decide +kernel
theorem dX9_holdsStep_4 : decode cX9_holdsStep 4 = .ok (.iload_n 1, 1) := by decide +kernel
theorem dX9_holdsStep_5 : decode cX9_holdsStep 5 = .ok (.iaload, 1) := by decide +kernel
theorem dX9_holdsStep_6 : decode cX9_holdsStep 6 = .ok (.istore 4, 2) := by decide +kernel
theorem dX9_holdsStep_8 : decode cX9_holdsStep 8 = .ok (.aload_n 0, 1) := by decide +kernel
theorem dX9_holdsStep_9 : decode cX9_holdsStep 9 = .ok (.getfield 28, 3) := by decide +kernel
theorem dX9_holdsStep_12 : decode cX9_holdsStep 12 = .ok (.iload_n 1, 1) := by decide +kernel
theorem dX9_holdsStep_13 : decode cX9_holdsStep 13 = .ok (.iaload, 1) := by decide +kernel
theorem dX9_holdsStep_14 : decode cX9_holdsStep 14 = .ok (.istore 5, 2) := by decide +kernel
theorem dX9_holdsStep_16 : decode cX9_holdsStep 16 = .ok (.iconst 0, 1) := by decide +kernel
theorem dX9_holdsStep_17 : decode cX9_holdsStep 17 = .ok (.istore 6, 2) := by decide +kernel
theorem dX9_holdsStep_19 : decode cX9_holdsStep 19 = .ok (.iconst 0, 1) := by decide +kernel
theorem dX9_holdsStep_20 : decode cX9_holdsStep 20 = .ok (.istore 7, 2) := by decide +kernel
theorem dX9_holdsStep_22 : decode cX9_holdsStep 22 = .ok (.iconst 0, 1) := by decide +kernel
theorem dX9_holdsStep_23 : decode cX9_holdsStep 23 = .ok (.istore 8, 2) := by decide +kernel
theorem dX9_holdsStep_25 : decode cX9_holdsStep 25 = .ok (.iconst 0, 1) := by decide +kernel
theorem dX9_holdsStep_26 : decode cX9_holdsStep 26 = .ok (.istore 9, 2) := by decide +kernel
theorem dX9_holdsStep_28 : decode cX9_holdsStep 28 = .ok (.iconst 0, 1) := by decide +kernel
theorem dX9_holdsStep_29 : decode cX9_holdsStep 29 = .ok (.istore 10, 2) := by decide +kernel
theorem dX9_holdsStep_31 : decode cX9_holdsStep 31 = .ok (.iload 10, 2) := by decide +kernel
theorem dX9_holdsStep_33 : decode cX9_holdsStep 33 = .ok (.iload_n 3, 1) := by decide +kernel
theorem dX9_holdsStep_34 : decode cX9_holdsStep 34 = .ok (.if_icmp .ge 112, 3) := by decide +kernel
theorem dX9_holdsStep_37 : decode cX9_holdsStep 37 = .ok (.iload 6, 2) := by decide +kernel
theorem dX9_holdsStep_39 : decode cX9_holdsStep 39 = .ok (.aload_n 2, 1) := by decide +kernel
theorem dX9_holdsStep_40 : decode cX9_holdsStep 40 = .ok (.iload 10, 2) := by decide +kernel
theorem dX9_holdsStep_42 : decode cX9_holdsStep 42 = .ok (.iaload, 1) := by decide +kernel
theorem dX9_holdsStep_43 : decode cX9_holdsStep 43 = .ok (.iload 4, 2) := by decide +kernel
theorem dX9_holdsStep_45 : decode cX9_holdsStep 45 = .ok (.if_icmp .ne 7, 3) := by decide +kernel
theorem dX9_holdsStep_48 : decode cX9_holdsStep 48 = .ok (.iconst 1, 1) := by decide +kernel
theorem dX9_holdsStep_49 : decode cX9_holdsStep 49 = .ok (.goto 4, 3) := by decide +kernel
theorem dX9_holdsStep_52 : decode cX9_holdsStep 52 = .ok (.iconst 0, 1) := by decide +kernel
theorem dX9_holdsStep_53 : decode cX9_holdsStep 53 = .ok (.iadd, 1) := by decide +kernel
theorem dX9_holdsStep_54 : decode cX9_holdsStep 54 = .ok (.istore 6, 2) := by decide +kernel
theorem dX9_holdsStep_56 : decode cX9_holdsStep 56 = .ok (.iload 7, 2) := by decide +kernel
theorem dX9_holdsStep_58 : decode cX9_holdsStep 58 = .ok (.ifCond .ne 17, 3) := by decide +kernel
theorem dX9_holdsStep_61 : decode cX9_holdsStep 61 = .ok (.iload 9, 2) := by decide +kernel
theorem dX9_holdsStep_63 : decode cX9_holdsStep 63 = .ok (.ifCond .eq 16, 3) := by decide +kernel
theorem dX9_holdsStep_66 : decode cX9_holdsStep 66 = .ok (.aload_n 2, 1) := by decide +kernel
theorem dX9_holdsStep_67 : decode cX9_holdsStep 67 = .ok (.iload 10, 2) := by decide +kernel
theorem dX9_holdsStep_69 : decode cX9_holdsStep 69 = .ok (.iaload, 1) := by decide +kernel
theorem dX9_holdsStep_70 : decode cX9_holdsStep 70 = .ok (.iload 5, 2) := by decide +kernel
theorem dX9_holdsStep_72 : decode cX9_holdsStep 72 = .ok (.if_icmp .ne 7, 3) := by decide +kernel
theorem dX9_holdsStep_75 : decode cX9_holdsStep 75 = .ok (.iconst 1, 1) := by decide +kernel
theorem dX9_holdsStep_76 : decode cX9_holdsStep 76 = .ok (.goto 4, 3) := by decide +kernel
theorem dX9_holdsStep_79 : decode cX9_holdsStep 79 = .ok (.iconst 0, 1) := by decide +kernel
theorem dX9_holdsStep_80 : decode cX9_holdsStep 80 = .ok (.istore 7, 2) := by decide +kernel
theorem dX9_holdsStep_82 : decode cX9_holdsStep 82 = .ok (.iload 8, 2) := by decide +kernel
theorem dX9_holdsStep_84 : decode cX9_holdsStep 84 = .ok (.ifCond .ne 28, 3) := by decide +kernel
theorem dX9_holdsStep_87 : decode cX9_holdsStep 87 = .ok (.iload 10, 2) := by decide +kernel
theorem dX9_holdsStep_89 : decode cX9_holdsStep 89 = .ok (.ifCond .le 27, 3) := by decide +kernel
theorem dX9_holdsStep_92 : decode cX9_holdsStep 92 = .ok (.aload_n 2, 1) := by decide +kernel
theorem dX9_holdsStep_93 : decode cX9_holdsStep 93 = .ok (.iload 10, 2) := by decide +kernel
theorem dX9_holdsStep_95 : decode cX9_holdsStep 95 = .ok (.iconst 1, 1) := by decide +kernel
theorem dX9_holdsStep_96 : decode cX9_holdsStep 96 = .ok (.isub, 1) := by decide +kernel
theorem dX9_holdsStep_97 : decode cX9_holdsStep 97 = .ok (.iaload, 1) := by decide +kernel
theorem dX9_holdsStep_98 : decode cX9_holdsStep 98 = .ok (.iload 4, 2) := by decide +kernel
theorem dX9_holdsStep_100 : decode cX9_holdsStep 100 = .ok (.if_icmp .ne 16, 3) := by decide +kernel
theorem dX9_holdsStep_103 : decode cX9_holdsStep 103 = .ok (.aload_n 2, 1) := by decide +kernel
theorem dX9_holdsStep_104 : decode cX9_holdsStep 104 = .ok (.iload 10, 2) := by decide +kernel
theorem dX9_holdsStep_106 : decode cX9_holdsStep 106 = .ok (.iaload, 1) := by decide +kernel
theorem dX9_holdsStep_107 : decode cX9_holdsStep 107 = .ok (.iload 5, 2) := by decide +kernel
theorem dX9_holdsStep_109 : decode cX9_holdsStep 109 = .ok (.if_icmp .ne 7, 3) := by decide +kernel
theorem dX9_holdsStep_112 : decode cX9_holdsStep 112 = .ok (.iconst 1, 1) := by decide +kernel
theorem dX9_holdsStep_113 : decode cX9_holdsStep 113 = .ok (.goto 4, 3) := by decide +kernel
theorem dX9_holdsStep_116 : decode cX9_holdsStep 116 = .ok (.iconst 0, 1) := by decide +kernel
theorem dX9_holdsStep_117 : decode cX9_holdsStep 117 = .ok (.istore 8, 2) := by decide +kernel
theorem dX9_holdsStep_119 : decode cX9_holdsStep 119 = .ok (.iload 9, 2) := by decide +kernel
theorem dX9_holdsStep_121 : decode cX9_holdsStep 121 = .ok (.ifCond .ne 12, 3) := by decide +kernel
theorem dX9_holdsStep_124 : decode cX9_holdsStep 124 = .ok (.aload_n 2, 1) := by decide +kernel
theorem dX9_holdsStep_125 : decode cX9_holdsStep 125 = .ok (.iload 10, 2) := by decide +kernel
theorem dX9_holdsStep_127 : decode cX9_holdsStep 127 = .ok (.iaload, 1) := by decide +kernel
theorem dX9_holdsStep_128 : decode cX9_holdsStep 128 = .ok (.iload 4, 2) := by decide +kernel
theorem dX9_holdsStep_130 : decode cX9_holdsStep 130 = .ok (.if_icmp .ne 7, 3) := by decide +kernel
theorem dX9_holdsStep_133 : decode cX9_holdsStep 133 = .ok (.iconst 1, 1) := by decide +kernel
theorem dX9_holdsStep_134 : decode cX9_holdsStep 134 = .ok (.goto 4, 3) := by decide +kernel
theorem dX9_holdsStep_137 : decode cX9_holdsStep 137 = .ok (.iconst 0, 1) := by decide +kernel
theorem dX9_holdsStep_138 : decode cX9_holdsStep 138 = .ok (.istore 9, 2) := by decide +kernel
theorem dX9_holdsStep_140 : decode cX9_holdsStep 140 = .ok (.iinc 10 1, 3) := by decide +kernel
theorem dX9_holdsStep_143 : decode cX9_holdsStep 143 = .ok (.goto (-112), 3) := by decide +kernel
theorem dX9_holdsStep_146 : decode cX9_holdsStep 146 = .ok (.aload_n 0, 1) := by decide +kernel
theorem dX9_holdsStep_147 : decode cX9_holdsStep 147 = .ok (.getfield 22, 3) := by decide +kernel
theorem dX9_holdsStep_150 : decode cX9_holdsStep 150 = .ok (.iload_n 1, 1) := by decide +kernel
theorem dX9_holdsStep_151 : decode cX9_holdsStep 151 = .ok (.iaload, 1) := by decide +kernel
theorem dX9_holdsStep_152 : decode cX9_holdsStep 152 = .ok (.tableswitch 63 0 3 #[32, 45, 48, 51], 32) := by decide +kernel
theorem dX9_holdsStep_184 : decode cX9_holdsStep 184 = .ok (.iload 6, 2) := by decide +kernel
theorem dX9_holdsStep_186 : decode cX9_holdsStep 186 = .ok (.iload 5, 2) := by decide +kernel
theorem dX9_holdsStep_188 : decode cX9_holdsStep 188 = .ok (.if_icmp .lt 7, 3) := by decide +kernel
theorem dX9_holdsStep_191 : decode cX9_holdsStep 191 = .ok (.iconst 1, 1) := by decide +kernel
theorem dX9_holdsStep_192 : decode cX9_holdsStep 192 = .ok (.goto 4, 3) := by decide +kernel
theorem dX9_holdsStep_195 : decode cX9_holdsStep 195 = .ok (.iconst 0, 1) := by decide +kernel
theorem dX9_holdsStep_196 : decode cX9_holdsStep 196 = .ok (.ireturn, 1) := by decide +kernel
theorem dX9_holdsStep_197 : decode cX9_holdsStep 197 = .ok (.iload 7, 2) := by decide +kernel
theorem dX9_holdsStep_199 : decode cX9_holdsStep 199 = .ok (.ireturn, 1) := by decide +kernel
theorem dX9_holdsStep_200 : decode cX9_holdsStep 200 = .ok (.iload 8, 2) := by decide +kernel
theorem dX9_holdsStep_202 : decode cX9_holdsStep 202 = .ok (.ireturn, 1) := by decide +kernel
theorem dX9_holdsStep_203 : decode cX9_holdsStep 203 = .ok (.iload_n 3, 1) := by decide +kernel
theorem dX9_holdsStep_204 : decode cX9_holdsStep 204 = .ok (.iload 4, 2) := by decide +kernel
theorem dX9_holdsStep_206 : decode cX9_holdsStep 206 = .ok (.if_icmp .lt 7, 3) := by decide +kernel
theorem dX9_holdsStep_209 : decode cX9_holdsStep 209 = .ok (.iconst 1, 1) := by decide +kernel
theorem dX9_holdsStep_210 : decode cX9_holdsStep 210 = .ok (.goto 4, 3) := by decide +kernel
theorem dX9_holdsStep_213 : decode cX9_holdsStep 213 = .ok (.iconst 0, 1) := by decide +kernel
theorem dX9_holdsStep_214 : decode cX9_holdsStep 214 = .ok (.ireturn, 1) := by decide +kernel
theorem dX9_holdsStep_215 : decode cX9_holdsStep 215 = .ok (.iload_n 3, 1) := by decide +kernel
theorem dX9_holdsStep_216 : decode cX9_holdsStep 216 = .ok (.iconst 2, 1) := by decide +kernel
theorem dX9_holdsStep_217 : decode cX9_holdsStep 217 = .ok (.irem, 1) := by decide +kernel
theorem dX9_holdsStep_218 : decode cX9_holdsStep 218 = .ok (.ifCond .ne 7, 3) := by decide +kernel
theorem dX9_holdsStep_221 : decode cX9_holdsStep 221 = .ok (.iconst 1, 1) := by decide +kernel
theorem dX9_holdsStep_222 : decode cX9_holdsStep 222 = .ok (.goto 4, 3) := by decide +kernel
theorem dX9_holdsStep_225 : decode cX9_holdsStep 225 = .ok (.iconst 0, 1) := by decide +kernel
theorem dX9_holdsStep_226 : decode cX9_holdsStep 226 = .ok (.ireturn, 1) := by decide +kernel
theorem dX9_holds_0 : decode cX9_holds 0 = .ok (.iconst 0, 1) := by decide +kernel
theorem dX9_holds_1 : decode cX9_holds 1 = .ok (.istore 4, 2) := by decide +kernel
theorem dX9_holds_3 : decode cX9_holds 3 = .ok (.bipush 64, 2) := by decide +kernel
theorem dX9_holds_5 : decode cX9_holds 5 = .ok (.iload_n 1, 1) := by decide +kernel
theorem dX9_holds_6 : decode cX9_holds 6 = .ok (.imul, 1) := by decide +kernel
theorem dX9_holds_7 : decode cX9_holds 7 = .ok (.istore 5, 2) := by decide +kernel
theorem dX9_holds_9 : decode cX9_holds 9 = .ok (.iload 5, 2) := by decide +kernel
theorem dX9_holds_11 : decode cX9_holds 11 = .ok (.bipush 64, 2) := by decide +kernel
theorem dX9_holds_13 : decode cX9_holds 13 = .ok (.iload_n 1, 1) := by decide +kernel
theorem dX9_holds_14 : decode cX9_holds 14 = .ok (.imul, 1) := by decide +kernel
theorem dX9_holds_15 : decode cX9_holds 15 = .ok (.aload_n 0, 1) := by decide +kernel
theorem dX9_holds_16 : decode cX9_holds 16 = .ok (.getfield 16, 3) := by decide +kernel
theorem dX9_holds_19 : decode cX9_holds 19 = .ok (.iload_n 1, 1) := by decide +kernel
theorem dX9_holds_20 : decode cX9_holds 20 = .ok (.iaload, 1) := by decide +kernel
theorem dX9_holds_21 : decode cX9_holds 21 = .ok (.iadd, 1) := by decide +kernel
theorem dX9_holds_22 : decode cX9_holds 22 = .ok (.if_icmp .ge 156, 3) := by decide +kernel
theorem dX9_holds_25 : decode cX9_holds 25 = .ok (.aload_n 0, 1) := by decide +kernel
theorem dX9_holds_26 : decode cX9_holds 26 = .ok (.getfield 22, 3) := by decide +kernel
theorem dX9_holds_29 : decode cX9_holds 29 = .ok (.iload 5, 2) := by decide +kernel
theorem dX9_holds_31 : decode cX9_holds 31 = .ok (.iaload, 1) := by decide +kernel
theorem dX9_holds_32 : decode cX9_holds 32 = .ok (.istore 6, 2) := by decide +kernel
theorem dX9_holds_34 : decode cX9_holds 34 = .ok (.iload 6, 2) := by decide +kernel
theorem dX9_holds_36 : decode cX9_holds 36 = .ok (.iconst 5, 1) := by decide +kernel
theorem dX9_holds_37 : decode cX9_holds 37 = .ok (.if_icmp .ge 24, 3) := by decide +kernel
theorem dX9_holds_40 : decode cX9_holds 40 = .ok (.aload_n 0, 1) := by decide +kernel
theorem dX9_holds_41 : decode cX9_holds 41 = .ok (.getfield 31, 3) := by decide +kernel
theorem dX9_holds_44 : decode cX9_holds 44 = .ok (.iload 4, 2) := by decide +kernel
theorem dX9_holds_46 : decode cX9_holds 46 = .ok (.aload_n 0, 1) := by decide +kernel
theorem dX9_holds_47 : decode cX9_holds 47 = .ok (.iload 5, 2) := by decide +kernel
theorem dX9_holds_49 : decode cX9_holds 49 = .ok (.aload_n 2, 1) := by decide +kernel
theorem dX9_holds_50 : decode cX9_holds 50 = .ok (.iload_n 3, 1) := by decide +kernel
theorem dX9_holds_51 : decode cX9_holds 51 = .ok (.invokevirtual 169, 3) := by decide +kernel
theorem dX9_holds_54 : decode cX9_holds 54 = .ok (.bastore, 1) := by decide +kernel
theorem dX9_holds_55 : decode cX9_holds 55 = .ok (.iinc 4 1, 3) := by decide +kernel
theorem dX9_holds_58 : decode cX9_holds 58 = .ok (.goto 114, 3) := by decide +kernel
theorem dX9_holds_61 : decode cX9_holds 61 = .ok (.iload 6, 2) := by decide +kernel
theorem dX9_holds_63 : decode cX9_holds 63 = .ok (.iconst 5, 1) := by decide +kernel
theorem dX9_holds_64 : decode cX9_holds 64 = .ok (.if_icmp .ne 32, 3) := by decide +kernel
theorem dX9_holds_67 : decode cX9_holds 67 = .ok (.aload_n 0, 1) := by decide +kernel
theorem dX9_holds_68 : decode cX9_holds 68 = .ok (.getfield 31, 3) := by decide +kernel
theorem dX9_holds_71 : decode cX9_holds 71 = .ok (.iload 4, 2) := by decide +kernel
theorem dX9_holds_73 : decode cX9_holds 73 = .ok (.iconst 1, 1) := by decide +kernel
theorem dX9_holds_74 : decode cX9_holds 74 = .ok (.isub, 1) := by decide +kernel
theorem dX9_holds_75 : decode cX9_holds 75 = .ok (.aload_n 0, 1) := by decide +kernel
theorem dX9_holds_76 : decode cX9_holds 76 = .ok (.getfield 31, 3) := by decide +kernel
theorem dX9_holds_79 : decode cX9_holds 79 = .ok (.iload 4, 2) := by decide +kernel
theorem dX9_holds_81 : decode cX9_holds 81 = .ok (.iconst 1, 1) := by decide +kernel
theorem dX9_holds_82 : decode cX9_holds 82 = .ok (.isub, 1) := by decide +kernel
theorem dX9_holds_83 : decode cX9_holds 83 = .ok (.baload, 1) := by decide +kernel
theorem dX9_holds_84 : decode cX9_holds 84 = .ok (.ifCond .ne 7, 3) := by decide +kernel
theorem dX9_holds_87 : decode cX9_holds 87 = .ok (.iconst 1, 1) := by decide +kernel
theorem dX9_holds_88 : decode cX9_holds 88 = .ok (.goto 4, 3) := by decide +kernel
theorem dX9_holds_91 : decode cX9_holds 91 = .ok (.iconst 0, 1) := by decide +kernel
theorem dX9_holds_92 : decode cX9_holds 92 = .ok (.bastore, 1) := by decide +kernel
theorem dX9_holds_93 : decode cX9_holds 93 = .ok (.goto 79, 3) := by decide +kernel
theorem dX9_holds_96 : decode cX9_holds 96 = .ok (.iinc 4 (-1), 3) := by decide +kernel
theorem dX9_holds_99 : decode cX9_holds 99 = .ok (.aload_n 0, 1) := by decide +kernel
theorem dX9_holds_100 : decode cX9_holds 100 = .ok (.getfield 31, 3) := by decide +kernel
theorem dX9_holds_103 : decode cX9_holds 103 = .ok (.iload 4, 2) := by decide +kernel
theorem dX9_holds_105 : decode cX9_holds 105 = .ok (.iconst 1, 1) := by decide +kernel
theorem dX9_holds_106 : decode cX9_holds 106 = .ok (.isub, 1) := by decide +kernel
theorem dX9_holds_107 : decode cX9_holds 107 = .ok (.iload 6, 2) := by decide +kernel
theorem dX9_holds_109 : decode cX9_holds 109 = .ok (.bipush 6, 2) := by decide +kernel
theorem dX9_holds_111 : decode cX9_holds 111 = .ok (.if_icmp .ne 33, 3) := by decide +kernel
theorem dX9_holds_114 : decode cX9_holds 114 = .ok (.aload_n 0, 1) := by decide +kernel
theorem dX9_holds_115 : decode cX9_holds 115 = .ok (.getfield 31, 3) := by decide +kernel
theorem dX9_holds_118 : decode cX9_holds 118 = .ok (.iload 4, 2) := by decide +kernel
theorem dX9_holds_120 : decode cX9_holds 120 = .ok (.iconst 1, 1) := by decide +kernel
theorem dX9_holds_121 : decode cX9_holds 121 = .ok (.isub, 1) := by decide +kernel
theorem dX9_holds_122 : decode cX9_holds 122 = .ok (.baload, 1) := by decide +kernel
theorem dX9_holds_123 : decode cX9_holds 123 = .ok (.ifCond .eq 17, 3) := by decide +kernel
theorem dX9_holds_126 : decode cX9_holds 126 = .ok (.aload_n 0, 1) := by decide +kernel
theorem dX9_holds_127 : decode cX9_holds 127 = .ok (.getfield 31, 3) := by decide +kernel
theorem dX9_holds_130 : decode cX9_holds 130 = .ok (.iload 4, 2) := by decide +kernel
theorem dX9_holds_132 : decode cX9_holds 132 = .ok (.baload, 1) := by decide +kernel
theorem dX9_holds_133 : decode cX9_holds 133 = .ok (.ifCond .eq 7, 3) := by decide +kernel
theorem dX9_holds_136 : decode cX9_holds 136 = .ok (.iconst 1, 1) := by decide +kernel
theorem dX9_holds_137 : decode cX9_holds 137 = .ok (.goto 34, 3) := by decide +kernel
theorem dX9_holds_140 : decode cX9_holds 140 = .ok (.iconst 0, 1) := by decide +kernel
theorem dX9_holds_141 : decode cX9_holds 141 = .ok (.goto 30, 3) := by decide +kernel
theorem dX9_holds_144 : decode cX9_holds 144 = .ok (.aload_n 0, 1) := by decide +kernel
theorem dX9_holds_145 : decode cX9_holds 145 = .ok (.getfield 31, 3) := by decide +kernel
theorem dX9_holds_148 : decode cX9_holds 148 = .ok (.iload 4, 2) := by decide +kernel
theorem dX9_holds_150 : decode cX9_holds 150 = .ok (.iconst 1, 1) := by decide +kernel
theorem dX9_holds_151 : decode cX9_holds 151 = .ok (.isub, 1) := by decide +kernel
theorem dX9_holds_152 : decode cX9_holds 152 = .ok (.baload, 1) := by decide +kernel
theorem dX9_holds_153 : decode cX9_holds 153 = .ok (.ifCond .ne 13, 3) := by decide +kernel
theorem dX9_holds_156 : decode cX9_holds 156 = .ok (.aload_n 0, 1) := by decide +kernel
theorem dX9_holds_157 : decode cX9_holds 157 = .ok (.getfield 31, 3) := by decide +kernel
theorem dX9_holds_160 : decode cX9_holds 160 = .ok (.iload 4, 2) := by decide +kernel
theorem dX9_holds_162 : decode cX9_holds 162 = .ok (.baload, 1) := by decide +kernel
theorem dX9_holds_163 : decode cX9_holds 163 = .ok (.ifCond .eq 7, 3) := by decide +kernel
theorem dX9_holds_166 : decode cX9_holds 166 = .ok (.iconst 1, 1) := by decide +kernel
theorem dX9_holds_167 : decode cX9_holds 167 = .ok (.goto 4, 3) := by decide +kernel
theorem dX9_holds_170 : decode cX9_holds 170 = .ok (.iconst 0, 1) := by decide +kernel
theorem dX9_holds_171 : decode cX9_holds 171 = .ok (.bastore, 1) := by decide +kernel
theorem dX9_holds_172 : decode cX9_holds 172 = .ok (.iinc 5 1, 3) := by decide +kernel
theorem dX9_holds_175 : decode cX9_holds 175 = .ok (.goto (-166), 3) := by decide +kernel
theorem dX9_holds_178 : decode cX9_holds 178 = .ok (.iload 4, 2) := by decide +kernel
theorem dX9_holds_180 : decode cX9_holds 180 = .ok (.ifCond .le 16, 3) := by decide +kernel
theorem dX9_holds_183 : decode cX9_holds 183 = .ok (.aload_n 0, 1) := by decide +kernel
theorem dX9_holds_184 : decode cX9_holds 184 = .ok (.getfield 31, 3) := by decide +kernel
theorem dX9_holds_187 : decode cX9_holds 187 = .ok (.iconst 0, 1) := by decide +kernel
theorem dX9_holds_188 : decode cX9_holds 188 = .ok (.baload, 1) := by decide +kernel
theorem dX9_holds_189 : decode cX9_holds 189 = .ok (.ifCond .eq 7, 3) := by decide +kernel
theorem dX9_holds_192 : decode cX9_holds 192 = .ok (.iconst 1, 1) := by decide +kernel
theorem dX9_holds_193 : decode cX9_holds 193 = .ok (.goto 4, 3) := by decide +kernel
theorem dX9_holds_196 : decode cX9_holds 196 = .ok (.iconst 0, 1) := by decide +kernel
theorem dX9_holds_197 : decode cX9_holds 197 = .ok (.ireturn, 1) := by decide +kernel
theorem dX9_outcomeOf_0 : decode cX9_outcomeOf 0 = .ok (.aload_n 0, 1) := by decide +kernel
theorem dX9_outcomeOf_1 : decode cX9_outcomeOf 1 = .ok (.bipush 6, 2) := by decide +kernel
theorem dX9_outcomeOf_3 : decode cX9_outcomeOf 3 = .ok (.aload_n 1, 1) := by decide +kernel
theorem dX9_outcomeOf_4 : decode cX9_outcomeOf 4 = .ok (.iload_n 2, 1) := by decide +kernel
theorem dX9_outcomeOf_5 : decode cX9_outcomeOf 5 = .ok (.invokevirtual 173, 3) := by decide +kernel
theorem dX9_outcomeOf_8 : decode cX9_outcomeOf 8 = .ok (.ifCond .eq 7, 3) := by decide +kernel
theorem dX9_outcomeOf_11 : decode cX9_outcomeOf 11 = .ok (.iconst 1, 1) := by decide +kernel
theorem dX9_outcomeOf_12 : decode cX9_outcomeOf 12 = .ok (.goto 19, 3) := by decide +kernel
theorem dX9_outcomeOf_15 : decode cX9_outcomeOf 15 = .ok (.aload_n 0, 1) := by decide +kernel
theorem dX9_outcomeOf_16 : decode cX9_outcomeOf 16 = .ok (.bipush 7, 2) := by decide +kernel
theorem dX9_outcomeOf_18 : decode cX9_outcomeOf 18 = .ok (.aload_n 1, 1) := by decide +kernel
theorem dX9_outcomeOf_19 : decode cX9_outcomeOf 19 = .ok (.iload_n 2, 1) := by decide +kernel
theorem dX9_outcomeOf_20 : decode cX9_outcomeOf 20 = .ok (.invokevirtual 173, 3) := by decide +kernel
theorem dX9_outcomeOf_23 : decode cX9_outcomeOf 23 = .ok (.ifCond .eq 7, 3) := by decide +kernel
theorem dX9_outcomeOf_26 : decode cX9_outcomeOf 26 = .ok (.iconst 2, 1) := by decide +kernel
theorem dX9_outcomeOf_27 : decode cX9_outcomeOf 27 = .ok (.goto 4, 3) := by decide +kernel
theorem dX9_outcomeOf_30 : decode cX9_outcomeOf 30 = .ok (.iconst 0, 1) := by decide +kernel
theorem dX9_outcomeOf_31 : decode cX9_outcomeOf 31 = .ok (.ireturn, 1) := by decide +kernel
theorem dX9_outcome_0 : decode cX9_outcome 0 = .ok (.aload_n 0, 1) := by decide +kernel
theorem dX9_outcome_1 : decode cX9_outcome 1 = .ok (.aload_n 0, 1) := by decide +kernel
theorem dX9_outcome_2 : decode cX9_outcome 2 = .ok (.getfield 7, 3) := by decide +kernel
theorem dX9_outcome_5 : decode cX9_outcome 5 = .ok (.aload_n 0, 1) := by decide +kernel
theorem dX9_outcome_6 : decode cX9_outcome 6 = .ok (.getfield 145, 3) := by decide +kernel
theorem dX9_outcome_9 : decode cX9_outcome 9 = .ok (.invokevirtual 176, 3) := by decide +kernel
theorem dX9_outcome_12 : decode cX9_outcome 12 = .ok (.ireturn, 1) := by decide +kernel
theorem dX9_readRules_0 : decode cX9_readRules 0 = .ok (.iconst 0, 1) := by decide +kernel
theorem dX9_readRules_1 : decode cX9_readRules 1 = .ok (.istore_n 1, 1) := by decide +kernel
theorem dX9_readRules_2 : decode cX9_readRules 2 = .ok (.iload_n 1, 1) := by decide +kernel
theorem dX9_readRules_3 : decode cX9_readRules 3 = .ok (.bipush 6, 2) := by decide +kernel
theorem dX9_readRules_5 : decode cX9_readRules 5 = .ok (.if_icmp .ge 16, 3) := by decide +kernel
theorem dX9_readRules_8 : decode cX9_readRules 8 = .ok (.aload_n 0, 1) := by decide +kernel
theorem dX9_readRules_9 : decode cX9_readRules 9 = .ok (.getfield 44, 3) := by decide +kernel
theorem dX9_readRules_12 : decode cX9_readRules 12 = .ok (.iload_n 1, 1) := by decide +kernel
theorem dX9_readRules_13 : decode cX9_readRules 13 = .ok (.iconst (-1), 1) := by decide +kernel
theorem dX9_readRules_14 : decode cX9_readRules 14 = .ok (.iastore, 1) := by decide +kernel
theorem dX9_readRules_15 : decode cX9_readRules 15 = .ok (.iinc 1 1, 3) := by decide +kernel
theorem dX9_readRules_18 : decode cX9_readRules 18 = .ok (.goto (-16), 3) := by decide +kernel
theorem dX9_readRules_21 : decode cX9_readRules 21 = .ok (.aload_n 0, 1) := by decide +kernel
theorem dX9_readRules_22 : decode cX9_readRules 22 = .ok (.iconst 0, 1) := by decide +kernel
theorem dX9_readRules_23 : decode cX9_readRules 23 = .ok (.putfield 180, 3) := by decide +kernel
theorem dX9_readRules_26 : decode cX9_readRules 26 = .ok (.aload_n 0, 1) := by decide +kernel
theorem dX9_readRules_27 : decode cX9_readRules 27 = .ok (.iconst 0, 1) := by decide +kernel
theorem dX9_readRules_28 : decode cX9_readRules 28 = .ok (.putfield 183, 3) := by decide +kernel
theorem dX9_readRules_31 : decode cX9_readRules 31 = .ok (.aload_n 0, 1) := by decide +kernel
theorem dX9_readRules_32 : decode cX9_readRules 32 = .ok (.iconst 0, 1) := by decide +kernel
theorem dX9_readRules_33 : decode cX9_readRules 33 = .ok (.putfield 186, 3) := by decide +kernel
theorem dX9_readRules_36 : decode cX9_readRules 36 = .ok (.iconst 0, 1) := by decide +kernel
theorem dX9_readRules_37 : decode cX9_readRules 37 = .ok (.istore_n 1, 1) := by decide +kernel
theorem dX9_readRules_38 : decode cX9_readRules 38 = .ok (.iload_n 1, 1) := by decide +kernel
theorem dX9_readRules_39 : decode cX9_readRules 39 = .ok (.aload_n 0, 1) := by decide +kernel
theorem dX9_readRules_40 : decode cX9_readRules 40 = .ok (.getfield 152, 3) := by decide +kernel
theorem dX9_readRules_43 : decode cX9_readRules 43 = .ok (.if_icmp .ge 296, 3) := by decide +kernel
theorem dX9_readRules_46 : decode cX9_readRules 46 = .ok (.aload_n 0, 1) := by decide +kernel
theorem dX9_readRules_47 : decode cX9_readRules 47 = .ok (.getfield 13, 3) := by decide +kernel
theorem dX9_readRules_50 : decode cX9_readRules 50 = .ok (.iload_n 1, 1) := by decide +kernel
theorem dX9_readRules_51 : decode cX9_readRules 51 = .ok (.iaload, 1) := by decide +kernel
theorem dX9_readRules_52 : decode cX9_readRules 52 = .ok (.bipush 65, 2) := by decide +kernel
theorem dX9_readRules_54 : decode cX9_readRules 54 = .ok (.isub, 1) := by decide +kernel
theorem dX9_readRules_55 : decode cX9_readRules 55 = .ok (.istore_n 2, 1) := by decide +kernel
theorem dX9_readRules_56 : decode cX9_readRules 56 = .ok (.aload_n 0, 1) := by decide +kernel
theorem dX9_readRules_57 : decode cX9_readRules 57 = .ok (.getfield 13, 3) := by decide +kernel
theorem dX9_readRules_60 : decode cX9_readRules 60 = .ok (.iload_n 1, 1) := by decide +kernel
theorem dX9_readRules_61 : decode cX9_readRules 61 = .ok (.iaload, 1) := by decide +kernel
theorem dX9_readRules_62 : decode cX9_readRules 62 = .ok (.invokestatic 149, 3) := by decide +kernel
theorem dX9_readRules_65 : decode cX9_readRules 65 = .ok (.ifCond .eq 35, 3) := by decide +kernel
theorem dX9_readRules_68 : decode cX9_readRules 68 = .ok (.aload_n 0, 1) := by decide +kernel
theorem dX9_readRules_69 : decode cX9_readRules 69 = .ok (.getfield 44, 3) := by decide +kernel
theorem dX9_readRules_72 : decode cX9_readRules 72 = .ok (.iload_n 2, 1) := by decide +kernel
theorem dX9_readRules_73 : decode cX9_readRules 73 = .ok (.iaload, 1) := by decide +kernel
theorem dX9_readRules_74 : decode cX9_readRules 74 = .ok (.ifCond .ge 26, 3) := by decide +kernel
theorem dX9_readRules_77 : decode cX9_readRules 77 = .ok (.iload_n 1, 1) := by decide +kernel
theorem dX9_readRules_78 : decode cX9_readRules 78 = .ok (.iconst 1, 1) := by decide +kernel
theorem dX9_readRules_79 : decode cX9_readRules 79 = .ok (.iadd, 1) := by decide +kernel
theorem dX9_readRules_80 : decode cX9_readRules 80 = .ok (.aload_n 0, 1) := by decide +kernel
theorem dX9_readRules_81 : decode cX9_readRules 81 = .ok (.getfield 152, 3) := by decide +kernel
theorem dX9_readRules_84 : decode cX9_readRules 84 = .ok (.if_icmp .ge 16, 3) := by decide +kernel
theorem dX9_readRules_87 : decode cX9_readRules 87 = .ok (.aload_n 0, 1) := by decide +kernel
theorem dX9_readRules_88 : decode cX9_readRules 88 = .ok (.getfield 13, 3) := by decide +kernel
theorem dX9_readRules_91 : decode cX9_readRules 91 = .ok (.iload_n 1, 1) := by decide +kernel
theorem dX9_readRules_92 : decode cX9_readRules 92 = .ok (.iconst 1, 1) := by decide +kernel
theorem dX9_readRules_93 : decode cX9_readRules 93 = .ok (.iadd, 1) := by decide +kernel
theorem dX9_readRules_94 : decode cX9_readRules 94 = .ok (.iaload, 1) := by decide +kernel
theorem dX9_readRules_95 : decode cX9_readRules 95 = .ok (.bipush 61, 2) := by decide +kernel
theorem dX9_readRules_97 : decode cX9_readRules 97 = .ok (.if_icmp .eq 5, 3) := by decide +kernel
theorem dX9_readRules_100 : decode cX9_readRules 100 = .ok (.iconst 0, 1) := by decide +kernel
theorem dX9_readRules_101 : decode cX9_readRules 101 = .ok (.ireturn, 1) := by decide +kernel
theorem dX9_readRules_102 : decode cX9_readRules 102 = .ok (.aload_n 0, 1) := by decide +kernel
theorem dX9_readRules_103 : decode cX9_readRules 103 = .ok (.aload_n 0, 1) := by decide +kernel
theorem dX9_readRules_104 : decode cX9_readRules 104 = .ok (.getfield 180, 3) := by decide +kernel
theorem dX9_readRules_107 : decode cX9_readRules 107 = .ok (.ifCond .ne 7, 3) := by decide +kernel
theorem dX9_readRules_110 : decode cX9_readRules 110 = .ok (.iload_n 2, 1) := by decide +kernel
theorem dX9_readRules_111 : decode cX9_readRules 111 = .ok (.goto 7, 3) := by decide +kernel
theorem dX9_readRules_114 : decode cX9_readRules 114 = .ok (.aload_n 0, 1) := by decide +kernel
theorem dX9_readRules_115 : decode cX9_readRules 115 = .ok (.getfield 189, 3) := by decide +kernel
theorem dX9_readRules_118 : decode cX9_readRules 118 = .ok (.putfield 189, 3) := by decide +kernel
theorem dX9_readRules_121 : decode cX9_readRules 121 = .ok (.aload_n 0, 1) := by decide +kernel
theorem dX9_readRules_122 : decode cX9_readRules 122 = .ok (.dup, 1) := by decide +kernel
theorem dX9_readRules_123 : decode cX9_readRules 123 = .ok (.getfield 180, 3) := by decide +kernel
theorem dX9_readRules_126 : decode cX9_readRules 126 = .ok (.iconst 1, 1) := by decide +kernel
theorem dX9_readRules_127 : decode cX9_readRules 127 = .ok (.iadd, 1) := by decide +kernel
theorem dX9_readRules_128 : decode cX9_readRules 128 = .ok (.putfield 180, 3) := by decide +kernel
theorem dX9_readRules_131 : decode cX9_readRules 131 = .ok (.iinc 1 2, 3) := by decide +kernel
theorem dX9_readRules_134 : decode cX9_readRules 134 = .ok (.aload_n 0, 1) := by decide +kernel
theorem dX9_readRules_135 : decode cX9_readRules 135 = .ok (.getfield 44, 3) := by decide +kernel
theorem dX9_readRules_138 : decode cX9_readRules 138 = .ok (.iload_n 2, 1) := by decide +kernel
theorem dX9_readRules_139 : decode cX9_readRules 139 = .ok (.aload_n 0, 1) := by decide +kernel
theorem dX9_readRules_140 : decode cX9_readRules 140 = .ok (.getfield 186, 3) := by decide +kernel
theorem dX9_readRules_143 : decode cX9_readRules 143 = .ok (.iastore, 1) := by decide +kernel
theorem dX9_readRules_144 : decode cX9_readRules 144 = .ok (.aload_n 0, 1) := by decide +kernel
theorem dX9_readRules_145 : decode cX9_readRules 145 = .ok (.invokevirtual 192, 3) := by decide +kernel
theorem dX9_readRules_148 : decode cX9_readRules 148 = .ok (.iload_n 1, 1) := by decide +kernel
theorem dX9_readRules_149 : decode cX9_readRules 149 = .ok (.aload_n 0, 1) := by decide +kernel
theorem dX9_readRules_150 : decode cX9_readRules 150 = .ok (.getfield 152, 3) := by decide +kernel
theorem dX9_readRules_153 : decode cX9_readRules 153 = .ok (.if_icmp .ge 160, 3) := by decide +kernel
theorem dX9_readRules_156 : decode cX9_readRules 156 = .ok (.aload_n 0, 1) := by decide +kernel
theorem dX9_readRules_157 : decode cX9_readRules 157 = .ok (.getfield 13, 3) := by decide +kernel
theorem dX9_readRules_160 : decode cX9_readRules 160 = .ok (.iload_n 1, 1) := by decide +kernel
theorem dX9_readRules_161 : decode cX9_readRules 161 = .ok (.iaload, 1) := by decide +kernel
theorem dX9_readRules_162 : decode cX9_readRules 162 = .ok (.bipush 59, 2) := by decide +kernel
theorem dX9_readRules_164 : decode cX9_readRules 164 = .ok (.if_icmp .eq 149, 3) := by decide +kernel
theorem dX9_readRules_167 : decode cX9_readRules 167 = .ok (.aload_n 0, 1) := by decide +kernel
theorem dX9_readRules_168 : decode cX9_readRules 168 = .ok (.getfield 13, 3) := by decide +kernel
theorem dX9_readRules_171 : decode cX9_readRules 171 = .ok (.iload_n 1, 1) := by decide +kernel
theorem dX9_readRules_172 : decode cX9_readRules 172 = .ok (.iaload, 1) := by decide +kernel
theorem dX9_readRules_173 : decode cX9_readRules 173 = .ok (.istore_n 3, 1) := by decide +kernel
theorem dX9_readRules_174 : decode cX9_readRules 174 = .ok (.iinc 1 1, 3) := by decide +kernel
theorem dX9_readRules_177 : decode cX9_readRules 177 = .ok (.iload_n 3, 1) := by decide +kernel
theorem dX9_readRules_178 : decode cX9_readRules 178 = .ok (.bipush 47, 2) := by decide +kernel
theorem dX9_readRules_180 : decode cX9_readRules 180 = .ok (.if_icmp .ne 10, 3) := by decide +kernel
theorem dX9_readRules_183 : decode cX9_readRules 183 = .ok (.aload_n 0, 1) := by decide +kernel
theorem dX9_readRules_184 : decode cX9_readRules 184 = .ok (.invokevirtual 192, 3) := by decide +kernel
theorem dX9_readRules_187 : decode cX9_readRules 187 = .ok (.goto 123, 3) := by decide +kernel
theorem dX9_readRules_190 : decode cX9_readRules 190 = .ok (.iload_n 3, 1) := by decide +kernel
theorem dX9_readRules_191 : decode cX9_readRules 191 = .ok (.invokestatic 141, 3) := by decide +kernel
theorem dX9_readRules_194 : decode cX9_readRules 194 = .ok (.ifCond .ne 10, 3) := by decide +kernel
theorem dX9_readRules_197 : decode cX9_readRules 197 = .ok (.iload_n 3, 1) := by decide +kernel
theorem dX9_readRules_198 : decode cX9_readRules 198 = .ok (.invokestatic 149, 3) := by decide +kernel
theorem dX9_readRules_201 : decode cX9_readRules 201 = .ok (.ifCond .eq 107, 3) := by decide +kernel
theorem dX9_readRules_204 : decode cX9_readRules 204 = .ok (.iload_n 1, 1) := by decide +kernel
theorem dX9_readRules_205 : decode cX9_readRules 205 = .ok (.aload_n 0, 1) := by decide +kernel
theorem dX9_readRules_206 : decode cX9_readRules 206 = .ok (.getfield 152, 3) := by decide +kernel
theorem dX9_readRules_209 : decode cX9_readRules 209 = .ok (.if_icmp .ge 12, 3) := by decide +kernel
theorem dX9_readRules_212 : decode cX9_readRules 212 = .ok (.aload_n 0, 1) := by decide +kernel
theorem dX9_readRules_213 : decode cX9_readRules 213 = .ok (.getfield 13, 3) := by decide +kernel
theorem dX9_readRules_216 : decode cX9_readRules 216 = .ok (.iload_n 1, 1) := by decide +kernel
theorem dX9_readRules_217 : decode cX9_readRules 217 = .ok (.iaload, 1) := by decide +kernel
theorem dX9_readRules_218 : decode cX9_readRules 218 = .ok (.goto 4, 3) := by decide +kernel
theorem dX9_readRules_221 : decode cX9_readRules 221 = .ok (.iconst 0, 1) := by decide +kernel
theorem dX9_readRules_222 : decode cX9_readRules 222 = .ok (.istore 4, 2) := by decide +kernel
theorem dX9_readRules_224 : decode cX9_readRules 224 = .ok (.iload 4, 2) := by decide +kernel
theorem dX9_readRules_226 : decode cX9_readRules 226 = .ok (.bipush 63, 2) := by decide +kernel
theorem dX9_readRules_228 : decode cX9_readRules 228 = .ok (.if_icmp .eq 17, 3) := by decide +kernel
theorem dX9_readRules_231 : decode cX9_readRules 231 = .ok (.iload 4, 2) := by decide +kernel
theorem dX9_readRules_233 : decode cX9_readRules 233 = .ok (.bipush 42, 2) := by decide +kernel
theorem dX9_readRules_235 : decode cX9_readRules 235 = .ok (.if_icmp .eq 10, 3) := by decide +kernel
theorem dX9_readRules_238 : decode cX9_readRules 238 = .ok (.iload 4, 2) := by decide +kernel
theorem dX9_readRules_240 : decode cX9_readRules 240 = .ok (.bipush 43, 2) := by decide +kernel
theorem dX9_readRules_242 : decode cX9_readRules 242 = .ok (.if_icmp .ne 7, 3) := by decide +kernel
theorem dX9_readRules_245 : decode cX9_readRules 245 = .ok (.iconst 1, 1) := by decide +kernel
theorem dX9_readRules_246 : decode cX9_readRules 246 = .ok (.goto 4, 3) := by decide +kernel
theorem dX9_readRules_249 : decode cX9_readRules 249 = .ok (.iconst 0, 1) := by decide +kernel
theorem dX9_readRules_250 : decode cX9_readRules 250 = .ok (.istore 5, 2) := by decide +kernel
theorem dX9_readRules_252 : decode cX9_readRules 252 = .ok (.aload_n 0, 1) := by decide +kernel
theorem dX9_readRules_253 : decode cX9_readRules 253 = .ok (.getfield 35, 3) := by decide +kernel
theorem dX9_readRules_256 : decode cX9_readRules 256 = .ok (.aload_n 0, 1) := by decide +kernel
theorem dX9_readRules_257 : decode cX9_readRules 257 = .ok (.getfield 183, 3) := by decide +kernel
theorem dX9_readRules_260 : decode cX9_readRules 260 = .ok (.iload_n 3, 1) := by decide +kernel
theorem dX9_readRules_261 : decode cX9_readRules 261 = .ok (.iastore, 1) := by decide +kernel
theorem dX9_readRules_262 : decode cX9_readRules 262 = .ok (.aload_n 0, 1) := by decide +kernel
theorem dX9_readRules_263 : decode cX9_readRules 263 = .ok (.getfield 38, 3) := by decide +kernel
theorem dX9_readRules_266 : decode cX9_readRules 266 = .ok (.aload_n 0, 1) := by decide +kernel
theorem dX9_readRules_267 : decode cX9_readRules 267 = .ok (.getfield 183, 3) := by decide +kernel
theorem dX9_readRules_270 : decode cX9_readRules 270 = .ok (.iload 5, 2) := by decide +kernel
theorem dX9_readRules_272 : decode cX9_readRules 272 = .ok (.ifCond .eq 8, 3) := by decide +kernel
theorem dX9_readRules_275 : decode cX9_readRules 275 = .ok (.iload 4, 2) := by decide +kernel
theorem dX9_readRules_277 : decode cX9_readRules 277 = .ok (.goto 4, 3) := by decide +kernel
theorem dX9_readRules_280 : decode cX9_readRules 280 = .ok (.iconst 0, 1) := by decide +kernel
theorem dX9_readRules_281 : decode cX9_readRules 281 = .ok (.iastore, 1) := by decide +kernel
theorem dX9_readRules_282 : decode cX9_readRules 282 = .ok (.aload_n 0, 1) := by decide +kernel
theorem dX9_readRules_283 : decode cX9_readRules 283 = .ok (.dup, 1) := by decide +kernel
theorem dX9_readRules_284 : decode cX9_readRules 284 = .ok (.getfield 183, 3) := by decide +kernel
theorem dX9_readRules_287 : decode cX9_readRules 287 = .ok (.iconst 1, 1) := by decide +kernel
theorem dX9_readRules_288 : decode cX9_readRules 288 = .ok (.iadd, 1) := by decide +kernel
theorem dX9_readRules_289 : decode cX9_readRules 289 = .ok (.putfield 183, 3) := by decide +kernel
theorem dX9_readRules_292 : decode cX9_readRules 292 = .ok (.iload_n 1, 1) := by decide +kernel
theorem dX9_readRules_293 : decode cX9_readRules 293 = .ok (.iload 5, 2) := by decide +kernel
theorem dX9_readRules_295 : decode cX9_readRules 295 = .ok (.ifCond .eq 7, 3) := by decide +kernel
theorem dX9_readRules_298 : decode cX9_readRules 298 = .ok (.iconst 1, 1) := by decide +kernel
theorem dX9_readRules_299 : decode cX9_readRules 299 = .ok (.goto 4, 3) := by decide +kernel
theorem dX9_readRules_302 : decode cX9_readRules 302 = .ok (.iconst 0, 1) := by decide +kernel
theorem dX9_readRules_303 : decode cX9_readRules 303 = .ok (.iadd, 1) := by decide +kernel
theorem dX9_readRules_304 : decode cX9_readRules 304 = .ok (.istore_n 1, 1) := by decide +kernel
theorem dX9_readRules_305 : decode cX9_readRules 305 = .ok (.goto 5, 3) := by decide +kernel
theorem dX9_readRules_308 : decode cX9_readRules 308 = .ok (.iconst 0, 1) := by decide +kernel
theorem dX9_readRules_309 : decode cX9_readRules 309 = .ok (.ireturn, 1) := by decide +kernel
theorem dX9_readRules_310 : decode cX9_readRules 310 = .ok (.goto (-162), 3) := by decide +kernel
theorem dX9_readRules_313 : decode cX9_readRules 313 = .ok (.iload_n 1, 1) := by decide +kernel
theorem dX9_readRules_314 : decode cX9_readRules 314 = .ok (.aload_n 0, 1) := by decide +kernel
theorem dX9_readRules_315 : decode cX9_readRules 315 = .ok (.getfield 152, 3) := by decide +kernel
theorem dX9_readRules_318 : decode cX9_readRules 318 = .ok (.if_icmp .ne 5, 3) := by decide +kernel
theorem dX9_readRules_321 : decode cX9_readRules 321 = .ok (.iconst 0, 1) := by decide +kernel
theorem dX9_readRules_322 : decode cX9_readRules 322 = .ok (.ireturn, 1) := by decide +kernel
theorem dX9_readRules_323 : decode cX9_readRules 323 = .ok (.iinc 1 1, 3) := by decide +kernel
theorem dX9_readRules_326 : decode cX9_readRules 326 = .ok (.aload_n 0, 1) := by decide +kernel
theorem dX9_readRules_327 : decode cX9_readRules 327 = .ok (.getfield 47, 3) := by decide +kernel
theorem dX9_readRules_330 : decode cX9_readRules 330 = .ok (.iload_n 2, 1) := by decide +kernel
theorem dX9_readRules_331 : decode cX9_readRules 331 = .ok (.aload_n 0, 1) := by decide +kernel
theorem dX9_readRules_332 : decode cX9_readRules 332 = .ok (.getfield 186, 3) := by decide +kernel
theorem dX9_readRules_335 : decode cX9_readRules 335 = .ok (.iastore, 1) := by decide +kernel
theorem dX9_readRules_336 : decode cX9_readRules 336 = .ok (.goto (-298), 3) := by decide +kernel
theorem dX9_readRules_339 : decode cX9_readRules 339 = .ok (.aload_n 0, 1) := by decide +kernel
theorem dX9_readRules_340 : decode cX9_readRules 340 = .ok (.getfield 41, 3) := by decide +kernel
theorem dX9_readRules_343 : decode cX9_readRules 343 = .ok (.aload_n 0, 1) := by decide +kernel
theorem dX9_readRules_344 : decode cX9_readRules 344 = .ok (.getfield 186, 3) := by decide +kernel
theorem dX9_readRules_347 : decode cX9_readRules 347 = .ok (.aload_n 0, 1) := by decide +kernel
theorem dX9_readRules_348 : decode cX9_readRules 348 = .ok (.getfield 183, 3) := by decide +kernel
theorem dX9_readRules_351 : decode cX9_readRules 351 = .ok (.iastore, 1) := by decide +kernel
theorem dX9_readRules_352 : decode cX9_readRules 352 = .ok (.aload_n 0, 1) := by decide +kernel
theorem dX9_readRules_353 : decode cX9_readRules 353 = .ok (.getfield 180, 3) := by decide +kernel
theorem dX9_readRules_356 : decode cX9_readRules 356 = .ok (.ifCond .le 7, 3) := by decide +kernel
theorem dX9_readRules_359 : decode cX9_readRules 359 = .ok (.iconst 1, 1) := by decide +kernel
theorem dX9_readRules_360 : decode cX9_readRules 360 = .ok (.goto 4, 3) := by decide +kernel
theorem dX9_readRules_363 : decode cX9_readRules 363 = .ok (.iconst 0, 1) := by decide +kernel
theorem dX9_readRules_364 : decode cX9_readRules 364 = .ok (.ireturn, 1) := by decide +kernel
theorem dX9_beginAlternative_0 : decode cX9_beginAlternative 0 = .ok (.aload_n 0, 1) := by decide +kernel
theorem dX9_beginAlternative_1 : decode cX9_beginAlternative 1 = .ok (.getfield 41, 3) := by decide +kernel
theorem dX9_beginAlternative_4 : decode cX9_beginAlternative 4 = .ok (.aload_n 0, 1) := by decide +kernel
theorem dX9_beginAlternative_5 : decode cX9_beginAlternative 5 = .ok (.getfield 186, 3) := by decide +kernel
theorem dX9_beginAlternative_8 : decode cX9_beginAlternative 8 = .ok (.aload_n 0, 1) := by decide +kernel
theorem dX9_beginAlternative_9 : decode cX9_beginAlternative 9 = .ok (.getfield 183, 3) := by decide +kernel
theorem dX9_beginAlternative_12 : decode cX9_beginAlternative 12 = .ok (.iastore, 1) := by decide +kernel
theorem dX9_beginAlternative_13 : decode cX9_beginAlternative 13 = .ok (.aload_n 0, 1) := by decide +kernel
theorem dX9_beginAlternative_14 : decode cX9_beginAlternative 14 = .ok (.dup, 1) := by decide +kernel
theorem dX9_beginAlternative_15 : decode cX9_beginAlternative 15 = .ok (.getfield 186, 3) := by decide +kernel
theorem dX9_beginAlternative_18 : decode cX9_beginAlternative 18 = .ok (.iconst 1, 1) := by decide +kernel
theorem dX9_beginAlternative_19 : decode cX9_beginAlternative 19 = .ok (.iadd, 1) := by decide +kernel
theorem dX9_beginAlternative_20 : decode cX9_beginAlternative 20 = .ok (.putfield 186, 3) := by decide +kernel
theorem dX9_beginAlternative_23 : decode cX9_beginAlternative 23 = .ok (.return_, 1) := by decide +kernel
theorem dX9_areNamesThere_0 : decode cX9_areNamesThere 0 = .ok (.iconst 1, 1) := by decide +kernel
theorem dX9_areNamesThere_1 : decode cX9_areNamesThere 1 = .ok (.istore_n 1, 1) := by decide +kernel
theorem dX9_areNamesThere_2 : decode cX9_areNamesThere 2 = .ok (.iconst 0, 1) := by decide +kernel
theorem dX9_areNamesThere_3 : decode cX9_areNamesThere 3 = .ok (.istore_n 2, 1) := by decide +kernel
theorem dX9_areNamesThere_4 : decode cX9_areNamesThere 4 = .ok (.iload_n 2, 1) := by decide +kernel
theorem dX9_areNamesThere_5 : decode cX9_areNamesThere 5 = .ok (.aload_n 0, 1) := by decide +kernel
theorem dX9_areNamesThere_6 : decode cX9_areNamesThere 6 = .ok (.getfield 183, 3) := by decide +kernel
theorem dX9_areNamesThere_9 : decode cX9_areNamesThere 9 = .ok (.if_icmp .ge 48, 3) := by decide +kernel
theorem dX9_areNamesThere_12 : decode cX9_areNamesThere 12 = .ok (.iload_n 1, 1) := by decide +kernel
theorem dX9_areNamesThere_13 : decode cX9_areNamesThere 13 = .ok (.ifCond .eq 36, 3) := by decide +kernel
theorem dX9_areNamesThere_16 : decode cX9_areNamesThere 16 = .ok (.aload_n 0, 1) := by decide +kernel
theorem dX9_areNamesThere_17 : decode cX9_areNamesThere 17 = .ok (.getfield 35, 3) := by decide +kernel
theorem dX9_areNamesThere_20 : decode cX9_areNamesThere 20 = .ok (.iload_n 2, 1) := by decide +kernel
theorem dX9_areNamesThere_21 : decode cX9_areNamesThere 21 = .ok (.iaload, 1) := by decide +kernel
theorem dX9_areNamesThere_22 : decode cX9_areNamesThere 22 = .ok (.invokestatic 149, 3) := by decide +kernel
theorem dX9_areNamesThere_25 : decode cX9_areNamesThere 25 = .ok (.ifCond .eq 20, 3) := by decide +kernel
theorem dX9_areNamesThere_28 : decode cX9_areNamesThere 28 = .ok (.aload_n 0, 1) := by decide +kernel
theorem dX9_areNamesThere_29 : decode cX9_areNamesThere 29 = .ok (.getfield 44, 3) := by decide +kernel
theorem dX9_areNamesThere_32 : decode cX9_areNamesThere 32 = .ok (.aload_n 0, 1) := by decide +kernel
theorem dX9_areNamesThere_33 : decode cX9_areNamesThere 33 = .ok (.getfield 35, 3) := by decide +kernel
theorem dX9_areNamesThere_36 : decode cX9_areNamesThere 36 = .ok (.iload_n 2, 1) := by decide +kernel
theorem dX9_areNamesThere_37 : decode cX9_areNamesThere 37 = .ok (.iaload, 1) := by decide +kernel
theorem dX9_areNamesThere_38 : decode cX9_areNamesThere 38 = .ok (.bipush 65, 2) := by decide +kernel
theorem dX9_areNamesThere_40 : decode cX9_areNamesThere 40 = .ok (.isub, 1) := by decide +kernel
theorem dX9_areNamesThere_41 : decode cX9_areNamesThere 41 = .ok (.iaload, 1) := by decide +kernel
theorem dX9_areNamesThere_42 : decode cX9_areNamesThere 42 = .ok (.ifCond .lt 7, 3) := by decide +kernel
theorem dX9_areNamesThere_45 : decode cX9_areNamesThere 45 = .ok (.iconst 1, 1) := by decide +kernel
theorem dX9_areNamesThere_46 : decode cX9_areNamesThere 46 = .ok (.goto 4, 3) := by decide +kernel
theorem dX9_areNamesThere_49 : decode cX9_areNamesThere 49 = .ok (.iconst 0, 1) := by decide +kernel
theorem dX9_areNamesThere_50 : decode cX9_areNamesThere 50 = .ok (.istore_n 1, 1) := by decide +kernel
theorem dX9_areNamesThere_51 : decode cX9_areNamesThere 51 = .ok (.iinc 2 1, 3) := by decide +kernel
theorem dX9_areNamesThere_54 : decode cX9_areNamesThere 54 = .ok (.goto (-50), 3) := by decide +kernel
theorem dX9_areNamesThere_57 : decode cX9_areNamesThere 57 = .ok (.iload_n 1, 1) := by decide +kernel
theorem dX9_areNamesThere_58 : decode cX9_areNamesThere 58 = .ok (.ireturn, 1) := by decide +kernel
theorem dX9_isVoid_0 : decode cX9_isVoid 0 = .ok (.aload_n 0, 1) := by decide +kernel
theorem dX9_isVoid_1 : decode cX9_isVoid 1 = .ok (.getfield 38, 3) := by decide +kernel
theorem dX9_isVoid_4 : decode cX9_isVoid 4 = .ok (.iload_n 1, 1) := by decide +kernel
theorem dX9_isVoid_5 : decode cX9_isVoid 5 = .ok (.iaload, 1) := by decide +kernel
theorem dX9_isVoid_6 : decode cX9_isVoid 6 = .ok (.bipush 63, 2) := by decide +kernel
theorem dX9_isVoid_8 : decode cX9_isVoid 8 = .ok (.if_icmp .eq 43, 3) := by decide +kernel
theorem dX9_isVoid_11 : decode cX9_isVoid 11 = .ok (.aload_n 0, 1) := by decide +kernel
theorem dX9_isVoid_12 : decode cX9_isVoid 12 = .ok (.getfield 38, 3) := by decide +kernel
theorem dX9_isVoid_15 : decode cX9_isVoid 15 = .ok (.iload_n 1, 1) := by decide +kernel
theorem dX9_isVoid_16 : decode cX9_isVoid 16 = .ok (.iaload, 1) := by decide +kernel
theorem dX9_isVoid_17 : decode cX9_isVoid 17 = .ok (.bipush 42, 2) := by decide +kernel
theorem dX9_isVoid_19 : decode cX9_isVoid 19 = .ok (.if_icmp .eq 32, 3) := by decide +kernel
theorem dX9_isVoid_22 : decode cX9_isVoid 22 = .ok (.aload_n 0, 1) := by decide +kernel
theorem dX9_isVoid_23 : decode cX9_isVoid 23 = .ok (.getfield 35, 3) := by decide +kernel
theorem dX9_isVoid_26 : decode cX9_isVoid 26 = .ok (.iload_n 1, 1) := by decide +kernel
theorem dX9_isVoid_27 : decode cX9_isVoid 27 = .ok (.iaload, 1) := by decide +kernel
theorem dX9_isVoid_28 : decode cX9_isVoid 28 = .ok (.invokestatic 149, 3) := by decide +kernel
theorem dX9_isVoid_31 : decode cX9_isVoid 31 = .ok (.ifCond .eq 24, 3) := by decide +kernel
theorem dX9_isVoid_34 : decode cX9_isVoid 34 = .ok (.aload_n 0, 1) := by decide +kernel
theorem dX9_isVoid_35 : decode cX9_isVoid 35 = .ok (.getfield 50, 3) := by decide +kernel
theorem dX9_isVoid_38 : decode cX9_isVoid 38 = .ok (.aload_n 0, 1) := by decide +kernel
theorem dX9_isVoid_39 : decode cX9_isVoid 39 = .ok (.getfield 35, 3) := by decide +kernel
theorem dX9_isVoid_42 : decode cX9_isVoid 42 = .ok (.iload_n 1, 1) := by decide +kernel
theorem dX9_isVoid_43 : decode cX9_isVoid 43 = .ok (.iaload, 1) := by decide +kernel
theorem dX9_isVoid_44 : decode cX9_isVoid 44 = .ok (.bipush 65, 2) := by decide +kernel
theorem dX9_isVoid_46 : decode cX9_isVoid 46 = .ok (.isub, 1) := by decide +kernel
theorem dX9_isVoid_47 : decode cX9_isVoid 47 = .ok (.baload, 1) := by decide +kernel
theorem dX9_isVoid_48 : decode cX9_isVoid 48 = .ok (.ifCond .eq 7, 3) := by decide +kernel
theorem dX9_isVoid_51 : decode cX9_isVoid 51 = .ok (.iconst 1, 1) := by decide +kernel
theorem dX9_isVoid_52 : decode cX9_isVoid 52 = .ok (.goto 4, 3) := by decide +kernel
theorem dX9_isVoid_55 : decode cX9_isVoid 55 = .ok (.iconst 0, 1) := by decide +kernel
theorem dX9_isVoid_56 : decode cX9_isVoid 56 = .ok (.ireturn, 1) := by decide +kernel
theorem dX9_findEmptiable_0 : decode cX9_findEmptiable 0 = .ok (.iconst 0, 1) := by decide +kernel
theorem dX9_findEmptiable_1 : decode cX9_findEmptiable 1 = .ok (.istore_n 1, 1) := by decide +kernel
theorem dX9_findEmptiable_2 : decode cX9_findEmptiable 2 = .ok (.iload_n 1, 1) := by decide +kernel
theorem dX9_findEmptiable_3 : decode cX9_findEmptiable 3 = .ok (.bipush 6, 2) := by decide +kernel
theorem dX9_findEmptiable_5 : decode cX9_findEmptiable 5 = .ok (.if_icmp .ge 16, 3) := by decide +kernel
theorem dX9_findEmptiable_8 : decode cX9_findEmptiable 8 = .ok (.aload_n 0, 1) := by decide +kernel
theorem dX9_findEmptiable_9 : decode cX9_findEmptiable 9 = .ok (.getfield 50, 3) := by decide +kernel
theorem dX9_findEmptiable_12 : decode cX9_findEmptiable 12 = .ok (.iload_n 1, 1) := by decide +kernel
theorem dX9_findEmptiable_13 : decode cX9_findEmptiable 13 = .ok (.iconst 0, 1) := by decide +kernel
theorem dX9_findEmptiable_14 : decode cX9_findEmptiable 14 = .ok (.bastore, 1) := by decide +kernel
theorem dX9_findEmptiable_15 : decode cX9_findEmptiable 15 = .ok (.iinc 1 1, 3) := by decide +kernel
theorem dX9_findEmptiable_18 : decode cX9_findEmptiable 18 = .ok (.goto (-16), 3) := by decide +kernel
theorem dX9_findEmptiable_21 : decode cX9_findEmptiable 21 = .ok (.iconst 0, 1) := by decide +kernel
theorem dX9_findEmptiable_22 : decode cX9_findEmptiable 22 = .ok (.istore_n 1, 1) := by decide +kernel
theorem dX9_findEmptiable_23 : decode cX9_findEmptiable 23 = .ok (.iload_n 1, 1) := by decide +kernel
theorem dX9_findEmptiable_24 : decode cX9_findEmptiable 24 = .ok (.bipush 6, 2) := by decide +kernel
theorem dX9_findEmptiable_26 : decode cX9_findEmptiable 26 = .ok (.if_icmp .ge 126, 3) := by decide +kernel
theorem dX9_findEmptiable_29 : decode cX9_findEmptiable 29 = .ok (.iconst 0, 1) := by decide +kernel
theorem dX9_findEmptiable_30 : decode cX9_findEmptiable 30 = .ok (.istore_n 2, 1) := by decide +kernel
theorem dX9_findEmptiable_31 : decode cX9_findEmptiable 31 = .ok (.iload_n 2, 1) := by decide +kernel
theorem dX9_findEmptiable_32 : decode cX9_findEmptiable 32 = .ok (.bipush 6, 2) := by decide +kernel
theorem dX9_findEmptiable_34 : decode cX9_findEmptiable 34 = .ok (.if_icmp .ge 112, 3) := by decide +kernel
theorem dX9_findEmptiable_37 : decode cX9_findEmptiable 37 = .ok (.aload_n 0, 1) := by decide +kernel
theorem dX9_findEmptiable_38 : decode cX9_findEmptiable 38 = .ok (.getfield 44, 3) := by decide +kernel
theorem dX9_findEmptiable_41 : decode cX9_findEmptiable 41 = .ok (.iload_n 2, 1) := by decide +kernel
theorem dX9_findEmptiable_42 : decode cX9_findEmptiable 42 = .ok (.iaload, 1) := by decide +kernel
theorem dX9_findEmptiable_43 : decode cX9_findEmptiable 43 = .ok (.istore_n 3, 1) := by decide +kernel
theorem dX9_findEmptiable_44 : decode cX9_findEmptiable 44 = .ok (.iload_n 3, 1) := by decide +kernel
theorem dX9_findEmptiable_45 : decode cX9_findEmptiable 45 = .ok (.ifCond .lt 95, 3) := by decide +kernel
theorem dX9_findEmptiable_48 : decode cX9_findEmptiable 48 = .ok (.iload_n 3, 1) := by decide +kernel
theorem dX9_findEmptiable_49 : decode cX9_findEmptiable 49 = .ok (.aload_n 0, 1) := by decide +kernel
theorem dX9_findEmptiable_50 : decode cX9_findEmptiable 50 = .ok (.getfield 47, 3) := by decide +kernel
theorem dX9_findEmptiable_53 : decode cX9_findEmptiable 53 = .ok (.iload_n 2, 1) := by decide +kernel
theorem dX9_findEmptiable_54 : decode cX9_findEmptiable 54 = .ok (.iaload, 1) := by decide +kernel
theorem dX9_findEmptiable_55 : decode cX9_findEmptiable 55 = .ok (.if_icmp .ge 85, 3) := by decide +kernel
theorem dX9_findEmptiable_58 : decode cX9_findEmptiable 58 = .ok (.iconst 1, 1) := by decide +kernel
theorem dX9_findEmptiable_59 : decode cX9_findEmptiable 59 = .ok (.istore 4, 2) := by decide +kernel
theorem dX9_findEmptiable_61 : decode cX9_findEmptiable 61 = .ok (.aload_n 0, 1) := by decide +kernel
theorem dX9_findEmptiable_62 : decode cX9_findEmptiable 62 = .ok (.getfield 41, 3) := by decide +kernel
theorem dX9_findEmptiable_65 : decode cX9_findEmptiable 65 = .ok (.iload_n 3, 1) := by decide +kernel
theorem dX9_findEmptiable_66 : decode cX9_findEmptiable 66 = .ok (.iaload, 1) := by decide +kernel
theorem dX9_findEmptiable_67 : decode cX9_findEmptiable 67 = .ok (.istore 5, 2) := by decide +kernel
theorem dX9_findEmptiable_69 : decode cX9_findEmptiable 69 = .ok (.iload 5, 2) := by decide +kernel
theorem dX9_findEmptiable_71 : decode cX9_findEmptiable 71 = .ok (.aload_n 0, 1) := by decide +kernel
theorem dX9_findEmptiable_72 : decode cX9_findEmptiable 72 = .ok (.getfield 41, 3) := by decide +kernel
theorem dX9_findEmptiable_75 : decode cX9_findEmptiable 75 = .ok (.iload_n 3, 1) := by decide +kernel
theorem dX9_findEmptiable_76 : decode cX9_findEmptiable 76 = .ok (.iconst 1, 1) := by decide +kernel
theorem dX9_findEmptiable_77 : decode cX9_findEmptiable 77 = .ok (.iadd, 1) := by decide +kernel
theorem dX9_findEmptiable_78 : decode cX9_findEmptiable 78 = .ok (.iaload, 1) := by decide +kernel
theorem dX9_findEmptiable_79 : decode cX9_findEmptiable 79 = .ok (.if_icmp .ge 30, 3) := by decide +kernel
theorem dX9_findEmptiable_82 : decode cX9_findEmptiable 82 = .ok (.iload 4, 2) := by decide +kernel
theorem dX9_findEmptiable_84 : decode cX9_findEmptiable 84 = .ok (.ifCond .eq 16, 3) := by decide +kernel
theorem dX9_findEmptiable_87 : decode cX9_findEmptiable 87 = .ok (.aload_n 0, 1) := by decide +kernel
theorem dX9_findEmptiable_88 : decode cX9_findEmptiable 88 = .ok (.iload 5, 2) := by decide +kernel
theorem dX9_findEmptiable_90 : decode cX9_findEmptiable 90 = .ok (.invokevirtual 195, 3) := by decide +kernel
theorem dX9_findEmptiable_93 : decode cX9_findEmptiable 93 = .ok (.ifCond .eq 7, 3) := by decide +kernel
theorem dX9_findEmptiable_96 : decode cX9_findEmptiable 96 = .ok (.iconst 1, 1) := by decide +kernel
theorem dX9_findEmptiable_97 : decode cX9_findEmptiable 97 = .ok (.goto 4, 3) := by decide +kernel
theorem dX9_findEmptiable_100 : decode cX9_findEmptiable 100 = .ok (.iconst 0, 1) := by decide +kernel
theorem dX9_findEmptiable_101 : decode cX9_findEmptiable 101 = .ok (.istore 4, 2) := by decide +kernel
theorem dX9_findEmptiable_103 : decode cX9_findEmptiable 103 = .ok (.iinc 5 1, 3) := by decide +kernel
theorem dX9_findEmptiable_106 : decode cX9_findEmptiable 106 = .ok (.goto (-37), 3) := by decide +kernel
theorem dX9_findEmptiable_109 : decode cX9_findEmptiable 109 = .ok (.aload_n 0, 1) := by decide +kernel
theorem dX9_findEmptiable_110 : decode cX9_findEmptiable 110 = .ok (.getfield 50, 3) := by decide +kernel
theorem dX9_findEmptiable_113 : decode cX9_findEmptiable 113 = .ok (.iload_n 2, 1) := by decide +kernel
theorem dX9_findEmptiable_114 : decode cX9_findEmptiable 114 = .ok (.aload_n 0, 1) := by decide +kernel
theorem dX9_findEmptiable_115 : decode cX9_findEmptiable 115 = .ok (.getfield 50, 3) := by decide +kernel
theorem dX9_findEmptiable_118 : decode cX9_findEmptiable 118 = .ok (.iload_n 2, 1) := by decide +kernel
theorem dX9_findEmptiable_119 : decode cX9_findEmptiable 119 = .ok (.baload, 1) := by decide +kernel
theorem dX9_findEmptiable_120 : decode cX9_findEmptiable 120 = .ok (.ifCond .ne 8, 3) := by decide +kernel
theorem dX9_findEmptiable_123 : decode cX9_findEmptiable 123 = .ok (.iload 4, 2) := by decide +kernel
theorem dX9_findEmptiable_125 : decode cX9_findEmptiable 125 = .ok (.ifCond .eq 7, 3) := by decide +kernel
theorem dX9_findEmptiable_128 : decode cX9_findEmptiable 128 = .ok (.iconst 1, 1) := by decide +kernel
theorem dX9_findEmptiable_129 : decode cX9_findEmptiable 129 = .ok (.goto 4, 3) := by decide +kernel
theorem dX9_findEmptiable_132 : decode cX9_findEmptiable 132 = .ok (.iconst 0, 1) := by decide +kernel
theorem dX9_findEmptiable_133 : decode cX9_findEmptiable 133 = .ok (.bastore, 1) := by decide +kernel
theorem dX9_findEmptiable_134 : decode cX9_findEmptiable 134 = .ok (.iinc 3 1, 3) := by decide +kernel
theorem dX9_findEmptiable_137 : decode cX9_findEmptiable 137 = .ok (.goto (-93), 3) := by decide +kernel
theorem dX9_findEmptiable_140 : decode cX9_findEmptiable 140 = .ok (.iinc 2 1, 3) := by decide +kernel
theorem dX9_findEmptiable_143 : decode cX9_findEmptiable 143 = .ok (.goto (-112), 3) := by decide +kernel
theorem dX9_findEmptiable_146 : decode cX9_findEmptiable 146 = .ok (.iinc 1 1, 3) := by decide +kernel
theorem dX9_findEmptiable_149 : decode cX9_findEmptiable 149 = .ok (.goto (-126), 3) := by decide +kernel
theorem dX9_findEmptiable_152 : decode cX9_findEmptiable 152 = .ok (.return_, 1) := by decide +kernel
theorem dX9_findLeads_0 : decode cX9_findLeads 0 = .ok (.iconst 0, 1) := by decide +kernel
theorem dX9_findLeads_1 : decode cX9_findLeads 1 = .ok (.istore_n 1, 1) := by decide +kernel
theorem dX9_findLeads_2 : decode cX9_findLeads 2 = .ok (.iload_n 1, 1) := by decide +kernel
theorem dX9_findLeads_3 : decode cX9_findLeads 3 = .ok (.bipush 36, 2) := by decide +kernel
theorem dX9_findLeads_5 : decode cX9_findLeads 5 = .ok (.if_icmp .ge 16, 3) := by decide +kernel
theorem dX9_findLeads_8 : decode cX9_findLeads 8 = .ok (.aload_n 0, 1) := by decide +kernel
theorem dX9_findLeads_9 : decode cX9_findLeads 9 = .ok (.getfield 53, 3) := by decide +kernel
theorem dX9_findLeads_12 : decode cX9_findLeads 12 = .ok (.iload_n 1, 1) := by decide +kernel
theorem dX9_findLeads_13 : decode cX9_findLeads 13 = .ok (.iconst 0, 1) := by decide +kernel
theorem dX9_findLeads_14 : decode cX9_findLeads 14 = .ok (.bastore, 1) := by decide +kernel
theorem dX9_findLeads_15 : decode cX9_findLeads 15 = .ok (.iinc 1 1, 3) := by decide +kernel
theorem dX9_findLeads_18 : decode cX9_findLeads 18 = .ok (.goto (-16), 3) := by decide +kernel
theorem dX9_findLeads_21 : decode cX9_findLeads 21 = .ok (.iconst 0, 1) := by decide +kernel
theorem dX9_findLeads_22 : decode cX9_findLeads 22 = .ok (.istore_n 1, 1) := by decide +kernel
theorem dX9_findLeads_23 : decode cX9_findLeads 23 = .ok (.iload_n 1, 1) := by decide +kernel
theorem dX9_findLeads_24 : decode cX9_findLeads 24 = .ok (.bipush 6, 2) := by decide +kernel
theorem dX9_findLeads_26 : decode cX9_findLeads 26 = .ok (.if_icmp .ge 122, 3) := by decide +kernel
theorem dX9_findLeads_29 : decode cX9_findLeads 29 = .ok (.aload_n 0, 1) := by decide +kernel
theorem dX9_findLeads_30 : decode cX9_findLeads 30 = .ok (.getfield 44, 3) := by decide +kernel
theorem dX9_findLeads_33 : decode cX9_findLeads 33 = .ok (.iload_n 1, 1) := by decide +kernel
theorem dX9_findLeads_34 : decode cX9_findLeads 34 = .ok (.iaload, 1) := by decide +kernel
theorem dX9_findLeads_35 : decode cX9_findLeads 35 = .ok (.istore_n 2, 1) := by decide +kernel
theorem dX9_findLeads_36 : decode cX9_findLeads 36 = .ok (.iload_n 2, 1) := by decide +kernel
theorem dX9_findLeads_37 : decode cX9_findLeads 37 = .ok (.ifCond .lt 105, 3) := by decide +kernel
theorem dX9_findLeads_40 : decode cX9_findLeads 40 = .ok (.iload_n 2, 1) := by decide +kernel
theorem dX9_findLeads_41 : decode cX9_findLeads 41 = .ok (.aload_n 0, 1) := by decide +kernel
theorem dX9_findLeads_42 : decode cX9_findLeads 42 = .ok (.getfield 47, 3) := by decide +kernel
theorem dX9_findLeads_45 : decode cX9_findLeads 45 = .ok (.iload_n 1, 1) := by decide +kernel
theorem dX9_findLeads_46 : decode cX9_findLeads 46 = .ok (.iaload, 1) := by decide +kernel
theorem dX9_findLeads_47 : decode cX9_findLeads 47 = .ok (.if_icmp .ge 95, 3) := by decide +kernel
theorem dX9_findLeads_50 : decode cX9_findLeads 50 = .ok (.iconst 1, 1) := by decide +kernel
theorem dX9_findLeads_51 : decode cX9_findLeads 51 = .ok (.istore_n 3, 1) := by decide +kernel
theorem dX9_findLeads_52 : decode cX9_findLeads 52 = .ok (.aload_n 0, 1) := by decide +kernel
theorem dX9_findLeads_53 : decode cX9_findLeads 53 = .ok (.getfield 41, 3) := by decide +kernel
theorem dX9_findLeads_56 : decode cX9_findLeads 56 = .ok (.iload_n 2, 1) := by decide +kernel
theorem dX9_findLeads_57 : decode cX9_findLeads 57 = .ok (.iaload, 1) := by decide +kernel
theorem dX9_findLeads_58 : decode cX9_findLeads 58 = .ok (.istore 4, 2) := by decide +kernel
theorem dX9_findLeads_60 : decode cX9_findLeads 60 = .ok (.iload 4, 2) := by decide +kernel
theorem dX9_findLeads_62 : decode cX9_findLeads 62 = .ok (.aload_n 0, 1) := by decide +kernel
theorem dX9_findLeads_63 : decode cX9_findLeads 63 = .ok (.getfield 41, 3) := by decide +kernel
theorem dX9_findLeads_66 : decode cX9_findLeads 66 = .ok (.iload_n 2, 1) := by decide +kernel
theorem dX9_findLeads_67 : decode cX9_findLeads 67 = .ok (.iconst 1, 1) := by decide +kernel
theorem dX9_findLeads_68 : decode cX9_findLeads 68 = .ok (.iadd, 1) := by decide +kernel
theorem dX9_findLeads_69 : decode cX9_findLeads 69 = .ok (.iaload, 1) := by decide +kernel
theorem dX9_findLeads_70 : decode cX9_findLeads 70 = .ok (.if_icmp .ge 66, 3) := by decide +kernel
theorem dX9_findLeads_73 : decode cX9_findLeads 73 = .ok (.iload_n 3, 1) := by decide +kernel
theorem dX9_findLeads_74 : decode cX9_findLeads 74 = .ok (.ifCond .eq 37, 3) := by decide +kernel
theorem dX9_findLeads_77 : decode cX9_findLeads 77 = .ok (.aload_n 0, 1) := by decide +kernel
theorem dX9_findLeads_78 : decode cX9_findLeads 78 = .ok (.getfield 35, 3) := by decide +kernel
theorem dX9_findLeads_81 : decode cX9_findLeads 81 = .ok (.iload 4, 2) := by decide +kernel
theorem dX9_findLeads_83 : decode cX9_findLeads 83 = .ok (.iaload, 1) := by decide +kernel
theorem dX9_findLeads_84 : decode cX9_findLeads 84 = .ok (.invokestatic 149, 3) := by decide +kernel
theorem dX9_findLeads_87 : decode cX9_findLeads 87 = .ok (.ifCond .eq 24, 3) := by decide +kernel
theorem dX9_findLeads_90 : decode cX9_findLeads 90 = .ok (.aload_n 0, 1) := by decide +kernel
theorem dX9_findLeads_91 : decode cX9_findLeads 91 = .ok (.getfield 53, 3) := by decide +kernel
theorem dX9_findLeads_94 : decode cX9_findLeads 94 = .ok (.bipush 6, 2) := by decide +kernel
theorem dX9_findLeads_96 : decode cX9_findLeads 96 = .ok (.iload_n 1, 1) := by decide +kernel
theorem dX9_findLeads_97 : decode cX9_findLeads 97 = .ok (.imul, 1) := by decide +kernel
theorem dX9_findLeads_98 : decode cX9_findLeads 98 = .ok (.aload_n 0, 1) := by decide +kernel
theorem dX9_findLeads_99 : decode cX9_findLeads 99 = .ok (.getfield 35, 3) := by decide +kernel
theorem dX9_findLeads_102 : decode cX9_findLeads 102 = .ok (.iload 4, 2) := by decide +kernel
theorem dX9_findLeads_104 : decode cX9_findLeads 104 = .ok (.iaload, 1) := by decide +kernel
theorem dX9_findLeads_105 : decode cX9_findLeads 105 = .ok (.iadd, 1) := by decide +kernel
theorem dX9_findLeads_106 : decode cX9_findLeads 106 = .ok (.bipush 65, 2) := by decide +kernel
theorem dX9_findLeads_108 : decode cX9_findLeads 108 = .ok (.isub, 1) := by decide +kernel
theorem dX9_findLeads_109 : decode cX9_findLeads 109 = .ok (.iconst 1, 1) := by decide +kernel
theorem dX9_findLeads_110 : decode cX9_findLeads 110 = .ok (.bastore, 1) := by decide +kernel
theorem dX9_findLeads_111 : decode cX9_findLeads 111 = .ok (.iload_n 3, 1) := by decide +kernel
theorem dX9_findLeads_112 : decode cX9_findLeads 112 = .ok (.ifCond .eq 16, 3) := by decide +kernel
theorem dX9_findLeads_115 : decode cX9_findLeads 115 = .ok (.aload_n 0, 1) := by decide +kernel
theorem dX9_findLeads_116 : decode cX9_findLeads 116 = .ok (.iload 4, 2) := by decide +kernel
theorem dX9_findLeads_118 : decode cX9_findLeads 118 = .ok (.invokevirtual 195, 3) := by decide +kernel
theorem dX9_findLeads_121 : decode cX9_findLeads 121 = .ok (.ifCond .eq 7, 3) := by decide +kernel
theorem dX9_findLeads_124 : decode cX9_findLeads 124 = .ok (.iconst 1, 1) := by decide +kernel
theorem dX9_findLeads_125 : decode cX9_findLeads 125 = .ok (.goto 4, 3) := by decide +kernel
theorem dX9_findLeads_128 : decode cX9_findLeads 128 = .ok (.iconst 0, 1) := by decide +kernel
theorem dX9_findLeads_129 : decode cX9_findLeads 129 = .ok (.istore_n 3, 1) := by decide +kernel
theorem dX9_findLeads_130 : decode cX9_findLeads 130 = .ok (.iinc 4 1, 3) := by decide +kernel
theorem dX9_findLeads_133 : decode cX9_findLeads 133 = .ok (.goto (-73), 3) := by decide +kernel
theorem dX9_findLeads_136 : decode cX9_findLeads 136 = .ok (.iinc 2 1, 3) := by decide +kernel
theorem dX9_findLeads_139 : decode cX9_findLeads 139 = .ok (.goto (-103), 3) := by decide +kernel
theorem dX9_findLeads_142 : decode cX9_findLeads 142 = .ok (.iinc 1 1, 3) := by decide +kernel
theorem dX9_findLeads_145 : decode cX9_findLeads 145 = .ok (.goto (-122), 3) := by decide +kernel
theorem dX9_findLeads_148 : decode cX9_findLeads 148 = .ok (.return_, 1) := by decide +kernel
theorem dX9_findOrder_0 : decode cX9_findOrder 0 = .ok (.iconst 0, 1) := by decide +kernel
theorem dX9_findOrder_1 : decode cX9_findOrder 1 = .ok (.istore_n 1, 1) := by decide +kernel
theorem dX9_findOrder_2 : decode cX9_findOrder 2 = .ok (.aload_n 0, 1) := by decide +kernel
theorem dX9_findOrder_3 : decode cX9_findOrder 3 = .ok (.invokevirtual 198, 3) := by decide +kernel
theorem dX9_findOrder_6 : decode cX9_findOrder 6 = .ok (.iconst 0, 1) := by decide +kernel
theorem dX9_findOrder_7 : decode cX9_findOrder 7 = .ok (.istore_n 2, 1) := by decide +kernel
theorem dX9_findOrder_8 : decode cX9_findOrder 8 = .ok (.iload_n 2, 1) := by decide +kernel
theorem dX9_findOrder_9 : decode cX9_findOrder 9 = .ok (.bipush 6, 2) := by decide +kernel
theorem dX9_findOrder_11 : decode cX9_findOrder 11 = .ok (.if_icmp .ge 123, 3) := by decide +kernel
theorem dX9_findOrder_14 : decode cX9_findOrder 14 = .ok (.iconst 0, 1) := by decide +kernel
theorem dX9_findOrder_15 : decode cX9_findOrder 15 = .ok (.istore_n 3, 1) := by decide +kernel
theorem dX9_findOrder_16 : decode cX9_findOrder 16 = .ok (.iload_n 3, 1) := by decide +kernel
theorem dX9_findOrder_17 : decode cX9_findOrder 17 = .ok (.bipush 6, 2) := by decide +kernel
theorem dX9_findOrder_19 : decode cX9_findOrder 19 = .ok (.if_icmp .ge 109, 3) := by decide +kernel
theorem dX9_findOrder_22 : decode cX9_findOrder 22 = .ok (.aload_n 0, 1) := by decide +kernel
theorem dX9_findOrder_23 : decode cX9_findOrder 23 = .ok (.getfield 44, 3) := by decide +kernel
theorem dX9_findOrder_26 : decode cX9_findOrder 26 = .ok (.iload_n 3, 1) := by decide +kernel
theorem dX9_findOrder_27 : decode cX9_findOrder 27 = .ok (.iaload, 1) := by decide +kernel
theorem dX9_findOrder_28 : decode cX9_findOrder 28 = .ok (.ifCond .lt 16, 3) := by decide +kernel
theorem dX9_findOrder_31 : decode cX9_findOrder 31 = .ok (.aload_n 0, 1) := by decide +kernel
theorem dX9_findOrder_32 : decode cX9_findOrder 32 = .ok (.getfield 123, 3) := by decide +kernel
theorem dX9_findOrder_35 : decode cX9_findOrder 35 = .ok (.iload_n 3, 1) := by decide +kernel
theorem dX9_findOrder_36 : decode cX9_findOrder 36 = .ok (.baload, 1) := by decide +kernel
theorem dX9_findOrder_37 : decode cX9_findOrder 37 = .ok (.ifCond .ne 7, 3) := by decide +kernel
theorem dX9_findOrder_40 : decode cX9_findOrder 40 = .ok (.iconst 1, 1) := by decide +kernel
theorem dX9_findOrder_41 : decode cX9_findOrder 41 = .ok (.goto 4, 3) := by decide +kernel
theorem dX9_findOrder_44 : decode cX9_findOrder 44 = .ok (.iconst 0, 1) := by decide +kernel
theorem dX9_findOrder_45 : decode cX9_findOrder 45 = .ok (.istore 4, 2) := by decide +kernel
theorem dX9_findOrder_47 : decode cX9_findOrder 47 = .ok (.iconst 0, 1) := by decide +kernel
theorem dX9_findOrder_48 : decode cX9_findOrder 48 = .ok (.istore 5, 2) := by decide +kernel
theorem dX9_findOrder_50 : decode cX9_findOrder 50 = .ok (.iload 5, 2) := by decide +kernel
theorem dX9_findOrder_52 : decode cX9_findOrder 52 = .ok (.bipush 6, 2) := by decide +kernel
theorem dX9_findOrder_54 : decode cX9_findOrder 54 = .ok (.if_icmp .ge 46, 3) := by decide +kernel
theorem dX9_findOrder_57 : decode cX9_findOrder 57 = .ok (.iload 4, 2) := by decide +kernel
theorem dX9_findOrder_59 : decode cX9_findOrder 59 = .ok (.ifCond .eq 32, 3) := by decide +kernel
theorem dX9_findOrder_62 : decode cX9_findOrder 62 = .ok (.aload_n 0, 1) := by decide +kernel
theorem dX9_findOrder_63 : decode cX9_findOrder 63 = .ok (.getfield 53, 3) := by decide +kernel
theorem dX9_findOrder_66 : decode cX9_findOrder 66 = .ok (.bipush 6, 2) := by decide +kernel
theorem dX9_findOrder_68 : decode cX9_findOrder 68 = .ok (.iload_n 3, 1) := by decide +kernel
theorem dX9_findOrder_69 : decode cX9_findOrder 69 = .ok (.imul, 1) := by decide +kernel
theorem dX9_findOrder_70 : decode cX9_findOrder 70 = .ok (.iload 5, 2) := by decide +kernel
theorem dX9_findOrder_72 : decode cX9_findOrder 72 = .ok (.iadd, 1) := by decide +kernel
theorem dX9_findOrder_73 : decode cX9_findOrder 73 = .ok (.baload, 1) := by decide +kernel
theorem dX9_findOrder_74 : decode cX9_findOrder 74 = .ok (.ifCond .eq 13, 3) := by decide +kernel
theorem dX9_findOrder_77 : decode cX9_findOrder 77 = .ok (.aload_n 0, 1) := by decide +kernel
theorem dX9_findOrder_78 : decode cX9_findOrder 78 = .ok (.getfield 123, 3) := by decide +kernel
theorem dX9_findOrder_81 : decode cX9_findOrder 81 = .ok (.iload 5, 2) := by decide +kernel
theorem dX9_findOrder_83 : decode cX9_findOrder 83 = .ok (.baload, 1) := by decide +kernel
theorem dX9_findOrder_84 : decode cX9_findOrder 84 = .ok (.ifCond .eq 7, 3) := by decide +kernel
theorem dX9_findOrder_87 : decode cX9_findOrder 87 = .ok (.iconst 1, 1) := by decide +kernel
theorem dX9_findOrder_88 : decode cX9_findOrder 88 = .ok (.goto 4, 3) := by decide +kernel
theorem dX9_findOrder_91 : decode cX9_findOrder 91 = .ok (.iconst 0, 1) := by decide +kernel
theorem dX9_findOrder_92 : decode cX9_findOrder 92 = .ok (.istore 4, 2) := by decide +kernel
theorem dX9_findOrder_94 : decode cX9_findOrder 94 = .ok (.iinc 5 1, 3) := by decide +kernel
theorem dX9_findOrder_97 : decode cX9_findOrder 97 = .ok (.goto (-47), 3) := by decide +kernel
theorem dX9_findOrder_100 : decode cX9_findOrder 100 = .ok (.iload 4, 2) := by decide +kernel
theorem dX9_findOrder_102 : decode cX9_findOrder 102 = .ok (.ifCond .eq 20, 3) := by decide +kernel
theorem dX9_findOrder_105 : decode cX9_findOrder 105 = .ok (.aload_n 0, 1) := by decide +kernel
theorem dX9_findOrder_106 : decode cX9_findOrder 106 = .ok (.getfield 123, 3) := by decide +kernel
theorem dX9_findOrder_109 : decode cX9_findOrder 109 = .ok (.iload_n 3, 1) := by decide +kernel
theorem dX9_findOrder_110 : decode cX9_findOrder 110 = .ok (.iconst 1, 1) := by decide +kernel
theorem dX9_findOrder_111 : decode cX9_findOrder 111 = .ok (.bastore, 1) := by decide +kernel
theorem dX9_findOrder_112 : decode cX9_findOrder 112 = .ok (.aload_n 0, 1) := by decide +kernel
theorem dX9_findOrder_113 : decode cX9_findOrder 113 = .ok (.getfield 56, 3) := by decide +kernel
theorem dX9_findOrder_116 : decode cX9_findOrder 116 = .ok (.iload_n 1, 1) := by decide +kernel
theorem dX9_findOrder_117 : decode cX9_findOrder 117 = .ok (.iload_n 3, 1) := by decide +kernel
theorem dX9_findOrder_118 : decode cX9_findOrder 118 = .ok (.iastore, 1) := by decide +kernel
theorem dX9_findOrder_119 : decode cX9_findOrder 119 = .ok (.iinc 1 1, 3) := by decide +kernel
theorem dX9_findOrder_122 : decode cX9_findOrder 122 = .ok (.iinc 3 1, 3) := by decide +kernel
theorem dX9_findOrder_125 : decode cX9_findOrder 125 = .ok (.goto (-109), 3) := by decide +kernel
theorem dX9_findOrder_128 : decode cX9_findOrder 128 = .ok (.iinc 2 1, 3) := by decide +kernel
theorem dX9_findOrder_131 : decode cX9_findOrder 131 = .ok (.goto (-123), 3) := by decide +kernel
theorem dX9_findOrder_134 : decode cX9_findOrder 134 = .ok (.iload_n 1, 1) := by decide +kernel
theorem dX9_findOrder_135 : decode cX9_findOrder 135 = .ok (.aload_n 0, 1) := by decide +kernel
theorem dX9_findOrder_136 : decode cX9_findOrder 136 = .ok (.getfield 180, 3) := by decide +kernel
theorem dX9_findOrder_139 : decode cX9_findOrder 139 = .ok (.if_icmp .ne 7, 3) := by decide +kernel
theorem dX9_findOrder_142 : decode cX9_findOrder 142 = .ok (.iconst 1, 1) := by decide +kernel
theorem dX9_findOrder_143 : decode cX9_findOrder 143 = .ok (.goto 4, 3) := by decide +kernel
theorem dX9_findOrder_146 : decode cX9_findOrder 146 = .ok (.iconst 0, 1) := by decide +kernel
theorem dX9_findOrder_147 : decode cX9_findOrder 147 = .ok (.ireturn, 1) := by decide +kernel
theorem dX9_clearDone_0 : decode cX9_clearDone 0 = .ok (.iconst 0, 1) := by decide +kernel
theorem dX9_clearDone_1 : decode cX9_clearDone 1 = .ok (.istore_n 1, 1) := by decide +kernel
theorem dX9_clearDone_2 : decode cX9_clearDone 2 = .ok (.iload_n 1, 1) := by decide +kernel
theorem dX9_clearDone_3 : decode cX9_clearDone 3 = .ok (.bipush 6, 2) := by decide +kernel
theorem dX9_clearDone_5 : decode cX9_clearDone 5 = .ok (.if_icmp .ge 16, 3) := by decide +kernel
theorem dX9_clearDone_8 : decode cX9_clearDone 8 = .ok (.aload_n 0, 1) := by decide +kernel
theorem dX9_clearDone_9 : decode cX9_clearDone 9 = .ok (.getfield 123, 3) := by decide +kernel
theorem dX9_clearDone_12 : decode cX9_clearDone 12 = .ok (.iload_n 1, 1) := by decide +kernel
theorem dX9_clearDone_13 : decode cX9_clearDone 13 = .ok (.iconst 0, 1) := by decide +kernel
theorem dX9_clearDone_14 : decode cX9_clearDone 14 = .ok (.bastore, 1) := by decide +kernel
theorem dX9_clearDone_15 : decode cX9_clearDone 15 = .ok (.iinc 1 1, 3) := by decide +kernel
theorem dX9_clearDone_18 : decode cX9_clearDone 18 = .ok (.goto (-16), 3) := by decide +kernel
theorem dX9_clearDone_21 : decode cX9_clearDone 21 = .ok (.return_, 1) := by decide +kernel
theorem dX9_read_0 : decode cX9_read 0 = .ok (.aload_n 0, 1) := by decide +kernel
theorem dX9_read_1 : decode cX9_read 1 = .ok (.iconst 0, 1) := by decide +kernel
theorem dX9_read_2 : decode cX9_read 2 = .ok (.putfield 201, 3) := by decide +kernel
theorem dX9_read_5 : decode cX9_read 5 = .ok (.aload_n 0, 1) := by decide +kernel
theorem dX9_read_6 : decode cX9_read 6 = .ok (.invokevirtual 204, 3) := by decide +kernel
theorem dX9_read_9 : decode cX9_read 9 = .ok (.ifCond .eq 14, 3) := by decide +kernel
theorem dX9_read_12 : decode cX9_read 12 = .ok (.aload_n 0, 1) := by decide +kernel
theorem dX9_read_13 : decode cX9_read 13 = .ok (.invokevirtual 208, 3) := by decide +kernel
theorem dX9_read_16 : decode cX9_read 16 = .ok (.ifCond .eq 7, 3) := by decide +kernel
theorem dX9_read_19 : decode cX9_read 19 = .ok (.iconst 1, 1) := by decide +kernel
theorem dX9_read_20 : decode cX9_read 20 = .ok (.goto 4, 3) := by decide +kernel
theorem dX9_read_23 : decode cX9_read 23 = .ok (.iconst 0, 1) := by decide +kernel
theorem dX9_read_24 : decode cX9_read 24 = .ok (.istore_n 1, 1) := by decide +kernel
theorem dX9_read_25 : decode cX9_read 25 = .ok (.aload_n 0, 1) := by decide +kernel
theorem dX9_read_26 : decode cX9_read 26 = .ok (.iconst 0, 1) := by decide +kernel
theorem dX9_read_27 : decode cX9_read 27 = .ok (.putfield 152, 3) := by decide +kernel
theorem dX9_read_30 : decode cX9_read 30 = .ok (.iload_n 1, 1) := by decide +kernel
theorem dX9_read_31 : decode cX9_read 31 = .ok (.ifCond .ne 5, 3) := by decide +kernel
theorem dX9_read_34 : decode cX9_read 34 = .ok (.iconst (-1), 1) := by decide +kernel
theorem dX9_read_35 : decode cX9_read 35 = .ok (.ireturn, 1) := by decide +kernel
theorem dX9_read_36 : decode cX9_read 36 = .ok (.aload_n 0, 1) := by decide +kernel
theorem dX9_read_37 : decode cX9_read 37 = .ok (.invokevirtual 211, 3) := by decide +kernel
theorem dX9_read_40 : decode cX9_read 40 = .ok (.aload_n 0, 1) := by decide +kernel
theorem dX9_read_41 : decode cX9_read 41 = .ok (.invokevirtual 214, 3) := by decide +kernel
theorem dX9_read_44 : decode cX9_read 44 = .ok (.aload_n 0, 1) := by decide +kernel
theorem dX9_read_45 : decode cX9_read 45 = .ok (.aload_n 0, 1) := by decide +kernel
theorem dX9_read_46 : decode cX9_read 46 = .ok (.invokevirtual 217, 3) := by decide +kernel
theorem dX9_read_49 : decode cX9_read 49 = .ok (.putfield 201, 3) := by decide +kernel
theorem dX9_read_52 : decode cX9_read 52 = .ok (.aload_n 0, 1) := by decide +kernel
theorem dX9_read_53 : decode cX9_read 53 = .ok (.getfield 201, 3) := by decide +kernel
theorem dX9_read_56 : decode cX9_read 56 = .ok (.ifCond .eq 10, 3) := by decide +kernel
theorem dX9_read_59 : decode cX9_read 59 = .ok (.aload_n 0, 1) := by decide +kernel
theorem dX9_read_60 : decode cX9_read 60 = .ok (.getfield 180, 3) := by decide +kernel
theorem dX9_read_63 : decode cX9_read 63 = .ok (.goto 4, 3) := by decide +kernel
theorem dX9_read_66 : decode cX9_read 66 = .ok (.iconst (-1), 1) := by decide +kernel
theorem dX9_read_67 : decode cX9_read 67 = .ok (.ireturn, 1) := by decide +kernel
theorem dX9_once_0 : decode cX9_once 0 = .ok (.aload_n 0, 1) := by decide +kernel
theorem dX9_once_1 : decode cX9_once 1 = .ok (.getfield 35, 3) := by decide +kernel
theorem dX9_once_4 : decode cX9_once 4 = .ok (.iload_n 1, 1) := by decide +kernel
theorem dX9_once_5 : decode cX9_once 5 = .ok (.iaload, 1) := by decide +kernel
theorem dX9_once_6 : decode cX9_once 6 = .ok (.invokestatic 149, 3) := by decide +kernel
theorem dX9_once_9 : decode cX9_once 9 = .ok (.ifCond .eq 23, 3) := by decide +kernel
theorem dX9_once_12 : decode cX9_once 12 = .ok (.aload_n 0, 1) := by decide +kernel
theorem dX9_once_13 : decode cX9_once 13 = .ok (.getfield 62, 3) := by decide +kernel
theorem dX9_once_16 : decode cX9_once 16 = .ok (.bipush 33, 2) := by decide +kernel
theorem dX9_once_18 : decode cX9_once 18 = .ok (.aload_n 0, 1) := by decide +kernel
theorem dX9_once_19 : decode cX9_once 19 = .ok (.getfield 35, 3) := by decide +kernel
theorem dX9_once_22 : decode cX9_once 22 = .ok (.iload_n 1, 1) := by decide +kernel
theorem dX9_once_23 : decode cX9_once 23 = .ok (.iaload, 1) := by decide +kernel
theorem dX9_once_24 : decode cX9_once 24 = .ok (.bipush 65, 2) := by decide +kernel
theorem dX9_once_26 : decode cX9_once 26 = .ok (.isub, 1) := by decide +kernel
theorem dX9_once_27 : decode cX9_once 27 = .ok (.imul, 1) := by decide +kernel
theorem dX9_once_28 : decode cX9_once 28 = .ok (.iload_n 2, 1) := by decide +kernel
theorem dX9_once_29 : decode cX9_once 29 = .ok (.iadd, 1) := by decide +kernel
theorem dX9_once_30 : decode cX9_once 30 = .ok (.iaload, 1) := by decide +kernel
theorem dX9_once_31 : decode cX9_once 31 = .ok (.ireturn, 1) := by decide +kernel
theorem dX9_once_32 : decode cX9_once 32 = .ok (.iload_n 2, 1) := by decide +kernel
theorem dX9_once_33 : decode cX9_once 33 = .ok (.aload_n 0, 1) := by decide +kernel
theorem dX9_once_34 : decode cX9_once 34 = .ok (.getfield 220, 3) := by decide +kernel
theorem dX9_once_37 : decode cX9_once 37 = .ok (.if_icmp .ge 24, 3) := by decide +kernel
theorem dX9_once_40 : decode cX9_once 40 = .ok (.aload_n 0, 1) := by decide +kernel
theorem dX9_once_41 : decode cX9_once 41 = .ok (.getfield 59, 3) := by decide +kernel
theorem dX9_once_44 : decode cX9_once 44 = .ok (.iload_n 2, 1) := by decide +kernel
theorem dX9_once_45 : decode cX9_once 45 = .ok (.iaload, 1) := by decide +kernel
theorem dX9_once_46 : decode cX9_once 46 = .ok (.aload_n 0, 1) := by decide +kernel
theorem dX9_once_47 : decode cX9_once 47 = .ok (.getfield 35, 3) := by decide +kernel
theorem dX9_once_50 : decode cX9_once 50 = .ok (.iload_n 1, 1) := by decide +kernel
theorem dX9_once_51 : decode cX9_once 51 = .ok (.iaload, 1) := by decide +kernel
theorem dX9_once_52 : decode cX9_once 52 = .ok (.if_icmp .ne 9, 3) := by decide +kernel
theorem dX9_once_55 : decode cX9_once 55 = .ok (.iload_n 2, 1) := by decide +kernel
theorem dX9_once_56 : decode cX9_once 56 = .ok (.iconst 1, 1) := by decide +kernel
theorem dX9_once_57 : decode cX9_once 57 = .ok (.iadd, 1) := by decide +kernel
theorem dX9_once_58 : decode cX9_once 58 = .ok (.goto 4, 3) := by decide +kernel
theorem dX9_once_61 : decode cX9_once 61 = .ok (.iconst (-1), 1) := by decide +kernel
theorem dX9_once_62 : decode cX9_once 62 = .ok (.ireturn, 1) := by decide +kernel
theorem dX9_again_0 : decode cX9_again 0 = .ok (.iload_n 2, 1) := by decide +kernel
theorem dX9_again_1 : decode cX9_again 1 = .ok (.istore_n 3, 1) := by decide +kernel
theorem dX9_again_2 : decode cX9_again 2 = .ok (.aload_n 0, 1) := by decide +kernel
theorem dX9_again_3 : decode cX9_again 3 = .ok (.iload_n 1, 1) := by decide +kernel
theorem dX9_again_4 : decode cX9_again 4 = .ok (.iload_n 3, 1) := by decide +kernel
theorem dX9_again_5 : decode cX9_again 5 = .ok (.invokevirtual 223, 3) := by decide +kernel
theorem dX9_again_8 : decode cX9_again 8 = .ok (.istore 4, 2) := by decide +kernel
theorem dX9_again_10 : decode cX9_again 10 = .ok (.iload 4, 2) := by decide +kernel
theorem dX9_again_12 : decode cX9_again 12 = .ok (.iload_n 3, 1) := by decide +kernel
theorem dX9_again_13 : decode cX9_again 13 = .ok (.if_icmp .le 17, 3) := by decide +kernel
theorem dX9_again_16 : decode cX9_again 16 = .ok (.iload 4, 2) := by decide +kernel
theorem dX9_again_18 : decode cX9_again 18 = .ok (.istore_n 3, 1) := by decide +kernel
theorem dX9_again_19 : decode cX9_again 19 = .ok (.aload_n 0, 1) := by decide +kernel
theorem dX9_again_20 : decode cX9_again 20 = .ok (.iload_n 1, 1) := by decide +kernel
theorem dX9_again_21 : decode cX9_again 21 = .ok (.iload_n 3, 1) := by decide +kernel
theorem dX9_again_22 : decode cX9_again 22 = .ok (.invokevirtual 223, 3) := by decide +kernel
theorem dX9_again_25 : decode cX9_again 25 = .ok (.istore 4, 2) := by decide +kernel
theorem dX9_again_27 : decode cX9_again 27 = .ok (.goto (-17), 3) := by decide +kernel
theorem dX9_again_30 : decode cX9_again 30 = .ok (.iload_n 3, 1) := by decide +kernel
theorem dX9_again_31 : decode cX9_again 31 = .ok (.ireturn, 1) := by decide +kernel
theorem dX9_endOf_0 : decode cX9_endOf 0 = .ok (.iload_n 2, 1) := by decide +kernel
theorem dX9_endOf_1 : decode cX9_endOf 1 = .ok (.istore_n 3, 1) := by decide +kernel
theorem dX9_endOf_2 : decode cX9_endOf 2 = .ok (.aload_n 0, 1) := by decide +kernel
theorem dX9_endOf_3 : decode cX9_endOf 3 = .ok (.getfield 41, 3) := by decide +kernel
theorem dX9_endOf_6 : decode cX9_endOf 6 = .ok (.iload_n 1, 1) := by decide +kernel
theorem dX9_endOf_7 : decode cX9_endOf 7 = .ok (.iaload, 1) := by decide +kernel
theorem dX9_endOf_8 : decode cX9_endOf 8 = .ok (.istore 4, 2) := by decide +kernel
theorem dX9_endOf_10 : decode cX9_endOf 10 = .ok (.iload 4, 2) := by decide +kernel
theorem dX9_endOf_12 : decode cX9_endOf 12 = .ok (.aload_n 0, 1) := by decide +kernel
theorem dX9_endOf_13 : decode cX9_endOf 13 = .ok (.getfield 41, 3) := by decide +kernel
theorem dX9_endOf_16 : decode cX9_endOf 16 = .ok (.iload_n 1, 1) := by decide +kernel
theorem dX9_endOf_17 : decode cX9_endOf 17 = .ok (.iconst 1, 1) := by decide +kernel
theorem dX9_endOf_18 : decode cX9_endOf 18 = .ok (.iadd, 1) := by decide +kernel
theorem dX9_endOf_19 : decode cX9_endOf 19 = .ok (.iaload, 1) := by decide +kernel
theorem dX9_endOf_20 : decode cX9_endOf 20 = .ok (.if_icmp .ge 98, 3) := by decide +kernel
theorem dX9_endOf_23 : decode cX9_endOf 23 = .ok (.aload_n 0, 1) := by decide +kernel
theorem dX9_endOf_24 : decode cX9_endOf 24 = .ok (.getfield 38, 3) := by decide +kernel
theorem dX9_endOf_27 : decode cX9_endOf 27 = .ok (.iload 4, 2) := by decide +kernel
theorem dX9_endOf_29 : decode cX9_endOf 29 = .ok (.iaload, 1) := by decide +kernel
theorem dX9_endOf_30 : decode cX9_endOf 30 = .ok (.bipush 42, 2) := by decide +kernel
theorem dX9_endOf_32 : decode cX9_endOf 32 = .ok (.if_icmp .ne 13, 3) := by decide +kernel
theorem dX9_endOf_35 : decode cX9_endOf 35 = .ok (.aload_n 0, 1) := by decide +kernel
theorem dX9_endOf_36 : decode cX9_endOf 36 = .ok (.iload 4, 2) := by decide +kernel
theorem dX9_endOf_38 : decode cX9_endOf 38 = .ok (.iload_n 3, 1) := by decide +kernel
theorem dX9_endOf_39 : decode cX9_endOf 39 = .ok (.invokevirtual 227, 3) := by decide +kernel
theorem dX9_endOf_42 : decode cX9_endOf 42 = .ok (.goto 10, 3) := by decide +kernel
theorem dX9_endOf_45 : decode cX9_endOf 45 = .ok (.aload_n 0, 1) := by decide +kernel
theorem dX9_endOf_46 : decode cX9_endOf 46 = .ok (.iload 4, 2) := by decide +kernel
theorem dX9_endOf_48 : decode cX9_endOf 48 = .ok (.iload_n 3, 1) := by decide +kernel
theorem dX9_endOf_49 : decode cX9_endOf 49 = .ok (.invokevirtual 223, 3) := by decide +kernel
theorem dX9_endOf_52 : decode cX9_endOf 52 = .ok (.istore 5, 2) := by decide +kernel
theorem dX9_endOf_54 : decode cX9_endOf 54 = .ok (.aload_n 0, 1) := by decide +kernel
theorem dX9_endOf_55 : decode cX9_endOf 55 = .ok (.getfield 38, 3) := by decide +kernel
theorem dX9_endOf_58 : decode cX9_endOf 58 = .ok (.iload 4, 2) := by decide +kernel
theorem dX9_endOf_60 : decode cX9_endOf 60 = .ok (.iaload, 1) := by decide +kernel
theorem dX9_endOf_61 : decode cX9_endOf 61 = .ok (.bipush 63, 2) := by decide +kernel
theorem dX9_endOf_63 : decode cX9_endOf 63 = .ok (.if_icmp .ne 16, 3) := by decide +kernel
theorem dX9_endOf_66 : decode cX9_endOf 66 = .ok (.iload 5, 2) := by decide +kernel
theorem dX9_endOf_68 : decode cX9_endOf 68 = .ok (.ifCond .ge 7, 3) := by decide +kernel
theorem dX9_endOf_71 : decode cX9_endOf 71 = .ok (.iload_n 3, 1) := by decide +kernel
theorem dX9_endOf_72 : decode cX9_endOf 72 = .ok (.goto 5, 3) := by decide +kernel
theorem dX9_endOf_75 : decode cX9_endOf 75 = .ok (.iload 5, 2) := by decide +kernel
theorem dX9_endOf_77 : decode cX9_endOf 77 = .ok (.istore 5, 2) := by decide +kernel
theorem dX9_endOf_79 : decode cX9_endOf 79 = .ok (.iload 5, 2) := by decide +kernel
theorem dX9_endOf_81 : decode cX9_endOf 81 = .ok (.ifCond .ge 5, 3) := by decide +kernel
theorem dX9_endOf_84 : decode cX9_endOf 84 = .ok (.iconst (-1), 1) := by decide +kernel
theorem dX9_endOf_85 : decode cX9_endOf 85 = .ok (.ireturn, 1) := by decide +kernel
theorem dX9_endOf_86 : decode cX9_endOf 86 = .ok (.aload_n 0, 1) := by decide +kernel
theorem dX9_endOf_87 : decode cX9_endOf 87 = .ok (.getfield 38, 3) := by decide +kernel
theorem dX9_endOf_90 : decode cX9_endOf 90 = .ok (.iload 4, 2) := by decide +kernel
theorem dX9_endOf_92 : decode cX9_endOf 92 = .ok (.iaload, 1) := by decide +kernel
theorem dX9_endOf_93 : decode cX9_endOf 93 = .ok (.bipush 43, 2) := by decide +kernel
theorem dX9_endOf_95 : decode cX9_endOf 95 = .ok (.if_icmp .ne 14, 3) := by decide +kernel
theorem dX9_endOf_98 : decode cX9_endOf 98 = .ok (.aload_n 0, 1) := by decide +kernel
theorem dX9_endOf_99 : decode cX9_endOf 99 = .ok (.iload 4, 2) := by decide +kernel
theorem dX9_endOf_101 : decode cX9_endOf 101 = .ok (.iload 5, 2) := by decide +kernel
theorem dX9_endOf_103 : decode cX9_endOf 103 = .ok (.invokevirtual 227, 3) := by decide +kernel
theorem dX9_endOf_106 : decode cX9_endOf 106 = .ok (.goto 5, 3) := by decide +kernel
theorem dX9_endOf_109 : decode cX9_endOf 109 = .ok (.iload 5, 2) := by decide +kernel
theorem dX9_endOf_111 : decode cX9_endOf 111 = .ok (.istore_n 3, 1) := by decide +kernel
theorem dX9_endOf_112 : decode cX9_endOf 112 = .ok (.iinc 4 1, 3) := by decide +kernel
theorem dX9_endOf_115 : decode cX9_endOf 115 = .ok (.goto (-105), 3) := by decide +kernel
theorem dX9_endOf_118 : decode cX9_endOf 118 = .ok (.iload_n 3, 1) := by decide +kernel
theorem dX9_endOf_119 : decode cX9_endOf 119 = .ok (.ireturn, 1) := by decide +kernel
theorem dX9_alternativeOf_0 : decode cX9_alternativeOf 0 = .ok (.aload_n 0, 1) := by decide +kernel
theorem dX9_alternativeOf_1 : decode cX9_alternativeOf 1 = .ok (.getfield 44, 3) := by decide +kernel
theorem dX9_alternativeOf_4 : decode cX9_alternativeOf 4 = .ok (.iload_n 1, 1) := by decide +kernel
theorem dX9_alternativeOf_5 : decode cX9_alternativeOf 5 = .ok (.iaload, 1) := by decide +kernel
theorem dX9_alternativeOf_6 : decode cX9_alternativeOf 6 = .ok (.istore_n 3, 1) := by decide +kernel
theorem dX9_alternativeOf_7 : decode cX9_alternativeOf 7 = .ok (.iload_n 3, 1) := by decide +kernel
theorem dX9_alternativeOf_8 : decode cX9_alternativeOf 8 = .ok (.aload_n 0, 1) := by decide +kernel
theorem dX9_alternativeOf_9 : decode cX9_alternativeOf 9 = .ok (.getfield 47, 3) := by decide +kernel
theorem dX9_alternativeOf_12 : decode cX9_alternativeOf 12 = .ok (.iload_n 1, 1) := by decide +kernel
theorem dX9_alternativeOf_13 : decode cX9_alternativeOf 13 = .ok (.iaload, 1) := by decide +kernel
theorem dX9_alternativeOf_14 : decode cX9_alternativeOf 14 = .ok (.if_icmp .ge 20, 3) := by decide +kernel
theorem dX9_alternativeOf_17 : decode cX9_alternativeOf 17 = .ok (.aload_n 0, 1) := by decide +kernel
theorem dX9_alternativeOf_18 : decode cX9_alternativeOf 18 = .ok (.iload_n 3, 1) := by decide +kernel
theorem dX9_alternativeOf_19 : decode cX9_alternativeOf 19 = .ok (.iload_n 2, 1) := by decide +kernel
theorem dX9_alternativeOf_20 : decode cX9_alternativeOf 20 = .ok (.invokevirtual 230, 3) := by decide +kernel
theorem dX9_alternativeOf_23 : decode cX9_alternativeOf 23 = .ok (.ifCond .lt 5, 3) := by decide +kernel
theorem dX9_alternativeOf_26 : decode cX9_alternativeOf 26 = .ok (.iload_n 3, 1) := by decide +kernel
theorem dX9_alternativeOf_27 : decode cX9_alternativeOf 27 = .ok (.ireturn, 1) := by decide +kernel
theorem dX9_alternativeOf_28 : decode cX9_alternativeOf 28 = .ok (.iinc 3 1, 3) := by decide +kernel
theorem dX9_alternativeOf_31 : decode cX9_alternativeOf 31 = .ok (.goto (-24), 3) := by decide +kernel
theorem dX9_alternativeOf_34 : decode cX9_alternativeOf 34 = .ok (.iconst (-1), 1) := by decide +kernel
theorem dX9_alternativeOf_35 : decode cX9_alternativeOf 35 = .ok (.ireturn, 1) := by decide +kernel
theorem dX9_findEnds_0 : decode cX9_findEnds 0 = .ok (.aload_n 0, 1) := by decide +kernel
theorem dX9_findEnds_1 : decode cX9_findEnds 1 = .ok (.getfield 220, 3) := by decide +kernel
theorem dX9_findEnds_4 : decode cX9_findEnds 4 = .ok (.istore_n 1, 1) := by decide +kernel
theorem dX9_findEnds_5 : decode cX9_findEnds 5 = .ok (.iload_n 1, 1) := by decide +kernel
theorem dX9_findEnds_6 : decode cX9_findEnds 6 = .ok (.ifCond .lt 67, 3) := by decide +kernel
theorem dX9_findEnds_9 : decode cX9_findEnds 9 = .ok (.iconst 0, 1) := by decide +kernel
theorem dX9_findEnds_10 : decode cX9_findEnds 10 = .ok (.istore_n 2, 1) := by decide +kernel
theorem dX9_findEnds_11 : decode cX9_findEnds 11 = .ok (.iload_n 2, 1) := by decide +kernel
theorem dX9_findEnds_12 : decode cX9_findEnds 12 = .ok (.aload_n 0, 1) := by decide +kernel
theorem dX9_findEnds_13 : decode cX9_findEnds 13 = .ok (.getfield 180, 3) := by decide +kernel
theorem dX9_findEnds_16 : decode cX9_findEnds 16 = .ok (.if_icmp .ge 51, 3) := by decide +kernel
theorem dX9_findEnds_19 : decode cX9_findEnds 19 = .ok (.aload_n 0, 1) := by decide +kernel
theorem dX9_findEnds_20 : decode cX9_findEnds 20 = .ok (.aload_n 0, 1) := by decide +kernel
theorem dX9_findEnds_21 : decode cX9_findEnds 21 = .ok (.getfield 56, 3) := by decide +kernel
theorem dX9_findEnds_24 : decode cX9_findEnds 24 = .ok (.iload_n 2, 1) := by decide +kernel
theorem dX9_findEnds_25 : decode cX9_findEnds 25 = .ok (.iaload, 1) := by decide +kernel
theorem dX9_findEnds_26 : decode cX9_findEnds 26 = .ok (.iload_n 1, 1) := by decide +kernel
theorem dX9_findEnds_27 : decode cX9_findEnds 27 = .ok (.invokevirtual 233, 3) := by decide +kernel
theorem dX9_findEnds_30 : decode cX9_findEnds 30 = .ok (.istore_n 3, 1) := by decide +kernel
theorem dX9_findEnds_31 : decode cX9_findEnds 31 = .ok (.aload_n 0, 1) := by decide +kernel
theorem dX9_findEnds_32 : decode cX9_findEnds 32 = .ok (.getfield 62, 3) := by decide +kernel
theorem dX9_findEnds_35 : decode cX9_findEnds 35 = .ok (.bipush 33, 2) := by decide +kernel
theorem dX9_findEnds_37 : decode cX9_findEnds 37 = .ok (.aload_n 0, 1) := by decide +kernel
theorem dX9_findEnds_38 : decode cX9_findEnds 38 = .ok (.getfield 56, 3) := by decide +kernel
theorem dX9_findEnds_41 : decode cX9_findEnds 41 = .ok (.iload_n 2, 1) := by decide +kernel
theorem dX9_findEnds_42 : decode cX9_findEnds 42 = .ok (.iaload, 1) := by decide +kernel
theorem dX9_findEnds_43 : decode cX9_findEnds 43 = .ok (.imul, 1) := by decide +kernel
theorem dX9_findEnds_44 : decode cX9_findEnds 44 = .ok (.iload_n 1, 1) := by decide +kernel
theorem dX9_findEnds_45 : decode cX9_findEnds 45 = .ok (.iadd, 1) := by decide +kernel
theorem dX9_findEnds_46 : decode cX9_findEnds 46 = .ok (.iload_n 3, 1) := by decide +kernel
theorem dX9_findEnds_47 : decode cX9_findEnds 47 = .ok (.ifCond .ge 7, 3) := by decide +kernel
theorem dX9_findEnds_50 : decode cX9_findEnds 50 = .ok (.iconst (-1), 1) := by decide +kernel
theorem dX9_findEnds_51 : decode cX9_findEnds 51 = .ok (.goto 9, 3) := by decide +kernel
theorem dX9_findEnds_54 : decode cX9_findEnds 54 = .ok (.aload_n 0, 1) := by decide +kernel
theorem dX9_findEnds_55 : decode cX9_findEnds 55 = .ok (.iload_n 3, 1) := by decide +kernel
theorem dX9_findEnds_56 : decode cX9_findEnds 56 = .ok (.iload_n 1, 1) := by decide +kernel
theorem dX9_findEnds_57 : decode cX9_findEnds 57 = .ok (.invokevirtual 230, 3) := by decide +kernel
theorem dX9_findEnds_60 : decode cX9_findEnds 60 = .ok (.iastore, 1) := by decide +kernel
theorem dX9_findEnds_61 : decode cX9_findEnds 61 = .ok (.iinc 2 1, 3) := by decide +kernel
theorem dX9_findEnds_64 : decode cX9_findEnds 64 = .ok (.goto (-53), 3) := by decide +kernel
theorem dX9_findEnds_67 : decode cX9_findEnds 67 = .ok (.iinc 1 (-1), 3) := by decide +kernel
theorem dX9_findEnds_70 : decode cX9_findEnds 70 = .ok (.goto (-65), 3) := by decide +kernel
theorem dX9_findEnds_73 : decode cX9_findEnds 73 = .ok (.return_, 1) := by decide +kernel
theorem dX9_addNode_0 : decode cX9_addNode 0 = .ok (.aload_n 0, 1) := by decide +kernel
theorem dX9_addNode_1 : decode cX9_addNode 1 = .ok (.getfield 236, 3) := by decide +kernel
theorem dX9_addNode_4 : decode cX9_addNode 4 = .ok (.bipush 60, 2) := by decide +kernel
theorem dX9_addNode_6 : decode cX9_addNode 6 = .ok (.if_icmp .ne 5, 3) := by decide +kernel
theorem dX9_addNode_9 : decode cX9_addNode 9 = .ok (.iconst 0, 1) := by decide +kernel
theorem dX9_addNode_10 : decode cX9_addNode 10 = .ok (.ireturn, 1) := by decide +kernel
theorem dX9_addNode_11 : decode cX9_addNode 11 = .ok (.aload_n 0, 1) := by decide +kernel
theorem dX9_addNode_12 : decode cX9_addNode 12 = .ok (.getfield 65, 3) := by decide +kernel
theorem dX9_addNode_15 : decode cX9_addNode 15 = .ok (.aload_n 0, 1) := by decide +kernel
theorem dX9_addNode_16 : decode cX9_addNode 16 = .ok (.getfield 236, 3) := by decide +kernel
theorem dX9_addNode_19 : decode cX9_addNode 19 = .ok (.iload_n 1, 1) := by decide +kernel
theorem dX9_addNode_20 : decode cX9_addNode 20 = .ok (.iastore, 1) := by decide +kernel
theorem dX9_addNode_21 : decode cX9_addNode 21 = .ok (.aload_n 0, 1) := by decide +kernel
theorem dX9_addNode_22 : decode cX9_addNode 22 = .ok (.getfield 68, 3) := by decide +kernel
theorem dX9_addNode_25 : decode cX9_addNode 25 = .ok (.aload_n 0, 1) := by decide +kernel
theorem dX9_addNode_26 : decode cX9_addNode 26 = .ok (.getfield 236, 3) := by decide +kernel
theorem dX9_addNode_29 : decode cX9_addNode 29 = .ok (.iload_n 2, 1) := by decide +kernel
theorem dX9_addNode_30 : decode cX9_addNode 30 = .ok (.iastore, 1) := by decide +kernel
theorem dX9_addNode_31 : decode cX9_addNode 31 = .ok (.aload_n 0, 1) := by decide +kernel
theorem dX9_addNode_32 : decode cX9_addNode 32 = .ok (.getfield 71, 3) := by decide +kernel
theorem dX9_addNode_35 : decode cX9_addNode 35 = .ok (.aload_n 0, 1) := by decide +kernel
theorem dX9_addNode_36 : decode cX9_addNode 36 = .ok (.getfield 236, 3) := by decide +kernel
theorem dX9_addNode_39 : decode cX9_addNode 39 = .ok (.iload_n 3, 1) := by decide +kernel
theorem dX9_addNode_40 : decode cX9_addNode 40 = .ok (.iastore, 1) := by decide +kernel
theorem dX9_addNode_41 : decode cX9_addNode 41 = .ok (.aload_n 0, 1) := by decide +kernel
theorem dX9_addNode_42 : decode cX9_addNode 42 = .ok (.getfield 74, 3) := by decide +kernel
theorem dX9_addNode_45 : decode cX9_addNode 45 = .ok (.aload_n 0, 1) := by decide +kernel
theorem dX9_addNode_46 : decode cX9_addNode 46 = .ok (.getfield 236, 3) := by decide +kernel
theorem dX9_addNode_49 : decode cX9_addNode 49 = .ok (.iload 4, 2) := by decide +kernel
theorem dX9_addNode_51 : decode cX9_addNode 51 = .ok (.iastore, 1) := by decide +kernel
theorem dX9_addNode_52 : decode cX9_addNode 52 = .ok (.aload_n 0, 1) := by decide +kernel
theorem dX9_addNode_53 : decode cX9_addNode 53 = .ok (.getfield 77, 3) := by decide +kernel
theorem dX9_addNode_56 : decode cX9_addNode 56 = .ok (.aload_n 0, 1) := by decide +kernel
theorem dX9_addNode_57 : decode cX9_addNode 57 = .ok (.getfield 236, 3) := by decide +kernel
theorem dX9_addNode_60 : decode cX9_addNode 60 = .ok (.iload 5, 2) := by decide +kernel
theorem dX9_addNode_62 : decode cX9_addNode 62 = .ok (.iastore, 1) := by decide +kernel
theorem dX9_addNode_63 : decode cX9_addNode 63 = .ok (.aload_n 0, 1) := by decide +kernel
theorem dX9_addNode_64 : decode cX9_addNode 64 = .ok (.getfield 80, 3) := by decide +kernel
theorem dX9_addNode_67 : decode cX9_addNode 67 = .ok (.aload_n 0, 1) := by decide +kernel
theorem dX9_addNode_68 : decode cX9_addNode 68 = .ok (.getfield 236, 3) := by decide +kernel
theorem dX9_addNode_71 : decode cX9_addNode 71 = .ok (.iload 6, 2) := by decide +kernel
theorem dX9_addNode_73 : decode cX9_addNode 73 = .ok (.iastore, 1) := by decide +kernel
theorem dX9_addNode_74 : decode cX9_addNode 74 = .ok (.aload_n 0, 1) := by decide +kernel
theorem dX9_addNode_75 : decode cX9_addNode 75 = .ok (.dup, 1) := by decide +kernel
theorem dX9_addNode_76 : decode cX9_addNode 76 = .ok (.getfield 236, 3) := by decide +kernel
theorem dX9_addNode_79 : decode cX9_addNode 79 = .ok (.iconst 1, 1) := by decide +kernel
theorem dX9_addNode_80 : decode cX9_addNode 80 = .ok (.iadd, 1) := by decide +kernel
theorem dX9_addNode_81 : decode cX9_addNode 81 = .ok (.putfield 236, 3) := by decide +kernel
theorem dX9_addNode_84 : decode cX9_addNode 84 = .ok (.iconst 1, 1) := by decide +kernel
theorem dX9_addNode_85 : decode cX9_addNode 85 = .ok (.ireturn, 1) := by decide +kernel
theorem dX9_openFrame_0 : decode cX9_openFrame 0 = .ok (.aload_n 0, 1) := by decide +kernel
theorem dX9_openFrame_1 : decode cX9_openFrame 1 = .ok (.aload_n 0, 1) := by decide +kernel
theorem dX9_openFrame_2 : decode cX9_openFrame 2 = .ok (.getfield 65, 3) := by decide +kernel
theorem dX9_openFrame_5 : decode cX9_openFrame 5 = .ok (.iload_n 2, 1) := by decide +kernel
theorem dX9_openFrame_6 : decode cX9_openFrame 6 = .ok (.iaload, 1) := by decide +kernel
theorem dX9_openFrame_7 : decode cX9_openFrame 7 = .ok (.aload_n 0, 1) := by decide +kernel
theorem dX9_openFrame_8 : decode cX9_openFrame 8 = .ok (.getfield 71, 3) := by decide +kernel
theorem dX9_openFrame_11 : decode cX9_openFrame 11 = .ok (.iload_n 2, 1) := by decide +kernel
theorem dX9_openFrame_12 : decode cX9_openFrame 12 = .ok (.iaload, 1) := by decide +kernel
theorem dX9_openFrame_13 : decode cX9_openFrame 13 = .ok (.invokevirtual 233, 3) := by decide +kernel
theorem dX9_openFrame_16 : decode cX9_openFrame 16 = .ok (.istore_n 3, 1) := by decide +kernel
theorem dX9_openFrame_17 : decode cX9_openFrame 17 = .ok (.aload_n 0, 1) := by decide +kernel
theorem dX9_openFrame_18 : decode cX9_openFrame 18 = .ok (.getfield 83, 3) := by decide +kernel
theorem dX9_openFrame_21 : decode cX9_openFrame 21 = .ok (.iload_n 1, 1) := by decide +kernel
theorem dX9_openFrame_22 : decode cX9_openFrame 22 = .ok (.iload_n 2, 1) := by decide +kernel
theorem dX9_openFrame_23 : decode cX9_openFrame 23 = .ok (.iastore, 1) := by decide +kernel
theorem dX9_openFrame_24 : decode cX9_openFrame 24 = .ok (.aload_n 0, 1) := by decide +kernel
theorem dX9_openFrame_25 : decode cX9_openFrame 25 = .ok (.getfield 86, 3) := by decide +kernel
theorem dX9_openFrame_28 : decode cX9_openFrame 28 = .ok (.iload_n 1, 1) := by decide +kernel
theorem dX9_openFrame_29 : decode cX9_openFrame 29 = .ok (.aload_n 0, 1) := by decide +kernel
theorem dX9_openFrame_30 : decode cX9_openFrame 30 = .ok (.getfield 41, 3) := by decide +kernel
theorem dX9_openFrame_33 : decode cX9_openFrame 33 = .ok (.iload_n 3, 1) := by decide +kernel
theorem dX9_openFrame_34 : decode cX9_openFrame 34 = .ok (.iaload, 1) := by decide +kernel
theorem dX9_openFrame_35 : decode cX9_openFrame 35 = .ok (.iastore, 1) := by decide +kernel
theorem dX9_openFrame_36 : decode cX9_openFrame 36 = .ok (.aload_n 0, 1) := by decide +kernel
theorem dX9_openFrame_37 : decode cX9_openFrame 37 = .ok (.getfield 89, 3) := by decide +kernel
theorem dX9_openFrame_40 : decode cX9_openFrame 40 = .ok (.iload_n 1, 1) := by decide +kernel
theorem dX9_openFrame_41 : decode cX9_openFrame 41 = .ok (.aload_n 0, 1) := by decide +kernel
theorem dX9_openFrame_42 : decode cX9_openFrame 42 = .ok (.getfield 41, 3) := by decide +kernel
theorem dX9_openFrame_45 : decode cX9_openFrame 45 = .ok (.iload_n 3, 1) := by decide +kernel
theorem dX9_openFrame_46 : decode cX9_openFrame 46 = .ok (.iconst 1, 1) := by decide +kernel
theorem dX9_openFrame_47 : decode cX9_openFrame 47 = .ok (.iadd, 1) := by decide +kernel
theorem dX9_openFrame_48 : decode cX9_openFrame 48 = .ok (.iaload, 1) := by decide +kernel
theorem dX9_openFrame_49 : decode cX9_openFrame 49 = .ok (.iastore, 1) := by decide +kernel
theorem dX9_openFrame_50 : decode cX9_openFrame 50 = .ok (.aload_n 0, 1) := by decide +kernel
theorem dX9_openFrame_51 : decode cX9_openFrame 51 = .ok (.getfield 92, 3) := by decide +kernel
theorem dX9_openFrame_54 : decode cX9_openFrame 54 = .ok (.iload_n 1, 1) := by decide +kernel
theorem dX9_openFrame_55 : decode cX9_openFrame 55 = .ok (.aload_n 0, 1) := by decide +kernel
theorem dX9_openFrame_56 : decode cX9_openFrame 56 = .ok (.getfield 71, 3) := by decide +kernel
theorem dX9_openFrame_59 : decode cX9_openFrame 59 = .ok (.iload_n 2, 1) := by decide +kernel
theorem dX9_openFrame_60 : decode cX9_openFrame 60 = .ok (.iaload, 1) := by decide +kernel
theorem dX9_openFrame_61 : decode cX9_openFrame 61 = .ok (.iastore, 1) := by decide +kernel
theorem dX9_openFrame_62 : decode cX9_openFrame 62 = .ok (.aload_n 0, 1) := by decide +kernel
theorem dX9_openFrame_63 : decode cX9_openFrame 63 = .ok (.getfield 95, 3) := by decide +kernel
theorem dX9_openFrame_66 : decode cX9_openFrame 66 = .ok (.iload_n 1, 1) := by decide +kernel
theorem dX9_openFrame_67 : decode cX9_openFrame 67 = .ok (.iconst 0, 1) := by decide +kernel
theorem dX9_openFrame_68 : decode cX9_openFrame 68 = .ok (.iastore, 1) := by decide +kernel
theorem dX9_openFrame_69 : decode cX9_openFrame 69 = .ok (.return_, 1) := by decide +kernel
theorem dX9_taking_0 : decode cX9_taking 0 = .ok (.aload_n 0, 1) := by decide +kernel
theorem dX9_taking_1 : decode cX9_taking 1 = .ok (.iload_n 1, 1) := by decide +kernel
theorem dX9_taking_2 : decode cX9_taking 2 = .ok (.iload_n 2, 1) := by decide +kernel
theorem dX9_taking_3 : decode cX9_taking 3 = .ok (.invokevirtual 223, 3) := by decide +kernel
theorem dX9_taking_6 : decode cX9_taking 6 = .ok (.istore 4, 2) := by decide +kernel
theorem dX9_taking_8 : decode cX9_taking 8 = .ok (.aload_n 0, 1) := by decide +kernel
theorem dX9_taking_9 : decode cX9_taking 9 = .ok (.getfield 38, 3) := by decide +kernel
theorem dX9_taking_12 : decode cX9_taking 12 = .ok (.iload_n 1, 1) := by decide +kernel
theorem dX9_taking_13 : decode cX9_taking 13 = .ok (.iaload, 1) := by decide +kernel
theorem dX9_taking_14 : decode cX9_taking 14 = .ok (.ifCond .eq 14, 3) := by decide +kernel
theorem dX9_taking_17 : decode cX9_taking 17 = .ok (.aload_n 0, 1) := by decide +kernel
theorem dX9_taking_18 : decode cX9_taking 18 = .ok (.getfield 38, 3) := by decide +kernel
theorem dX9_taking_21 : decode cX9_taking 21 = .ok (.iload_n 1, 1) := by decide +kernel
theorem dX9_taking_22 : decode cX9_taking 22 = .ok (.iaload, 1) := by decide +kernel
theorem dX9_taking_23 : decode cX9_taking 23 = .ok (.bipush 63, 2) := by decide +kernel
theorem dX9_taking_25 : decode cX9_taking 25 = .ok (.if_icmp .ne 20, 3) := by decide +kernel
theorem dX9_taking_28 : decode cX9_taking 28 = .ok (.iload_n 3, 1) := by decide +kernel
theorem dX9_taking_29 : decode cX9_taking 29 = .ok (.ifCond .ne 12, 3) := by decide +kernel
theorem dX9_taking_32 : decode cX9_taking 32 = .ok (.iload 4, 2) := by decide +kernel
theorem dX9_taking_34 : decode cX9_taking 34 = .ok (.ifCond .lt 7, 3) := by decide +kernel
theorem dX9_taking_37 : decode cX9_taking 37 = .ok (.iconst 1, 1) := by decide +kernel
theorem dX9_taking_38 : decode cX9_taking 38 = .ok (.goto 33, 3) := by decide +kernel
theorem dX9_taking_41 : decode cX9_taking 41 = .ok (.iconst 0, 1) := by decide +kernel
theorem dX9_taking_42 : decode cX9_taking 42 = .ok (.goto 29, 3) := by decide +kernel
theorem dX9_taking_45 : decode cX9_taking 45 = .ok (.aload_n 0, 1) := by decide +kernel
theorem dX9_taking_46 : decode cX9_taking 46 = .ok (.getfield 38, 3) := by decide +kernel
theorem dX9_taking_49 : decode cX9_taking 49 = .ok (.iload_n 1, 1) := by decide +kernel
theorem dX9_taking_50 : decode cX9_taking 50 = .ok (.iaload, 1) := by decide +kernel
theorem dX9_taking_51 : decode cX9_taking 51 = .ok (.bipush 43, 2) := by decide +kernel
theorem dX9_taking_53 : decode cX9_taking 53 = .ok (.if_icmp .ne 7, 3) := by decide +kernel
theorem dX9_taking_56 : decode cX9_taking 56 = .ok (.iload_n 3, 1) := by decide +kernel
theorem dX9_taking_57 : decode cX9_taking 57 = .ok (.ifCond .eq 9, 3) := by decide +kernel
theorem dX9_taking_60 : decode cX9_taking 60 = .ok (.iload 4, 2) := by decide +kernel
theorem dX9_taking_62 : decode cX9_taking 62 = .ok (.iload_n 2, 1) := by decide +kernel
theorem dX9_taking_63 : decode cX9_taking 63 = .ok (.if_icmp .le 7, 3) := by decide +kernel
theorem dX9_taking_66 : decode cX9_taking 66 = .ok (.iconst 1, 1) := by decide +kernel
theorem dX9_taking_67 : decode cX9_taking 67 = .ok (.goto 4, 3) := by decide +kernel
theorem dX9_taking_70 : decode cX9_taking 70 = .ok (.iconst 0, 1) := by decide +kernel
theorem dX9_taking_71 : decode cX9_taking 71 = .ok (.istore 5, 2) := by decide +kernel
theorem dX9_taking_73 : decode cX9_taking 73 = .ok (.iload 5, 2) := by decide +kernel
theorem dX9_taking_75 : decode cX9_taking 75 = .ok (.ifCond .eq 8, 3) := by decide +kernel
theorem dX9_taking_78 : decode cX9_taking 78 = .ok (.iload 4, 2) := by decide +kernel
theorem dX9_taking_80 : decode cX9_taking 80 = .ok (.goto 4, 3) := by decide +kernel
theorem dX9_taking_83 : decode cX9_taking 83 = .ok (.iconst (-1), 1) := by decide +kernel
theorem dX9_taking_84 : decode cX9_taking 84 = .ok (.ireturn, 1) := by decide +kernel
theorem dX9_isLoose_0 : decode cX9_isLoose 0 = .ok (.aload_n 0, 1) := by decide +kernel
theorem dX9_isLoose_1 : decode cX9_isLoose 1 = .ok (.getfield 38, 3) := by decide +kernel
theorem dX9_isLoose_4 : decode cX9_isLoose 4 = .ok (.iload_n 1, 1) := by decide +kernel
theorem dX9_isLoose_5 : decode cX9_isLoose 5 = .ok (.iaload, 1) := by decide +kernel
theorem dX9_isLoose_6 : decode cX9_isLoose 6 = .ok (.bipush 43, 2) := by decide +kernel
theorem dX9_isLoose_8 : decode cX9_isLoose 8 = .ok (.if_icmp .ne 21, 3) := by decide +kernel
theorem dX9_isLoose_11 : decode cX9_isLoose 11 = .ok (.iload_n 3, 1) := by decide +kernel
theorem dX9_isLoose_12 : decode cX9_isLoose 12 = .ok (.ifCond .gt 13, 3) := by decide +kernel
theorem dX9_isLoose_15 : decode cX9_isLoose 15 = .ok (.aload_n 0, 1) := by decide +kernel
theorem dX9_isLoose_16 : decode cX9_isLoose 16 = .ok (.iload_n 1, 1) := by decide +kernel
theorem dX9_isLoose_17 : decode cX9_isLoose 17 = .ok (.iload_n 2, 1) := by decide +kernel
theorem dX9_isLoose_18 : decode cX9_isLoose 18 = .ok (.invokevirtual 223, 3) := by decide +kernel
theorem dX9_isLoose_21 : decode cX9_isLoose 21 = .ok (.iload_n 2, 1) := by decide +kernel
theorem dX9_isLoose_22 : decode cX9_isLoose 22 = .ok (.if_icmp .le 7, 3) := by decide +kernel
theorem dX9_isLoose_25 : decode cX9_isLoose 25 = .ok (.iconst 1, 1) := by decide +kernel
theorem dX9_isLoose_26 : decode cX9_isLoose 26 = .ok (.goto 4, 3) := by decide +kernel
theorem dX9_isLoose_29 : decode cX9_isLoose 29 = .ok (.iconst 0, 1) := by decide +kernel
theorem dX9_isLoose_30 : decode cX9_isLoose 30 = .ok (.istore 4, 2) := by decide +kernel
theorem dX9_isLoose_32 : decode cX9_isLoose 32 = .ok (.aload_n 0, 1) := by decide +kernel
theorem dX9_isLoose_33 : decode cX9_isLoose 33 = .ok (.getfield 38, 3) := by decide +kernel
theorem dX9_isLoose_36 : decode cX9_isLoose 36 = .ok (.iload_n 1, 1) := by decide +kernel
theorem dX9_isLoose_37 : decode cX9_isLoose 37 = .ok (.iaload, 1) := by decide +kernel
theorem dX9_isLoose_38 : decode cX9_isLoose 38 = .ok (.bipush 63, 2) := by decide +kernel
theorem dX9_isLoose_40 : decode cX9_isLoose 40 = .ok (.if_icmp .eq 19, 3) := by decide +kernel
theorem dX9_isLoose_43 : decode cX9_isLoose 43 = .ok (.aload_n 0, 1) := by decide +kernel
theorem dX9_isLoose_44 : decode cX9_isLoose 44 = .ok (.getfield 38, 3) := by decide +kernel
theorem dX9_isLoose_47 : decode cX9_isLoose 47 = .ok (.iload_n 1, 1) := by decide +kernel
theorem dX9_isLoose_48 : decode cX9_isLoose 48 = .ok (.iaload, 1) := by decide +kernel
theorem dX9_isLoose_49 : decode cX9_isLoose 49 = .ok (.bipush 42, 2) := by decide +kernel
theorem dX9_isLoose_51 : decode cX9_isLoose 51 = .ok (.if_icmp .eq 8, 3) := by decide +kernel
theorem dX9_isLoose_54 : decode cX9_isLoose 54 = .ok (.iload 4, 2) := by decide +kernel
theorem dX9_isLoose_56 : decode cX9_isLoose 56 = .ok (.ifCond .eq 7, 3) := by decide +kernel
theorem dX9_isLoose_59 : decode cX9_isLoose 59 = .ok (.iconst 1, 1) := by decide +kernel
theorem dX9_isLoose_60 : decode cX9_isLoose 60 = .ok (.goto 4, 3) := by decide +kernel
theorem dX9_isLoose_63 : decode cX9_isLoose 63 = .ok (.iconst 0, 1) := by decide +kernel
theorem dX9_isLoose_64 : decode cX9_isLoose 64 = .ok (.ireturn, 1) := by decide +kernel
theorem dX9_buildTree_0 : decode cX9_buildTree 0 = .ok (.aload_n 0, 1) := by decide +kernel
theorem dX9_buildTree_1 : decode cX9_buildTree 1 = .ok (.iconst 0, 1) := by decide +kernel
theorem dX9_buildTree_2 : decode cX9_buildTree 2 = .ok (.putfield 236, 3) := by decide +kernel
theorem dX9_buildTree_5 : decode cX9_buildTree 5 = .ok (.aload_n 0, 1) := by decide +kernel
theorem dX9_buildTree_6 : decode cX9_buildTree 6 = .ok (.aload_n 0, 1) := by decide +kernel
theorem dX9_buildTree_7 : decode cX9_buildTree 7 = .ok (.getfield 189, 3) := by decide +kernel
theorem dX9_buildTree_10 : decode cX9_buildTree 10 = .ok (.iconst 0, 1) := by decide +kernel
theorem dX9_buildTree_11 : decode cX9_buildTree 11 = .ok (.iconst 0, 1) := by decide +kernel
theorem dX9_buildTree_12 : decode cX9_buildTree 12 = .ok (.aload_n 0, 1) := by decide +kernel
theorem dX9_buildTree_13 : decode cX9_buildTree 13 = .ok (.getfield 220, 3) := by decide +kernel
theorem dX9_buildTree_16 : decode cX9_buildTree 16 = .ok (.iconst 0, 1) := by decide +kernel
theorem dX9_buildTree_17 : decode cX9_buildTree 17 = .ok (.iconst (-1), 1) := by decide +kernel
theorem dX9_buildTree_18 : decode cX9_buildTree 18 = .ok (.invokevirtual 239, 3) := by decide +kernel
theorem dX9_buildTree_21 : decode cX9_buildTree 21 = .ok (.pop, 1) := by decide +kernel
theorem dX9_buildTree_22 : decode cX9_buildTree 22 = .ok (.aload_n 0, 1) := by decide +kernel
theorem dX9_buildTree_23 : decode cX9_buildTree 23 = .ok (.iconst 0, 1) := by decide +kernel
theorem dX9_buildTree_24 : decode cX9_buildTree 24 = .ok (.iconst 0, 1) := by decide +kernel
theorem dX9_buildTree_25 : decode cX9_buildTree 25 = .ok (.invokevirtual 243, 3) := by decide +kernel
theorem dX9_buildTree_28 : decode cX9_buildTree 28 = .ok (.iconst 0, 1) := by decide +kernel
theorem dX9_buildTree_29 : decode cX9_buildTree 29 = .ok (.istore_n 1, 1) := by decide +kernel
theorem dX9_buildTree_30 : decode cX9_buildTree 30 = .ok (.iload_n 1, 1) := by decide +kernel
theorem dX9_buildTree_31 : decode cX9_buildTree 31 = .ok (.ifCond .lt 232, 3) := by decide +kernel
theorem dX9_buildTree_34 : decode cX9_buildTree 34 = .ok (.aload_n 0, 1) := by decide +kernel
theorem dX9_buildTree_35 : decode cX9_buildTree 35 = .ok (.getfield 86, 3) := by decide +kernel
theorem dX9_buildTree_38 : decode cX9_buildTree 38 = .ok (.iload_n 1, 1) := by decide +kernel
theorem dX9_buildTree_39 : decode cX9_buildTree 39 = .ok (.iaload, 1) := by decide +kernel
theorem dX9_buildTree_40 : decode cX9_buildTree 40 = .ok (.istore_n 2, 1) := by decide +kernel
theorem dX9_buildTree_41 : decode cX9_buildTree 41 = .ok (.iload_n 2, 1) := by decide +kernel
theorem dX9_buildTree_42 : decode cX9_buildTree 42 = .ok (.aload_n 0, 1) := by decide +kernel
theorem dX9_buildTree_43 : decode cX9_buildTree 43 = .ok (.getfield 89, 3) := by decide +kernel
theorem dX9_buildTree_46 : decode cX9_buildTree 46 = .ok (.iload_n 1, 1) := by decide +kernel
theorem dX9_buildTree_47 : decode cX9_buildTree 47 = .ok (.iaload, 1) := by decide +kernel
theorem dX9_buildTree_48 : decode cX9_buildTree 48 = .ok (.if_icmp .ne 9, 3) := by decide +kernel
theorem dX9_buildTree_51 : decode cX9_buildTree 51 = .ok (.iinc 1 (-1), 3) := by decide +kernel
theorem dX9_buildTree_54 : decode cX9_buildTree 54 = .ok (.goto 206, 3) := by decide +kernel
theorem dX9_buildTree_57 : decode cX9_buildTree 57 = .ok (.aload_n 0, 1) := by decide +kernel
theorem dX9_buildTree_58 : decode cX9_buildTree 58 = .ok (.getfield 38, 3) := by decide +kernel
theorem dX9_buildTree_61 : decode cX9_buildTree 61 = .ok (.iload_n 2, 1) := by decide +kernel
theorem dX9_buildTree_62 : decode cX9_buildTree 62 = .ok (.iaload, 1) := by decide +kernel
theorem dX9_buildTree_63 : decode cX9_buildTree 63 = .ok (.ifCond .ne 38, 3) := by decide +kernel
theorem dX9_buildTree_66 : decode cX9_buildTree 66 = .ok (.aload_n 0, 1) := by decide +kernel
theorem dX9_buildTree_67 : decode cX9_buildTree 67 = .ok (.getfield 35, 3) := by decide +kernel
theorem dX9_buildTree_70 : decode cX9_buildTree 70 = .ok (.iload_n 2, 1) := by decide +kernel
theorem dX9_buildTree_71 : decode cX9_buildTree 71 = .ok (.iaload, 1) := by decide +kernel
theorem dX9_buildTree_72 : decode cX9_buildTree 72 = .ok (.invokestatic 149, 3) := by decide +kernel
theorem dX9_buildTree_75 : decode cX9_buildTree 75 = .ok (.ifCond .ne 26, 3) := by decide +kernel
theorem dX9_buildTree_78 : decode cX9_buildTree 78 = .ok (.aload_n 0, 1) := by decide +kernel
theorem dX9_buildTree_79 : decode cX9_buildTree 79 = .ok (.getfield 86, 3) := by decide +kernel
theorem dX9_buildTree_82 : decode cX9_buildTree 82 = .ok (.iload_n 1, 1) := by decide +kernel
theorem dX9_buildTree_83 : decode cX9_buildTree 83 = .ok (.dup2, 1) := by decide +kernel
theorem dX9_buildTree_84 : decode cX9_buildTree 84 = .ok (.iaload, 1) := by decide +kernel
theorem dX9_buildTree_85 : decode cX9_buildTree 85 = .ok (.iconst 1, 1) := by decide +kernel
theorem dX9_buildTree_86 : decode cX9_buildTree 86 = .ok (.iadd, 1) := by decide +kernel
theorem dX9_buildTree_87 : decode cX9_buildTree 87 = .ok (.iastore, 1) := by decide +kernel
theorem dX9_buildTree_88 : decode cX9_buildTree 88 = .ok (.aload_n 0, 1) := by decide +kernel
theorem dX9_buildTree_89 : decode cX9_buildTree 89 = .ok (.getfield 92, 3) := by decide +kernel
theorem dX9_buildTree_92 : decode cX9_buildTree 92 = .ok (.iload_n 1, 1) := by decide +kernel
theorem dX9_buildTree_93 : decode cX9_buildTree 93 = .ok (.dup2, 1) := by decide +kernel
theorem dX9_buildTree_94 : decode cX9_buildTree 94 = .ok (.iaload, 1) := by decide +kernel
theorem dX9_buildTree_95 : decode cX9_buildTree 95 = .ok (.iconst 1, 1) := by decide +kernel
theorem dX9_buildTree_96 : decode cX9_buildTree 96 = .ok (.iadd, 1) := by decide +kernel
theorem dX9_buildTree_97 : decode cX9_buildTree 97 = .ok (.iastore, 1) := by decide +kernel
theorem dX9_buildTree_98 : decode cX9_buildTree 98 = .ok (.goto 162, 3) := by decide +kernel
theorem dX9_buildTree_101 : decode cX9_buildTree 101 = .ok (.aload_n 0, 1) := by decide +kernel
theorem dX9_buildTree_102 : decode cX9_buildTree 102 = .ok (.getfield 92, 3) := by decide +kernel
theorem dX9_buildTree_105 : decode cX9_buildTree 105 = .ok (.iload_n 1, 1) := by decide +kernel
theorem dX9_buildTree_106 : decode cX9_buildTree 106 = .ok (.iaload, 1) := by decide +kernel
theorem dX9_buildTree_107 : decode cX9_buildTree 107 = .ok (.istore_n 3, 1) := by decide +kernel
theorem dX9_buildTree_108 : decode cX9_buildTree 108 = .ok (.aload_n 0, 1) := by decide +kernel
theorem dX9_buildTree_109 : decode cX9_buildTree 109 = .ok (.iload_n 2, 1) := by decide +kernel
theorem dX9_buildTree_110 : decode cX9_buildTree 110 = .ok (.iload_n 3, 1) := by decide +kernel
theorem dX9_buildTree_111 : decode cX9_buildTree 111 = .ok (.aload_n 0, 1) := by decide +kernel
theorem dX9_buildTree_112 : decode cX9_buildTree 112 = .ok (.getfield 95, 3) := by decide +kernel
theorem dX9_buildTree_115 : decode cX9_buildTree 115 = .ok (.iload_n 1, 1) := by decide +kernel
theorem dX9_buildTree_116 : decode cX9_buildTree 116 = .ok (.iaload, 1) := by decide +kernel
theorem dX9_buildTree_117 : decode cX9_buildTree 117 = .ok (.invokevirtual 246, 3) := by decide +kernel
theorem dX9_buildTree_120 : decode cX9_buildTree 120 = .ok (.istore 4, 2) := by decide +kernel
theorem dX9_buildTree_122 : decode cX9_buildTree 122 = .ok (.iload 4, 2) := by decide +kernel
theorem dX9_buildTree_124 : decode cX9_buildTree 124 = .ok (.ifCond .ge 23, 3) := by decide +kernel
theorem dX9_buildTree_127 : decode cX9_buildTree 127 = .ok (.aload_n 0, 1) := by decide +kernel
theorem dX9_buildTree_128 : decode cX9_buildTree 128 = .ok (.getfield 86, 3) := by decide +kernel
theorem dX9_buildTree_131 : decode cX9_buildTree 131 = .ok (.iload_n 1, 1) := by decide +kernel
theorem dX9_buildTree_132 : decode cX9_buildTree 132 = .ok (.dup2, 1) := by decide +kernel
theorem dX9_buildTree_133 : decode cX9_buildTree 133 = .ok (.iaload, 1) := by decide +kernel
theorem dX9_buildTree_134 : decode cX9_buildTree 134 = .ok (.iconst 1, 1) := by decide +kernel
theorem dX9_buildTree_135 : decode cX9_buildTree 135 = .ok (.iadd, 1) := by decide +kernel
theorem dX9_buildTree_136 : decode cX9_buildTree 136 = .ok (.iastore, 1) := by decide +kernel
theorem dX9_buildTree_137 : decode cX9_buildTree 137 = .ok (.aload_n 0, 1) := by decide +kernel
theorem dX9_buildTree_138 : decode cX9_buildTree 138 = .ok (.getfield 95, 3) := by decide +kernel
theorem dX9_buildTree_141 : decode cX9_buildTree 141 = .ok (.iload_n 1, 1) := by decide +kernel
theorem dX9_buildTree_142 : decode cX9_buildTree 142 = .ok (.iconst 0, 1) := by decide +kernel
theorem dX9_buildTree_143 : decode cX9_buildTree 143 = .ok (.iastore, 1) := by decide +kernel
theorem dX9_buildTree_144 : decode cX9_buildTree 144 = .ok (.goto 116, 3) := by decide +kernel
theorem dX9_buildTree_147 : decode cX9_buildTree 147 = .ok (.aload_n 0, 1) := by decide +kernel
theorem dX9_buildTree_148 : decode cX9_buildTree 148 = .ok (.getfield 35, 3) := by decide +kernel
theorem dX9_buildTree_151 : decode cX9_buildTree 151 = .ok (.iload_n 2, 1) := by decide +kernel
theorem dX9_buildTree_152 : decode cX9_buildTree 152 = .ok (.iaload, 1) := by decide +kernel
theorem dX9_buildTree_153 : decode cX9_buildTree 153 = .ok (.invokestatic 149, 3) := by decide +kernel
theorem dX9_buildTree_156 : decode cX9_buildTree 156 = .ok (.istore 5, 2) := by decide +kernel
theorem dX9_buildTree_158 : decode cX9_buildTree 158 = .ok (.aload_n 0, 1) := by decide +kernel
theorem dX9_buildTree_159 : decode cX9_buildTree 159 = .ok (.getfield 83, 3) := by decide +kernel
theorem dX9_buildTree_162 : decode cX9_buildTree 162 = .ok (.iload_n 1, 1) := by decide +kernel
theorem dX9_buildTree_163 : decode cX9_buildTree 163 = .ok (.iaload, 1) := by decide +kernel
theorem dX9_buildTree_164 : decode cX9_buildTree 164 = .ok (.istore 6, 2) := by decide +kernel
theorem dX9_buildTree_166 : decode cX9_buildTree 166 = .ok (.aload_n 0, 1) := by decide +kernel
theorem dX9_buildTree_167 : decode cX9_buildTree 167 = .ok (.iload 5, 2) := by decide +kernel
theorem dX9_buildTree_169 : decode cX9_buildTree 169 = .ok (.ifCond .eq 15, 3) := by decide +kernel
theorem dX9_buildTree_172 : decode cX9_buildTree 172 = .ok (.aload_n 0, 1) := by decide +kernel
theorem dX9_buildTree_173 : decode cX9_buildTree 173 = .ok (.getfield 35, 3) := by decide +kernel
theorem dX9_buildTree_176 : decode cX9_buildTree 176 = .ok (.iload_n 2, 1) := by decide +kernel
theorem dX9_buildTree_177 : decode cX9_buildTree 177 = .ok (.iaload, 1) := by decide +kernel
theorem dX9_buildTree_178 : decode cX9_buildTree 178 = .ok (.bipush 65, 2) := by decide +kernel
theorem dX9_buildTree_180 : decode cX9_buildTree 180 = .ok (.isub, 1) := by decide +kernel
theorem dX9_buildTree_181 : decode cX9_buildTree 181 = .ok (.goto 5, 3) := by decide +kernel
theorem dX9_buildTree_184 : decode cX9_buildTree 184 = .ok (.bipush 6, 2) := by decide +kernel
theorem dX9_buildTree_186 : decode cX9_buildTree 186 = .ok (.aload_n 0, 1) := by decide +kernel
theorem dX9_buildTree_187 : decode cX9_buildTree 187 = .ok (.iload_n 2, 1) := by decide +kernel
theorem dX9_buildTree_188 : decode cX9_buildTree 188 = .ok (.iload 4, 2) := by decide +kernel
theorem dX9_buildTree_190 : decode cX9_buildTree 190 = .ok (.aload_n 0, 1) := by decide +kernel
theorem dX9_buildTree_191 : decode cX9_buildTree 191 = .ok (.getfield 95, 3) := by decide +kernel
theorem dX9_buildTree_194 : decode cX9_buildTree 194 = .ok (.iload_n 1, 1) := by decide +kernel
theorem dX9_buildTree_195 : decode cX9_buildTree 195 = .ok (.iaload, 1) := by decide +kernel
theorem dX9_buildTree_196 : decode cX9_buildTree 196 = .ok (.invokevirtual 250, 3) := by decide +kernel
theorem dX9_buildTree_199 : decode cX9_buildTree 199 = .ok (.iload_n 3, 1) := by decide +kernel
theorem dX9_buildTree_200 : decode cX9_buildTree 200 = .ok (.iload 4, 2) := by decide +kernel
theorem dX9_buildTree_202 : decode cX9_buildTree 202 = .ok (.iload_n 3, 1) := by decide +kernel
theorem dX9_buildTree_203 : decode cX9_buildTree 203 = .ok (.isub, 1) := by decide +kernel
theorem dX9_buildTree_204 : decode cX9_buildTree 204 = .ok (.aload_n 0, 1) := by decide +kernel
theorem dX9_buildTree_205 : decode cX9_buildTree 205 = .ok (.getfield 77, 3) := by decide +kernel
theorem dX9_buildTree_208 : decode cX9_buildTree 208 = .ok (.iload 6, 2) := by decide +kernel
theorem dX9_buildTree_210 : decode cX9_buildTree 210 = .ok (.iaload, 1) := by decide +kernel
theorem dX9_buildTree_211 : decode cX9_buildTree 211 = .ok (.iconst 1, 1) := by decide +kernel
theorem dX9_buildTree_212 : decode cX9_buildTree 212 = .ok (.iadd, 1) := by decide +kernel
theorem dX9_buildTree_213 : decode cX9_buildTree 213 = .ok (.iload 6, 2) := by decide +kernel
theorem dX9_buildTree_215 : decode cX9_buildTree 215 = .ok (.invokevirtual 239, 3) := by decide +kernel
theorem dX9_buildTree_218 : decode cX9_buildTree 218 = .ok (.ifCond .ne 5, 3) := by decide +kernel
theorem dX9_buildTree_221 : decode cX9_buildTree 221 = .ok (.iconst 0, 1) := by decide +kernel
theorem dX9_buildTree_222 : decode cX9_buildTree 222 = .ok (.ireturn, 1) := by decide +kernel
theorem dX9_buildTree_223 : decode cX9_buildTree 223 = .ok (.aload_n 0, 1) := by decide +kernel
theorem dX9_buildTree_224 : decode cX9_buildTree 224 = .ok (.getfield 95, 3) := by decide +kernel
theorem dX9_buildTree_227 : decode cX9_buildTree 227 = .ok (.iload_n 1, 1) := by decide +kernel
theorem dX9_buildTree_228 : decode cX9_buildTree 228 = .ok (.dup2, 1) := by decide +kernel
theorem dX9_buildTree_229 : decode cX9_buildTree 229 = .ok (.iaload, 1) := by decide +kernel
theorem dX9_buildTree_230 : decode cX9_buildTree 230 = .ok (.iconst 1, 1) := by decide +kernel
theorem dX9_buildTree_231 : decode cX9_buildTree 231 = .ok (.iadd, 1) := by decide +kernel
theorem dX9_buildTree_232 : decode cX9_buildTree 232 = .ok (.iastore, 1) := by decide +kernel
theorem dX9_buildTree_233 : decode cX9_buildTree 233 = .ok (.aload_n 0, 1) := by decide +kernel
theorem dX9_buildTree_234 : decode cX9_buildTree 234 = .ok (.getfield 92, 3) := by decide +kernel
theorem dX9_buildTree_237 : decode cX9_buildTree 237 = .ok (.iload_n 1, 1) := by decide +kernel
theorem dX9_buildTree_238 : decode cX9_buildTree 238 = .ok (.iload 4, 2) := by decide +kernel
theorem dX9_buildTree_240 : decode cX9_buildTree 240 = .ok (.iastore, 1) := by decide +kernel
theorem dX9_buildTree_241 : decode cX9_buildTree 241 = .ok (.iload 5, 2) := by decide +kernel
theorem dX9_buildTree_243 : decode cX9_buildTree 243 = .ok (.ifCond .eq 17, 3) := by decide +kernel
theorem dX9_buildTree_246 : decode cX9_buildTree 246 = .ok (.iinc 1 1, 3) := by decide +kernel
theorem dX9_buildTree_249 : decode cX9_buildTree 249 = .ok (.aload_n 0, 1) := by decide +kernel
theorem dX9_buildTree_250 : decode cX9_buildTree 250 = .ok (.iload_n 1, 1) := by decide +kernel
theorem dX9_buildTree_251 : decode cX9_buildTree 251 = .ok (.aload_n 0, 1) := by decide +kernel
theorem dX9_buildTree_252 : decode cX9_buildTree 252 = .ok (.getfield 236, 3) := by decide +kernel
theorem dX9_buildTree_255 : decode cX9_buildTree 255 = .ok (.iconst 1, 1) := by decide +kernel
theorem dX9_buildTree_256 : decode cX9_buildTree 256 = .ok (.isub, 1) := by decide +kernel
theorem dX9_buildTree_257 : decode cX9_buildTree 257 = .ok (.invokevirtual 243, 3) := by decide +kernel
theorem dX9_buildTree_260 : decode cX9_buildTree 260 = .ok (.goto (-230), 3) := by decide +kernel
theorem dX9_buildTree_263 : decode cX9_buildTree 263 = .ok (.iconst 1, 1) := by decide +kernel
theorem dX9_buildTree_264 : decode cX9_buildTree 264 = .ok (.ireturn, 1) := by decide +kernel
theorem dX9_parse_0 : decode cX9_parse 0 = .ok (.aload_n 0, 1) := by decide +kernel
theorem dX9_parse_1 : decode cX9_parse 1 = .ok (.iload_n 2, 1) := by decide +kernel
theorem dX9_parse_2 : decode cX9_parse 2 = .ok (.putfield 220, 3) := by decide +kernel
theorem dX9_parse_5 : decode cX9_parse 5 = .ok (.iconst 0, 1) := by decide +kernel
theorem dX9_parse_6 : decode cX9_parse 6 = .ok (.istore_n 3, 1) := by decide +kernel
theorem dX9_parse_7 : decode cX9_parse 7 = .ok (.iload_n 3, 1) := by decide +kernel
theorem dX9_parse_8 : decode cX9_parse 8 = .ok (.iload_n 2, 1) := by decide +kernel
theorem dX9_parse_9 : decode cX9_parse 9 = .ok (.if_icmp .ge 18, 3) := by decide +kernel
theorem dX9_parse_12 : decode cX9_parse 12 = .ok (.aload_n 0, 1) := by decide +kernel
theorem dX9_parse_13 : decode cX9_parse 13 = .ok (.getfield 59, 3) := by decide +kernel
theorem dX9_parse_16 : decode cX9_parse 16 = .ok (.iload_n 3, 1) := by decide +kernel
theorem dX9_parse_17 : decode cX9_parse 17 = .ok (.aload_n 1, 1) := by decide +kernel
theorem dX9_parse_18 : decode cX9_parse 18 = .ok (.iload_n 3, 1) := by decide +kernel
theorem dX9_parse_19 : decode cX9_parse 19 = .ok (.iaload, 1) := by decide +kernel
theorem dX9_parse_20 : decode cX9_parse 20 = .ok (.iastore, 1) := by decide +kernel
theorem dX9_parse_21 : decode cX9_parse 21 = .ok (.iinc 3 1, 3) := by decide +kernel
theorem dX9_parse_24 : decode cX9_parse 24 = .ok (.goto (-17), 3) := by decide +kernel
theorem dX9_parse_27 : decode cX9_parse 27 = .ok (.aload_n 0, 1) := by decide +kernel
theorem dX9_parse_28 : decode cX9_parse 28 = .ok (.iconst 0, 1) := by decide +kernel
theorem dX9_parse_29 : decode cX9_parse 29 = .ok (.putfield 236, 3) := by decide +kernel
theorem dX9_parse_32 : decode cX9_parse 32 = .ok (.aload_n 0, 1) := by decide +kernel
theorem dX9_parse_33 : decode cX9_parse 33 = .ok (.getfield 201, 3) := by decide +kernel
theorem dX9_parse_36 : decode cX9_parse 36 = .ok (.ifCond .ne 5, 3) := by decide +kernel
theorem dX9_parse_39 : decode cX9_parse 39 = .ok (.iconst 0, 1) := by decide +kernel
theorem dX9_parse_40 : decode cX9_parse 40 = .ok (.ireturn, 1) := by decide +kernel
theorem dX9_parse_41 : decode cX9_parse 41 = .ok (.aload_n 0, 1) := by decide +kernel
theorem dX9_parse_42 : decode cX9_parse 42 = .ok (.invokevirtual 253, 3) := by decide +kernel
theorem dX9_parse_45 : decode cX9_parse 45 = .ok (.aload_n 0, 1) := by decide +kernel
theorem dX9_parse_46 : decode cX9_parse 46 = .ok (.getfield 62, 3) := by decide +kernel
theorem dX9_parse_49 : decode cX9_parse 49 = .ok (.bipush 33, 2) := by decide +kernel
theorem dX9_parse_51 : decode cX9_parse 51 = .ok (.aload_n 0, 1) := by decide +kernel
theorem dX9_parse_52 : decode cX9_parse 52 = .ok (.getfield 189, 3) := by decide +kernel
theorem dX9_parse_55 : decode cX9_parse 55 = .ok (.imul, 1) := by decide +kernel
theorem dX9_parse_56 : decode cX9_parse 56 = .ok (.iaload, 1) := by decide +kernel
theorem dX9_parse_57 : decode cX9_parse 57 = .ok (.iload_n 2, 1) := by decide +kernel
theorem dX9_parse_58 : decode cX9_parse 58 = .ok (.if_icmp .ne 14, 3) := by decide +kernel
theorem dX9_parse_61 : decode cX9_parse 61 = .ok (.aload_n 0, 1) := by decide +kernel
theorem dX9_parse_62 : decode cX9_parse 62 = .ok (.invokevirtual 256, 3) := by decide +kernel
theorem dX9_parse_65 : decode cX9_parse 65 = .ok (.ifCond .eq 7, 3) := by decide +kernel
theorem dX9_parse_68 : decode cX9_parse 68 = .ok (.iconst 1, 1) := by decide +kernel
theorem dX9_parse_69 : decode cX9_parse 69 = .ok (.goto 4, 3) := by decide +kernel
theorem dX9_parse_72 : decode cX9_parse 72 = .ok (.iconst 0, 1) := by decide +kernel
theorem dX9_parse_73 : decode cX9_parse 73 = .ok (.istore_n 3, 1) := by decide +kernel
theorem dX9_parse_74 : decode cX9_parse 74 = .ok (.aload_n 0, 1) := by decide +kernel
theorem dX9_parse_75 : decode cX9_parse 75 = .ok (.iload_n 3, 1) := by decide +kernel
theorem dX9_parse_76 : decode cX9_parse 76 = .ok (.ifCond .eq 10, 3) := by decide +kernel
theorem dX9_parse_79 : decode cX9_parse 79 = .ok (.aload_n 0, 1) := by decide +kernel
theorem dX9_parse_80 : decode cX9_parse 80 = .ok (.getfield 236, 3) := by decide +kernel
theorem dX9_parse_83 : decode cX9_parse 83 = .ok (.goto 4, 3) := by decide +kernel
theorem dX9_parse_86 : decode cX9_parse 86 = .ok (.iconst 0, 1) := by decide +kernel
theorem dX9_parse_87 : decode cX9_parse 87 = .ok (.putfield 236, 3) := by decide +kernel
theorem dX9_parse_90 : decode cX9_parse 90 = .ok (.iload_n 3, 1) := by decide +kernel
end
section
theorem dX9_parse_91 : decode cX9_parse 91 = .ok (.ireturn, 1) := by decide +kernel
theorem dX9_nodes_0 : decode cX9_nodes 0 = .ok (.aload_n 0, 1) := by decide +kernel
theorem dX9_nodes_1 : decode cX9_nodes 1 = .ok (.aload_n 0, 1) := by decide +kernel
theorem dX9_nodes_2 : decode cX9_nodes 2 = .ok (.getfield 7, 3) := by decide +kernel
theorem dX9_nodes_5 : decode cX9_nodes 5 = .ok (.aload_n 0, 1) := by decide +kernel
theorem dX9_nodes_6 : decode cX9_nodes 6 = .ok (.getfield 145, 3) := by decide +kernel
theorem dX9_nodes_9 : decode cX9_nodes 9 = .ok (.invokevirtual 259, 3) := by decide +kernel
theorem dX9_nodes_12 : decode cX9_nodes 12 = .ok (.istore_n 1, 1) := by decide +kernel
theorem dX9_nodes_13 : decode cX9_nodes 13 = .ok (.aload_n 0, 1) := by decide +kernel
theorem dX9_nodes_14 : decode cX9_nodes 14 = .ok (.getfield 201, 3) := by decide +kernel
theorem dX9_nodes_17 : decode cX9_nodes 17 = .ok (.ifCond .eq 18, 3) := by decide +kernel
theorem dX9_nodes_20 : decode cX9_nodes 20 = .ok (.iload_n 1, 1) := by decide +kernel
theorem dX9_nodes_21 : decode cX9_nodes 21 = .ok (.ifCond .eq 10, 3) := by decide +kernel
theorem dX9_nodes_24 : decode cX9_nodes 24 = .ok (.aload_n 0, 1) := by decide +kernel
theorem dX9_nodes_25 : decode cX9_nodes 25 = .ok (.getfield 236, 3) := by decide +kernel
theorem dX9_nodes_28 : decode cX9_nodes 28 = .ok (.goto 8, 3) := by decide +kernel
theorem dX9_nodes_31 : decode cX9_nodes 31 = .ok (.iconst 0, 1) := by decide +kernel
theorem dX9_nodes_32 : decode cX9_nodes 32 = .ok (.goto 4, 3) := by decide +kernel
theorem dX9_nodes_35 : decode cX9_nodes 35 = .ok (.iconst (-1), 1) := by decide +kernel
theorem dX9_nodes_36 : decode cX9_nodes 36 = .ok (.ireturn, 1) := by decide +kernel
theorem dX9_node_0 : decode cX9_node 0 = .ok (.aload_n 0, 1) := by decide +kernel
theorem dX9_node_1 : decode cX9_node 1 = .ok (.aload_n 0, 1) := by decide +kernel
theorem dX9_node_2 : decode cX9_node 2 = .ok (.getfield 7, 3) := by decide +kernel
theorem dX9_node_5 : decode cX9_node 5 = .ok (.aload_n 0, 1) := by decide +kernel
theorem dX9_node_6 : decode cX9_node 6 = .ok (.getfield 145, 3) := by decide +kernel
theorem dX9_node_9 : decode cX9_node 9 = .ok (.invokevirtual 259, 3) := by decide +kernel
theorem dX9_node_12 : decode cX9_node 12 = .ok (.ifCond .eq 19, 3) := by decide +kernel
theorem dX9_node_15 : decode cX9_node 15 = .ok (.iload_n 1, 1) := by decide +kernel
theorem dX9_node_16 : decode cX9_node 16 = .ok (.ifCond .lt 15, 3) := by decide +kernel
theorem dX9_node_19 : decode cX9_node 19 = .ok (.iload_n 1, 1) := by decide +kernel
theorem dX9_node_20 : decode cX9_node 20 = .ok (.aload_n 0, 1) := by decide +kernel
theorem dX9_node_21 : decode cX9_node 21 = .ok (.getfield 236, 3) := by decide +kernel
theorem dX9_node_24 : decode cX9_node 24 = .ok (.if_icmp .ge 7, 3) := by decide +kernel
theorem dX9_node_27 : decode cX9_node 27 = .ok (.iconst 1, 1) := by decide +kernel
theorem dX9_node_28 : decode cX9_node 28 = .ok (.goto 4, 3) := by decide +kernel
theorem dX9_node_31 : decode cX9_node 31 = .ok (.iconst 0, 1) := by decide +kernel
theorem dX9_node_32 : decode cX9_node 32 = .ok (.istore_n 2, 1) := by decide +kernel
theorem dX9_node_33 : decode cX9_node 33 = .ok (.iload_n 2, 1) := by decide +kernel
theorem dX9_node_34 : decode cX9_node 34 = .ok (.ifCond .eq 44, 3) := by decide +kernel
theorem dX9_node_37 : decode cX9_node 37 = .ok (.sipush 10000, 3) := by decide +kernel
theorem dX9_node_40 : decode cX9_node 40 = .ok (.aload_n 0, 1) := by decide +kernel
theorem dX9_node_41 : decode cX9_node 41 = .ok (.getfield 65, 3) := by decide +kernel
theorem dX9_node_44 : decode cX9_node 44 = .ok (.iload_n 1, 1) := by decide +kernel
theorem dX9_node_45 : decode cX9_node 45 = .ok (.iaload, 1) := by decide +kernel
theorem dX9_node_46 : decode cX9_node 46 = .ok (.imul, 1) := by decide +kernel
theorem dX9_node_47 : decode cX9_node 47 = .ok (.sipush 5000, 3) := by decide +kernel
theorem dX9_node_50 : decode cX9_node 50 = .ok (.aload_n 0, 1) := by decide +kernel
theorem dX9_node_51 : decode cX9_node 51 = .ok (.getfield 68, 3) := by decide +kernel
theorem dX9_node_54 : decode cX9_node 54 = .ok (.iload_n 1, 1) := by decide +kernel
theorem dX9_node_55 : decode cX9_node 55 = .ok (.iaload, 1) := by decide +kernel
theorem dX9_node_56 : decode cX9_node 56 = .ok (.imul, 1) := by decide +kernel
theorem dX9_node_57 : decode cX9_node 57 = .ok (.iadd, 1) := by decide +kernel
theorem dX9_node_58 : decode cX9_node 58 = .ok (.bipush 40, 2) := by decide +kernel
theorem dX9_node_60 : decode cX9_node 60 = .ok (.aload_n 0, 1) := by decide +kernel
theorem dX9_node_61 : decode cX9_node 61 = .ok (.getfield 71, 3) := by decide +kernel
theorem dX9_node_64 : decode cX9_node 64 = .ok (.iload_n 1, 1) := by decide +kernel
theorem dX9_node_65 : decode cX9_node 65 = .ok (.iaload, 1) := by decide +kernel
theorem dX9_node_66 : decode cX9_node 66 = .ok (.imul, 1) := by decide +kernel
theorem dX9_node_67 : decode cX9_node 67 = .ok (.iadd, 1) := by decide +kernel
theorem dX9_node_68 : decode cX9_node 68 = .ok (.aload_n 0, 1) := by decide +kernel
theorem dX9_node_69 : decode cX9_node 69 = .ok (.getfield 74, 3) := by decide +kernel
theorem dX9_node_72 : decode cX9_node 72 = .ok (.iload_n 1, 1) := by decide +kernel
theorem dX9_node_73 : decode cX9_node 73 = .ok (.iaload, 1) := by decide +kernel
theorem dX9_node_74 : decode cX9_node 74 = .ok (.iadd, 1) := by decide +kernel
theorem dX9_node_75 : decode cX9_node 75 = .ok (.goto 4, 3) := by decide +kernel
theorem dX9_node_78 : decode cX9_node 78 = .ok (.iconst (-1), 1) := by decide +kernel
theorem dX9_node_79 : decode cX9_node 79 = .ok (.ireturn, 1) := by decide +kernel
theorem dX9_depth_0 : decode cX9_depth 0 = .ok (.aload_n 0, 1) := by decide +kernel
theorem dX9_depth_1 : decode cX9_depth 1 = .ok (.aload_n 0, 1) := by decide +kernel
theorem dX9_depth_2 : decode cX9_depth 2 = .ok (.getfield 7, 3) := by decide +kernel
theorem dX9_depth_5 : decode cX9_depth 5 = .ok (.aload_n 0, 1) := by decide +kernel
theorem dX9_depth_6 : decode cX9_depth 6 = .ok (.getfield 145, 3) := by decide +kernel
theorem dX9_depth_9 : decode cX9_depth 9 = .ok (.invokevirtual 259, 3) := by decide +kernel
theorem dX9_depth_12 : decode cX9_depth 12 = .ok (.ifCond .eq 19, 3) := by decide +kernel
theorem dX9_depth_15 : decode cX9_depth 15 = .ok (.iload_n 1, 1) := by decide +kernel
theorem dX9_depth_16 : decode cX9_depth 16 = .ok (.ifCond .lt 15, 3) := by decide +kernel
theorem dX9_depth_19 : decode cX9_depth 19 = .ok (.iload_n 1, 1) := by decide +kernel
theorem dX9_depth_20 : decode cX9_depth 20 = .ok (.aload_n 0, 1) := by decide +kernel
theorem dX9_depth_21 : decode cX9_depth 21 = .ok (.getfield 236, 3) := by decide +kernel
theorem dX9_depth_24 : decode cX9_depth 24 = .ok (.if_icmp .ge 7, 3) := by decide +kernel
theorem dX9_depth_27 : decode cX9_depth 27 = .ok (.iconst 1, 1) := by decide +kernel
theorem dX9_depth_28 : decode cX9_depth 28 = .ok (.goto 4, 3) := by decide +kernel
theorem dX9_depth_31 : decode cX9_depth 31 = .ok (.iconst 0, 1) := by decide +kernel
theorem dX9_depth_32 : decode cX9_depth 32 = .ok (.istore_n 2, 1) := by decide +kernel
theorem dX9_depth_33 : decode cX9_depth 33 = .ok (.iload_n 2, 1) := by decide +kernel
theorem dX9_depth_34 : decode cX9_depth 34 = .ok (.ifCond .eq 12, 3) := by decide +kernel
theorem dX9_depth_37 : decode cX9_depth 37 = .ok (.aload_n 0, 1) := by decide +kernel
theorem dX9_depth_38 : decode cX9_depth 38 = .ok (.getfield 77, 3) := by decide +kernel
theorem dX9_depth_41 : decode cX9_depth 41 = .ok (.iload_n 1, 1) := by decide +kernel
theorem dX9_depth_42 : decode cX9_depth 42 = .ok (.iaload, 1) := by decide +kernel
theorem dX9_depth_43 : decode cX9_depth 43 = .ok (.goto 4, 3) := by decide +kernel
theorem dX9_depth_46 : decode cX9_depth 46 = .ok (.iconst (-1), 1) := by decide +kernel
theorem dX9_depth_47 : decode cX9_depth 47 = .ok (.ireturn, 1) := by decide +kernel
theorem dX9_isKnown_0 : decode cX9_isKnown 0 = .ok (.aload_n 0, 1) := by decide +kernel
theorem dX9_isKnown_1 : decode cX9_isKnown 1 = .ok (.getfield 102, 3) := by decide +kernel
theorem dX9_isKnown_4 : decode cX9_isKnown 4 = .ok (.iload_n 1, 1) := by decide +kernel
theorem dX9_isKnown_5 : decode cX9_isKnown 5 = .ok (.iaload, 1) := by decide +kernel
theorem dX9_isKnown_6 : decode cX9_isKnown 6 = .ok (.aload_n 0, 1) := by decide +kernel
theorem dX9_isKnown_7 : decode cX9_isKnown 7 = .ok (.getfield 263, 3) := by decide +kernel
theorem dX9_isKnown_10 : decode cX9_isKnown 10 = .ok (.if_icmp .ne 7, 3) := by decide +kernel
theorem dX9_isKnown_13 : decode cX9_isKnown 13 = .ok (.iconst 1, 1) := by decide +kernel
theorem dX9_isKnown_14 : decode cX9_isKnown 14 = .ok (.goto 4, 3) := by decide +kernel
theorem dX9_isKnown_17 : decode cX9_isKnown 17 = .ok (.iconst 0, 1) := by decide +kernel
theorem dX9_isKnown_18 : decode cX9_isKnown 18 = .ok (.istore_n 2, 1) := by decide +kernel
theorem dX9_isKnown_19 : decode cX9_isKnown 19 = .ok (.iconst 0, 1) := by decide +kernel
theorem dX9_isKnown_20 : decode cX9_isKnown 20 = .ok (.istore_n 3, 1) := by decide +kernel
theorem dX9_isKnown_21 : decode cX9_isKnown 21 = .ok (.iload_n 3, 1) := by decide +kernel
theorem dX9_isKnown_22 : decode cX9_isKnown 22 = .ok (.aload_n 0, 1) := by decide +kernel
theorem dX9_isKnown_23 : decode cX9_isKnown 23 = .ok (.getfield 263, 3) := by decide +kernel
theorem dX9_isKnown_26 : decode cX9_isKnown 26 = .ok (.if_icmp .ge 39, 3) := by decide +kernel
theorem dX9_isKnown_29 : decode cX9_isKnown 29 = .ok (.iload_n 2, 1) := by decide +kernel
theorem dX9_isKnown_30 : decode cX9_isKnown 30 = .ok (.ifCond .eq 35, 3) := by decide +kernel
theorem dX9_isKnown_33 : decode cX9_isKnown 33 = .ok (.aload_n 0, 1) := by decide +kernel
theorem dX9_isKnown_34 : decode cX9_isKnown 34 = .ok (.getfield 105, 3) := by decide +kernel
theorem dX9_isKnown_37 : decode cX9_isKnown 37 = .ok (.bipush 32, 2) := by decide +kernel
theorem dX9_isKnown_39 : decode cX9_isKnown 39 = .ok (.iload_n 1, 1) := by decide +kernel
theorem dX9_isKnown_40 : decode cX9_isKnown 40 = .ok (.imul, 1) := by decide +kernel
theorem dX9_isKnown_41 : decode cX9_isKnown 41 = .ok (.iload_n 3, 1) := by decide +kernel
theorem dX9_isKnown_42 : decode cX9_isKnown 42 = .ok (.iadd, 1) := by decide +kernel
theorem dX9_isKnown_43 : decode cX9_isKnown 43 = .ok (.iaload, 1) := by decide +kernel
theorem dX9_isKnown_44 : decode cX9_isKnown 44 = .ok (.aload_n 0, 1) := by decide +kernel
theorem dX9_isKnown_45 : decode cX9_isKnown 45 = .ok (.getfield 108, 3) := by decide +kernel
theorem dX9_isKnown_48 : decode cX9_isKnown 48 = .ok (.iload_n 3, 1) := by decide +kernel
theorem dX9_isKnown_49 : decode cX9_isKnown 49 = .ok (.iaload, 1) := by decide +kernel
theorem dX9_isKnown_50 : decode cX9_isKnown 50 = .ok (.if_icmp .ne 7, 3) := by decide +kernel
theorem dX9_isKnown_53 : decode cX9_isKnown 53 = .ok (.iconst 1, 1) := by decide +kernel
theorem dX9_isKnown_54 : decode cX9_isKnown 54 = .ok (.goto 4, 3) := by decide +kernel
theorem dX9_isKnown_57 : decode cX9_isKnown 57 = .ok (.iconst 0, 1) := by decide +kernel
theorem dX9_isKnown_58 : decode cX9_isKnown 58 = .ok (.istore_n 2, 1) := by decide +kernel
theorem dX9_isKnown_59 : decode cX9_isKnown 59 = .ok (.iinc 3 1, 3) := by decide +kernel
theorem dX9_isKnown_62 : decode cX9_isKnown 62 = .ok (.goto (-41), 3) := by decide +kernel
theorem dX9_isKnown_65 : decode cX9_isKnown 65 = .ok (.iload_n 2, 1) := by decide +kernel
theorem dX9_isKnown_66 : decode cX9_isKnown 66 = .ok (.ireturn, 1) := by decide +kernel
theorem dX9_keep_0 : decode cX9_keep 0 = .ok (.aload_n 0, 1) := by decide +kernel
theorem dX9_keep_1 : decode cX9_keep 1 = .ok (.getfield 166, 3) := by decide +kernel
theorem dX9_keep_4 : decode cX9_keep 4 = .ok (.bipush 24, 2) := by decide +kernel
theorem dX9_keep_6 : decode cX9_keep 6 = .ok (.if_icmp .ne 76, 3) := by decide +kernel
theorem dX9_keep_9 : decode cX9_keep 9 = .ok (.iconst 0, 1) := by decide +kernel
theorem dX9_keep_10 : decode cX9_keep 10 = .ok (.istore_n 1, 1) := by decide +kernel
theorem dX9_keep_11 : decode cX9_keep 11 = .ok (.iload_n 1, 1) := by decide +kernel
theorem dX9_keep_12 : decode cX9_keep 12 = .ok (.bipush 23, 2) := by decide +kernel
theorem dX9_keep_14 : decode cX9_keep 14 = .ok (.if_icmp .ge 62, 3) := by decide +kernel
theorem dX9_keep_17 : decode cX9_keep 17 = .ok (.aload_n 0, 1) := by decide +kernel
theorem dX9_keep_18 : decode cX9_keep 18 = .ok (.getfield 102, 3) := by decide +kernel
theorem dX9_keep_21 : decode cX9_keep 21 = .ok (.iload_n 1, 1) := by decide +kernel
theorem dX9_keep_22 : decode cX9_keep 22 = .ok (.aload_n 0, 1) := by decide +kernel
theorem dX9_keep_23 : decode cX9_keep 23 = .ok (.getfield 102, 3) := by decide +kernel
theorem dX9_keep_26 : decode cX9_keep 26 = .ok (.iload_n 1, 1) := by decide +kernel
theorem dX9_keep_27 : decode cX9_keep 27 = .ok (.iconst 1, 1) := by decide +kernel
theorem dX9_keep_28 : decode cX9_keep 28 = .ok (.iadd, 1) := by decide +kernel
theorem dX9_keep_29 : decode cX9_keep 29 = .ok (.iaload, 1) := by decide +kernel
theorem dX9_keep_30 : decode cX9_keep 30 = .ok (.iastore, 1) := by decide +kernel
theorem dX9_keep_31 : decode cX9_keep 31 = .ok (.iconst 0, 1) := by decide +kernel
theorem dX9_keep_32 : decode cX9_keep 32 = .ok (.istore_n 2, 1) := by decide +kernel
theorem dX9_keep_33 : decode cX9_keep 33 = .ok (.iload_n 2, 1) := by decide +kernel
theorem dX9_keep_34 : decode cX9_keep 34 = .ok (.bipush 32, 2) := by decide +kernel
theorem dX9_keep_36 : decode cX9_keep 36 = .ok (.if_icmp .ge 34, 3) := by decide +kernel
theorem dX9_keep_39 : decode cX9_keep 39 = .ok (.aload_n 0, 1) := by decide +kernel
theorem dX9_keep_40 : decode cX9_keep 40 = .ok (.getfield 105, 3) := by decide +kernel
theorem dX9_keep_43 : decode cX9_keep 43 = .ok (.bipush 32, 2) := by decide +kernel
theorem dX9_keep_45 : decode cX9_keep 45 = .ok (.iload_n 1, 1) := by decide +kernel
theorem dX9_keep_46 : decode cX9_keep 46 = .ok (.imul, 1) := by decide +kernel
theorem dX9_keep_47 : decode cX9_keep 47 = .ok (.iload_n 2, 1) := by decide +kernel
theorem dX9_keep_48 : decode cX9_keep 48 = .ok (.iadd, 1) := by decide +kernel
theorem dX9_keep_49 : decode cX9_keep 49 = .ok (.aload_n 0, 1) := by decide +kernel
theorem dX9_keep_50 : decode cX9_keep 50 = .ok (.getfield 105, 3) := by decide +kernel
theorem dX9_keep_53 : decode cX9_keep 53 = .ok (.bipush 32, 2) := by decide +kernel
theorem dX9_keep_55 : decode cX9_keep 55 = .ok (.iload_n 1, 1) := by decide +kernel
theorem dX9_keep_56 : decode cX9_keep 56 = .ok (.imul, 1) := by decide +kernel
theorem dX9_keep_57 : decode cX9_keep 57 = .ok (.bipush 32, 2) := by decide +kernel
theorem dX9_keep_59 : decode cX9_keep 59 = .ok (.iadd, 1) := by decide +kernel
theorem dX9_keep_60 : decode cX9_keep 60 = .ok (.iload_n 2, 1) := by decide +kernel
theorem dX9_keep_61 : decode cX9_keep 61 = .ok (.iadd, 1) := by decide +kernel
theorem dX9_keep_62 : decode cX9_keep 62 = .ok (.iaload, 1) := by decide +kernel
theorem dX9_keep_63 : decode cX9_keep 63 = .ok (.iastore, 1) := by decide +kernel
theorem dX9_keep_64 : decode cX9_keep 64 = .ok (.iinc 2 1, 3) := by decide +kernel
theorem dX9_keep_67 : decode cX9_keep 67 = .ok (.goto (-34), 3) := by decide +kernel
theorem dX9_keep_70 : decode cX9_keep 70 = .ok (.iinc 1 1, 3) := by decide +kernel
theorem dX9_keep_73 : decode cX9_keep 73 = .ok (.goto (-62), 3) := by decide +kernel
theorem dX9_keep_76 : decode cX9_keep 76 = .ok (.aload_n 0, 1) := by decide +kernel
theorem dX9_keep_77 : decode cX9_keep 77 = .ok (.bipush 23, 2) := by decide +kernel
theorem dX9_keep_79 : decode cX9_keep 79 = .ok (.putfield 166, 3) := by decide +kernel
theorem dX9_keep_82 : decode cX9_keep 82 = .ok (.aload_n 0, 1) := by decide +kernel
theorem dX9_keep_83 : decode cX9_keep 83 = .ok (.getfield 102, 3) := by decide +kernel
theorem dX9_keep_86 : decode cX9_keep 86 = .ok (.aload_n 0, 1) := by decide +kernel
theorem dX9_keep_87 : decode cX9_keep 87 = .ok (.getfield 166, 3) := by decide +kernel
theorem dX9_keep_90 : decode cX9_keep 90 = .ok (.aload_n 0, 1) := by decide +kernel
theorem dX9_keep_91 : decode cX9_keep 91 = .ok (.getfield 263, 3) := by decide +kernel
theorem dX9_keep_94 : decode cX9_keep 94 = .ok (.iastore, 1) := by decide +kernel
theorem dX9_keep_95 : decode cX9_keep 95 = .ok (.iconst 0, 1) := by decide +kernel
theorem dX9_keep_96 : decode cX9_keep 96 = .ok (.istore_n 1, 1) := by decide +kernel
theorem dX9_keep_97 : decode cX9_keep 97 = .ok (.iload_n 1, 1) := by decide +kernel
theorem dX9_keep_98 : decode cX9_keep 98 = .ok (.aload_n 0, 1) := by decide +kernel
theorem dX9_keep_99 : decode cX9_keep 99 = .ok (.getfield 263, 3) := by decide +kernel
theorem dX9_keep_102 : decode cX9_keep 102 = .ok (.if_icmp .ge 29, 3) := by decide +kernel
theorem dX9_keep_105 : decode cX9_keep 105 = .ok (.aload_n 0, 1) := by decide +kernel
theorem dX9_keep_106 : decode cX9_keep 106 = .ok (.getfield 105, 3) := by decide +kernel
theorem dX9_keep_109 : decode cX9_keep 109 = .ok (.bipush 32, 2) := by decide +kernel
theorem dX9_keep_111 : decode cX9_keep 111 = .ok (.aload_n 0, 1) := by decide +kernel
theorem dX9_keep_112 : decode cX9_keep 112 = .ok (.getfield 166, 3) := by decide +kernel
theorem dX9_keep_115 : decode cX9_keep 115 = .ok (.imul, 1) := by decide +kernel
theorem dX9_keep_116 : decode cX9_keep 116 = .ok (.iload_n 1, 1) := by decide +kernel
theorem dX9_keep_117 : decode cX9_keep 117 = .ok (.iadd, 1) := by decide +kernel
theorem dX9_keep_118 : decode cX9_keep 118 = .ok (.aload_n 0, 1) := by decide +kernel
theorem dX9_keep_119 : decode cX9_keep 119 = .ok (.getfield 108, 3) := by decide +kernel
theorem dX9_keep_122 : decode cX9_keep 122 = .ok (.iload_n 1, 1) := by decide +kernel
theorem dX9_keep_123 : decode cX9_keep 123 = .ok (.iaload, 1) := by decide +kernel
theorem dX9_keep_124 : decode cX9_keep 124 = .ok (.iastore, 1) := by decide +kernel
theorem dX9_keep_125 : decode cX9_keep 125 = .ok (.iinc 1 1, 3) := by decide +kernel
theorem dX9_keep_128 : decode cX9_keep 128 = .ok (.goto (-31), 3) := by decide +kernel
theorem dX9_keep_131 : decode cX9_keep 131 = .ok (.aload_n 0, 1) := by decide +kernel
theorem dX9_keep_132 : decode cX9_keep 132 = .ok (.dup, 1) := by decide +kernel
theorem dX9_keep_133 : decode cX9_keep 133 = .ok (.getfield 166, 3) := by decide +kernel
theorem dX9_keep_136 : decode cX9_keep 136 = .ok (.iconst 1, 1) := by decide +kernel
theorem dX9_keep_137 : decode cX9_keep 137 = .ok (.iadd, 1) := by decide +kernel
theorem dX9_keep_138 : decode cX9_keep 138 = .ok (.putfield 166, 3) := by decide +kernel
theorem dX9_keep_141 : decode cX9_keep 141 = .ok (.return_, 1) := by decide +kernel
theorem dX9_ask_0 : decode cX9_ask 0 = .ok (.iconst 0, 1) := by decide +kernel
theorem dX9_ask_1 : decode cX9_ask 1 = .ok (.istore_n 1, 1) := by decide +kernel
theorem dX9_ask_2 : decode cX9_ask 2 = .ok (.iconst 0, 1) := by decide +kernel
theorem dX9_ask_3 : decode cX9_ask 3 = .ok (.istore_n 2, 1) := by decide +kernel
theorem dX9_ask_4 : decode cX9_ask 4 = .ok (.iload_n 2, 1) := by decide +kernel
theorem dX9_ask_5 : decode cX9_ask 5 = .ok (.aload_n 0, 1) := by decide +kernel
theorem dX9_ask_6 : decode cX9_ask 6 = .ok (.getfield 166, 3) := by decide +kernel
theorem dX9_ask_9 : decode cX9_ask 9 = .ok (.if_icmp .ge 27, 3) := by decide +kernel
theorem dX9_ask_12 : decode cX9_ask 12 = .ok (.iload_n 1, 1) := by decide +kernel
theorem dX9_ask_13 : decode cX9_ask 13 = .ok (.ifCond .ne 11, 3) := by decide +kernel
theorem dX9_ask_16 : decode cX9_ask 16 = .ok (.aload_n 0, 1) := by decide +kernel
theorem dX9_ask_17 : decode cX9_ask 17 = .ok (.iload_n 2, 1) := by decide +kernel
theorem dX9_ask_18 : decode cX9_ask 18 = .ok (.invokevirtual 266, 3) := by decide +kernel
theorem dX9_ask_21 : decode cX9_ask 21 = .ok (.ifCond .eq 7, 3) := by decide +kernel
theorem dX9_ask_24 : decode cX9_ask 24 = .ok (.iconst 1, 1) := by decide +kernel
theorem dX9_ask_25 : decode cX9_ask 25 = .ok (.goto 4, 3) := by decide +kernel
theorem dX9_ask_28 : decode cX9_ask 28 = .ok (.iconst 0, 1) := by decide +kernel
theorem dX9_ask_29 : decode cX9_ask 29 = .ok (.istore_n 1, 1) := by decide +kernel
theorem dX9_ask_30 : decode cX9_ask 30 = .ok (.iinc 2 1, 3) := by decide +kernel
theorem dX9_ask_33 : decode cX9_ask 33 = .ok (.goto (-29), 3) := by decide +kernel
theorem dX9_ask_36 : decode cX9_ask 36 = .ok (.iload_n 1, 1) := by decide +kernel
theorem dX9_ask_37 : decode cX9_ask 37 = .ok (.ifCond .ne 17, 3) := by decide +kernel
theorem dX9_ask_40 : decode cX9_ask 40 = .ok (.aload_n 0, 1) := by decide +kernel
theorem dX9_ask_41 : decode cX9_ask 41 = .ok (.getfield 269, 3) := by decide +kernel
theorem dX9_ask_44 : decode cX9_ask 44 = .ok (.ifCond .ne 10, 3) := by decide +kernel
theorem dX9_ask_47 : decode cX9_ask 47 = .ok (.aload_n 0, 1) := by decide +kernel
theorem dX9_ask_48 : decode cX9_ask 48 = .ok (.iconst 1, 1) := by decide +kernel
theorem dX9_ask_49 : decode cX9_ask 49 = .ok (.putfield 272, 3) := by decide +kernel
theorem dX9_ask_52 : decode cX9_ask 52 = .ok (.iconst 0, 1) := by decide +kernel
theorem dX9_ask_53 : decode cX9_ask 53 = .ok (.ireturn, 1) := by decide +kernel
theorem dX9_ask_54 : decode cX9_ask 54 = .ok (.iload_n 1, 1) := by decide +kernel
theorem dX9_ask_55 : decode cX9_ask 55 = .ok (.ifCond .eq 16, 3) := by decide +kernel
theorem dX9_ask_58 : decode cX9_ask 58 = .ok (.aload_n 0, 1) := by decide +kernel
theorem dX9_ask_59 : decode cX9_ask 59 = .ok (.dup, 1) := by decide +kernel
theorem dX9_ask_60 : decode cX9_ask 60 = .ok (.getfield 275, 3) := by decide +kernel
theorem dX9_ask_63 : decode cX9_ask 63 = .ok (.iconst 1, 1) := by decide +kernel
theorem dX9_ask_64 : decode cX9_ask 64 = .ok (.iadd, 1) := by decide +kernel
theorem dX9_ask_65 : decode cX9_ask 65 = .ok (.putfield 275, 3) := by decide +kernel
theorem dX9_ask_68 : decode cX9_ask 68 = .ok (.goto 34, 3) := by decide +kernel
theorem dX9_ask_71 : decode cX9_ask 71 = .ok (.aload_n 0, 1) := by decide +kernel
theorem dX9_ask_72 : decode cX9_ask 72 = .ok (.dup, 1) := by decide +kernel
theorem dX9_ask_73 : decode cX9_ask 73 = .ok (.getfield 269, 3) := by decide +kernel
theorem dX9_ask_76 : decode cX9_ask 76 = .ok (.iconst 1, 1) := by decide +kernel
theorem dX9_ask_77 : decode cX9_ask 77 = .ok (.isub, 1) := by decide +kernel
theorem dX9_ask_78 : decode cX9_ask 78 = .ok (.putfield 269, 3) := by decide +kernel
theorem dX9_ask_81 : decode cX9_ask 81 = .ok (.aload_n 0, 1) := by decide +kernel
theorem dX9_ask_82 : decode cX9_ask 82 = .ok (.dup, 1) := by decide +kernel
theorem dX9_ask_83 : decode cX9_ask 83 = .ok (.getfield 278, 3) := by decide +kernel
theorem dX9_ask_86 : decode cX9_ask 86 = .ok (.iconst 1, 1) := by decide +kernel
theorem dX9_ask_87 : decode cX9_ask 87 = .ok (.iadd, 1) := by decide +kernel
theorem dX9_ask_88 : decode cX9_ask 88 = .ok (.putfield 278, 3) := by decide +kernel
theorem dX9_ask_91 : decode cX9_ask 91 = .ok (.aload_n 0, 1) := by decide +kernel
theorem dX9_ask_92 : decode cX9_ask 92 = .ok (.getfield 98, 3) := by decide +kernel
theorem dX9_ask_95 : decode cX9_ask 95 = .ok (.ifCond .eq 7, 3) := by decide +kernel
theorem dX9_ask_98 : decode cX9_ask 98 = .ok (.aload_n 0, 1) := by decide +kernel
theorem dX9_ask_99 : decode cX9_ask 99 = .ok (.invokevirtual 281, 3) := by decide +kernel
theorem dX9_ask_102 : decode cX9_ask 102 = .ok (.aload_n 0, 1) := by decide +kernel
theorem dX9_ask_103 : decode cX9_ask 103 = .ok (.aload_n 0, 1) := by decide +kernel
theorem dX9_ask_104 : decode cX9_ask 104 = .ok (.getfield 108, 3) := by decide +kernel
theorem dX9_ask_107 : decode cX9_ask 107 = .ok (.aload_n 0, 1) := by decide +kernel
theorem dX9_ask_108 : decode cX9_ask 108 = .ok (.getfield 263, 3) := by decide +kernel
theorem dX9_ask_111 : decode cX9_ask 111 = .ok (.invokevirtual 176, 3) := by decide +kernel
theorem dX9_ask_114 : decode cX9_ask 114 = .ok (.iconst 1, 1) := by decide +kernel
theorem dX9_ask_115 : decode cX9_ask 115 = .ok (.if_icmp .ne 7, 3) := by decide +kernel
theorem dX9_ask_118 : decode cX9_ask 118 = .ok (.iconst 1, 1) := by decide +kernel
theorem dX9_ask_119 : decode cX9_ask 119 = .ok (.goto 4, 3) := by decide +kernel
theorem dX9_ask_122 : decode cX9_ask 122 = .ok (.iconst 0, 1) := by decide +kernel
theorem dX9_ask_123 : decode cX9_ask 123 = .ok (.istore_n 2, 1) := by decide +kernel
theorem dX9_ask_124 : decode cX9_ask 124 = .ok (.iconst 0, 1) := by decide +kernel
theorem dX9_ask_125 : decode cX9_ask 125 = .ok (.istore_n 3, 1) := by decide +kernel
theorem dX9_ask_126 : decode cX9_ask 126 = .ok (.iload_n 3, 1) := by decide +kernel
theorem dX9_ask_127 : decode cX9_ask 127 = .ok (.aload_n 0, 1) := by decide +kernel
theorem dX9_ask_128 : decode cX9_ask 128 = .ok (.getfield 263, 3) := by decide +kernel
theorem dX9_ask_131 : decode cX9_ask 131 = .ok (.if_icmp .ge 25, 3) := by decide +kernel
theorem dX9_ask_134 : decode cX9_ask 134 = .ok (.iload_n 2, 1) := by decide +kernel
theorem dX9_ask_135 : decode cX9_ask 135 = .ok (.ifCond .eq 21, 3) := by decide +kernel
theorem dX9_ask_138 : decode cX9_ask 138 = .ok (.aload_n 0, 1) := by decide +kernel
theorem dX9_ask_139 : decode cX9_ask 139 = .ok (.getfield 7, 3) := by decide +kernel
theorem dX9_ask_142 : decode cX9_ask 142 = .ok (.iload_n 3, 1) := by decide +kernel
theorem dX9_ask_143 : decode cX9_ask 143 = .ok (.aload_n 0, 1) := by decide +kernel
theorem dX9_ask_144 : decode cX9_ask 144 = .ok (.getfield 108, 3) := by decide +kernel
theorem dX9_ask_147 : decode cX9_ask 147 = .ok (.iload_n 3, 1) := by decide +kernel
theorem dX9_ask_148 : decode cX9_ask 148 = .ok (.iaload, 1) := by decide +kernel
theorem dX9_ask_149 : decode cX9_ask 149 = .ok (.iastore, 1) := by decide +kernel
theorem dX9_ask_150 : decode cX9_ask 150 = .ok (.iinc 3 1, 3) := by decide +kernel
theorem dX9_ask_153 : decode cX9_ask 153 = .ok (.goto (-27), 3) := by decide +kernel
theorem dX9_ask_156 : decode cX9_ask 156 = .ok (.aload_n 0, 1) := by decide +kernel
theorem dX9_ask_157 : decode cX9_ask 157 = .ok (.iload_n 2, 1) := by decide +kernel
theorem dX9_ask_158 : decode cX9_ask 158 = .ok (.ifCond .eq 10, 3) := by decide +kernel
theorem dX9_ask_161 : decode cX9_ask 161 = .ok (.aload_n 0, 1) := by decide +kernel
theorem dX9_ask_162 : decode cX9_ask 162 = .ok (.getfield 263, 3) := by decide +kernel
theorem dX9_ask_165 : decode cX9_ask 165 = .ok (.goto 7, 3) := by decide +kernel
theorem dX9_ask_168 : decode cX9_ask 168 = .ok (.aload_n 0, 1) := by decide +kernel
theorem dX9_ask_169 : decode cX9_ask 169 = .ok (.getfield 145, 3) := by decide +kernel
theorem dX9_ask_172 : decode cX9_ask 172 = .ok (.putfield 145, 3) := by decide +kernel
theorem dX9_ask_175 : decode cX9_ask 175 = .ok (.iload_n 2, 1) := by decide +kernel
theorem dX9_ask_176 : decode cX9_ask 176 = .ok (.ireturn, 1) := by decide +kernel
theorem dX9_askBits_0 : decode cX9_askBits 0 = .ok (.aload_n 0, 1) := by decide +kernel
theorem dX9_askBits_1 : decode cX9_askBits 1 = .ok (.iconst 0, 1) := by decide +kernel
theorem dX9_askBits_2 : decode cX9_askBits 2 = .ok (.putfield 263, 3) := by decide +kernel
theorem dX9_askBits_5 : decode cX9_askBits 5 = .ok (.iconst 0, 1) := by decide +kernel
theorem dX9_askBits_6 : decode cX9_askBits 6 = .ok (.istore_n 2, 1) := by decide +kernel
theorem dX9_askBits_7 : decode cX9_askBits 7 = .ok (.iload_n 2, 1) := by decide +kernel
theorem dX9_askBits_8 : decode cX9_askBits 8 = .ok (.aload_n 0, 1) := by decide +kernel
theorem dX9_askBits_9 : decode cX9_askBits 9 = .ok (.getfield 284, 3) := by decide +kernel
theorem dX9_askBits_12 : decode cX9_askBits 12 = .ok (.if_icmp .ge 43, 3) := by decide +kernel
theorem dX9_askBits_15 : decode cX9_askBits 15 = .ok (.iload_n 1, 1) := by decide +kernel
theorem dX9_askBits_16 : decode cX9_askBits 16 = .ok (.iload_n 2, 1) := by decide +kernel
theorem dX9_askBits_17 : decode cX9_askBits 17 = .ok (.ishr, 1) := by decide +kernel
theorem dX9_askBits_18 : decode cX9_askBits 18 = .ok (.iconst 1, 1) := by decide +kernel
theorem dX9_askBits_19 : decode cX9_askBits 19 = .ok (.iand, 1) := by decide +kernel
theorem dX9_askBits_20 : decode cX9_askBits 20 = .ok (.iconst 1, 1) := by decide +kernel
theorem dX9_askBits_21 : decode cX9_askBits 21 = .ok (.if_icmp .ne 28, 3) := by decide +kernel
theorem dX9_askBits_24 : decode cX9_askBits 24 = .ok (.aload_n 0, 1) := by decide +kernel
theorem dX9_askBits_25 : decode cX9_askBits 25 = .ok (.getfield 108, 3) := by decide +kernel
theorem dX9_askBits_28 : decode cX9_askBits 28 = .ok (.aload_n 0, 1) := by decide +kernel
theorem dX9_askBits_29 : decode cX9_askBits 29 = .ok (.getfield 263, 3) := by decide +kernel
theorem dX9_askBits_32 : decode cX9_askBits 32 = .ok (.aload_n 0, 1) := by decide +kernel
theorem dX9_askBits_33 : decode cX9_askBits 33 = .ok (.getfield 111, 3) := by decide +kernel
theorem dX9_askBits_36 : decode cX9_askBits 36 = .ok (.iload_n 2, 1) := by decide +kernel
theorem dX9_askBits_37 : decode cX9_askBits 37 = .ok (.iaload, 1) := by decide +kernel
theorem dX9_askBits_38 : decode cX9_askBits 38 = .ok (.iastore, 1) := by decide +kernel
theorem dX9_askBits_39 : decode cX9_askBits 39 = .ok (.aload_n 0, 1) := by decide +kernel
theorem dX9_askBits_40 : decode cX9_askBits 40 = .ok (.dup, 1) := by decide +kernel
theorem dX9_askBits_41 : decode cX9_askBits 41 = .ok (.getfield 263, 3) := by decide +kernel
theorem dX9_askBits_44 : decode cX9_askBits 44 = .ok (.iconst 1, 1) := by decide +kernel
theorem dX9_askBits_45 : decode cX9_askBits 45 = .ok (.iadd, 1) := by decide +kernel
theorem dX9_askBits_46 : decode cX9_askBits 46 = .ok (.putfield 263, 3) := by decide +kernel
theorem dX9_askBits_49 : decode cX9_askBits 49 = .ok (.iinc 2 1, 3) := by decide +kernel
theorem dX9_askBits_52 : decode cX9_askBits 52 = .ok (.goto (-45), 3) := by decide +kernel
theorem dX9_askBits_55 : decode cX9_askBits 55 = .ok (.aload_n 0, 1) := by decide +kernel
theorem dX9_askBits_56 : decode cX9_askBits 56 = .ok (.invokevirtual 287, 3) := by decide +kernel
theorem dX9_askBits_59 : decode cX9_askBits 59 = .ok (.ireturn, 1) := by decide +kernel
theorem dX9_unitBits_0 : decode cX9_unitBits 0 = .ok (.iconst 0, 1) := by decide +kernel
theorem dX9_unitBits_1 : decode cX9_unitBits 1 = .ok (.istore_n 3, 1) := by decide +kernel
theorem dX9_unitBits_2 : decode cX9_unitBits 2 = .ok (.iload_n 1, 1) := by decide +kernel
theorem dX9_unitBits_3 : decode cX9_unitBits 3 = .ok (.istore 4, 2) := by decide +kernel
theorem dX9_unitBits_5 : decode cX9_unitBits 5 = .ok (.iload 4, 2) := by decide +kernel
theorem dX9_unitBits_7 : decode cX9_unitBits 7 = .ok (.iload_n 2, 1) := by decide +kernel
theorem dX9_unitBits_8 : decode cX9_unitBits 8 = .ok (.if_icmp .ge 19, 3) := by decide +kernel
theorem dX9_unitBits_11 : decode cX9_unitBits 11 = .ok (.iload_n 3, 1) := by decide +kernel
theorem dX9_unitBits_12 : decode cX9_unitBits 12 = .ok (.aload_n 0, 1) := by decide +kernel
theorem dX9_unitBits_13 : decode cX9_unitBits 13 = .ok (.getfield 114, 3) := by decide +kernel
theorem dX9_unitBits_16 : decode cX9_unitBits 16 = .ok (.iload 4, 2) := by decide +kernel
theorem dX9_unitBits_18 : decode cX9_unitBits 18 = .ok (.iaload, 1) := by decide +kernel
theorem dX9_unitBits_19 : decode cX9_unitBits 19 = .ok (.ior, 1) := by decide +kernel
theorem dX9_unitBits_20 : decode cX9_unitBits 20 = .ok (.istore_n 3, 1) := by decide +kernel
theorem dX9_unitBits_21 : decode cX9_unitBits 21 = .ok (.iinc 4 1, 3) := by decide +kernel
theorem dX9_unitBits_24 : decode cX9_unitBits 24 = .ok (.goto (-19), 3) := by decide +kernel
theorem dX9_unitBits_27 : decode cX9_unitBits 27 = .ok (.iload_n 3, 1) := by decide +kernel
theorem dX9_unitBits_28 : decode cX9_unitBits 28 = .ok (.ireturn, 1) := by decide +kernel
theorem dX9_drop_0 : decode cX9_drop 0 = .ok (.iload_n 1, 1) := by decide +kernel
theorem dX9_drop_1 : decode cX9_drop 1 = .ok (.istore_n 3, 1) := by decide +kernel
theorem dX9_drop_2 : decode cX9_drop 2 = .ok (.iload_n 3, 1) := by decide +kernel
theorem dX9_drop_3 : decode cX9_drop 3 = .ok (.iload_n 2, 1) := by decide +kernel
theorem dX9_drop_4 : decode cX9_drop 4 = .ok (.if_icmp .ge 30, 3) := by decide +kernel
theorem dX9_drop_7 : decode cX9_drop 7 = .ok (.aload_n 0, 1) := by decide +kernel
theorem dX9_drop_8 : decode cX9_drop 8 = .ok (.getfield 117, 3) := by decide +kernel
theorem dX9_drop_11 : decode cX9_drop 11 = .ok (.iload_n 3, 1) := by decide +kernel
theorem dX9_drop_12 : decode cX9_drop 12 = .ok (.iaload, 1) := by decide +kernel
theorem dX9_drop_13 : decode cX9_drop 13 = .ok (.ifCond .lt 15, 3) := by decide +kernel
theorem dX9_drop_16 : decode cX9_drop 16 = .ok (.aload_n 0, 1) := by decide +kernel
theorem dX9_drop_17 : decode cX9_drop 17 = .ok (.getfield 120, 3) := by decide +kernel
theorem dX9_drop_20 : decode cX9_drop 20 = .ok (.aload_n 0, 1) := by decide +kernel
theorem dX9_drop_21 : decode cX9_drop 21 = .ok (.getfield 117, 3) := by decide +kernel
theorem dX9_drop_24 : decode cX9_drop 24 = .ok (.iload_n 3, 1) := by decide +kernel
theorem dX9_drop_25 : decode cX9_drop 25 = .ok (.iaload, 1) := by decide +kernel
theorem dX9_drop_26 : decode cX9_drop 26 = .ok (.iconst 1, 1) := by decide +kernel
theorem dX9_drop_27 : decode cX9_drop 27 = .ok (.bastore, 1) := by decide +kernel
theorem dX9_drop_28 : decode cX9_drop 28 = .ok (.iinc 3 1, 3) := by decide +kernel
theorem dX9_drop_31 : decode cX9_drop 31 = .ok (.goto (-29), 3) := by decide +kernel
theorem dX9_drop_34 : decode cX9_drop 34 = .ok (.iload_n 2, 1) := by decide +kernel
theorem dX9_drop_35 : decode cX9_drop 35 = .ok (.istore_n 3, 1) := by decide +kernel
theorem dX9_drop_36 : decode cX9_drop 36 = .ok (.iload_n 3, 1) := by decide +kernel
theorem dX9_drop_37 : decode cX9_drop 37 = .ok (.aload_n 0, 1) := by decide +kernel
theorem dX9_drop_38 : decode cX9_drop 38 = .ok (.getfield 290, 3) := by decide +kernel
theorem dX9_drop_41 : decode cX9_drop 41 = .ok (.if_icmp .ge 41, 3) := by decide +kernel
theorem dX9_drop_44 : decode cX9_drop 44 = .ok (.aload_n 0, 1) := by decide +kernel
theorem dX9_drop_45 : decode cX9_drop 45 = .ok (.getfield 114, 3) := by decide +kernel
theorem dX9_drop_48 : decode cX9_drop 48 = .ok (.iload_n 1, 1) := by decide +kernel
theorem dX9_drop_49 : decode cX9_drop 49 = .ok (.iload_n 3, 1) := by decide +kernel
theorem dX9_drop_50 : decode cX9_drop 50 = .ok (.iadd, 1) := by decide +kernel
theorem dX9_drop_51 : decode cX9_drop 51 = .ok (.iload_n 2, 1) := by decide +kernel
theorem dX9_drop_52 : decode cX9_drop 52 = .ok (.isub, 1) := by decide +kernel
theorem dX9_drop_53 : decode cX9_drop 53 = .ok (.aload_n 0, 1) := by decide +kernel
theorem dX9_drop_54 : decode cX9_drop 54 = .ok (.getfield 114, 3) := by decide +kernel
theorem dX9_drop_57 : decode cX9_drop 57 = .ok (.iload_n 3, 1) := by decide +kernel
theorem dX9_drop_58 : decode cX9_drop 58 = .ok (.iaload, 1) := by decide +kernel
theorem dX9_drop_59 : decode cX9_drop 59 = .ok (.iastore, 1) := by decide +kernel
theorem dX9_drop_60 : decode cX9_drop 60 = .ok (.aload_n 0, 1) := by decide +kernel
theorem dX9_drop_61 : decode cX9_drop 61 = .ok (.getfield 117, 3) := by decide +kernel
theorem dX9_drop_64 : decode cX9_drop 64 = .ok (.iload_n 1, 1) := by decide +kernel
theorem dX9_drop_65 : decode cX9_drop 65 = .ok (.iload_n 3, 1) := by decide +kernel
theorem dX9_drop_66 : decode cX9_drop 66 = .ok (.iadd, 1) := by decide +kernel
theorem dX9_drop_67 : decode cX9_drop 67 = .ok (.iload_n 2, 1) := by decide +kernel
theorem dX9_drop_68 : decode cX9_drop 68 = .ok (.isub, 1) := by decide +kernel
theorem dX9_drop_69 : decode cX9_drop 69 = .ok (.aload_n 0, 1) := by decide +kernel
theorem dX9_drop_70 : decode cX9_drop 70 = .ok (.getfield 117, 3) := by decide +kernel
theorem dX9_drop_73 : decode cX9_drop 73 = .ok (.iload_n 3, 1) := by decide +kernel
theorem dX9_drop_74 : decode cX9_drop 74 = .ok (.iaload, 1) := by decide +kernel
theorem dX9_drop_75 : decode cX9_drop 75 = .ok (.iastore, 1) := by decide +kernel
theorem dX9_drop_76 : decode cX9_drop 76 = .ok (.iinc 3 1, 3) := by decide +kernel
theorem dX9_drop_79 : decode cX9_drop 79 = .ok (.goto (-43), 3) := by decide +kernel
theorem dX9_drop_82 : decode cX9_drop 82 = .ok (.aload_n 0, 1) := by decide +kernel
theorem dX9_drop_83 : decode cX9_drop 83 = .ok (.dup, 1) := by decide +kernel
theorem dX9_drop_84 : decode cX9_drop 84 = .ok (.getfield 290, 3) := by decide +kernel
theorem dX9_drop_87 : decode cX9_drop 87 = .ok (.iload_n 2, 1) := by decide +kernel
theorem dX9_drop_88 : decode cX9_drop 88 = .ok (.iload_n 1, 1) := by decide +kernel
theorem dX9_drop_89 : decode cX9_drop 89 = .ok (.isub, 1) := by decide +kernel
theorem dX9_drop_90 : decode cX9_drop 90 = .ok (.isub, 1) := by decide +kernel
theorem dX9_drop_91 : decode cX9_drop 91 = .ok (.putfield 290, 3) := by decide +kernel
theorem dX9_drop_94 : decode cX9_drop 94 = .ok (.return_, 1) := by decide +kernel
theorem dX9_round_0 : decode cX9_round 0 = .ok (.aload_n 0, 1) := by decide +kernel
theorem dX9_round_1 : decode cX9_round 1 = .ok (.getfield 290, 3) := by decide +kernel
theorem dX9_round_4 : decode cX9_round 4 = .ok (.istore_n 2, 1) := by decide +kernel
theorem dX9_round_5 : decode cX9_round 5 = .ok (.iconst 0, 1) := by decide +kernel
theorem dX9_round_6 : decode cX9_round 6 = .ok (.istore_n 3, 1) := by decide +kernel
theorem dX9_round_7 : decode cX9_round 7 = .ok (.iload_n 3, 1) := by decide +kernel
theorem dX9_round_8 : decode cX9_round 8 = .ok (.iload_n 1, 1) := by decide +kernel
theorem dX9_round_9 : decode cX9_round 9 = .ok (.if_icmp .ge 106, 3) := by decide +kernel
theorem dX9_round_12 : decode cX9_round 12 = .ok (.iload_n 1, 1) := by decide +kernel
theorem dX9_round_13 : decode cX9_round 13 = .ok (.iconst 1, 1) := by decide +kernel
theorem dX9_round_14 : decode cX9_round 14 = .ok (.if_icmp .le 101, 3) := by decide +kernel
theorem dX9_round_17 : decode cX9_round 17 = .ok (.iload_n 3, 1) := by decide +kernel
theorem dX9_round_18 : decode cX9_round 18 = .ok (.iload_n 2, 1) := by decide +kernel
theorem dX9_round_19 : decode cX9_round 19 = .ok (.imul, 1) := by decide +kernel
theorem dX9_round_20 : decode cX9_round 20 = .ok (.iload_n 1, 1) := by decide +kernel
theorem dX9_round_21 : decode cX9_round 21 = .ok (.idiv, 1) := by decide +kernel
theorem dX9_round_22 : decode cX9_round 22 = .ok (.istore 4, 2) := by decide +kernel
theorem dX9_round_24 : decode cX9_round 24 = .ok (.iload_n 3, 1) := by decide +kernel
theorem dX9_round_25 : decode cX9_round 25 = .ok (.iconst 1, 1) := by decide +kernel
theorem dX9_round_26 : decode cX9_round 26 = .ok (.iadd, 1) := by decide +kernel
theorem dX9_round_27 : decode cX9_round 27 = .ok (.iload_n 2, 1) := by decide +kernel
theorem dX9_round_28 : decode cX9_round 28 = .ok (.imul, 1) := by decide +kernel
theorem dX9_round_29 : decode cX9_round 29 = .ok (.iload_n 1, 1) := by decide +kernel
theorem dX9_round_30 : decode cX9_round 30 = .ok (.idiv, 1) := by decide +kernel
theorem dX9_round_31 : decode cX9_round 31 = .ok (.istore 5, 2) := by decide +kernel
theorem dX9_round_33 : decode cX9_round 33 = .ok (.aload_n 0, 1) := by decide +kernel
theorem dX9_round_34 : decode cX9_round 34 = .ok (.getfield 293, 3) := by decide +kernel
theorem dX9_round_37 : decode cX9_round 37 = .ok (.aload_n 0, 1) := by decide +kernel
theorem dX9_round_38 : decode cX9_round 38 = .ok (.iconst 0, 1) := by decide +kernel
theorem dX9_round_39 : decode cX9_round 39 = .ok (.iload 4, 2) := by decide +kernel
theorem dX9_round_41 : decode cX9_round 41 = .ok (.invokevirtual 296, 3) := by decide +kernel
theorem dX9_round_44 : decode cX9_round 44 = .ok (.aload_n 0, 1) := by decide +kernel
theorem dX9_round_45 : decode cX9_round 45 = .ok (.iload 5, 2) := by decide +kernel
theorem dX9_round_47 : decode cX9_round 47 = .ok (.iload_n 2, 1) := by decide +kernel
theorem dX9_round_48 : decode cX9_round 48 = .ok (.invokevirtual 296, 3) := by decide +kernel
theorem dX9_round_51 : decode cX9_round 51 = .ok (.ior, 1) := by decide +kernel
theorem dX9_round_52 : decode cX9_round 52 = .ok (.iconst (-1), 1) := by decide +kernel
theorem dX9_round_53 : decode cX9_round 53 = .ok (.ixor, 1) := by decide +kernel
theorem dX9_round_54 : decode cX9_round 54 = .ok (.iand, 1) := by decide +kernel
theorem dX9_round_55 : decode cX9_round 55 = .ok (.istore 6, 2) := by decide +kernel
theorem dX9_round_57 : decode cX9_round 57 = .ok (.aload_n 0, 1) := by decide +kernel
theorem dX9_round_58 : decode cX9_round 58 = .ok (.iload 6, 2) := by decide +kernel
theorem dX9_round_60 : decode cX9_round 60 = .ok (.invokevirtual 299, 3) := by decide +kernel
theorem dX9_round_63 : decode cX9_round 63 = .ok (.ifCond .eq 37, 3) := by decide +kernel
theorem dX9_round_66 : decode cX9_round 66 = .ok (.aload_n 0, 1) := by decide +kernel
theorem dX9_round_67 : decode cX9_round 67 = .ok (.iload 6, 2) := by decide +kernel
theorem dX9_round_69 : decode cX9_round 69 = .ok (.putfield 293, 3) := by decide +kernel
theorem dX9_round_72 : decode cX9_round 72 = .ok (.aload_n 0, 1) := by decide +kernel
theorem dX9_round_73 : decode cX9_round 73 = .ok (.iload 5, 2) := by decide +kernel
theorem dX9_round_75 : decode cX9_round 75 = .ok (.iload_n 2, 1) := by decide +kernel
theorem dX9_round_76 : decode cX9_round 76 = .ok (.invokevirtual 302, 3) := by decide +kernel
theorem dX9_round_79 : decode cX9_round 79 = .ok (.aload_n 0, 1) := by decide +kernel
theorem dX9_round_80 : decode cX9_round 80 = .ok (.iconst 0, 1) := by decide +kernel
theorem dX9_round_81 : decode cX9_round 81 = .ok (.iload 4, 2) := by decide +kernel
theorem dX9_round_83 : decode cX9_round 83 = .ok (.invokevirtual 302, 3) := by decide +kernel
theorem dX9_round_86 : decode cX9_round 86 = .ok (.aload_n 0, 1) := by decide +kernel
theorem dX9_round_87 : decode cX9_round 87 = .ok (.getfield 290, 3) := by decide +kernel
theorem dX9_round_90 : decode cX9_round 90 = .ok (.iconst 1, 1) := by decide +kernel
theorem dX9_round_91 : decode cX9_round 91 = .ok (.if_icmp .ne 7, 3) := by decide +kernel
theorem dX9_round_94 : decode cX9_round 94 = .ok (.iconst 1, 1) := by decide +kernel
theorem dX9_round_95 : decode cX9_round 95 = .ok (.goto 4, 3) := by decide +kernel
theorem dX9_round_98 : decode cX9_round 98 = .ok (.iconst 2, 1) := by decide +kernel
theorem dX9_round_99 : decode cX9_round 99 = .ok (.ireturn, 1) := by decide +kernel
theorem dX9_round_100 : decode cX9_round 100 = .ok (.aload_n 0, 1) := by decide +kernel
theorem dX9_round_101 : decode cX9_round 101 = .ok (.getfield 272, 3) := by decide +kernel
theorem dX9_round_104 : decode cX9_round 104 = .ok (.ifCond .eq 5, 3) := by decide +kernel
theorem dX9_round_107 : decode cX9_round 107 = .ok (.iconst 0, 1) := by decide +kernel
theorem dX9_round_108 : decode cX9_round 108 = .ok (.ireturn, 1) := by decide +kernel
theorem dX9_round_109 : decode cX9_round 109 = .ok (.iinc 3 1, 3) := by decide +kernel
theorem dX9_round_112 : decode cX9_round 112 = .ok (.goto (-105), 3) := by decide +kernel
theorem dX9_round_115 : decode cX9_round 115 = .ok (.iconst 0, 1) := by decide +kernel
theorem dX9_round_116 : decode cX9_round 116 = .ok (.istore_n 3, 1) := by decide +kernel
theorem dX9_round_117 : decode cX9_round 117 = .ok (.iload_n 3, 1) := by decide +kernel
theorem dX9_round_118 : decode cX9_round 118 = .ok (.iload_n 1, 1) := by decide +kernel
theorem dX9_round_119 : decode cX9_round 119 = .ok (.if_icmp .ge 114, 3) := by decide +kernel
theorem dX9_round_122 : decode cX9_round 122 = .ok (.iload_n 1, 1) := by decide +kernel
theorem dX9_round_123 : decode cX9_round 123 = .ok (.iconst 2, 1) := by decide +kernel
theorem dX9_round_124 : decode cX9_round 124 = .ok (.if_icmp .eq 109, 3) := by decide +kernel
theorem dX9_round_127 : decode cX9_round 127 = .ok (.iload_n 3, 1) := by decide +kernel
theorem dX9_round_128 : decode cX9_round 128 = .ok (.iload_n 2, 1) := by decide +kernel
theorem dX9_round_129 : decode cX9_round 129 = .ok (.imul, 1) := by decide +kernel
theorem dX9_round_130 : decode cX9_round 130 = .ok (.iload_n 1, 1) := by decide +kernel
theorem dX9_round_131 : decode cX9_round 131 = .ok (.idiv, 1) := by decide +kernel
theorem dX9_round_132 : decode cX9_round 132 = .ok (.istore 4, 2) := by decide +kernel
theorem dX9_round_134 : decode cX9_round 134 = .ok (.iload_n 3, 1) := by decide +kernel
theorem dX9_round_135 : decode cX9_round 135 = .ok (.iconst 1, 1) := by decide +kernel
theorem dX9_round_136 : decode cX9_round 136 = .ok (.iadd, 1) := by decide +kernel
theorem dX9_round_137 : decode cX9_round 137 = .ok (.iload_n 2, 1) := by decide +kernel
theorem dX9_round_138 : decode cX9_round 138 = .ok (.imul, 1) := by decide +kernel
theorem dX9_round_139 : decode cX9_round 139 = .ok (.iload_n 1, 1) := by decide +kernel
theorem dX9_round_140 : decode cX9_round 140 = .ok (.idiv, 1) := by decide +kernel
theorem dX9_round_141 : decode cX9_round 141 = .ok (.istore 5, 2) := by decide +kernel
theorem dX9_round_143 : decode cX9_round 143 = .ok (.aload_n 0, 1) := by decide +kernel
theorem dX9_round_144 : decode cX9_round 144 = .ok (.getfield 293, 3) := by decide +kernel
theorem dX9_round_147 : decode cX9_round 147 = .ok (.aload_n 0, 1) := by decide +kernel
theorem dX9_round_148 : decode cX9_round 148 = .ok (.iload 4, 2) := by decide +kernel
theorem dX9_round_150 : decode cX9_round 150 = .ok (.iload 5, 2) := by decide +kernel
theorem dX9_round_152 : decode cX9_round 152 = .ok (.invokevirtual 296, 3) := by decide +kernel
theorem dX9_round_155 : decode cX9_round 155 = .ok (.iconst (-1), 1) := by decide +kernel
theorem dX9_round_156 : decode cX9_round 156 = .ok (.ixor, 1) := by decide +kernel
theorem dX9_round_157 : decode cX9_round 157 = .ok (.iand, 1) := by decide +kernel
theorem dX9_round_158 : decode cX9_round 158 = .ok (.istore 6, 2) := by decide +kernel
theorem dX9_round_160 : decode cX9_round 160 = .ok (.aload_n 0, 1) := by decide +kernel
theorem dX9_round_161 : decode cX9_round 161 = .ok (.iload 6, 2) := by decide +kernel
theorem dX9_round_163 : decode cX9_round 163 = .ok (.invokevirtual 299, 3) := by decide +kernel
theorem dX9_round_166 : decode cX9_round 166 = .ok (.ifCond .eq 52, 3) := by decide +kernel
theorem dX9_round_169 : decode cX9_round 169 = .ok (.aload_n 0, 1) := by decide +kernel
theorem dX9_round_170 : decode cX9_round 170 = .ok (.iload 6, 2) := by decide +kernel
theorem dX9_round_172 : decode cX9_round 172 = .ok (.putfield 293, 3) := by decide +kernel
theorem dX9_round_175 : decode cX9_round 175 = .ok (.aload_n 0, 1) := by decide +kernel
theorem dX9_round_176 : decode cX9_round 176 = .ok (.iload 4, 2) := by decide +kernel
theorem dX9_round_178 : decode cX9_round 178 = .ok (.iload 5, 2) := by decide +kernel
theorem dX9_round_180 : decode cX9_round 180 = .ok (.invokevirtual 302, 3) := by decide +kernel
theorem dX9_round_183 : decode cX9_round 183 = .ok (.iload_n 1, 1) := by decide +kernel
theorem dX9_round_184 : decode cX9_round 184 = .ok (.iconst 1, 1) := by decide +kernel
theorem dX9_round_185 : decode cX9_round 185 = .ok (.isub, 1) := by decide +kernel
theorem dX9_round_186 : decode cX9_round 186 = .ok (.iconst 2, 1) := by decide +kernel
theorem dX9_round_187 : decode cX9_round 187 = .ok (.if_icmp .ge 7, 3) := by decide +kernel
theorem dX9_round_190 : decode cX9_round 190 = .ok (.iconst 2, 1) := by decide +kernel
theorem dX9_round_191 : decode cX9_round 191 = .ok (.goto 6, 3) := by decide +kernel
theorem dX9_round_194 : decode cX9_round 194 = .ok (.iload_n 1, 1) := by decide +kernel
theorem dX9_round_195 : decode cX9_round 195 = .ok (.iconst 1, 1) := by decide +kernel
theorem dX9_round_196 : decode cX9_round 196 = .ok (.isub, 1) := by decide +kernel
theorem dX9_round_197 : decode cX9_round 197 = .ok (.istore 7, 2) := by decide +kernel
theorem dX9_round_199 : decode cX9_round 199 = .ok (.iload 7, 2) := by decide +kernel
theorem dX9_round_201 : decode cX9_round 201 = .ok (.aload_n 0, 1) := by decide +kernel
theorem dX9_round_202 : decode cX9_round 202 = .ok (.getfield 290, 3) := by decide +kernel
theorem dX9_round_205 : decode cX9_round 205 = .ok (.if_icmp .ge 8, 3) := by decide +kernel
theorem dX9_round_208 : decode cX9_round 208 = .ok (.iload 7, 2) := by decide +kernel
theorem dX9_round_210 : decode cX9_round 210 = .ok (.goto 7, 3) := by decide +kernel
theorem dX9_round_213 : decode cX9_round 213 = .ok (.aload_n 0, 1) := by decide +kernel
theorem dX9_round_214 : decode cX9_round 214 = .ok (.getfield 290, 3) := by decide +kernel
theorem dX9_round_217 : decode cX9_round 217 = .ok (.ireturn, 1) := by decide +kernel
theorem dX9_round_218 : decode cX9_round 218 = .ok (.aload_n 0, 1) := by decide +kernel
theorem dX9_round_219 : decode cX9_round 219 = .ok (.getfield 272, 3) := by decide +kernel
theorem dX9_round_222 : decode cX9_round 222 = .ok (.ifCond .eq 5, 3) := by decide +kernel
theorem dX9_round_225 : decode cX9_round 225 = .ok (.iconst 0, 1) := by decide +kernel
theorem dX9_round_226 : decode cX9_round 226 = .ok (.ireturn, 1) := by decide +kernel
theorem dX9_round_227 : decode cX9_round 227 = .ok (.iinc 3 1, 3) := by decide +kernel
theorem dX9_round_230 : decode cX9_round 230 = .ok (.goto (-113), 3) := by decide +kernel
theorem dX9_round_233 : decode cX9_round 233 = .ok (.iload_n 1, 1) := by decide +kernel
theorem dX9_round_234 : decode cX9_round 234 = .ok (.iload_n 2, 1) := by decide +kernel
theorem dX9_round_235 : decode cX9_round 235 = .ok (.if_icmp .ne 7, 3) := by decide +kernel
theorem dX9_round_238 : decode cX9_round 238 = .ok (.iconst 0, 1) := by decide +kernel
theorem dX9_round_239 : decode cX9_round 239 = .ok (.goto 17, 3) := by decide +kernel
theorem dX9_round_242 : decode cX9_round 242 = .ok (.iconst 2, 1) := by decide +kernel
theorem dX9_round_243 : decode cX9_round 243 = .ok (.iload_n 1, 1) := by decide +kernel
theorem dX9_round_244 : decode cX9_round 244 = .ok (.imul, 1) := by decide +kernel
theorem dX9_round_245 : decode cX9_round 245 = .ok (.iload_n 2, 1) := by decide +kernel
theorem dX9_round_246 : decode cX9_round 246 = .ok (.if_icmp .ge 9, 3) := by decide +kernel
theorem dX9_round_249 : decode cX9_round 249 = .ok (.iconst 2, 1) := by decide +kernel
theorem dX9_round_250 : decode cX9_round 250 = .ok (.iload_n 1, 1) := by decide +kernel
theorem dX9_round_251 : decode cX9_round 251 = .ok (.imul, 1) := by decide +kernel
theorem dX9_round_252 : decode cX9_round 252 = .ok (.goto 4, 3) := by decide +kernel
theorem dX9_round_255 : decode cX9_round 255 = .ok (.iload_n 2, 1) := by decide +kernel
theorem dX9_round_256 : decode cX9_round 256 = .ok (.ireturn, 1) := by decide +kernel
theorem dX9_lessen_0 : decode cX9_lessen 0 = .ok (.aload_n 0, 1) := by decide +kernel
theorem dX9_lessen_1 : decode cX9_lessen 1 = .ok (.getfield 290, 3) := by decide +kernel
theorem dX9_lessen_4 : decode cX9_lessen 4 = .ok (.iconst 1, 1) := by decide +kernel
theorem dX9_lessen_5 : decode cX9_lessen 5 = .ok (.if_icmp .ne 7, 3) := by decide +kernel
theorem dX9_lessen_8 : decode cX9_lessen 8 = .ok (.iconst 1, 1) := by decide +kernel
theorem dX9_lessen_9 : decode cX9_lessen 9 = .ok (.goto 4, 3) := by decide +kernel
theorem dX9_lessen_12 : decode cX9_lessen 12 = .ok (.iconst 2, 1) := by decide +kernel
theorem dX9_lessen_13 : decode cX9_lessen 13 = .ok (.istore_n 1, 1) := by decide +kernel
theorem dX9_lessen_14 : decode cX9_lessen 14 = .ok (.aload_n 0, 1) := by decide +kernel
theorem dX9_lessen_15 : decode cX9_lessen 15 = .ok (.getfield 290, 3) := by decide +kernel
theorem dX9_lessen_18 : decode cX9_lessen 18 = .ok (.ifCond .le 23, 3) := by decide +kernel
theorem dX9_lessen_21 : decode cX9_lessen 21 = .ok (.iload_n 1, 1) := by decide +kernel
theorem dX9_lessen_22 : decode cX9_lessen 22 = .ok (.ifCond .le 19, 3) := by decide +kernel
theorem dX9_lessen_25 : decode cX9_lessen 25 = .ok (.aload_n 0, 1) := by decide +kernel
theorem dX9_lessen_26 : decode cX9_lessen 26 = .ok (.getfield 272, 3) := by decide +kernel
theorem dX9_lessen_29 : decode cX9_lessen 29 = .ok (.ifCond .ne 12, 3) := by decide +kernel
theorem dX9_lessen_32 : decode cX9_lessen 32 = .ok (.aload_n 0, 1) := by decide +kernel
theorem dX9_lessen_33 : decode cX9_lessen 33 = .ok (.iload_n 1, 1) := by decide +kernel
theorem dX9_lessen_34 : decode cX9_lessen 34 = .ok (.invokevirtual 305, 3) := by decide +kernel
theorem dX9_lessen_37 : decode cX9_lessen 37 = .ok (.istore_n 1, 1) := by decide +kernel
theorem dX9_lessen_38 : decode cX9_lessen 38 = .ok (.goto (-24), 3) := by decide +kernel
theorem dX9_lessen_41 : decode cX9_lessen 41 = .ok (.return_, 1) := by decide +kernel
theorem dX9_addUnit_0 : decode cX9_addUnit 0 = .ok (.aload_n 0, 1) := by decide +kernel
theorem dX9_addUnit_1 : decode cX9_addUnit 1 = .ok (.getfield 114, 3) := by decide +kernel
theorem dX9_addUnit_4 : decode cX9_addUnit 4 = .ok (.aload_n 0, 1) := by decide +kernel
theorem dX9_addUnit_5 : decode cX9_addUnit 5 = .ok (.getfield 290, 3) := by decide +kernel
theorem dX9_addUnit_8 : decode cX9_addUnit 8 = .ok (.iload_n 1, 1) := by decide +kernel
theorem dX9_addUnit_9 : decode cX9_addUnit 9 = .ok (.iastore, 1) := by decide +kernel
theorem dX9_addUnit_10 : decode cX9_addUnit 10 = .ok (.aload_n 0, 1) := by decide +kernel
theorem dX9_addUnit_11 : decode cX9_addUnit 11 = .ok (.getfield 117, 3) := by decide +kernel
theorem dX9_addUnit_14 : decode cX9_addUnit 14 = .ok (.aload_n 0, 1) := by decide +kernel
theorem dX9_addUnit_15 : decode cX9_addUnit 15 = .ok (.getfield 290, 3) := by decide +kernel
theorem dX9_addUnit_18 : decode cX9_addUnit 18 = .ok (.iload_n 2, 1) := by decide +kernel
theorem dX9_addUnit_19 : decode cX9_addUnit 19 = .ok (.iastore, 1) := by decide +kernel
theorem dX9_addUnit_20 : decode cX9_addUnit 20 = .ok (.aload_n 0, 1) := by decide +kernel
theorem dX9_addUnit_21 : decode cX9_addUnit 21 = .ok (.dup, 1) := by decide +kernel
theorem dX9_addUnit_22 : decode cX9_addUnit 22 = .ok (.getfield 290, 3) := by decide +kernel
theorem dX9_addUnit_25 : decode cX9_addUnit 25 = .ok (.iconst 1, 1) := by decide +kernel
theorem dX9_addUnit_26 : decode cX9_addUnit 26 = .ok (.iadd, 1) := by decide +kernel
theorem dX9_addUnit_27 : decode cX9_addUnit 27 = .ok (.putfield 290, 3) := by decide +kernel
theorem dX9_addUnit_30 : decode cX9_addUnit 30 = .ok (.return_, 1) := by decide +kernel
theorem dX9_run_0 : decode cX9_run 0 = .ok (.iconst 0, 1) := by decide +kernel
theorem dX9_run_1 : decode cX9_run 1 = .ok (.istore_n 2, 1) := by decide +kernel
theorem dX9_run_2 : decode cX9_run 2 = .ok (.iload_n 0, 1) := by decide +kernel
theorem dX9_run_3 : decode cX9_run 3 = .ok (.istore_n 3, 1) := by decide +kernel
theorem dX9_run_4 : decode cX9_run 4 = .ok (.iload_n 3, 1) := by decide +kernel
theorem dX9_run_5 : decode cX9_run 5 = .ok (.iload_n 0, 1) := by decide +kernel
theorem dX9_run_6 : decode cX9_run 6 = .ok (.iload_n 1, 1) := by decide +kernel
theorem dX9_run_7 : decode cX9_run 7 = .ok (.iadd, 1) := by decide +kernel
theorem dX9_run_8 : decode cX9_run 8 = .ok (.if_icmp .ge 15, 3) := by decide +kernel
theorem dX9_run_11 : decode cX9_run 11 = .ok (.iload_n 2, 1) := by decide +kernel
theorem dX9_run_12 : decode cX9_run 12 = .ok (.iconst 1, 1) := by decide +kernel
theorem dX9_run_13 : decode cX9_run 13 = .ok (.iload_n 3, 1) := by decide +kernel
theorem dX9_run_14 : decode cX9_run 14 = .ok (.ishl, 1) := by decide +kernel
theorem dX9_run_15 : decode cX9_run 15 = .ok (.ior, 1) := by decide +kernel
theorem dX9_run_16 : decode cX9_run 16 = .ok (.istore_n 2, 1) := by decide +kernel
theorem dX9_run_17 : decode cX9_run 17 = .ok (.iinc 3 1, 3) := by decide +kernel
theorem dX9_run_20 : decode cX9_run 20 = .ok (.goto (-16), 3) := by decide +kernel
theorem dX9_run_23 : decode cX9_run 23 = .ok (.iload_n 2, 1) := by decide +kernel
theorem dX9_run_24 : decode cX9_run 24 = .ok (.ireturn, 1) := by decide +kernel
theorem dX9_setBase_0 : decode cX9_setBase 0 = .ok (.aload_n 0, 1) := by decide +kernel
theorem dX9_setBase_1 : decode cX9_setBase 1 = .ok (.aload_n 0, 1) := by decide +kernel
theorem dX9_setBase_2 : decode cX9_setBase 2 = .ok (.getfield 145, 3) := by decide +kernel
theorem dX9_setBase_5 : decode cX9_setBase 5 = .ok (.putfield 284, 3) := by decide +kernel
theorem dX9_setBase_8 : decode cX9_setBase 8 = .ok (.iconst 0, 1) := by decide +kernel
theorem dX9_setBase_9 : decode cX9_setBase 9 = .ok (.istore_n 1, 1) := by decide +kernel
theorem dX9_setBase_10 : decode cX9_setBase 10 = .ok (.iload_n 1, 1) := by decide +kernel
theorem dX9_setBase_11 : decode cX9_setBase 11 = .ok (.aload_n 0, 1) := by decide +kernel
theorem dX9_setBase_12 : decode cX9_setBase 12 = .ok (.getfield 145, 3) := by decide +kernel
theorem dX9_setBase_15 : decode cX9_setBase 15 = .ok (.if_icmp .ge 21, 3) := by decide +kernel
theorem dX9_setBase_18 : decode cX9_setBase 18 = .ok (.aload_n 0, 1) := by decide +kernel
theorem dX9_setBase_19 : decode cX9_setBase 19 = .ok (.getfield 111, 3) := by decide +kernel
theorem dX9_setBase_22 : decode cX9_setBase 22 = .ok (.iload_n 1, 1) := by decide +kernel
theorem dX9_setBase_23 : decode cX9_setBase 23 = .ok (.aload_n 0, 1) := by decide +kernel
theorem dX9_setBase_24 : decode cX9_setBase 24 = .ok (.getfield 7, 3) := by decide +kernel
theorem dX9_setBase_27 : decode cX9_setBase 27 = .ok (.iload_n 1, 1) := by decide +kernel
theorem dX9_setBase_28 : decode cX9_setBase 28 = .ok (.iaload, 1) := by decide +kernel
theorem dX9_setBase_29 : decode cX9_setBase 29 = .ok (.iastore, 1) := by decide +kernel
theorem dX9_setBase_30 : decode cX9_setBase 30 = .ok (.iinc 1 1, 3) := by decide +kernel
theorem dX9_setBase_33 : decode cX9_setBase 33 = .ok (.goto (-23), 3) := by decide +kernel
theorem dX9_setBase_36 : decode cX9_setBase 36 = .ok (.aload_n 0, 1) := by decide +kernel
theorem dX9_setBase_37 : decode cX9_setBase 37 = .ok (.iconst 0, 1) := by decide +kernel
theorem dX9_setBase_38 : decode cX9_setBase 38 = .ok (.aload_n 0, 1) := by decide +kernel
theorem dX9_setBase_39 : decode cX9_setBase 39 = .ok (.getfield 145, 3) := by decide +kernel
theorem dX9_setBase_42 : decode cX9_setBase 42 = .ok (.invokestatic 309, 3) := by decide +kernel
theorem dX9_setBase_45 : decode cX9_setBase 45 = .ok (.putfield 293, 3) := by decide +kernel
theorem dX9_setBase_48 : decode cX9_setBase 48 = .ok (.aload_n 0, 1) := by decide +kernel
theorem dX9_setBase_49 : decode cX9_setBase 49 = .ok (.iconst 0, 1) := by decide +kernel
theorem dX9_setBase_50 : decode cX9_setBase 50 = .ok (.putfield 290, 3) := by decide +kernel
theorem dX9_setBase_53 : decode cX9_setBase 53 = .ok (.return_, 1) := by decide +kernel
theorem dX9_byPlaces_0 : decode cX9_byPlaces 0 = .ok (.aload_n 0, 1) := by decide +kernel
theorem dX9_byPlaces_1 : decode cX9_byPlaces 1 = .ok (.invokevirtual 312, 3) := by decide +kernel
theorem dX9_byPlaces_4 : decode cX9_byPlaces 4 = .ok (.iconst 0, 1) := by decide +kernel
theorem dX9_byPlaces_5 : decode cX9_byPlaces 5 = .ok (.istore_n 2, 1) := by decide +kernel
theorem dX9_byPlaces_6 : decode cX9_byPlaces 6 = .ok (.iconst 1, 1) := by decide +kernel
theorem dX9_byPlaces_7 : decode cX9_byPlaces 7 = .ok (.istore_n 3, 1) := by decide +kernel
theorem dX9_byPlaces_8 : decode cX9_byPlaces 8 = .ok (.iload_n 3, 1) := by decide +kernel
theorem dX9_byPlaces_9 : decode cX9_byPlaces 9 = .ok (.aload_n 0, 1) := by decide +kernel
theorem dX9_byPlaces_10 : decode cX9_byPlaces 10 = .ok (.getfield 284, 3) := by decide +kernel
theorem dX9_byPlaces_13 : decode cX9_byPlaces 13 = .ok (.if_icmp .gt 71, 3) := by decide +kernel
theorem dX9_byPlaces_16 : decode cX9_byPlaces 16 = .ok (.iload_n 3, 1) := by decide +kernel
theorem dX9_byPlaces_17 : decode cX9_byPlaces 17 = .ok (.aload_n 0, 1) := by decide +kernel
theorem dX9_byPlaces_18 : decode cX9_byPlaces 18 = .ok (.getfield 284, 3) := by decide +kernel
theorem dX9_byPlaces_21 : decode cX9_byPlaces 21 = .ok (.if_icmp .eq 31, 3) := by decide +kernel
theorem dX9_byPlaces_24 : decode cX9_byPlaces 24 = .ok (.iload_n 1, 1) := by decide +kernel
theorem dX9_byPlaces_25 : decode cX9_byPlaces 25 = .ok (.ifCond .eq 27, 3) := by decide +kernel
theorem dX9_byPlaces_28 : decode cX9_byPlaces 28 = .ok (.aload_n 0, 1) := by decide +kernel
theorem dX9_byPlaces_29 : decode cX9_byPlaces 29 = .ok (.getfield 111, 3) := by decide +kernel
theorem dX9_byPlaces_32 : decode cX9_byPlaces 32 = .ok (.iload_n 3, 1) := by decide +kernel
theorem dX9_byPlaces_33 : decode cX9_byPlaces 33 = .ok (.iaload, 1) := by decide +kernel
theorem dX9_byPlaces_34 : decode cX9_byPlaces 34 = .ok (.bipush 32, 2) := by decide +kernel
theorem dX9_byPlaces_36 : decode cX9_byPlaces 36 = .ok (.if_icmp .eq 20, 3) := by decide +kernel
theorem dX9_byPlaces_39 : decode cX9_byPlaces 39 = .ok (.aload_n 0, 1) := by decide +kernel
theorem dX9_byPlaces_40 : decode cX9_byPlaces 40 = .ok (.getfield 111, 3) := by decide +kernel
theorem dX9_byPlaces_43 : decode cX9_byPlaces 43 = .ok (.iload_n 3, 1) := by decide +kernel
theorem dX9_byPlaces_44 : decode cX9_byPlaces 44 = .ok (.iconst 1, 1) := by decide +kernel
theorem dX9_byPlaces_45 : decode cX9_byPlaces 45 = .ok (.isub, 1) := by decide +kernel
theorem dX9_byPlaces_46 : decode cX9_byPlaces 46 = .ok (.iaload, 1) := by decide +kernel
theorem dX9_byPlaces_47 : decode cX9_byPlaces 47 = .ok (.bipush 32, 2) := by decide +kernel
theorem dX9_byPlaces_49 : decode cX9_byPlaces 49 = .ok (.if_icmp .ne 7, 3) := by decide +kernel
theorem dX9_byPlaces_52 : decode cX9_byPlaces 52 = .ok (.iconst 1, 1) := by decide +kernel
theorem dX9_byPlaces_53 : decode cX9_byPlaces 53 = .ok (.goto 4, 3) := by decide +kernel
theorem dX9_byPlaces_56 : decode cX9_byPlaces 56 = .ok (.iconst 0, 1) := by decide +kernel
theorem dX9_byPlaces_57 : decode cX9_byPlaces 57 = .ok (.istore 4, 2) := by decide +kernel
theorem dX9_byPlaces_59 : decode cX9_byPlaces 59 = .ok (.iload 4, 2) := by decide +kernel
theorem dX9_byPlaces_61 : decode cX9_byPlaces 61 = .ok (.ifCond .eq 17, 3) := by decide +kernel
theorem dX9_byPlaces_64 : decode cX9_byPlaces 64 = .ok (.aload_n 0, 1) := by decide +kernel
theorem dX9_byPlaces_65 : decode cX9_byPlaces 65 = .ok (.iload_n 2, 1) := by decide +kernel
theorem dX9_byPlaces_66 : decode cX9_byPlaces 66 = .ok (.iload_n 3, 1) := by decide +kernel
theorem dX9_byPlaces_67 : decode cX9_byPlaces 67 = .ok (.iload_n 2, 1) := by decide +kernel
theorem dX9_byPlaces_68 : decode cX9_byPlaces 68 = .ok (.isub, 1) := by decide +kernel
theorem dX9_byPlaces_69 : decode cX9_byPlaces 69 = .ok (.invokestatic 309, 3) := by decide +kernel
theorem dX9_byPlaces_72 : decode cX9_byPlaces 72 = .ok (.iconst (-1), 1) := by decide +kernel
theorem dX9_byPlaces_73 : decode cX9_byPlaces 73 = .ok (.invokevirtual 315, 3) := by decide +kernel
theorem dX9_byPlaces_76 : decode cX9_byPlaces 76 = .ok (.iload_n 3, 1) := by decide +kernel
theorem dX9_byPlaces_77 : decode cX9_byPlaces 77 = .ok (.istore_n 2, 1) := by decide +kernel
theorem dX9_byPlaces_78 : decode cX9_byPlaces 78 = .ok (.iinc 3 1, 3) := by decide +kernel
theorem dX9_byPlaces_81 : decode cX9_byPlaces 81 = .ok (.goto (-73), 3) := by decide +kernel
theorem dX9_byPlaces_84 : decode cX9_byPlaces 84 = .ok (.aload_n 0, 1) := by decide +kernel
theorem dX9_byPlaces_85 : decode cX9_byPlaces 85 = .ok (.invokevirtual 318, 3) := by decide +kernel
theorem dX9_byPlaces_88 : decode cX9_byPlaces 88 = .ok (.return_, 1) := by decide +kernel
theorem dX9_isKept_0 : decode cX9_isKept 0 = .ok (.aload_n 0, 1) := by decide +kernel
theorem dX9_isKept_1 : decode cX9_isKept 1 = .ok (.getfield 80, 3) := by decide +kernel
theorem dX9_isKept_4 : decode cX9_isKept 4 = .ok (.iload_n 1, 1) := by decide +kernel
theorem dX9_isKept_5 : decode cX9_isKept 5 = .ok (.iaload, 1) := by decide +kernel
theorem dX9_isKept_6 : decode cX9_isKept 6 = .ok (.istore_n 2, 1) := by decide +kernel
theorem dX9_isKept_7 : decode cX9_isKept 7 = .ok (.iload_n 2, 1) := by decide +kernel
theorem dX9_isKept_8 : decode cX9_isKept 8 = .ok (.ifCond .lt 24, 3) := by decide +kernel
theorem dX9_isKept_11 : decode cX9_isKept 11 = .ok (.aload_n 0, 1) := by decide +kernel
theorem dX9_isKept_12 : decode cX9_isKept 12 = .ok (.getfield 120, 3) := by decide +kernel
theorem dX9_isKept_15 : decode cX9_isKept 15 = .ok (.iload_n 2, 1) := by decide +kernel
theorem dX9_isKept_16 : decode cX9_isKept 16 = .ok (.baload, 1) := by decide +kernel
theorem dX9_isKept_17 : decode cX9_isKept 17 = .ok (.ifCond .eq 5, 3) := by decide +kernel
theorem dX9_isKept_20 : decode cX9_isKept 20 = .ok (.iconst 0, 1) := by decide +kernel
theorem dX9_isKept_21 : decode cX9_isKept 21 = .ok (.ireturn, 1) := by decide +kernel
theorem dX9_isKept_22 : decode cX9_isKept 22 = .ok (.aload_n 0, 1) := by decide +kernel
theorem dX9_isKept_23 : decode cX9_isKept 23 = .ok (.getfield 80, 3) := by decide +kernel
theorem dX9_isKept_26 : decode cX9_isKept 26 = .ok (.iload_n 2, 1) := by decide +kernel
theorem dX9_isKept_27 : decode cX9_isKept 27 = .ok (.iaload, 1) := by decide +kernel
theorem dX9_isKept_28 : decode cX9_isKept 28 = .ok (.istore_n 2, 1) := by decide +kernel
theorem dX9_isKept_29 : decode cX9_isKept 29 = .ok (.goto (-22), 3) := by decide +kernel
theorem dX9_isKept_32 : decode cX9_isKept 32 = .ok (.iconst 1, 1) := by decide +kernel
theorem dX9_isKept_33 : decode cX9_isKept 33 = .ok (.ireturn, 1) := by decide +kernel
theorem dX9_byDepths_0 : decode cX9_byDepths 0 = .ok (.aload_n 0, 1) := by decide +kernel
theorem dX9_byDepths_1 : decode cX9_byDepths 1 = .ok (.invokevirtual 312, 3) := by decide +kernel
theorem dX9_byDepths_4 : decode cX9_byDepths 4 = .ok (.iconst 0, 1) := by decide +kernel
theorem dX9_byDepths_5 : decode cX9_byDepths 5 = .ok (.istore_n 1, 1) := by decide +kernel
theorem dX9_byDepths_6 : decode cX9_byDepths 6 = .ok (.iconst 0, 1) := by decide +kernel
theorem dX9_byDepths_7 : decode cX9_byDepths 7 = .ok (.istore_n 2, 1) := by decide +kernel
theorem dX9_byDepths_8 : decode cX9_byDepths 8 = .ok (.iload_n 2, 1) := by decide +kernel
theorem dX9_byDepths_9 : decode cX9_byDepths 9 = .ok (.aload_n 0, 1) := by decide +kernel
theorem dX9_byDepths_10 : decode cX9_byDepths 10 = .ok (.getfield 236, 3) := by decide +kernel
theorem dX9_byDepths_13 : decode cX9_byDepths 13 = .ok (.if_icmp .ge 37, 3) := by decide +kernel
theorem dX9_byDepths_16 : decode cX9_byDepths 16 = .ok (.aload_n 0, 1) := by decide +kernel
theorem dX9_byDepths_17 : decode cX9_byDepths 17 = .ok (.getfield 120, 3) := by decide +kernel
theorem dX9_byDepths_20 : decode cX9_byDepths 20 = .ok (.iload_n 2, 1) := by decide +kernel
theorem dX9_byDepths_21 : decode cX9_byDepths 21 = .ok (.iconst 0, 1) := by decide +kernel
theorem dX9_byDepths_22 : decode cX9_byDepths 22 = .ok (.bastore, 1) := by decide +kernel
theorem dX9_byDepths_23 : decode cX9_byDepths 23 = .ok (.aload_n 0, 1) := by decide +kernel
theorem dX9_byDepths_24 : decode cX9_byDepths 24 = .ok (.getfield 77, 3) := by decide +kernel
theorem dX9_byDepths_27 : decode cX9_byDepths 27 = .ok (.iload_n 2, 1) := by decide +kernel
theorem dX9_byDepths_28 : decode cX9_byDepths 28 = .ok (.iaload, 1) := by decide +kernel
theorem dX9_byDepths_29 : decode cX9_byDepths 29 = .ok (.iload_n 1, 1) := by decide +kernel
theorem dX9_byDepths_30 : decode cX9_byDepths 30 = .ok (.if_icmp .le 12, 3) := by decide +kernel
theorem dX9_byDepths_33 : decode cX9_byDepths 33 = .ok (.aload_n 0, 1) := by decide +kernel
theorem dX9_byDepths_34 : decode cX9_byDepths 34 = .ok (.getfield 77, 3) := by decide +kernel
theorem dX9_byDepths_37 : decode cX9_byDepths 37 = .ok (.iload_n 2, 1) := by decide +kernel
theorem dX9_byDepths_38 : decode cX9_byDepths 38 = .ok (.iaload, 1) := by decide +kernel
theorem dX9_byDepths_39 : decode cX9_byDepths 39 = .ok (.goto 4, 3) := by decide +kernel
theorem dX9_byDepths_42 : decode cX9_byDepths 42 = .ok (.iload_n 1, 1) := by decide +kernel
theorem dX9_byDepths_43 : decode cX9_byDepths 43 = .ok (.istore_n 1, 1) := by decide +kernel
theorem dX9_byDepths_44 : decode cX9_byDepths 44 = .ok (.iinc 2 1, 3) := by decide +kernel
theorem dX9_byDepths_47 : decode cX9_byDepths 47 = .ok (.goto (-39), 3) := by decide +kernel
theorem dX9_byDepths_50 : decode cX9_byDepths 50 = .ok (.iconst 1, 1) := by decide +kernel
theorem dX9_byDepths_51 : decode cX9_byDepths 51 = .ok (.istore_n 2, 1) := by decide +kernel
theorem dX9_byDepths_52 : decode cX9_byDepths 52 = .ok (.iload_n 2, 1) := by decide +kernel
theorem dX9_byDepths_53 : decode cX9_byDepths 53 = .ok (.iload_n 1, 1) := by decide +kernel
theorem dX9_byDepths_54 : decode cX9_byDepths 54 = .ok (.if_icmp .gt 79, 3) := by decide +kernel
theorem dX9_byDepths_57 : decode cX9_byDepths 57 = .ok (.aload_n 0, 1) := by decide +kernel
theorem dX9_byDepths_58 : decode cX9_byDepths 58 = .ok (.getfield 272, 3) := by decide +kernel
theorem dX9_byDepths_61 : decode cX9_byDepths 61 = .ok (.ifCond .ne 72, 3) := by decide +kernel
theorem dX9_byDepths_64 : decode cX9_byDepths 64 = .ok (.aload_n 0, 1) := by decide +kernel
theorem dX9_byDepths_65 : decode cX9_byDepths 65 = .ok (.iconst 0, 1) := by decide +kernel
theorem dX9_byDepths_66 : decode cX9_byDepths 66 = .ok (.putfield 290, 3) := by decide +kernel
theorem dX9_byDepths_69 : decode cX9_byDepths 69 = .ok (.iconst 0, 1) := by decide +kernel
theorem dX9_byDepths_70 : decode cX9_byDepths 70 = .ok (.istore_n 3, 1) := by decide +kernel
theorem dX9_byDepths_71 : decode cX9_byDepths 71 = .ok (.iload_n 3, 1) := by decide +kernel
theorem dX9_byDepths_72 : decode cX9_byDepths 72 = .ok (.aload_n 0, 1) := by decide +kernel
theorem dX9_byDepths_73 : decode cX9_byDepths 73 = .ok (.getfield 236, 3) := by decide +kernel
theorem dX9_byDepths_76 : decode cX9_byDepths 76 = .ok (.if_icmp .ge 47, 3) := by decide +kernel
theorem dX9_byDepths_79 : decode cX9_byDepths 79 = .ok (.aload_n 0, 1) := by decide +kernel
theorem dX9_byDepths_80 : decode cX9_byDepths 80 = .ok (.getfield 77, 3) := by decide +kernel
theorem dX9_byDepths_83 : decode cX9_byDepths 83 = .ok (.iload_n 3, 1) := by decide +kernel
theorem dX9_byDepths_84 : decode cX9_byDepths 84 = .ok (.iaload, 1) := by decide +kernel
theorem dX9_byDepths_85 : decode cX9_byDepths 85 = .ok (.iload_n 2, 1) := by decide +kernel
theorem dX9_byDepths_86 : decode cX9_byDepths 86 = .ok (.if_icmp .ne 31, 3) := by decide +kernel
theorem dX9_byDepths_89 : decode cX9_byDepths 89 = .ok (.aload_n 0, 1) := by decide +kernel
theorem dX9_byDepths_90 : decode cX9_byDepths 90 = .ok (.iload_n 3, 1) := by decide +kernel
theorem dX9_byDepths_91 : decode cX9_byDepths 91 = .ok (.invokevirtual 321, 3) := by decide +kernel
theorem dX9_byDepths_94 : decode cX9_byDepths 94 = .ok (.ifCond .eq 23, 3) := by decide +kernel
theorem dX9_byDepths_97 : decode cX9_byDepths 97 = .ok (.aload_n 0, 1) := by decide +kernel
theorem dX9_byDepths_98 : decode cX9_byDepths 98 = .ok (.aload_n 0, 1) := by decide +kernel
theorem dX9_byDepths_99 : decode cX9_byDepths 99 = .ok (.getfield 71, 3) := by decide +kernel
theorem dX9_byDepths_102 : decode cX9_byDepths 102 = .ok (.iload_n 3, 1) := by decide +kernel
theorem dX9_byDepths_103 : decode cX9_byDepths 103 = .ok (.iaload, 1) := by decide +kernel
theorem dX9_byDepths_104 : decode cX9_byDepths 104 = .ok (.aload_n 0, 1) := by decide +kernel
theorem dX9_byDepths_105 : decode cX9_byDepths 105 = .ok (.getfield 74, 3) := by decide +kernel
theorem dX9_byDepths_108 : decode cX9_byDepths 108 = .ok (.iload_n 3, 1) := by decide +kernel
theorem dX9_byDepths_109 : decode cX9_byDepths 109 = .ok (.iaload, 1) := by decide +kernel
theorem dX9_byDepths_110 : decode cX9_byDepths 110 = .ok (.invokestatic 309, 3) := by decide +kernel
theorem dX9_byDepths_113 : decode cX9_byDepths 113 = .ok (.iload_n 3, 1) := by decide +kernel
theorem dX9_byDepths_114 : decode cX9_byDepths 114 = .ok (.invokevirtual 315, 3) := by decide +kernel
theorem dX9_byDepths_117 : decode cX9_byDepths 117 = .ok (.iinc 3 1, 3) := by decide +kernel
theorem dX9_byDepths_120 : decode cX9_byDepths 120 = .ok (.goto (-49), 3) := by decide +kernel
theorem dX9_byDepths_123 : decode cX9_byDepths 123 = .ok (.aload_n 0, 1) := by decide +kernel
theorem dX9_byDepths_124 : decode cX9_byDepths 124 = .ok (.invokevirtual 318, 3) := by decide +kernel
theorem dX9_byDepths_127 : decode cX9_byDepths 127 = .ok (.iinc 2 1, 3) := by decide +kernel
theorem dX9_byDepths_130 : decode cX9_byDepths 130 = .ok (.goto (-78), 3) := by decide +kernel
theorem dX9_byDepths_133 : decode cX9_byDepths 133 = .ok (.return_, 1) := by decide +kernel
theorem dX9_againByDepths_0 : decode cX9_againByDepths 0 = .ok (.iconst 1, 1) := by decide +kernel
theorem dX9_againByDepths_1 : decode cX9_againByDepths 1 = .ok (.istore_n 1, 1) := by decide +kernel
theorem dX9_againByDepths_2 : decode cX9_againByDepths 2 = .ok (.iload_n 1, 1) := by decide +kernel
theorem dX9_againByDepths_3 : decode cX9_againByDepths 3 = .ok (.ifCond .eq 58, 3) := by decide +kernel
theorem dX9_againByDepths_6 : decode cX9_againByDepths 6 = .ok (.aload_n 0, 1) := by decide +kernel
theorem dX9_againByDepths_7 : decode cX9_againByDepths 7 = .ok (.getfield 272, 3) := by decide +kernel
theorem dX9_againByDepths_10 : decode cX9_againByDepths 10 = .ok (.ifCond .ne 51, 3) := by decide +kernel
theorem dX9_againByDepths_13 : decode cX9_againByDepths 13 = .ok (.aload_n 0, 1) := by decide +kernel
theorem dX9_againByDepths_14 : decode cX9_againByDepths 14 = .ok (.getfield 145, 3) := by decide +kernel
theorem dX9_againByDepths_17 : decode cX9_againByDepths 17 = .ok (.istore_n 2, 1) := by decide +kernel
theorem dX9_againByDepths_18 : decode cX9_againByDepths 18 = .ok (.aload_n 0, 1) := by decide +kernel
theorem dX9_againByDepths_19 : decode cX9_againByDepths 19 = .ok (.invokevirtual 324, 3) := by decide +kernel
theorem dX9_againByDepths_22 : decode cX9_againByDepths 22 = .ok (.aload_n 0, 1) := by decide +kernel
theorem dX9_againByDepths_23 : decode cX9_againByDepths 23 = .ok (.getfield 145, 3) := by decide +kernel
theorem dX9_againByDepths_26 : decode cX9_againByDepths 26 = .ok (.iload_n 2, 1) := by decide +kernel
theorem dX9_againByDepths_27 : decode cX9_againByDepths 27 = .ok (.if_icmp .ge 29, 3) := by decide +kernel
theorem dX9_againByDepths_30 : decode cX9_againByDepths 30 = .ok (.aload_n 0, 1) := by decide +kernel
theorem dX9_againByDepths_31 : decode cX9_againByDepths 31 = .ok (.getfield 272, 3) := by decide +kernel
theorem dX9_againByDepths_34 : decode cX9_againByDepths 34 = .ok (.ifCond .ne 22, 3) := by decide +kernel
theorem dX9_againByDepths_37 : decode cX9_againByDepths 37 = .ok (.aload_n 0, 1) := by decide +kernel
theorem dX9_againByDepths_38 : decode cX9_againByDepths 38 = .ok (.aload_n 0, 1) := by decide +kernel
theorem dX9_againByDepths_39 : decode cX9_againByDepths 39 = .ok (.getfield 7, 3) := by decide +kernel
theorem dX9_againByDepths_42 : decode cX9_againByDepths 42 = .ok (.aload_n 0, 1) := by decide +kernel
theorem dX9_againByDepths_43 : decode cX9_againByDepths 43 = .ok (.getfield 145, 3) := by decide +kernel
theorem dX9_againByDepths_46 : decode cX9_againByDepths 46 = .ok (.invokevirtual 259, 3) := by decide +kernel
theorem dX9_againByDepths_49 : decode cX9_againByDepths 49 = .ok (.ifCond .eq 7, 3) := by decide +kernel
theorem dX9_againByDepths_52 : decode cX9_againByDepths 52 = .ok (.iconst 1, 1) := by decide +kernel
theorem dX9_againByDepths_53 : decode cX9_againByDepths 53 = .ok (.goto 4, 3) := by decide +kernel
theorem dX9_againByDepths_56 : decode cX9_againByDepths 56 = .ok (.iconst 0, 1) := by decide +kernel
theorem dX9_againByDepths_57 : decode cX9_againByDepths 57 = .ok (.istore_n 1, 1) := by decide +kernel
theorem dX9_againByDepths_58 : decode cX9_againByDepths 58 = .ok (.goto (-56), 3) := by decide +kernel
theorem dX9_againByDepths_61 : decode cX9_againByDepths 61 = .ok (.return_, 1) := by decide +kernel
theorem dX9_take_0 : decode cX9_take 0 = .ok (.aload_n 0, 1) := by decide +kernel
theorem dX9_take_1 : decode cX9_take 1 = .ok (.iconst 0, 1) := by decide +kernel
theorem dX9_take_2 : decode cX9_take 2 = .ok (.putfield 263, 3) := by decide +kernel
theorem dX9_take_5 : decode cX9_take 5 = .ok (.iconst 0, 1) := by decide +kernel
theorem dX9_take_6 : decode cX9_take 6 = .ok (.istore 5, 2) := by decide +kernel
theorem dX9_take_8 : decode cX9_take 8 = .ok (.iload 5, 2) := by decide +kernel
theorem dX9_take_10 : decode cX9_take 10 = .ok (.iload_n 1, 1) := by decide +kernel
theorem dX9_take_11 : decode cX9_take 11 = .ok (.if_icmp .ge 35, 3) := by decide +kernel
theorem dX9_take_14 : decode cX9_take 14 = .ok (.aload_n 0, 1) := by decide +kernel
theorem dX9_take_15 : decode cX9_take 15 = .ok (.getfield 108, 3) := by decide +kernel
theorem dX9_take_18 : decode cX9_take 18 = .ok (.aload_n 0, 1) := by decide +kernel
theorem dX9_take_19 : decode cX9_take 19 = .ok (.getfield 263, 3) := by decide +kernel
theorem dX9_take_22 : decode cX9_take 22 = .ok (.aload_n 0, 1) := by decide +kernel
theorem dX9_take_23 : decode cX9_take 23 = .ok (.getfield 7, 3) := by decide +kernel
theorem dX9_take_26 : decode cX9_take 26 = .ok (.iload 5, 2) := by decide +kernel
theorem dX9_take_28 : decode cX9_take 28 = .ok (.iaload, 1) := by decide +kernel
theorem dX9_take_29 : decode cX9_take 29 = .ok (.iastore, 1) := by decide +kernel
theorem dX9_take_30 : decode cX9_take 30 = .ok (.aload_n 0, 1) := by decide +kernel
theorem dX9_take_31 : decode cX9_take 31 = .ok (.dup, 1) := by decide +kernel
theorem dX9_take_32 : decode cX9_take 32 = .ok (.getfield 263, 3) := by decide +kernel
theorem dX9_take_35 : decode cX9_take 35 = .ok (.iconst 1, 1) := by decide +kernel
theorem dX9_take_36 : decode cX9_take 36 = .ok (.iadd, 1) := by decide +kernel
theorem dX9_take_37 : decode cX9_take 37 = .ok (.putfield 263, 3) := by decide +kernel
theorem dX9_take_40 : decode cX9_take 40 = .ok (.iinc 5 1, 3) := by decide +kernel
theorem dX9_take_43 : decode cX9_take 43 = .ok (.goto (-35), 3) := by decide +kernel
theorem dX9_take_46 : decode cX9_take 46 = .ok (.iload_n 3, 1) := by decide +kernel
theorem dX9_take_47 : decode cX9_take 47 = .ok (.istore 5, 2) := by decide +kernel
theorem dX9_take_49 : decode cX9_take 49 = .ok (.iload 5, 2) := by decide +kernel
theorem dX9_take_51 : decode cX9_take 51 = .ok (.iload_n 3, 1) := by decide +kernel
theorem dX9_take_52 : decode cX9_take 52 = .ok (.iload 4, 2) := by decide +kernel
theorem dX9_take_54 : decode cX9_take 54 = .ok (.iadd, 1) := by decide +kernel
theorem dX9_take_55 : decode cX9_take 55 = .ok (.if_icmp .ge 35, 3) := by decide +kernel
theorem dX9_take_58 : decode cX9_take 58 = .ok (.aload_n 0, 1) := by decide +kernel
theorem dX9_take_59 : decode cX9_take 59 = .ok (.getfield 108, 3) := by decide +kernel
theorem dX9_take_62 : decode cX9_take 62 = .ok (.aload_n 0, 1) := by decide +kernel
theorem dX9_take_63 : decode cX9_take 63 = .ok (.getfield 263, 3) := by decide +kernel
theorem dX9_take_66 : decode cX9_take 66 = .ok (.aload_n 0, 1) := by decide +kernel
theorem dX9_take_67 : decode cX9_take 67 = .ok (.getfield 7, 3) := by decide +kernel
theorem dX9_take_70 : decode cX9_take 70 = .ok (.iload 5, 2) := by decide +kernel
theorem dX9_take_72 : decode cX9_take 72 = .ok (.iaload, 1) := by decide +kernel
theorem dX9_take_73 : decode cX9_take 73 = .ok (.iastore, 1) := by decide +kernel
theorem dX9_take_74 : decode cX9_take 74 = .ok (.aload_n 0, 1) := by decide +kernel
theorem dX9_take_75 : decode cX9_take 75 = .ok (.dup, 1) := by decide +kernel
theorem dX9_take_76 : decode cX9_take 76 = .ok (.getfield 263, 3) := by decide +kernel
theorem dX9_take_79 : decode cX9_take 79 = .ok (.iconst 1, 1) := by decide +kernel
theorem dX9_take_80 : decode cX9_take 80 = .ok (.iadd, 1) := by decide +kernel
theorem dX9_take_81 : decode cX9_take 81 = .ok (.putfield 263, 3) := by decide +kernel
theorem dX9_take_84 : decode cX9_take 84 = .ok (.iinc 5 1, 3) := by decide +kernel
theorem dX9_take_87 : decode cX9_take 87 = .ok (.goto (-38), 3) := by decide +kernel
theorem dX9_take_90 : decode cX9_take 90 = .ok (.iload_n 1, 1) := by decide +kernel
theorem dX9_take_91 : decode cX9_take 91 = .ok (.iload_n 2, 1) := by decide +kernel
theorem dX9_take_92 : decode cX9_take 92 = .ok (.iadd, 1) := by decide +kernel
theorem dX9_take_93 : decode cX9_take 93 = .ok (.istore 5, 2) := by decide +kernel
theorem dX9_take_95 : decode cX9_take 95 = .ok (.iload 5, 2) := by decide +kernel
theorem dX9_take_97 : decode cX9_take 97 = .ok (.aload_n 0, 1) := by decide +kernel
theorem dX9_take_98 : decode cX9_take 98 = .ok (.getfield 145, 3) := by decide +kernel
theorem dX9_take_101 : decode cX9_take 101 = .ok (.if_icmp .ge 35, 3) := by decide +kernel
theorem dX9_take_104 : decode cX9_take 104 = .ok (.aload_n 0, 1) := by decide +kernel
theorem dX9_take_105 : decode cX9_take 105 = .ok (.getfield 108, 3) := by decide +kernel
theorem dX9_take_108 : decode cX9_take 108 = .ok (.aload_n 0, 1) := by decide +kernel
theorem dX9_take_109 : decode cX9_take 109 = .ok (.getfield 263, 3) := by decide +kernel
theorem dX9_take_112 : decode cX9_take 112 = .ok (.aload_n 0, 1) := by decide +kernel
theorem dX9_take_113 : decode cX9_take 113 = .ok (.getfield 7, 3) := by decide +kernel
theorem dX9_take_116 : decode cX9_take 116 = .ok (.iload 5, 2) := by decide +kernel
theorem dX9_take_118 : decode cX9_take 118 = .ok (.iaload, 1) := by decide +kernel
theorem dX9_take_119 : decode cX9_take 119 = .ok (.iastore, 1) := by decide +kernel
theorem dX9_take_120 : decode cX9_take 120 = .ok (.aload_n 0, 1) := by decide +kernel
theorem dX9_take_121 : decode cX9_take 121 = .ok (.dup, 1) := by decide +kernel
theorem dX9_take_122 : decode cX9_take 122 = .ok (.getfield 263, 3) := by decide +kernel
theorem dX9_take_125 : decode cX9_take 125 = .ok (.iconst 1, 1) := by decide +kernel
theorem dX9_take_126 : decode cX9_take 126 = .ok (.iadd, 1) := by decide +kernel
theorem dX9_take_127 : decode cX9_take 127 = .ok (.putfield 263, 3) := by decide +kernel
theorem dX9_take_130 : decode cX9_take 130 = .ok (.iinc 5 1, 3) := by decide +kernel
theorem dX9_take_133 : decode cX9_take 133 = .ok (.goto (-38), 3) := by decide +kernel
theorem dX9_take_136 : decode cX9_take 136 = .ok (.aload_n 0, 1) := by decide +kernel
theorem dX9_take_137 : decode cX9_take 137 = .ok (.aload_n 0, 1) := by decide +kernel
theorem dX9_take_138 : decode cX9_take 138 = .ok (.getfield 108, 3) := by decide +kernel
theorem dX9_take_141 : decode cX9_take 141 = .ok (.aload_n 0, 1) := by decide +kernel
theorem dX9_take_142 : decode cX9_take 142 = .ok (.getfield 263, 3) := by decide +kernel
theorem dX9_take_145 : decode cX9_take 145 = .ok (.invokevirtual 259, 3) := by decide +kernel
theorem dX9_take_148 : decode cX9_take 148 = .ok (.ifCond .eq 14, 3) := by decide +kernel
theorem dX9_take_151 : decode cX9_take 151 = .ok (.aload_n 0, 1) := by decide +kernel
theorem dX9_take_152 : decode cX9_take 152 = .ok (.invokevirtual 287, 3) := by decide +kernel
theorem dX9_take_155 : decode cX9_take 155 = .ok (.ifCond .eq 7, 3) := by decide +kernel
theorem dX9_take_158 : decode cX9_take 158 = .ok (.iconst 1, 1) := by decide +kernel
theorem dX9_take_159 : decode cX9_take 159 = .ok (.goto 4, 3) := by decide +kernel
theorem dX9_take_162 : decode cX9_take 162 = .ok (.iconst 0, 1) := by decide +kernel
theorem dX9_take_163 : decode cX9_take 163 = .ok (.ireturn, 1) := by decide +kernel
theorem dX9_movesOf_0 : decode cX9_movesOf 0 = .ok (.aload_n 0, 1) := by decide +kernel
theorem dX9_movesOf_1 : decode cX9_movesOf 1 = .ok (.getfield 135, 3) := by decide +kernel
theorem dX9_movesOf_4 : decode cX9_movesOf 4 = .ok (.iload_n 1, 1) := by decide +kernel
theorem dX9_movesOf_5 : decode cX9_movesOf 5 = .ok (.iaload, 1) := by decide +kernel
theorem dX9_movesOf_6 : decode cX9_movesOf 6 = .ok (.iconst 1, 1) := by decide +kernel
theorem dX9_movesOf_7 : decode cX9_movesOf 7 = .ok (.if_icmp .ne 35, 3) := by decide +kernel
theorem dX9_movesOf_10 : decode cX9_movesOf 10 = .ok (.aload_n 0, 1) := by decide +kernel
theorem dX9_movesOf_11 : decode cX9_movesOf 11 = .ok (.getfield 129, 3) := by decide +kernel
theorem dX9_movesOf_14 : decode cX9_movesOf 14 = .ok (.iload_n 1, 1) := by decide +kernel
theorem dX9_movesOf_15 : decode cX9_movesOf 15 = .ok (.iaload, 1) := by decide +kernel
theorem dX9_movesOf_16 : decode cX9_movesOf 16 = .ok (.ifCond .le 26, 3) := by decide +kernel
theorem dX9_movesOf_19 : decode cX9_movesOf 19 = .ok (.aload_n 0, 1) := by decide +kernel
theorem dX9_movesOf_20 : decode cX9_movesOf 20 = .ok (.aload_n 0, 1) := by decide +kernel
theorem dX9_movesOf_21 : decode cX9_movesOf 21 = .ok (.getfield 126, 3) := by decide +kernel
theorem dX9_movesOf_24 : decode cX9_movesOf 24 = .ok (.iload_n 1, 1) := by decide +kernel
theorem dX9_movesOf_25 : decode cX9_movesOf 25 = .ok (.iaload, 1) := by decide +kernel
theorem dX9_movesOf_26 : decode cX9_movesOf 26 = .ok (.aload_n 0, 1) := by decide +kernel
theorem dX9_movesOf_27 : decode cX9_movesOf 27 = .ok (.getfield 129, 3) := by decide +kernel
theorem dX9_movesOf_30 : decode cX9_movesOf 30 = .ok (.iload_n 1, 1) := by decide +kernel
theorem dX9_movesOf_31 : decode cX9_movesOf 31 = .ok (.iaload, 1) := by decide +kernel
theorem dX9_movesOf_32 : decode cX9_movesOf 32 = .ok (.iconst 0, 1) := by decide +kernel
theorem dX9_movesOf_33 : decode cX9_movesOf 33 = .ok (.iconst 0, 1) := by decide +kernel
theorem dX9_movesOf_34 : decode cX9_movesOf 34 = .ok (.invokevirtual 327, 3) := by decide +kernel
theorem dX9_movesOf_37 : decode cX9_movesOf 37 = .ok (.ifCond .eq 5, 3) := by decide +kernel
theorem dX9_movesOf_40 : decode cX9_movesOf 40 = .ok (.iconst 1, 1) := by decide +kernel
theorem dX9_movesOf_41 : decode cX9_movesOf 41 = .ok (.ireturn, 1) := by decide +kernel
theorem dX9_movesOf_42 : decode cX9_movesOf 42 = .ok (.iload_n 1, 1) := by decide +kernel
theorem dX9_movesOf_43 : decode cX9_movesOf 43 = .ok (.iconst 1, 1) := by decide +kernel
theorem dX9_movesOf_44 : decode cX9_movesOf 44 = .ok (.iadd, 1) := by decide +kernel
theorem dX9_movesOf_45 : decode cX9_movesOf 45 = .ok (.istore_n 2, 1) := by decide +kernel
theorem dX9_movesOf_46 : decode cX9_movesOf 46 = .ok (.iload_n 2, 1) := by decide +kernel
theorem dX9_movesOf_47 : decode cX9_movesOf 47 = .ok (.aload_n 0, 1) := by decide +kernel
theorem dX9_movesOf_48 : decode cX9_movesOf 48 = .ok (.getfield 331, 3) := by decide +kernel
theorem dX9_movesOf_51 : decode cX9_movesOf 51 = .ok (.if_icmp .ge 115, 3) := by decide +kernel
theorem dX9_movesOf_54 : decode cX9_movesOf 54 = .ok (.aload_n 0, 1) := by decide +kernel
theorem dX9_movesOf_55 : decode cX9_movesOf 55 = .ok (.getfield 138, 3) := by decide +kernel
theorem dX9_movesOf_58 : decode cX9_movesOf 58 = .ok (.iload_n 2, 1) := by decide +kernel
theorem dX9_movesOf_59 : decode cX9_movesOf 59 = .ok (.iaload, 1) := by decide +kernel
theorem dX9_movesOf_60 : decode cX9_movesOf 60 = .ok (.aload_n 0, 1) := by decide +kernel
theorem dX9_movesOf_61 : decode cX9_movesOf 61 = .ok (.getfield 138, 3) := by decide +kernel
theorem dX9_movesOf_64 : decode cX9_movesOf 64 = .ok (.iload_n 1, 1) := by decide +kernel
theorem dX9_movesOf_65 : decode cX9_movesOf 65 = .ok (.iaload, 1) := by decide +kernel
theorem dX9_movesOf_66 : decode cX9_movesOf 66 = .ok (.if_icmp .le 100, 3) := by decide +kernel
theorem dX9_movesOf_69 : decode cX9_movesOf 69 = .ok (.aload_n 0, 1) := by decide +kernel
theorem dX9_movesOf_70 : decode cX9_movesOf 70 = .ok (.getfield 272, 3) := by decide +kernel
theorem dX9_movesOf_73 : decode cX9_movesOf 73 = .ok (.ifCond .ne 93, 3) := by decide +kernel
theorem dX9_movesOf_76 : decode cX9_movesOf 76 = .ok (.aload_n 0, 1) := by decide +kernel
theorem dX9_movesOf_77 : decode cX9_movesOf 77 = .ok (.getfield 132, 3) := by decide +kernel
theorem dX9_movesOf_80 : decode cX9_movesOf 80 = .ok (.iload_n 2, 1) := by decide +kernel
theorem dX9_movesOf_81 : decode cX9_movesOf 81 = .ok (.iaload, 1) := by decide +kernel
theorem dX9_movesOf_82 : decode cX9_movesOf 82 = .ok (.bipush 6, 2) := by decide +kernel
theorem dX9_movesOf_84 : decode cX9_movesOf 84 = .ok (.if_icmp .ge 37, 3) := by decide +kernel
theorem dX9_movesOf_87 : decode cX9_movesOf 87 = .ok (.aload_n 0, 1) := by decide +kernel
theorem dX9_movesOf_88 : decode cX9_movesOf 88 = .ok (.getfield 132, 3) := by decide +kernel
theorem dX9_movesOf_91 : decode cX9_movesOf 91 = .ok (.iload_n 2, 1) := by decide +kernel
theorem dX9_movesOf_92 : decode cX9_movesOf 92 = .ok (.iaload, 1) := by decide +kernel
theorem dX9_movesOf_93 : decode cX9_movesOf 93 = .ok (.aload_n 0, 1) := by decide +kernel
theorem dX9_movesOf_94 : decode cX9_movesOf 94 = .ok (.getfield 132, 3) := by decide +kernel
theorem dX9_movesOf_97 : decode cX9_movesOf 97 = .ok (.iload_n 1, 1) := by decide +kernel
theorem dX9_movesOf_98 : decode cX9_movesOf 98 = .ok (.iaload, 1) := by decide +kernel
theorem dX9_movesOf_99 : decode cX9_movesOf 99 = .ok (.if_icmp .ne 22, 3) := by decide +kernel
theorem dX9_movesOf_102 : decode cX9_movesOf 102 = .ok (.aload_n 0, 1) := by decide +kernel
theorem dX9_movesOf_103 : decode cX9_movesOf 103 = .ok (.getfield 129, 3) := by decide +kernel
theorem dX9_movesOf_106 : decode cX9_movesOf 106 = .ok (.iload_n 2, 1) := by decide +kernel
theorem dX9_movesOf_107 : decode cX9_movesOf 107 = .ok (.iaload, 1) := by decide +kernel
theorem dX9_movesOf_108 : decode cX9_movesOf 108 = .ok (.aload_n 0, 1) := by decide +kernel
theorem dX9_movesOf_109 : decode cX9_movesOf 109 = .ok (.getfield 129, 3) := by decide +kernel
theorem dX9_movesOf_112 : decode cX9_movesOf 112 = .ok (.iload_n 1, 1) := by decide +kernel
theorem dX9_movesOf_113 : decode cX9_movesOf 113 = .ok (.iaload, 1) := by decide +kernel
theorem dX9_movesOf_114 : decode cX9_movesOf 114 = .ok (.if_icmp .ge 7, 3) := by decide +kernel
theorem dX9_movesOf_117 : decode cX9_movesOf 117 = .ok (.iconst 1, 1) := by decide +kernel
theorem dX9_movesOf_118 : decode cX9_movesOf 118 = .ok (.goto 4, 3) := by decide +kernel
theorem dX9_movesOf_121 : decode cX9_movesOf 121 = .ok (.iconst 0, 1) := by decide +kernel
theorem dX9_movesOf_122 : decode cX9_movesOf 122 = .ok (.istore_n 3, 1) := by decide +kernel
theorem dX9_movesOf_123 : decode cX9_movesOf 123 = .ok (.iload_n 3, 1) := by decide +kernel
theorem dX9_movesOf_124 : decode cX9_movesOf 124 = .ok (.ifCond .eq 36, 3) := by decide +kernel
theorem dX9_movesOf_127 : decode cX9_movesOf 127 = .ok (.aload_n 0, 1) := by decide +kernel
theorem dX9_movesOf_128 : decode cX9_movesOf 128 = .ok (.aload_n 0, 1) := by decide +kernel
theorem dX9_movesOf_129 : decode cX9_movesOf 129 = .ok (.getfield 126, 3) := by decide +kernel
theorem dX9_movesOf_132 : decode cX9_movesOf 132 = .ok (.iload_n 1, 1) := by decide +kernel
theorem dX9_movesOf_133 : decode cX9_movesOf 133 = .ok (.iaload, 1) := by decide +kernel
theorem dX9_movesOf_134 : decode cX9_movesOf 134 = .ok (.aload_n 0, 1) := by decide +kernel
theorem dX9_movesOf_135 : decode cX9_movesOf 135 = .ok (.getfield 129, 3) := by decide +kernel
theorem dX9_movesOf_138 : decode cX9_movesOf 138 = .ok (.iload_n 1, 1) := by decide +kernel
theorem dX9_movesOf_139 : decode cX9_movesOf 139 = .ok (.iaload, 1) := by decide +kernel
theorem dX9_movesOf_140 : decode cX9_movesOf 140 = .ok (.aload_n 0, 1) := by decide +kernel
theorem dX9_movesOf_141 : decode cX9_movesOf 141 = .ok (.getfield 126, 3) := by decide +kernel
theorem dX9_movesOf_144 : decode cX9_movesOf 144 = .ok (.iload_n 2, 1) := by decide +kernel
theorem dX9_movesOf_145 : decode cX9_movesOf 145 = .ok (.iaload, 1) := by decide +kernel
theorem dX9_movesOf_146 : decode cX9_movesOf 146 = .ok (.aload_n 0, 1) := by decide +kernel
theorem dX9_movesOf_147 : decode cX9_movesOf 147 = .ok (.getfield 129, 3) := by decide +kernel
theorem dX9_movesOf_150 : decode cX9_movesOf 150 = .ok (.iload_n 2, 1) := by decide +kernel
theorem dX9_movesOf_151 : decode cX9_movesOf 151 = .ok (.iaload, 1) := by decide +kernel
theorem dX9_movesOf_152 : decode cX9_movesOf 152 = .ok (.invokevirtual 327, 3) := by decide +kernel
theorem dX9_movesOf_155 : decode cX9_movesOf 155 = .ok (.ifCond .eq 5, 3) := by decide +kernel
theorem dX9_movesOf_158 : decode cX9_movesOf 158 = .ok (.iconst 1, 1) := by decide +kernel
theorem dX9_movesOf_159 : decode cX9_movesOf 159 = .ok (.ireturn, 1) := by decide +kernel
theorem dX9_movesOf_160 : decode cX9_movesOf 160 = .ok (.iinc 2 1, 3) := by decide +kernel
theorem dX9_movesOf_163 : decode cX9_movesOf 163 = .ok (.goto (-117), 3) := by decide +kernel
theorem dX9_movesOf_166 : decode cX9_movesOf 166 = .ok (.iconst 0, 1) := by decide +kernel
theorem dX9_movesOf_167 : decode cX9_movesOf 167 = .ok (.ireturn, 1) := by decide +kernel
theorem dX9_move_0 : decode cX9_move 0 = .ok (.aload_n 0, 1) := by decide +kernel
theorem dX9_move_1 : decode cX9_move 1 = .ok (.aload_n 0, 1) := by decide +kernel
theorem dX9_move_2 : decode cX9_move 2 = .ok (.getfield 7, 3) := by decide +kernel
theorem dX9_move_5 : decode cX9_move 5 = .ok (.aload_n 0, 1) := by decide +kernel
theorem dX9_move_6 : decode cX9_move 6 = .ok (.getfield 145, 3) := by decide +kernel
theorem dX9_move_9 : decode cX9_move 9 = .ok (.invokevirtual 259, 3) := by decide +kernel
theorem dX9_move_12 : decode cX9_move 12 = .ok (.pop, 1) := by decide +kernel
theorem dX9_move_13 : decode cX9_move 13 = .ok (.aload_n 0, 1) := by decide +kernel
theorem dX9_move_14 : decode cX9_move 14 = .ok (.aload_n 0, 1) := by decide +kernel
theorem dX9_move_15 : decode cX9_move 15 = .ok (.getfield 236, 3) := by decide +kernel
theorem dX9_move_18 : decode cX9_move 18 = .ok (.putfield 331, 3) := by decide +kernel
theorem dX9_move_21 : decode cX9_move 21 = .ok (.iconst 0, 1) := by decide +kernel
theorem dX9_move_22 : decode cX9_move 22 = .ok (.istore_n 1, 1) := by decide +kernel
theorem dX9_move_23 : decode cX9_move 23 = .ok (.iload_n 1, 1) := by decide +kernel
theorem dX9_move_24 : decode cX9_move 24 = .ok (.aload_n 0, 1) := by decide +kernel
theorem dX9_move_25 : decode cX9_move 25 = .ok (.getfield 236, 3) := by decide +kernel
theorem dX9_move_28 : decode cX9_move 28 = .ok (.if_icmp .ge 69, 3) := by decide +kernel
theorem dX9_move_31 : decode cX9_move 31 = .ok (.aload_n 0, 1) := by decide +kernel
theorem dX9_move_32 : decode cX9_move 32 = .ok (.getfield 126, 3) := by decide +kernel
theorem dX9_move_35 : decode cX9_move 35 = .ok (.iload_n 1, 1) := by decide +kernel
theorem dX9_move_36 : decode cX9_move 36 = .ok (.aload_n 0, 1) := by decide +kernel
theorem dX9_move_37 : decode cX9_move 37 = .ok (.getfield 71, 3) := by decide +kernel
theorem dX9_move_40 : decode cX9_move 40 = .ok (.iload_n 1, 1) := by decide +kernel
theorem dX9_move_41 : decode cX9_move 41 = .ok (.iaload, 1) := by decide +kernel
theorem dX9_move_42 : decode cX9_move 42 = .ok (.iastore, 1) := by decide +kernel
theorem dX9_move_43 : decode cX9_move 43 = .ok (.aload_n 0, 1) := by decide +kernel
theorem dX9_move_44 : decode cX9_move 44 = .ok (.getfield 129, 3) := by decide +kernel
theorem dX9_move_47 : decode cX9_move 47 = .ok (.iload_n 1, 1) := by decide +kernel
theorem dX9_move_48 : decode cX9_move 48 = .ok (.aload_n 0, 1) := by decide +kernel
theorem dX9_move_49 : decode cX9_move 49 = .ok (.getfield 74, 3) := by decide +kernel
theorem dX9_move_52 : decode cX9_move 52 = .ok (.iload_n 1, 1) := by decide +kernel
theorem dX9_move_53 : decode cX9_move 53 = .ok (.iaload, 1) := by decide +kernel
theorem dX9_move_54 : decode cX9_move 54 = .ok (.iastore, 1) := by decide +kernel
theorem dX9_move_55 : decode cX9_move 55 = .ok (.aload_n 0, 1) := by decide +kernel
theorem dX9_move_56 : decode cX9_move 56 = .ok (.getfield 132, 3) := by decide +kernel
theorem dX9_move_59 : decode cX9_move 59 = .ok (.iload_n 1, 1) := by decide +kernel
theorem dX9_move_60 : decode cX9_move 60 = .ok (.aload_n 0, 1) := by decide +kernel
theorem dX9_move_61 : decode cX9_move 61 = .ok (.getfield 65, 3) := by decide +kernel
theorem dX9_move_64 : decode cX9_move 64 = .ok (.iload_n 1, 1) := by decide +kernel
theorem dX9_move_65 : decode cX9_move 65 = .ok (.iaload, 1) := by decide +kernel
theorem dX9_move_66 : decode cX9_move 66 = .ok (.iastore, 1) := by decide +kernel
theorem dX9_move_67 : decode cX9_move 67 = .ok (.aload_n 0, 1) := by decide +kernel
theorem dX9_move_68 : decode cX9_move 68 = .ok (.getfield 135, 3) := by decide +kernel
theorem dX9_move_71 : decode cX9_move 71 = .ok (.iload_n 1, 1) := by decide +kernel
theorem dX9_move_72 : decode cX9_move 72 = .ok (.aload_n 0, 1) := by decide +kernel
theorem dX9_move_73 : decode cX9_move 73 = .ok (.getfield 68, 3) := by decide +kernel
theorem dX9_move_76 : decode cX9_move 76 = .ok (.iload_n 1, 1) := by decide +kernel
theorem dX9_move_77 : decode cX9_move 77 = .ok (.iaload, 1) := by decide +kernel
theorem dX9_move_78 : decode cX9_move 78 = .ok (.iastore, 1) := by decide +kernel
theorem dX9_move_79 : decode cX9_move 79 = .ok (.aload_n 0, 1) := by decide +kernel
theorem dX9_move_80 : decode cX9_move 80 = .ok (.getfield 138, 3) := by decide +kernel
theorem dX9_move_83 : decode cX9_move 83 = .ok (.iload_n 1, 1) := by decide +kernel
theorem dX9_move_84 : decode cX9_move 84 = .ok (.aload_n 0, 1) := by decide +kernel
theorem dX9_move_85 : decode cX9_move 85 = .ok (.getfield 77, 3) := by decide +kernel
theorem dX9_move_88 : decode cX9_move 88 = .ok (.iload_n 1, 1) := by decide +kernel
theorem dX9_move_89 : decode cX9_move 89 = .ok (.iaload, 1) := by decide +kernel
theorem dX9_move_90 : decode cX9_move 90 = .ok (.iastore, 1) := by decide +kernel
theorem dX9_move_91 : decode cX9_move 91 = .ok (.iinc 1 1, 3) := by decide +kernel
theorem dX9_move_94 : decode cX9_move 94 = .ok (.goto (-71), 3) := by decide +kernel
theorem dX9_move_97 : decode cX9_move 97 = .ok (.aload_n 0, 1) := by decide +kernel
theorem dX9_move_98 : decode cX9_move 98 = .ok (.getfield 145, 3) := by decide +kernel
theorem dX9_move_101 : decode cX9_move 101 = .ok (.istore_n 1, 1) := by decide +kernel
theorem dX9_move_102 : decode cX9_move 102 = .ok (.iload_n 1, 1) := by decide +kernel
theorem dX9_move_103 : decode cX9_move 103 = .ok (.ifCond .lt 52, 3) := by decide +kernel
theorem dX9_move_106 : decode cX9_move 106 = .ok (.iconst 0, 1) := by decide +kernel
theorem dX9_move_107 : decode cX9_move 107 = .ok (.istore_n 2, 1) := by decide +kernel
theorem dX9_move_108 : decode cX9_move 108 = .ok (.iload_n 2, 1) := by decide +kernel
theorem dX9_move_109 : decode cX9_move 109 = .ok (.aload_n 0, 1) := by decide +kernel
theorem dX9_move_110 : decode cX9_move 110 = .ok (.getfield 331, 3) := by decide +kernel
theorem dX9_move_113 : decode cX9_move 113 = .ok (.if_icmp .ge 36, 3) := by decide +kernel
theorem dX9_move_116 : decode cX9_move 116 = .ok (.aload_n 0, 1) := by decide +kernel
theorem dX9_move_117 : decode cX9_move 117 = .ok (.getfield 272, 3) := by decide +kernel
theorem dX9_move_120 : decode cX9_move 120 = .ok (.ifCond .ne 29, 3) := by decide +kernel
theorem dX9_move_123 : decode cX9_move 123 = .ok (.aload_n 0, 1) := by decide +kernel
theorem dX9_move_124 : decode cX9_move 124 = .ok (.getfield 129, 3) := by decide +kernel
theorem dX9_move_127 : decode cX9_move 127 = .ok (.iload_n 2, 1) := by decide +kernel
theorem dX9_move_128 : decode cX9_move 128 = .ok (.iaload, 1) := by decide +kernel
theorem dX9_move_129 : decode cX9_move 129 = .ok (.iload_n 1, 1) := by decide +kernel
theorem dX9_move_130 : decode cX9_move 130 = .ok (.if_icmp .ne 13, 3) := by decide +kernel
theorem dX9_move_133 : decode cX9_move 133 = .ok (.aload_n 0, 1) := by decide +kernel
theorem dX9_move_134 : decode cX9_move 134 = .ok (.iload_n 2, 1) := by decide +kernel
theorem dX9_move_135 : decode cX9_move 135 = .ok (.invokevirtual 334, 3) := by decide +kernel
theorem dX9_move_138 : decode cX9_move 138 = .ok (.ifCond .eq 5, 3) := by decide +kernel
theorem dX9_move_141 : decode cX9_move 141 = .ok (.iconst 1, 1) := by decide +kernel
theorem dX9_move_142 : decode cX9_move 142 = .ok (.ireturn, 1) := by decide +kernel
theorem dX9_move_143 : decode cX9_move 143 = .ok (.iinc 2 1, 3) := by decide +kernel
theorem dX9_move_146 : decode cX9_move 146 = .ok (.goto (-38), 3) := by decide +kernel
theorem dX9_move_149 : decode cX9_move 149 = .ok (.iinc 1 (-1), 3) := by decide +kernel
theorem dX9_move_152 : decode cX9_move 152 = .ok (.goto (-50), 3) := by decide +kernel
theorem dX9_move_155 : decode cX9_move 155 = .ok (.iconst 0, 1) := by decide +kernel
theorem dX9_move_156 : decode cX9_move 156 = .ok (.ireturn, 1) := by decide +kernel
theorem dX9_reduce_0 : decode cX9_reduce 0 = .ok (.iload_n 1, 1) := by decide +kernel
theorem dX9_reduce_1 : decode cX9_reduce 1 = .ok (.ifCond .lt 19, 3) := by decide +kernel
theorem dX9_reduce_4 : decode cX9_reduce 4 = .ok (.iload_n 1, 1) := by decide +kernel
theorem dX9_reduce_5 : decode cX9_reduce 5 = .ok (.iconst 4, 1) := by decide +kernel
theorem dX9_reduce_6 : decode cX9_reduce 6 = .ok (.if_icmp .gt 14, 3) := by decide +kernel
theorem dX9_reduce_9 : decode cX9_reduce 9 = .ok (.iload_n 2, 1) := by decide +kernel
theorem dX9_reduce_10 : decode cX9_reduce 10 = .ok (.ifCond .lt 10, 3) := by decide +kernel
theorem dX9_reduce_13 : decode cX9_reduce 13 = .ok (.iload_n 2, 1) := by decide +kernel
theorem dX9_reduce_14 : decode cX9_reduce 14 = .ok (.sipush 400, 3) := by decide +kernel
theorem dX9_reduce_17 : decode cX9_reduce 17 = .ok (.if_icmp .le 5, 3) := by decide +kernel
theorem dX9_reduce_20 : decode cX9_reduce 20 = .ok (.iconst (-1), 1) := by decide +kernel
theorem dX9_reduce_21 : decode cX9_reduce 21 = .ok (.ireturn, 1) := by decide +kernel
theorem dX9_reduce_22 : decode cX9_reduce 22 = .ok (.aload_n 0, 1) := by decide +kernel
theorem dX9_reduce_23 : decode cX9_reduce 23 = .ok (.invokevirtual 337, 3) := by decide +kernel
theorem dX9_reduce_26 : decode cX9_reduce 26 = .ok (.iconst 1, 1) := by decide +kernel
theorem dX9_reduce_27 : decode cX9_reduce 27 = .ok (.if_icmp .eq 6, 3) := by decide +kernel
theorem dX9_reduce_30 : decode cX9_reduce 30 = .ok (.bipush (-2), 2) := by decide +kernel
theorem dX9_reduce_32 : decode cX9_reduce 32 = .ok (.ireturn, 1) := by decide +kernel
theorem dX9_reduce_33 : decode cX9_reduce 33 = .ok (.iload_n 1, 1) := by decide +kernel
theorem dX9_reduce_34 : decode cX9_reduce 34 = .ok (.iconst 1, 1) := by decide +kernel
theorem dX9_reduce_35 : decode cX9_reduce 35 = .ok (.if_icmp .le 21, 3) := by decide +kernel
theorem dX9_reduce_38 : decode cX9_reduce 38 = .ok (.aload_n 0, 1) := by decide +kernel
theorem dX9_reduce_39 : decode cX9_reduce 39 = .ok (.aload_n 0, 1) := by decide +kernel
theorem dX9_reduce_40 : decode cX9_reduce 40 = .ok (.getfield 7, 3) := by decide +kernel
theorem dX9_reduce_43 : decode cX9_reduce 43 = .ok (.aload_n 0, 1) := by decide +kernel
theorem dX9_reduce_44 : decode cX9_reduce 44 = .ok (.getfield 145, 3) := by decide +kernel
theorem dX9_reduce_47 : decode cX9_reduce 47 = .ok (.invokevirtual 259, 3) := by decide +kernel
theorem dX9_reduce_50 : decode cX9_reduce 50 = .ok (.ifCond .ne 6, 3) := by decide +kernel
theorem dX9_reduce_53 : decode cX9_reduce 53 = .ok (.bipush (-3), 2) := by decide +kernel
theorem dX9_reduce_55 : decode cX9_reduce 55 = .ok (.ireturn, 1) := by decide +kernel
theorem dX9_reduce_56 : decode cX9_reduce 56 = .ok (.aload_n 0, 1) := by decide +kernel
theorem dX9_reduce_57 : decode cX9_reduce 57 = .ok (.dup, 1) := by decide +kernel
theorem dX9_reduce_58 : decode cX9_reduce 58 = .ok (.getfield 341, 3) := by decide +kernel
theorem dX9_reduce_61 : decode cX9_reduce 61 = .ok (.iconst 1, 1) := by decide +kernel
theorem dX9_reduce_62 : decode cX9_reduce 62 = .ok (.iadd, 1) := by decide +kernel
theorem dX9_reduce_63 : decode cX9_reduce 63 = .ok (.putfield 341, 3) := by decide +kernel
theorem dX9_reduce_66 : decode cX9_reduce 66 = .ok (.aload_n 0, 1) := by decide +kernel
theorem dX9_reduce_67 : decode cX9_reduce 67 = .ok (.iload_n 2, 1) := by decide +kernel
theorem dX9_reduce_68 : decode cX9_reduce 68 = .ok (.putfield 269, 3) := by decide +kernel
theorem dX9_reduce_71 : decode cX9_reduce 71 = .ok (.aload_n 0, 1) := by decide +kernel
theorem dX9_reduce_72 : decode cX9_reduce 72 = .ok (.iconst 0, 1) := by decide +kernel
theorem dX9_reduce_73 : decode cX9_reduce 73 = .ok (.putfield 272, 3) := by decide +kernel
theorem dX9_reduce_76 : decode cX9_reduce 76 = .ok (.iload_n 1, 1) := by decide +kernel
theorem dX9_reduce_77 : decode cX9_reduce 77 = .ok (.iconst 2, 1) := by decide +kernel
theorem dX9_reduce_78 : decode cX9_reduce 78 = .ok (.if_icmp .ge 20, 3) := by decide +kernel
theorem dX9_reduce_81 : decode cX9_reduce 81 = .ok (.aload_n 0, 1) := by decide +kernel
theorem dX9_reduce_82 : decode cX9_reduce 82 = .ok (.iload_n 1, 1) := by decide +kernel
theorem dX9_reduce_83 : decode cX9_reduce 83 = .ok (.iconst 1, 1) := by decide +kernel
theorem dX9_reduce_84 : decode cX9_reduce 84 = .ok (.if_icmp .ne 7, 3) := by decide +kernel
theorem dX9_reduce_87 : decode cX9_reduce 87 = .ok (.iconst 1, 1) := by decide +kernel
theorem dX9_reduce_88 : decode cX9_reduce 88 = .ok (.goto 4, 3) := by decide +kernel
theorem dX9_reduce_91 : decode cX9_reduce 91 = .ok (.iconst 0, 1) := by decide +kernel
theorem dX9_reduce_92 : decode cX9_reduce 92 = .ok (.invokevirtual 344, 3) := by decide +kernel
theorem dX9_reduce_95 : decode cX9_reduce 95 = .ok (.goto 48, 3) := by decide +kernel
theorem dX9_reduce_98 : decode cX9_reduce 98 = .ok (.iload_n 1, 1) := by decide +kernel
theorem dX9_reduce_99 : decode cX9_reduce 99 = .ok (.iconst 2, 1) := by decide +kernel
theorem dX9_reduce_100 : decode cX9_reduce 100 = .ok (.if_icmp .ne 10, 3) := by decide +kernel
theorem dX9_reduce_103 : decode cX9_reduce 103 = .ok (.aload_n 0, 1) := by decide +kernel
theorem dX9_reduce_104 : decode cX9_reduce 104 = .ok (.invokevirtual 324, 3) := by decide +kernel
theorem dX9_reduce_107 : decode cX9_reduce 107 = .ok (.goto 36, 3) := by decide +kernel
theorem dX9_reduce_110 : decode cX9_reduce 110 = .ok (.iload_n 1, 1) := by decide +kernel
theorem dX9_reduce_111 : decode cX9_reduce 111 = .ok (.iconst 3, 1) := by decide +kernel
theorem dX9_reduce_112 : decode cX9_reduce 112 = .ok (.if_icmp .ne 10, 3) := by decide +kernel
theorem dX9_reduce_115 : decode cX9_reduce 115 = .ok (.aload_n 0, 1) := by decide +kernel
theorem dX9_reduce_116 : decode cX9_reduce 116 = .ok (.invokevirtual 348, 3) := by decide +kernel
theorem dX9_reduce_119 : decode cX9_reduce 119 = .ok (.goto 24, 3) := by decide +kernel
theorem dX9_reduce_122 : decode cX9_reduce 122 = .ok (.iconst 1, 1) := by decide +kernel
theorem dX9_reduce_123 : decode cX9_reduce 123 = .ok (.istore_n 3, 1) := by decide +kernel
theorem dX9_reduce_124 : decode cX9_reduce 124 = .ok (.iload_n 3, 1) := by decide +kernel
theorem dX9_reduce_125 : decode cX9_reduce 125 = .ok (.ifCond .eq 18, 3) := by decide +kernel
theorem dX9_reduce_128 : decode cX9_reduce 128 = .ok (.aload_n 0, 1) := by decide +kernel
theorem dX9_reduce_129 : decode cX9_reduce 129 = .ok (.getfield 272, 3) := by decide +kernel
theorem dX9_reduce_132 : decode cX9_reduce 132 = .ok (.ifCond .ne 11, 3) := by decide +kernel
theorem dX9_reduce_135 : decode cX9_reduce 135 = .ok (.aload_n 0, 1) := by decide +kernel
theorem dX9_reduce_136 : decode cX9_reduce 136 = .ok (.invokevirtual 351, 3) := by decide +kernel
theorem dX9_reduce_139 : decode cX9_reduce 139 = .ok (.istore_n 3, 1) := by decide +kernel
theorem dX9_reduce_140 : decode cX9_reduce 140 = .ok (.goto (-16), 3) := by decide +kernel
theorem dX9_reduce_143 : decode cX9_reduce 143 = .ok (.aload_n 0, 1) := by decide +kernel
theorem dX9_reduce_144 : decode cX9_reduce 144 = .ok (.getfield 145, 3) := by decide +kernel
theorem dX9_reduce_147 : decode cX9_reduce 147 = .ok (.ireturn, 1) := by decide +kernel
theorem dX9_remember_0 : decode cX9_remember 0 = .ok (.aload_n 0, 1) := by decide +kernel
theorem dX9_remember_1 : decode cX9_remember 1 = .ok (.iload_n 1, 1) := by decide +kernel
theorem dX9_remember_2 : decode cX9_remember 2 = .ok (.putfield 98, 3) := by decide +kernel
theorem dX9_remember_5 : decode cX9_remember 5 = .ok (.aload_n 0, 1) := by decide +kernel
theorem dX9_remember_6 : decode cX9_remember 6 = .ok (.iconst 0, 1) := by decide +kernel
theorem dX9_remember_7 : decode cX9_remember 7 = .ok (.putfield 166, 3) := by decide +kernel
theorem dX9_remember_10 : decode cX9_remember 10 = .ok (.return_, 1) := by decide +kernel
theorem dX9_length_0 : decode cX9_length 0 = .ok (.aload_n 0, 1) := by decide +kernel
theorem dX9_length_1 : decode cX9_length 1 = .ok (.getfield 145, 3) := by decide +kernel
theorem dX9_length_4 : decode cX9_length 4 = .ok (.ireturn, 1) := by decide +kernel
theorem dX9_at_0 : decode cX9_at 0 = .ok (.iload_n 1, 1) := by decide +kernel
theorem dX9_at_1 : decode cX9_at 1 = .ok (.ifCond .lt 21, 3) := by decide +kernel
theorem dX9_at_4 : decode cX9_at 4 = .ok (.iload_n 1, 1) := by decide +kernel
theorem dX9_at_5 : decode cX9_at 5 = .ok (.aload_n 0, 1) := by decide +kernel
theorem dX9_at_6 : decode cX9_at 6 = .ok (.getfield 145, 3) := by decide +kernel
theorem dX9_at_9 : decode cX9_at 9 = .ok (.if_icmp .ge 13, 3) := by decide +kernel
theorem dX9_at_12 : decode cX9_at 12 = .ok (.aload_n 0, 1) := by decide +kernel
theorem dX9_at_13 : decode cX9_at 13 = .ok (.getfield 7, 3) := by decide +kernel
theorem dX9_at_16 : decode cX9_at 16 = .ok (.iload_n 1, 1) := by decide +kernel
theorem dX9_at_17 : decode cX9_at 17 = .ok (.iaload, 1) := by decide +kernel
theorem dX9_at_18 : decode cX9_at 18 = .ok (.i2c, 1) := by decide +kernel
theorem dX9_at_19 : decode cX9_at 19 = .ok (.goto 4, 3) := by decide +kernel
theorem dX9_at_22 : decode cX9_at 22 = .ok (.iconst 0, 1) := by decide +kernel
theorem dX9_at_23 : decode cX9_at 23 = .ok (.ireturn, 1) := by decide +kernel
theorem dX9_count_0 : decode cX9_count 0 = .ok (.iload_n 1, 1) := by decide +kernel
theorem dX9_count_1 : decode cX9_count 1 = .ok (.tableswitch 68 0 4 #[35, 40, 45, 50, 63], 35) := by decide +kernel
theorem dX9_count_36 : decode cX9_count 36 = .ok (.aload_n 0, 1) := by decide +kernel
theorem dX9_count_37 : decode cX9_count 37 = .ok (.getfield 278, 3) := by decide +kernel
theorem dX9_count_40 : decode cX9_count 40 = .ok (.ireturn, 1) := by decide +kernel
theorem dX9_count_41 : decode cX9_count 41 = .ok (.aload_n 0, 1) := by decide +kernel
theorem dX9_count_42 : decode cX9_count 42 = .ok (.getfield 275, 3) := by decide +kernel
theorem dX9_count_45 : decode cX9_count 45 = .ok (.ireturn, 1) := by decide +kernel
theorem dX9_count_46 : decode cX9_count 46 = .ok (.aload_n 0, 1) := by decide +kernel
theorem dX9_count_47 : decode cX9_count 47 = .ok (.getfield 341, 3) := by decide +kernel
theorem dX9_count_50 : decode cX9_count 50 = .ok (.ireturn, 1) := by decide +kernel
theorem dX9_count_51 : decode cX9_count 51 = .ok (.aload_n 0, 1) := by decide +kernel
theorem dX9_count_52 : decode cX9_count 52 = .ok (.getfield 272, 3) := by decide +kernel
theorem dX9_count_55 : decode cX9_count 55 = .ok (.ifCond .eq 7, 3) := by decide +kernel
theorem dX9_count_58 : decode cX9_count 58 = .ok (.iconst 1, 1) := by decide +kernel
theorem dX9_count_59 : decode cX9_count 59 = .ok (.goto 4, 3) := by decide +kernel
theorem dX9_count_62 : decode cX9_count 62 = .ok (.iconst 0, 1) := by decide +kernel
theorem dX9_count_63 : decode cX9_count 63 = .ok (.ireturn, 1) := by decide +kernel
theorem dX9_count_64 : decode cX9_count 64 = .ok (.aload_n 0, 1) := by decide +kernel
theorem dX9_count_65 : decode cX9_count 65 = .ok (.getfield 166, 3) := by decide +kernel
theorem dX9_count_68 : decode cX9_count 68 = .ok (.ireturn, 1) := by decide +kernel
theorem dX9_count_69 : decode cX9_count 69 = .ok (.iconst (-1), 1) := by decide +kernel
theorem dX9_count_70 : decode cX9_count 70 = .ok (.ireturn, 1) := by decide +kernel
theorem dL_law_0 : decode cL_law 0 = .ok (.new 7, 3) := by decide +kernel
theorem dL_law_3 : decode cL_law 3 = .ok (.dup, 1) := by decide +kernel
theorem dL_law_4 : decode cL_law 4 = .ok (.invokespecial 9, 3) := by decide +kernel
theorem dL_law_7 : decode cL_law 7 = .ok (.astore_n 1, 1) := by decide +kernel
theorem dL_law_8 : decode cL_law 8 = .ok (.new 10, 3) := by decide +kernel
theorem dL_law_11 : decode cL_law 11 = .ok (.dup, 1) := by decide +kernel
theorem dL_law_12 : decode cL_law 12 = .ok (.invokespecial 12, 3) := by decide +kernel
theorem dL_law_15 : decode cL_law 15 = .ok (.astore_n 2, 1) := by decide +kernel
theorem dL_law_16 : decode cL_law 16 = .ok (.iconst 0, 1) := by decide +kernel
theorem dL_law_17 : decode cL_law 17 = .ok (.istore_n 3, 1) := by decide +kernel
theorem dL_law_18 : decode cL_law 18 = .ok (.iload_n 3, 1) := by decide +kernel
theorem dL_law_19 : decode cL_law 19 = .ok (.aload_n 0, 1) := by decide +kernel
theorem dL_law_20 : decode cL_law 20 = .ok (.arraylength, 1) := by decide +kernel
theorem dL_law_21 : decode cL_law 21 = .ok (.iconst 4, 1) := by decide +kernel
theorem dL_law_22 : decode cL_law 22 = .ok (.isub, 1) := by decide +kernel
theorem dL_law_23 : decode cL_law 23 = .ok (.if_icmp .gt 594, 3) := by decide +kernel
theorem dL_law_26 : decode cL_law 26 = .ok (.aload_n 0, 1) := by decide +kernel
theorem dL_law_27 : decode cL_law 27 = .ok (.iload_n 3, 1) := by decide +kernel
theorem dL_law_28 : decode cL_law 28 = .ok (.iaload, 1) := by decide +kernel
theorem dL_law_29 : decode cL_law 29 = .ok (.bipush 31, 2) := by decide +kernel
theorem dL_law_31 : decode cL_law 31 = .ok (.iand, 1) := by decide +kernel
theorem dL_law_32 : decode cL_law 32 = .ok (.tableswitch 579 0 18 #[92, 117, 128, 153, 166, 201, 264, 287, 300, 339, 378, 415, 428, 441, 464, 487, 520, 533, 556], 92) := by decide +kernel
theorem dL_law_124 : decode cL_law 124 = .ok (.aload_n 1, 1) := by decide +kernel
theorem dL_law_125 : decode cL_law 125 = .ok (.aload_n 0, 1) := by decide +kernel
theorem dL_law_126 : decode cL_law 126 = .ok (.iload_n 3, 1) := by decide +kernel
theorem dL_law_127 : decode cL_law 127 = .ok (.iconst 1, 1) := by decide +kernel
theorem dL_law_128 : decode cL_law 128 = .ok (.iadd, 1) := by decide +kernel
theorem dL_law_129 : decode cL_law 129 = .ok (.iaload, 1) := by decide +kernel
theorem dL_law_130 : decode cL_law 130 = .ok (.i2c, 1) := by decide +kernel
theorem dL_law_131 : decode cL_law 131 = .ok (.invokevirtual 13, 3) := by decide +kernel
theorem dL_law_134 : decode cL_law 134 = .ok (.aload_n 2, 1) := by decide +kernel
theorem dL_law_135 : decode cL_law 135 = .ok (.aload_n 0, 1) := by decide +kernel
theorem dL_law_136 : decode cL_law 136 = .ok (.iload_n 3, 1) := by decide +kernel
theorem dL_law_137 : decode cL_law 137 = .ok (.iconst 1, 1) := by decide +kernel
theorem dL_law_138 : decode cL_law 138 = .ok (.iadd, 1) := by decide +kernel
theorem dL_law_139 : decode cL_law 139 = .ok (.iaload, 1) := by decide +kernel
theorem dL_law_140 : decode cL_law 140 = .ok (.i2c, 1) := by decide +kernel
theorem dL_law_141 : decode cL_law 141 = .ok (.invokevirtual 17, 3) := by decide +kernel
theorem dL_law_144 : decode cL_law 144 = .ok (.if_icmp .eq 467, 3) := by decide +kernel
theorem dL_law_147 : decode cL_law 147 = .ok (.iconst 0, 1) := by decide +kernel
theorem dL_law_148 : decode cL_law 148 = .ok (.ireturn, 1) := by decide +kernel
theorem dL_law_149 : decode cL_law 149 = .ok (.aload_n 1, 1) := by decide +kernel
theorem dL_law_150 : decode cL_law 150 = .ok (.invokevirtual 18, 3) := by decide +kernel
theorem dL_law_153 : decode cL_law 153 = .ok (.aload_n 2, 1) := by decide +kernel
theorem dL_law_154 : decode cL_law 154 = .ok (.invokevirtual 21, 3) := by decide +kernel
theorem dL_law_157 : decode cL_law 157 = .ok (.goto 454, 3) := by decide +kernel
theorem dL_law_160 : decode cL_law 160 = .ok (.aload_n 1, 1) := by decide +kernel
theorem dL_law_161 : decode cL_law 161 = .ok (.aload_n 0, 1) := by decide +kernel
theorem dL_law_162 : decode cL_law 162 = .ok (.iload_n 3, 1) := by decide +kernel
theorem dL_law_163 : decode cL_law 163 = .ok (.iconst 1, 1) := by decide +kernel
theorem dL_law_164 : decode cL_law 164 = .ok (.iadd, 1) := by decide +kernel
theorem dL_law_165 : decode cL_law 165 = .ok (.iaload, 1) := by decide +kernel
theorem dL_law_166 : decode cL_law 166 = .ok (.i2c, 1) := by decide +kernel
theorem dL_law_167 : decode cL_law 167 = .ok (.invokevirtual 22, 3) := by decide +kernel
theorem dL_law_170 : decode cL_law 170 = .ok (.aload_n 2, 1) := by decide +kernel
theorem dL_law_171 : decode cL_law 171 = .ok (.aload_n 0, 1) := by decide +kernel
theorem dL_law_172 : decode cL_law 172 = .ok (.iload_n 3, 1) := by decide +kernel
theorem dL_law_173 : decode cL_law 173 = .ok (.iconst 1, 1) := by decide +kernel
theorem dL_law_174 : decode cL_law 174 = .ok (.iadd, 1) := by decide +kernel
theorem dL_law_175 : decode cL_law 175 = .ok (.iaload, 1) := by decide +kernel
theorem dL_law_176 : decode cL_law 176 = .ok (.i2c, 1) := by decide +kernel
theorem dL_law_177 : decode cL_law 177 = .ok (.invokevirtual 25, 3) := by decide +kernel
theorem dL_law_180 : decode cL_law 180 = .ok (.if_icmp .eq 431, 3) := by decide +kernel
theorem dL_law_183 : decode cL_law 183 = .ok (.iconst 0, 1) := by decide +kernel
theorem dL_law_184 : decode cL_law 184 = .ok (.ireturn, 1) := by decide +kernel
theorem dL_law_185 : decode cL_law 185 = .ok (.aload_n 1, 1) := by decide +kernel
theorem dL_law_186 : decode cL_law 186 = .ok (.invokevirtual 26, 3) := by decide +kernel
theorem dL_law_189 : decode cL_law 189 = .ok (.aload_n 2, 1) := by decide +kernel
theorem dL_law_190 : decode cL_law 190 = .ok (.invokevirtual 30, 3) := by decide +kernel
theorem dL_law_193 : decode cL_law 193 = .ok (.if_icmp .eq 418, 3) := by decide +kernel
theorem dL_law_196 : decode cL_law 196 = .ok (.iconst 0, 1) := by decide +kernel
theorem dL_law_197 : decode cL_law 197 = .ok (.ireturn, 1) := by decide +kernel
theorem dL_law_198 : decode cL_law 198 = .ok (.aload_n 1, 1) := by decide +kernel
theorem dL_law_199 : decode cL_law 199 = .ok (.aload_n 0, 1) := by decide +kernel
theorem dL_law_200 : decode cL_law 200 = .ok (.iload_n 3, 1) := by decide +kernel
theorem dL_law_201 : decode cL_law 201 = .ok (.iconst 1, 1) := by decide +kernel
theorem dL_law_202 : decode cL_law 202 = .ok (.iadd, 1) := by decide +kernel
theorem dL_law_203 : decode cL_law 203 = .ok (.iaload, 1) := by decide +kernel
theorem dL_law_204 : decode cL_law 204 = .ok (.i2c, 1) := by decide +kernel
theorem dL_law_205 : decode cL_law 205 = .ok (.aload_n 0, 1) := by decide +kernel
theorem dL_law_206 : decode cL_law 206 = .ok (.iload_n 3, 1) := by decide +kernel
theorem dL_law_207 : decode cL_law 207 = .ok (.iconst 2, 1) := by decide +kernel
theorem dL_law_208 : decode cL_law 208 = .ok (.iadd, 1) := by decide +kernel
theorem dL_law_209 : decode cL_law 209 = .ok (.iaload, 1) := by decide +kernel
theorem dL_law_210 : decode cL_law 210 = .ok (.invokevirtual 31, 3) := by decide +kernel
theorem dL_law_213 : decode cL_law 213 = .ok (.aload_n 2, 1) := by decide +kernel
theorem dL_law_214 : decode cL_law 214 = .ok (.aload_n 0, 1) := by decide +kernel
theorem dL_law_215 : decode cL_law 215 = .ok (.iload_n 3, 1) := by decide +kernel
theorem dL_law_216 : decode cL_law 216 = .ok (.iconst 1, 1) := by decide +kernel
theorem dL_law_217 : decode cL_law 217 = .ok (.iadd, 1) := by decide +kernel
theorem dL_law_218 : decode cL_law 218 = .ok (.iaload, 1) := by decide +kernel
theorem dL_law_219 : decode cL_law 219 = .ok (.i2c, 1) := by decide +kernel
theorem dL_law_220 : decode cL_law 220 = .ok (.aload_n 0, 1) := by decide +kernel
theorem dL_law_221 : decode cL_law 221 = .ok (.iload_n 3, 1) := by decide +kernel
theorem dL_law_222 : decode cL_law 222 = .ok (.iconst 2, 1) := by decide +kernel
theorem dL_law_223 : decode cL_law 223 = .ok (.iadd, 1) := by decide +kernel
theorem dL_law_224 : decode cL_law 224 = .ok (.iaload, 1) := by decide +kernel
theorem dL_law_225 : decode cL_law 225 = .ok (.invokevirtual 35, 3) := by decide +kernel
theorem dL_law_228 : decode cL_law 228 = .ok (.if_icmp .eq 383, 3) := by decide +kernel
theorem dL_law_231 : decode cL_law 231 = .ok (.iconst 0, 1) := by decide +kernel
theorem dL_law_232 : decode cL_law 232 = .ok (.ireturn, 1) := by decide +kernel
theorem dL_law_233 : decode cL_law 233 = .ok (.aload_n 1, 1) := by decide +kernel
theorem dL_law_234 : decode cL_law 234 = .ok (.aload_n 0, 1) := by decide +kernel
theorem dL_law_235 : decode cL_law 235 = .ok (.iload_n 3, 1) := by decide +kernel
theorem dL_law_236 : decode cL_law 236 = .ok (.iconst 1, 1) := by decide +kernel
theorem dL_law_237 : decode cL_law 237 = .ok (.iadd, 1) := by decide +kernel
theorem dL_law_238 : decode cL_law 238 = .ok (.iaload, 1) := by decide +kernel
theorem dL_law_239 : decode cL_law 239 = .ok (.i2c, 1) := by decide +kernel
theorem dL_law_240 : decode cL_law 240 = .ok (.aload_n 0, 1) := by decide +kernel
theorem dL_law_241 : decode cL_law 241 = .ok (.iload_n 3, 1) := by decide +kernel
theorem dL_law_242 : decode cL_law 242 = .ok (.iconst 2, 1) := by decide +kernel
theorem dL_law_243 : decode cL_law 243 = .ok (.iadd, 1) := by decide +kernel
theorem dL_law_244 : decode cL_law 244 = .ok (.iaload, 1) := by decide +kernel
theorem dL_law_245 : decode cL_law 245 = .ok (.i2c, 1) := by decide +kernel
theorem dL_law_246 : decode cL_law 246 = .ok (.aload_n 0, 1) := by decide +kernel
theorem dL_law_247 : decode cL_law 247 = .ok (.iload_n 3, 1) := by decide +kernel
theorem dL_law_248 : decode cL_law 248 = .ok (.iconst 3, 1) := by decide +kernel
theorem dL_law_249 : decode cL_law 249 = .ok (.iadd, 1) := by decide +kernel
theorem dL_law_250 : decode cL_law 250 = .ok (.iaload, 1) := by decide +kernel
theorem dL_law_251 : decode cL_law 251 = .ok (.ifCond .eq 7, 3) := by decide +kernel
theorem dL_law_254 : decode cL_law 254 = .ok (.iconst 1, 1) := by decide +kernel
theorem dL_law_255 : decode cL_law 255 = .ok (.goto 4, 3) := by decide +kernel
theorem dL_law_258 : decode cL_law 258 = .ok (.iconst 0, 1) := by decide +kernel
theorem dL_law_259 : decode cL_law 259 = .ok (.invokevirtual 36, 3) := by decide +kernel
theorem dL_law_262 : decode cL_law 262 = .ok (.aload_n 2, 1) := by decide +kernel
theorem dL_law_263 : decode cL_law 263 = .ok (.aload_n 0, 1) := by decide +kernel
theorem dL_law_264 : decode cL_law 264 = .ok (.iload_n 3, 1) := by decide +kernel
theorem dL_law_265 : decode cL_law 265 = .ok (.iconst 1, 1) := by decide +kernel
theorem dL_law_266 : decode cL_law 266 = .ok (.iadd, 1) := by decide +kernel
theorem dL_law_267 : decode cL_law 267 = .ok (.iaload, 1) := by decide +kernel
theorem dL_law_268 : decode cL_law 268 = .ok (.i2c, 1) := by decide +kernel
theorem dL_law_269 : decode cL_law 269 = .ok (.aload_n 0, 1) := by decide +kernel
theorem dL_law_270 : decode cL_law 270 = .ok (.iload_n 3, 1) := by decide +kernel
theorem dL_law_271 : decode cL_law 271 = .ok (.iconst 2, 1) := by decide +kernel
theorem dL_law_272 : decode cL_law 272 = .ok (.iadd, 1) := by decide +kernel
theorem dL_law_273 : decode cL_law 273 = .ok (.iaload, 1) := by decide +kernel
theorem dL_law_274 : decode cL_law 274 = .ok (.i2c, 1) := by decide +kernel
theorem dL_law_275 : decode cL_law 275 = .ok (.aload_n 0, 1) := by decide +kernel
theorem dL_law_276 : decode cL_law 276 = .ok (.iload_n 3, 1) := by decide +kernel
theorem dL_law_277 : decode cL_law 277 = .ok (.iconst 3, 1) := by decide +kernel
theorem dL_law_278 : decode cL_law 278 = .ok (.iadd, 1) := by decide +kernel
theorem dL_law_279 : decode cL_law 279 = .ok (.iaload, 1) := by decide +kernel
theorem dL_law_280 : decode cL_law 280 = .ok (.ifCond .eq 7, 3) := by decide +kernel
theorem dL_law_283 : decode cL_law 283 = .ok (.iconst 1, 1) := by decide +kernel
theorem dL_law_284 : decode cL_law 284 = .ok (.goto 4, 3) := by decide +kernel
theorem dL_law_287 : decode cL_law 287 = .ok (.iconst 0, 1) := by decide +kernel
theorem dL_law_288 : decode cL_law 288 = .ok (.invokevirtual 40, 3) := by decide +kernel
theorem dL_law_291 : decode cL_law 291 = .ok (.if_icmp .eq 320, 3) := by decide +kernel
theorem dL_law_294 : decode cL_law 294 = .ok (.iconst 0, 1) := by decide +kernel
theorem dL_law_295 : decode cL_law 295 = .ok (.ireturn, 1) := by decide +kernel
theorem dL_law_296 : decode cL_law 296 = .ok (.aload_n 1, 1) := by decide +kernel
theorem dL_law_297 : decode cL_law 297 = .ok (.aload_n 0, 1) := by decide +kernel
theorem dL_law_298 : decode cL_law 298 = .ok (.iload_n 3, 1) := by decide +kernel
theorem dL_law_299 : decode cL_law 299 = .ok (.iconst 1, 1) := by decide +kernel
theorem dL_law_300 : decode cL_law 300 = .ok (.iadd, 1) := by decide +kernel
theorem dL_law_301 : decode cL_law 301 = .ok (.iaload, 1) := by decide +kernel
theorem dL_law_302 : decode cL_law 302 = .ok (.invokevirtual 41, 3) := by decide +kernel
theorem dL_law_305 : decode cL_law 305 = .ok (.aload_n 2, 1) := by decide +kernel
theorem dL_law_306 : decode cL_law 306 = .ok (.aload_n 0, 1) := by decide +kernel
theorem dL_law_307 : decode cL_law 307 = .ok (.iload_n 3, 1) := by decide +kernel
theorem dL_law_308 : decode cL_law 308 = .ok (.iconst 1, 1) := by decide +kernel
theorem dL_law_309 : decode cL_law 309 = .ok (.iadd, 1) := by decide +kernel
theorem dL_law_310 : decode cL_law 310 = .ok (.iaload, 1) := by decide +kernel
theorem dL_law_311 : decode cL_law 311 = .ok (.invokevirtual 45, 3) := by decide +kernel
theorem dL_law_314 : decode cL_law 314 = .ok (.if_icmp .eq 297, 3) := by decide +kernel
theorem dL_law_317 : decode cL_law 317 = .ok (.iconst 0, 1) := by decide +kernel
theorem dL_law_318 : decode cL_law 318 = .ok (.ireturn, 1) := by decide +kernel
theorem dL_law_319 : decode cL_law 319 = .ok (.aload_n 1, 1) := by decide +kernel
theorem dL_law_320 : decode cL_law 320 = .ok (.invokevirtual 46, 3) := by decide +kernel
theorem dL_law_323 : decode cL_law 323 = .ok (.aload_n 2, 1) := by decide +kernel
theorem dL_law_324 : decode cL_law 324 = .ok (.invokevirtual 50, 3) := by decide +kernel
theorem dL_law_327 : decode cL_law 327 = .ok (.if_icmp .eq 284, 3) := by decide +kernel
theorem dL_law_330 : decode cL_law 330 = .ok (.iconst 0, 1) := by decide +kernel
theorem dL_law_331 : decode cL_law 331 = .ok (.ireturn, 1) := by decide +kernel
theorem dL_law_332 : decode cL_law 332 = .ok (.aload_n 1, 1) := by decide +kernel
theorem dL_law_333 : decode cL_law 333 = .ok (.aload_n 0, 1) := by decide +kernel
theorem dL_law_334 : decode cL_law 334 = .ok (.iload_n 3, 1) := by decide +kernel
theorem dL_law_335 : decode cL_law 335 = .ok (.iconst 1, 1) := by decide +kernel
theorem dL_law_336 : decode cL_law 336 = .ok (.iadd, 1) := by decide +kernel
theorem dL_law_337 : decode cL_law 337 = .ok (.iaload, 1) := by decide +kernel
theorem dL_law_338 : decode cL_law 338 = .ok (.ifCond .eq 7, 3) := by decide +kernel
theorem dL_law_341 : decode cL_law 341 = .ok (.iconst 1, 1) := by decide +kernel
theorem dL_law_342 : decode cL_law 342 = .ok (.goto 4, 3) := by decide +kernel
theorem dL_law_345 : decode cL_law 345 = .ok (.iconst 0, 1) := by decide +kernel
theorem dL_law_346 : decode cL_law 346 = .ok (.invokevirtual 51, 3) := by decide +kernel
theorem dL_law_349 : decode cL_law 349 = .ok (.aload_n 2, 1) := by decide +kernel
theorem dL_law_350 : decode cL_law 350 = .ok (.aload_n 0, 1) := by decide +kernel
theorem dL_law_351 : decode cL_law 351 = .ok (.iload_n 3, 1) := by decide +kernel
theorem dL_law_352 : decode cL_law 352 = .ok (.iconst 1, 1) := by decide +kernel
theorem dL_law_353 : decode cL_law 353 = .ok (.iadd, 1) := by decide +kernel
theorem dL_law_354 : decode cL_law 354 = .ok (.iaload, 1) := by decide +kernel
theorem dL_law_355 : decode cL_law 355 = .ok (.ifCond .eq 7, 3) := by decide +kernel
theorem dL_law_358 : decode cL_law 358 = .ok (.iconst 1, 1) := by decide +kernel
theorem dL_law_359 : decode cL_law 359 = .ok (.goto 4, 3) := by decide +kernel
theorem dL_law_362 : decode cL_law 362 = .ok (.iconst 0, 1) := by decide +kernel
theorem dL_law_363 : decode cL_law 363 = .ok (.invokevirtual 55, 3) := by decide +kernel
theorem dL_law_366 : decode cL_law 366 = .ok (.if_icmp .eq 245, 3) := by decide +kernel
theorem dL_law_369 : decode cL_law 369 = .ok (.iconst 0, 1) := by decide +kernel
theorem dL_law_370 : decode cL_law 370 = .ok (.ireturn, 1) := by decide +kernel
theorem dL_law_371 : decode cL_law 371 = .ok (.aload_n 1, 1) := by decide +kernel
theorem dL_law_372 : decode cL_law 372 = .ok (.aload_n 0, 1) := by decide +kernel
theorem dL_law_373 : decode cL_law 373 = .ok (.iload_n 3, 1) := by decide +kernel
theorem dL_law_374 : decode cL_law 374 = .ok (.iconst 1, 1) := by decide +kernel
theorem dL_law_375 : decode cL_law 375 = .ok (.iadd, 1) := by decide +kernel
theorem dL_law_376 : decode cL_law 376 = .ok (.iaload, 1) := by decide +kernel
theorem dL_law_377 : decode cL_law 377 = .ok (.ifCond .eq 7, 3) := by decide +kernel
theorem dL_law_380 : decode cL_law 380 = .ok (.iconst 1, 1) := by decide +kernel
theorem dL_law_381 : decode cL_law 381 = .ok (.goto 4, 3) := by decide +kernel
theorem dL_law_384 : decode cL_law 384 = .ok (.iconst 0, 1) := by decide +kernel
theorem dL_law_385 : decode cL_law 385 = .ok (.invokevirtual 56, 3) := by decide +kernel
theorem dL_law_388 : decode cL_law 388 = .ok (.aload_n 2, 1) := by decide +kernel
theorem dL_law_389 : decode cL_law 389 = .ok (.aload_n 0, 1) := by decide +kernel
theorem dL_law_390 : decode cL_law 390 = .ok (.iload_n 3, 1) := by decide +kernel
theorem dL_law_391 : decode cL_law 391 = .ok (.iconst 1, 1) := by decide +kernel
theorem dL_law_392 : decode cL_law 392 = .ok (.iadd, 1) := by decide +kernel
theorem dL_law_393 : decode cL_law 393 = .ok (.iaload, 1) := by decide +kernel
theorem dL_law_394 : decode cL_law 394 = .ok (.ifCond .eq 7, 3) := by decide +kernel
theorem dL_law_397 : decode cL_law 397 = .ok (.iconst 1, 1) := by decide +kernel
theorem dL_law_398 : decode cL_law 398 = .ok (.goto 4, 3) := by decide +kernel
theorem dL_law_401 : decode cL_law 401 = .ok (.iconst 0, 1) := by decide +kernel
theorem dL_law_402 : decode cL_law 402 = .ok (.invokevirtual 59, 3) := by decide +kernel
theorem dL_law_405 : decode cL_law 405 = .ok (.if_icmp .eq 206, 3) := by decide +kernel
theorem dL_law_408 : decode cL_law 408 = .ok (.iconst 0, 1) := by decide +kernel
theorem dL_law_409 : decode cL_law 409 = .ok (.ireturn, 1) := by decide +kernel
theorem dL_law_410 : decode cL_law 410 = .ok (.aload_n 1, 1) := by decide +kernel
theorem dL_law_411 : decode cL_law 411 = .ok (.aload_n 0, 1) := by decide +kernel
theorem dL_law_412 : decode cL_law 412 = .ok (.iload_n 3, 1) := by decide +kernel
theorem dL_law_413 : decode cL_law 413 = .ok (.iconst 1, 1) := by decide +kernel
theorem dL_law_414 : decode cL_law 414 = .ok (.iadd, 1) := by decide +kernel
theorem dL_law_415 : decode cL_law 415 = .ok (.iaload, 1) := by decide +kernel
theorem dL_law_416 : decode cL_law 416 = .ok (.ifCond .eq 7, 3) := by decide +kernel
theorem dL_law_419 : decode cL_law 419 = .ok (.iconst 1, 1) := by decide +kernel
theorem dL_law_420 : decode cL_law 420 = .ok (.goto 4, 3) := by decide +kernel
theorem dL_law_423 : decode cL_law 423 = .ok (.iconst 0, 1) := by decide +kernel
theorem dL_law_424 : decode cL_law 424 = .ok (.invokevirtual 60, 3) := by decide +kernel
theorem dL_law_427 : decode cL_law 427 = .ok (.aload_n 2, 1) := by decide +kernel
theorem dL_law_428 : decode cL_law 428 = .ok (.aload_n 0, 1) := by decide +kernel
theorem dL_law_429 : decode cL_law 429 = .ok (.iload_n 3, 1) := by decide +kernel
theorem dL_law_430 : decode cL_law 430 = .ok (.iconst 1, 1) := by decide +kernel
theorem dL_law_431 : decode cL_law 431 = .ok (.iadd, 1) := by decide +kernel
theorem dL_law_432 : decode cL_law 432 = .ok (.iaload, 1) := by decide +kernel
theorem dL_law_433 : decode cL_law 433 = .ok (.ifCond .eq 7, 3) := by decide +kernel
theorem dL_law_436 : decode cL_law 436 = .ok (.iconst 1, 1) := by decide +kernel
theorem dL_law_437 : decode cL_law 437 = .ok (.goto 4, 3) := by decide +kernel
theorem dL_law_440 : decode cL_law 440 = .ok (.iconst 0, 1) := by decide +kernel
theorem dL_law_441 : decode cL_law 441 = .ok (.invokevirtual 64, 3) := by decide +kernel
theorem dL_law_444 : decode cL_law 444 = .ok (.goto 167, 3) := by decide +kernel
theorem dL_law_447 : decode cL_law 447 = .ok (.aload_n 1, 1) := by decide +kernel
theorem dL_law_448 : decode cL_law 448 = .ok (.invokevirtual 65, 3) := by decide +kernel
theorem dL_law_451 : decode cL_law 451 = .ok (.aload_n 2, 1) := by decide +kernel
theorem dL_law_452 : decode cL_law 452 = .ok (.invokevirtual 68, 3) := by decide +kernel
theorem dL_law_455 : decode cL_law 455 = .ok (.if_icmp .eq 156, 3) := by decide +kernel
theorem dL_law_458 : decode cL_law 458 = .ok (.iconst 0, 1) := by decide +kernel
theorem dL_law_459 : decode cL_law 459 = .ok (.ireturn, 1) := by decide +kernel
theorem dL_law_460 : decode cL_law 460 = .ok (.aload_n 1, 1) := by decide +kernel
theorem dL_law_461 : decode cL_law 461 = .ok (.invokevirtual 69, 3) := by decide +kernel
theorem dL_law_464 : decode cL_law 464 = .ok (.aload_n 2, 1) := by decide +kernel
theorem dL_law_465 : decode cL_law 465 = .ok (.invokevirtual 72, 3) := by decide +kernel
theorem dL_law_468 : decode cL_law 468 = .ok (.if_icmp .eq 143, 3) := by decide +kernel
theorem dL_law_471 : decode cL_law 471 = .ok (.iconst 0, 1) := by decide +kernel
theorem dL_law_472 : decode cL_law 472 = .ok (.ireturn, 1) := by decide +kernel
theorem dL_law_473 : decode cL_law 473 = .ok (.aload_n 1, 1) := by decide +kernel
theorem dL_law_474 : decode cL_law 474 = .ok (.aload_n 0, 1) := by decide +kernel
theorem dL_law_475 : decode cL_law 475 = .ok (.iload_n 3, 1) := by decide +kernel
theorem dL_law_476 : decode cL_law 476 = .ok (.iconst 1, 1) := by decide +kernel
theorem dL_law_477 : decode cL_law 477 = .ok (.iadd, 1) := by decide +kernel
theorem dL_law_478 : decode cL_law 478 = .ok (.iaload, 1) := by decide +kernel
theorem dL_law_479 : decode cL_law 479 = .ok (.invokevirtual 73, 3) := by decide +kernel
theorem dL_law_482 : decode cL_law 482 = .ok (.aload_n 2, 1) := by decide +kernel
theorem dL_law_483 : decode cL_law 483 = .ok (.aload_n 0, 1) := by decide +kernel
theorem dL_law_484 : decode cL_law 484 = .ok (.iload_n 3, 1) := by decide +kernel
theorem dL_law_485 : decode cL_law 485 = .ok (.iconst 1, 1) := by decide +kernel
theorem dL_law_486 : decode cL_law 486 = .ok (.iadd, 1) := by decide +kernel
theorem dL_law_487 : decode cL_law 487 = .ok (.iaload, 1) := by decide +kernel
theorem dL_law_488 : decode cL_law 488 = .ok (.invokevirtual 77, 3) := by decide +kernel
theorem dL_law_491 : decode cL_law 491 = .ok (.if_icmp .eq 120, 3) := by decide +kernel
theorem dL_law_494 : decode cL_law 494 = .ok (.iconst 0, 1) := by decide +kernel
theorem dL_law_495 : decode cL_law 495 = .ok (.ireturn, 1) := by decide +kernel
theorem dL_law_496 : decode cL_law 496 = .ok (.aload_n 1, 1) := by decide +kernel
theorem dL_law_497 : decode cL_law 497 = .ok (.aload_n 0, 1) := by decide +kernel
theorem dL_law_498 : decode cL_law 498 = .ok (.iload_n 3, 1) := by decide +kernel
theorem dL_law_499 : decode cL_law 499 = .ok (.iconst 1, 1) := by decide +kernel
theorem dL_law_500 : decode cL_law 500 = .ok (.iadd, 1) := by decide +kernel
theorem dL_law_501 : decode cL_law 501 = .ok (.iaload, 1) := by decide +kernel
theorem dL_law_502 : decode cL_law 502 = .ok (.invokevirtual 78, 3) := by decide +kernel
theorem dL_law_505 : decode cL_law 505 = .ok (.aload_n 2, 1) := by decide +kernel
theorem dL_law_506 : decode cL_law 506 = .ok (.aload_n 0, 1) := by decide +kernel
theorem dL_law_507 : decode cL_law 507 = .ok (.iload_n 3, 1) := by decide +kernel
theorem dL_law_508 : decode cL_law 508 = .ok (.iconst 1, 1) := by decide +kernel
theorem dL_law_509 : decode cL_law 509 = .ok (.iadd, 1) := by decide +kernel
theorem dL_law_510 : decode cL_law 510 = .ok (.iaload, 1) := by decide +kernel
theorem dL_law_511 : decode cL_law 511 = .ok (.invokevirtual 81, 3) := by decide +kernel
theorem dL_law_514 : decode cL_law 514 = .ok (.if_icmp .eq 97, 3) := by decide +kernel
theorem dL_law_517 : decode cL_law 517 = .ok (.iconst 0, 1) := by decide +kernel
theorem dL_law_518 : decode cL_law 518 = .ok (.ireturn, 1) := by decide +kernel
theorem dL_law_519 : decode cL_law 519 = .ok (.aload_n 1, 1) := by decide +kernel
theorem dL_law_520 : decode cL_law 520 = .ok (.aload_n 0, 1) := by decide +kernel
theorem dL_law_521 : decode cL_law 521 = .ok (.iload_n 3, 1) := by decide +kernel
theorem dL_law_522 : decode cL_law 522 = .ok (.iconst 1, 1) := by decide +kernel
theorem dL_law_523 : decode cL_law 523 = .ok (.iadd, 1) := by decide +kernel
theorem dL_law_524 : decode cL_law 524 = .ok (.iaload, 1) := by decide +kernel
theorem dL_law_525 : decode cL_law 525 = .ok (.aload_n 0, 1) := by decide +kernel
theorem dL_law_526 : decode cL_law 526 = .ok (.iload_n 3, 1) := by decide +kernel
theorem dL_law_527 : decode cL_law 527 = .ok (.iconst 2, 1) := by decide +kernel
theorem dL_law_528 : decode cL_law 528 = .ok (.iadd, 1) := by decide +kernel
theorem dL_law_529 : decode cL_law 529 = .ok (.iaload, 1) := by decide +kernel
theorem dL_law_530 : decode cL_law 530 = .ok (.invokevirtual 82, 3) := by decide +kernel
theorem dL_law_533 : decode cL_law 533 = .ok (.aload_n 2, 1) := by decide +kernel
theorem dL_law_534 : decode cL_law 534 = .ok (.aload_n 0, 1) := by decide +kernel
theorem dL_law_535 : decode cL_law 535 = .ok (.iload_n 3, 1) := by decide +kernel
theorem dL_law_536 : decode cL_law 536 = .ok (.iconst 1, 1) := by decide +kernel
theorem dL_law_537 : decode cL_law 537 = .ok (.iadd, 1) := by decide +kernel
theorem dL_law_538 : decode cL_law 538 = .ok (.iaload, 1) := by decide +kernel
theorem dL_law_539 : decode cL_law 539 = .ok (.aload_n 0, 1) := by decide +kernel
theorem dL_law_540 : decode cL_law 540 = .ok (.iload_n 3, 1) := by decide +kernel
theorem dL_law_541 : decode cL_law 541 = .ok (.iconst 2, 1) := by decide +kernel
theorem dL_law_542 : decode cL_law 542 = .ok (.iadd, 1) := by decide +kernel
theorem dL_law_543 : decode cL_law 543 = .ok (.iaload, 1) := by decide +kernel
theorem dL_law_544 : decode cL_law 544 = .ok (.invokevirtual 86, 3) := by decide +kernel
theorem dL_law_547 : decode cL_law 547 = .ok (.if_icmp .eq 64, 3) := by decide +kernel
theorem dL_law_550 : decode cL_law 550 = .ok (.iconst 0, 1) := by decide +kernel
theorem dL_law_551 : decode cL_law 551 = .ok (.ireturn, 1) := by decide +kernel
theorem dL_law_552 : decode cL_law 552 = .ok (.aload_n 1, 1) := by decide +kernel
theorem dL_law_553 : decode cL_law 553 = .ok (.invokevirtual 87, 3) := by decide +kernel
theorem dL_law_556 : decode cL_law 556 = .ok (.aload_n 2, 1) := by decide +kernel
theorem dL_law_557 : decode cL_law 557 = .ok (.invokevirtual 90, 3) := by decide +kernel
theorem dL_law_560 : decode cL_law 560 = .ok (.if_icmp .eq 51, 3) := by decide +kernel
theorem dL_law_563 : decode cL_law 563 = .ok (.iconst 0, 1) := by decide +kernel
theorem dL_law_564 : decode cL_law 564 = .ok (.ireturn, 1) := by decide +kernel
theorem dL_law_565 : decode cL_law 565 = .ok (.aload_n 1, 1) := by decide +kernel
theorem dL_law_566 : decode cL_law 566 = .ok (.aload_n 0, 1) := by decide +kernel
theorem dL_law_567 : decode cL_law 567 = .ok (.iload_n 3, 1) := by decide +kernel
theorem dL_law_568 : decode cL_law 568 = .ok (.iconst 1, 1) := by decide +kernel
theorem dL_law_569 : decode cL_law 569 = .ok (.iadd, 1) := by decide +kernel
theorem dL_law_570 : decode cL_law 570 = .ok (.iaload, 1) := by decide +kernel
theorem dL_law_571 : decode cL_law 571 = .ok (.invokevirtual 91, 3) := by decide +kernel
theorem dL_law_574 : decode cL_law 574 = .ok (.aload_n 2, 1) := by decide +kernel
theorem dL_law_575 : decode cL_law 575 = .ok (.aload_n 0, 1) := by decide +kernel
theorem dL_law_576 : decode cL_law 576 = .ok (.iload_n 3, 1) := by decide +kernel
theorem dL_law_577 : decode cL_law 577 = .ok (.iconst 1, 1) := by decide +kernel
theorem dL_law_578 : decode cL_law 578 = .ok (.iadd, 1) := by decide +kernel
theorem dL_law_579 : decode cL_law 579 = .ok (.iaload, 1) := by decide +kernel
theorem dL_law_580 : decode cL_law 580 = .ok (.invokevirtual 95, 3) := by decide +kernel
theorem dL_law_583 : decode cL_law 583 = .ok (.if_icmp .eq 28, 3) := by decide +kernel
theorem dL_law_586 : decode cL_law 586 = .ok (.iconst 0, 1) := by decide +kernel
theorem dL_law_587 : decode cL_law 587 = .ok (.ireturn, 1) := by decide +kernel
theorem dL_law_588 : decode cL_law 588 = .ok (.aload_n 1, 1) := by decide +kernel
theorem dL_law_589 : decode cL_law 589 = .ok (.aload_n 0, 1) := by decide +kernel
theorem dL_law_590 : decode cL_law 590 = .ok (.iload_n 3, 1) := by decide +kernel
theorem dL_law_591 : decode cL_law 591 = .ok (.iconst 1, 1) := by decide +kernel
theorem dL_law_592 : decode cL_law 592 = .ok (.iadd, 1) := by decide +kernel
theorem dL_law_593 : decode cL_law 593 = .ok (.iaload, 1) := by decide +kernel
theorem dL_law_594 : decode cL_law 594 = .ok (.invokevirtual 96, 3) := by decide +kernel
theorem dL_law_597 : decode cL_law 597 = .ok (.aload_n 2, 1) := by decide +kernel
theorem dL_law_598 : decode cL_law 598 = .ok (.aload_n 0, 1) := by decide +kernel
theorem dL_law_599 : decode cL_law 599 = .ok (.iload_n 3, 1) := by decide +kernel
theorem dL_law_600 : decode cL_law 600 = .ok (.iconst 1, 1) := by decide +kernel
theorem dL_law_601 : decode cL_law 601 = .ok (.iadd, 1) := by decide +kernel
theorem dL_law_602 : decode cL_law 602 = .ok (.iaload, 1) := by decide +kernel
theorem dL_law_603 : decode cL_law 603 = .ok (.invokevirtual 99, 3) := by decide +kernel
theorem dL_law_606 : decode cL_law 606 = .ok (.if_icmp .eq 5, 3) := by decide +kernel
theorem dL_law_609 : decode cL_law 609 = .ok (.iconst 0, 1) := by decide +kernel
theorem dL_law_610 : decode cL_law 610 = .ok (.ireturn, 1) := by decide +kernel
theorem dL_law_611 : decode cL_law 611 = .ok (.iinc 3 4, 3) := by decide +kernel
theorem dL_law_614 : decode cL_law 614 = .ok (.goto (-596), 3) := by decide +kernel
theorem dL_law_617 : decode cL_law 617 = .ok (.iconst 1, 1) := by decide +kernel
theorem dL_law_618 : decode cL_law 618 = .ok (.ireturn, 1) := by decide +kernel
end
section
/-! ===== PRINTED BY wip/gen/tables.py: the layout of the cells, the words of the tables by their places ===== -/
def zTB : List Cond := (k2_sels lw_privs ++ tables_1).filter goodWord
theorem zTB_t (i : Nat) {w : Cond} (h : tables_1[i]? = some w) (g : goodWord w = true) : w ∈ zTB := List.mem_filter.mpr ⟨List.mem_append_right _ (List.mem_of_getElem? h), g⟩
theorem zTB_s (i : Nat) {w : Cond} (h : (k2_sels lw_privs)[i]? = some w) (g : goodWord w = true) : w ∈ zTB := List.mem_filter.mpr ⟨List.mem_append_left _ (List.mem_of_getElem? h), g⟩
theorem zTB_good : GoodIn zTB zTB := fun w h => ⟨h, good_of_word (List.mem_filter.mp h).2⟩
/-- what a cell is: an array (element type 0 int, 1 boolean, 2 char, 3 Term; length) or an object of a class; behind the fixed ones there are Terms alone -/
def zkdL : List ((Nat × Nat) ⊕ Nat) := [.inr 8, .inr 6, .inl (2, 32), .inl (2, 60), .inl (3, 6), .inr 1, .inl (2, 768), .inl (0, 24), .inr 0, .inl (0, 6), .inl (2, 60), .inl (2, 60), .inl (0, 60), .inl (0, 61), .inl (0, 6), .inl (0, 6), .inl (1, 6), .inl (1, 6), .inl (1, 6), .inr 3, .inl (2, 32), .inl (0, 198), .inl (0, 198), .inl (0, 198), .inr 7, .inl (0, 60), .inl (1, 60), .inl (0, 60), .inl (0, 60), .inl (0, 60), .inl (0, 60), .inr 4, .inr 6, .inl (2, 32), .inl (1, 60), .inr 2, .inr 6, .inl (2, 32), .inr 6, .inl (2, 32), .inl (1, 32), .inl (1, 32), .inl (0, 60), .inl (0, 60), .inl (0, 60), .inr 9, .inl (0, 32), .inl (0, 60), .inl (0, 8), .inl (0, 8), .inl (0, 512), .inl (0, 512), .inl (0, 512), .inl (1, 64), .inl (0, 64), .inl (0, 64), .inl (0, 64), .inl (0, 6), .inl (0, 6), .inl (1, 6), .inl (1, 36), .inl (0, 6), .inl (0, 32), .inl (0, 198), .inl (0, 61), .inl (0, 61), .inl (0, 61), .inl (0, 61), .inl (0, 61), .inl (0, 61), .inl (0, 62), .inl (0, 62), .inl (0, 62), .inl (0, 62), .inl (0, 62), .inl (0, 24), .inl (0, 768), .inl (0, 32), .inl (0, 32), .inl (0, 64), .inl (0, 64), .inl (1, 61), .inl (1, 6), .inl (0, 60), .inl (0, 60), .inl (0, 60), .inl (0, 60), .inl (0, 60)]
def zkd (k : Nat) : (Nat × Nat) ⊕ Nat := zkdL.getD k (.inr 5)
/-- a field: 0 an int, 1 a reference that is set once, 2 a reference that moves -/
def zskL : List (List Nat) := [[0, 0, 0, 1, 0, 1, 1, 1, 0, 1, 0, 1, 1, 0, 1, 1, 1], [2, 2, 0, 0, 0, 0, 0, 0, 0, 1, 1], [1, 1, 1, 1, 1, 1, 0, 1, 1, 1], [1, 1, 0, 0, 1, 1, 1, 0], [1, 1, 1, 1, 1, 1, 1], [0, 0, 0, 0, 2, 2, 0], [1, 0], [1, 1, 0, 1, 1, 1, 1, 1, 1, 0], [1, 1, 0, 1, 0, 1, 1, 1, 1, 1, 0], [1, 0, 1, 0, 0, 1, 1, 1, 1, 1, 1, 0, 0, 0, 0, 0, 1, 1, 1, 1, 1, 1, 1, 1, 1, 0, 1, 0, 1, 1, 1, 1, 1, 1, 1, 1, 1, 1, 1, 0, 0, 1, 1, 0, 0, 0, 0, 0, 1, 0, 1, 0, 0, 1, 1, 0, 1, 1, 1, 1, 1, 1, 1, 0]]
def zsk (c j : Nat) : Nat := (zskL.getD c []).getD j 0
/-- where a reference that is set once leads -/
def zsfL : List (List Nat) := [[1, 3, 0, 4, 0, 5, 8, 19, 24, 31, 0], [2, 0], [], [], [], [0, 0, 0, 0, 0, 0, 0, 0, 0, 6, 7], [], [], [0, 0, 0, 9, 0, 10, 11, 12, 0, 13, 0, 14, 15, 0, 16, 17, 18], [], [], [], [], [], [], [], [], [], [], [8, 20, 0, 0, 21, 22, 23, 0], [], [], [], [], [8, 19, 0, 25, 26, 27, 28, 29, 30, 0], [], [], [], [], [], [], [1, 5, 19, 24, 35, 32, 34], [33, 0], [], [], [1, 5, 36, 38, 40, 41, 0, 42, 43, 44], [37, 0], [], [39, 0], [], [], [], [], [], [], [46, 0, 47, 0, 0, 48, 49, 50, 51, 52, 53, 0, 0, 0, 0, 0, 54, 55, 56, 57, 58, 59, 60, 61, 62, 0, 63, 0, 64, 65, 66, 67, 68, 69, 70, 71, 72, 73, 74, 0, 0, 75, 76, 0, 0, 0, 0, 0, 77, 0, 78, 0, 0, 79, 80, 0, 81, 82, 83, 84, 85, 86, 87, 0], [], [], [], [], [], [], [], [], [], [], [], [], [], [], [], [], [], [], [], [], [], [], [], [], [], [], [], [], [], [], [], [], [], [], [], [], [], [], [], [], [], []]
def zsf (k j : Nat) : Nat := (zsfL.getD k []).getD j 0
def znf (c : Nat) : Nat := ([17, 11, 10, 8, 7, 7, 2, 10, 11, 64] : List Nat).getD c 0
def zNm (c : Nat) : String := match c with
  | 0 => RX0
  | 1 => RX1
  | 2 => RX2
  | 3 => RX3
  | 4 => RX4
  | 5 => RX5
  | 6 => RX6
  | 7 => RX7
  | 8 => RX8
  | _ => RX9
def zT (c : Nat) : u_T := match c with
  | 0 => TX0
  | 1 => TX1
  | 2 => TX2
  | 3 => TX3
  | 4 => TX4
  | 5 => TX5
  | 6 => TX6
  | 7 => TX7
  | 8 => TX8
  | _ => TX9
def zty (c : Nat) : Nat → FieldType := match c with
  | 0 => tyX0
  | 1 => tyX1
  | 2 => tyX2
  | 3 => tyX3
  | 4 => tyX4
  | 5 => tyX5
  | 6 => tyX6
  | 7 => tyX7
  | 8 => tyX8
  | _ => tyX9
def zta (t : Nat) : FieldType := match t with
  | 0 => .int
  | 1 => .boolean
  | 2 => .char
  | _ => .object RX5
theorem zc_cl : ∀ c, c < 10 → vwCl[c]? = some (zNm c, zT c, znf c) := by
  intro c hc
  match c, hc with
  | 0, _ => exact rfl
  | 1, _ => exact rfl
  | 2, _ => exact rfl
  | 3, _ => exact rfl
  | 4, _ => exact rfl
  | 5, _ => exact rfl
  | 6, _ => exact rfl
  | 7, _ => exact rfl
  | 8, _ => exact rfl
  | 9, _ => exact rfl
  | c + 10, hc => omega
set_option maxRecDepth 20000 in
theorem zin_X0 : ∀ w ∈ u_ws RX0 TX0 17, w ∈ zTB := by
  have h : u_ws RX0 TX0 17 = ([127, 129, 131, 133, 135, 137, 139, 141, 143, 145, 147, 149, 151, 153, 155, 157, 159] : List Nat).filterMap (fun i => tables_1[i]?) := by decide +kernel
  have g : (u_ws RX0 TX0 17).all goodWord = true := by decide +kernel
  intro w hw
  have h1 := List.all_eq_true.mp g w hw
  rw [h] at hw
  obtain ⟨i, -, hi⟩ := List.mem_filterMap.mp hw
  exact zTB_t i hi h1
set_option maxRecDepth 20000 in
theorem zin_X1 : ∀ w ∈ u_ws RX1 TX1 11, w ∈ zTB := by
  have h : u_ws RX1 TX1 11 = ([73, 75, 77, 79, 81, 83, 85, 87, 89, 91, 93] : List Nat).filterMap (fun i => tables_1[i]?) := by decide +kernel
  have g : (u_ws RX1 TX1 11).all goodWord = true := by decide +kernel
  intro w hw
  have h1 := List.all_eq_true.mp g w hw
  rw [h] at hw
  obtain ⟨i, -, hi⟩ := List.mem_filterMap.mp hw
  exact zTB_t i hi h1
set_option maxRecDepth 20000 in
theorem zin_X2 : ∀ w ∈ u_ws RX2 TX2 10, w ∈ zTB := by
  have h : u_ws RX2 TX2 10 = ([268, 270, 272, 274, 276, 278, 280, 282, 284, 286] : List Nat).filterMap (fun i => tables_1[i]?) := by decide +kernel
  have g : (u_ws RX2 TX2 10).all goodWord = true := by decide +kernel
  intro w hw
  have h1 := List.all_eq_true.mp g w hw
  rw [h] at hw
  obtain ⟨i, -, hi⟩ := List.mem_filterMap.mp hw
  exact zTB_t i hi h1
set_option maxRecDepth 20000 in
theorem zin_X3 : ∀ w ∈ u_ws RX3 TX3 8, w ∈ zTB := by
  have h : u_ws RX3 TX3 8 = ([177, 179, 181, 183, 185, 187, 189, 191] : List Nat).filterMap (fun i => tables_1[i]?) := by decide +kernel
  have g : (u_ws RX3 TX3 8).all goodWord = true := by decide +kernel
  intro w hw
  have h1 := List.all_eq_true.mp g w hw
  rw [h] at hw
  obtain ⟨i, -, hi⟩ := List.mem_filterMap.mp hw
  exact zTB_t i hi h1
set_option maxRecDepth 20000 in
theorem zin_X4 : ∀ w ∈ u_ws RX4 TX4 7, w ∈ zTB := by
  have h : u_ws RX4 TX4 7 = ([296, 298, 300, 302, 304, 306, 308] : List Nat).filterMap (fun i => tables_1[i]?) := by decide +kernel
  have g : (u_ws RX4 TX4 7).all goodWord = true := by decide +kernel
  intro w hw
  have h1 := List.all_eq_true.mp g w hw
  rw [h] at hw
  obtain ⟨i, -, hi⟩ := List.mem_filterMap.mp hw
  exact zTB_t i hi h1
set_option maxRecDepth 20000 in
theorem zin_X5 : ∀ w ∈ u_ws RX5 TX5 7, w ∈ zTB := by
  have h : u_ws RX5 TX5 7 = ([482, 484, 486, 488, 490, 492, 494] : List Nat).filterMap (fun i => tables_1[i]?) := by decide +kernel
  have g : (u_ws RX5 TX5 7).all goodWord = true := by decide +kernel
  intro w hw
  have h1 := List.all_eq_true.mp g w hw
  rw [h] at hw
  obtain ⟨i, -, hi⟩ := List.mem_filterMap.mp hw
  exact zTB_t i hi h1
set_option maxRecDepth 20000 in
theorem zin_X6 : ∀ w ∈ u_ws RX6 TX6 2, w ∈ zTB := by
  have h : u_ws RX6 TX6 2 = ([39, 41] : List Nat).filterMap (fun i => tables_1[i]?) := by decide +kernel
  have g : (u_ws RX6 TX6 2).all goodWord = true := by decide +kernel
  intro w hw
  have h1 := List.all_eq_true.mp g w hw
  rw [h] at hw
  obtain ⟨i, -, hi⟩ := List.mem_filterMap.mp hw
  exact zTB_t i hi h1
set_option maxRecDepth 20000 in
theorem zin_X7 : ∀ w ∈ u_ws RX7 TX7 10, w ∈ zTB := by
  have h : u_ws RX7 TX7 10 = ([219, 221, 223, 225, 227, 229, 231, 233, 235, 237] : List Nat).filterMap (fun i => tables_1[i]?) := by decide +kernel
  have g : (u_ws RX7 TX7 10).all goodWord = true := by decide +kernel
  intro w hw
  have h1 := List.all_eq_true.mp g w hw
  rw [h] at hw
  obtain ⟨i, -, hi⟩ := List.mem_filterMap.mp hw
  exact zTB_t i hi h1
set_option maxRecDepth 20000 in
theorem zin_X8 : ∀ w ∈ u_ws RX8 TX8 11, w ∈ zTB := by
  have h : u_ws RX8 TX8 11 = ([322, 324, 326, 328, 330, 332, 334, 336, 338, 340, 342] : List Nat).filterMap (fun i => tables_1[i]?) := by decide +kernel
  have g : (u_ws RX8 TX8 11).all goodWord = true := by decide +kernel
  intro w hw
  have h1 := List.all_eq_true.mp g w hw
  rw [h] at hw
  obtain ⟨i, -, hi⟩ := List.mem_filterMap.mp hw
  exact zTB_t i hi h1
set_option maxRecDepth 20000 in
theorem zin_X9 : ∀ w ∈ u_ws RX9 TX9 64, w ∈ zTB := by
  have h : u_ws RX9 TX9 64 = ([849, 851, 853, 855, 857, 859, 861, 863, 865, 867, 869, 871, 873, 875, 877, 879, 881, 883, 885, 887, 889, 891, 893, 895, 897, 899, 901, 903, 905, 907, 909, 911, 913, 915, 917, 919, 921, 923, 925, 927, 929, 931, 933, 935, 937, 939, 941, 943, 945, 947, 949, 951, 953, 955, 957, 959, 961, 963, 965, 967, 969, 971, 973, 975] : List Nat).filterMap (fun i => tables_1[i]?) := by decide +kernel
  have g : (u_ws RX9 TX9 64).all goodWord = true := by decide +kernel
  intro w hw
  have h1 := List.all_eq_true.mp g w hw
  rw [h] at hw
  obtain ⟨i, -, hi⟩ := List.mem_filterMap.mp hw
  exact zTB_t i hi h1
theorem zc_in : ∀ c, c < 10 → ∀ w ∈ u_ws (zNm c) (zT c) (znf c), w ∈ zTB := by
  intro c hc
  match c, hc with
  | 0, _ => exact zin_X0
  | 1, _ => exact zin_X1
  | 2, _ => exact zin_X2
  | 3, _ => exact zin_X3
  | 4, _ => exact zin_X4
  | 5, _ => exact zin_X5
  | 6, _ => exact zin_X6
  | 7, _ => exact zin_X7
  | 8, _ => exact zin_X8
  | 9, _ => exact zin_X9
  | c + 10, hc => omega
theorem zc_ty : ∀ c, c < 10 → ∀ k, k < znf c → parseFieldDescriptor (zT c k).2.2.1 = some (zty c k) := by
  intro c hc
  match c, hc with
  | 0, _ => exact tyX0_ok
  | 1, _ => exact tyX1_ok
  | 2, _ => exact tyX2_ok
  | 3, _ => exact tyX3_ok
  | 4, _ => exact tyX4_ok
  | 5, _ => exact tyX5_ok
  | 6, _ => exact tyX6_ok
  | 7, _ => exact tyX7_ok
  | 8, _ => exact tyX8_ok
  | 9, _ => exact tyX9_ok
  | c + 10, hc => omega
theorem zc_nm : ∀ c, c < 10 → ∀ a, a < znf c → ∀ b, b < znf c → a ≠ b → (zT c a).2.1 ≠ (zT c b).2.1 := by
  intro c hc
  match c, hc with
  | 0, _ => exact nmX0
  | 1, _ => exact nmX1
  | 2, _ => exact nmX2
  | 3, _ => exact nmX3
  | 4, _ => exact nmX4
  | 5, _ => exact nmX5
  | 6, _ => exact nmX6
  | 7, _ => exact nmX7
  | 8, _ => exact nmX8
  | 9, _ => exact nmX9
  | c + 10, hc => omega
theorem zis_X0 : Cond.initialized RX0 ∈ zTB ∧ Cond.instantiable RX0 17 ∈ zTB := ⟨zTB_t 4 (by decide +kernel) rfl, zTB_t 98 (by decide +kernel) rfl⟩
theorem zis_X1 : Cond.initialized RX1 ∈ zTB ∧ Cond.instantiable RX1 11 ∈ zTB := ⟨zTB_t 3 (by decide +kernel) rfl, zTB_t 48 (by decide +kernel) rfl⟩
theorem zis_X2 : Cond.initialized RX2 ∈ zTB ∧ Cond.instantiable RX2 10 ∈ zTB := ⟨zTB_t 8 (by decide +kernel) rfl, zTB_t 249 (by decide +kernel) rfl⟩
theorem zis_X3 : Cond.initialized RX3 ∈ zTB ∧ Cond.instantiable RX3 8 ∈ zTB := ⟨zTB_t 5 (by decide +kernel) rfl, zTB_t 164 (by decide +kernel) rfl⟩
theorem zis_X4 : Cond.initialized RX4 ∈ zTB ∧ Cond.instantiable RX4 7 ∈ zTB := ⟨zTB_t 7 (by decide +kernel) rfl, zTB_t 241 (by decide +kernel) rfl⟩
theorem zis_X5 : Cond.initialized RX5 ∈ zTB ∧ Cond.instantiable RX5 7 ∈ zTB := ⟨zTB_t 10 (by decide +kernel) rfl, zTB_t 463 (by decide +kernel) rfl⟩
theorem zis_X6 : Cond.initialized RX6 ∈ zTB ∧ Cond.instantiable RX6 2 ∈ zTB := ⟨zTB_t 2 (by decide +kernel) rfl, zTB_t 21 (by decide +kernel) rfl⟩
theorem zis_X7 : Cond.initialized RX7 ∈ zTB ∧ Cond.instantiable RX7 10 ∈ zTB := ⟨zTB_t 6 (by decide +kernel) rfl, zTB_t 195 (by decide +kernel) rfl⟩
theorem zis_X8 : Cond.initialized RX8 ∈ zTB ∧ Cond.instantiable RX8 11 ∈ zTB := ⟨zTB_t 1 (by decide +kernel) rfl, zTB_t 13 (by decide +kernel) rfl⟩
theorem zis_X9 : Cond.initialized RX9 ∈ zTB ∧ Cond.instantiable RX9 64 ∈ zTB := ⟨zTB_t 9 (by decide +kernel) rfl, zTB_t 780 (by decide +kernel) rfl⟩
theorem zc_is : ∀ c, c < 10 → Cond.initialized (zNm c) ∈ zTB ∧ Cond.instantiable (zNm c) (znf c) ∈ zTB := by
  intro c hc
  match c, hc with
  | 0, _ => exact zis_X0
  | 1, _ => exact zis_X1
  | 2, _ => exact zis_X2
  | 3, _ => exact zis_X3
  | 4, _ => exact zis_X4
  | 5, _ => exact zis_X5
  | 6, _ => exact zis_X6
  | 7, _ => exact zis_X7
  | 8, _ => exact zis_X8
  | 9, _ => exact zis_X9
  | c + 10, hc => omega
/-- a field link: in code of the class own, pool entry idx is field j of class c -/
def zLnk (own : String) (idx c j : Nat) : Prop := c < 10 ∧ j < znf c ∧ Cond.fieldLink own idx (zT c j).1 (zT c j).2.1 (zT c j).2.2.1 ∈ zTB
theorem fl_X6_9 : zLnk RX6 9 6 0 := ⟨by decide, by decide, zTB_t 26 (by decide +kernel) rfl⟩
theorem fl_X3_49 : zLnk RX3 49 6 0 := ⟨by decide, by decide, zTB_t 27 (by decide +kernel) rfl⟩
theorem fl_X4_96 : zLnk RX4 96 6 0 := ⟨by decide, by decide, zTB_t 28 (by decide +kernel) rfl⟩
theorem fl_X2_87 : zLnk RX2 87 6 0 := ⟨by decide, by decide, zTB_t 29 (by decide +kernel) rfl⟩
theorem fl_X1_74 : zLnk RX1 74 6 0 := ⟨by decide, by decide, zTB_t 30 (by decide +kernel) rfl⟩
theorem fl_X8_169 : zLnk RX8 169 6 0 := ⟨by decide, by decide, zTB_t 31 (by decide +kernel) rfl⟩
theorem fl_X6_15 : zLnk RX6 15 6 1 := ⟨by decide, by decide, zTB_t 32 (by decide +kernel) rfl⟩
theorem fl_X4_49 : zLnk RX4 49 6 1 := ⟨by decide, by decide, zTB_t 33 (by decide +kernel) rfl⟩
theorem fl_X7_49 : zLnk RX7 49 6 1 := ⟨by decide, by decide, zTB_t 34 (by decide +kernel) rfl⟩
theorem fl_X8_74 : zLnk RX8 74 6 1 := ⟨by decide, by decide, zTB_t 35 (by decide +kernel) rfl⟩
theorem fl_X3_42 : zLnk RX3 42 6 1 := ⟨by decide, by decide, zTB_t 36 (by decide +kernel) rfl⟩
theorem fl_X1_65 : zLnk RX1 65 6 1 := ⟨by decide, by decide, zTB_t 37 (by decide +kernel) rfl⟩
theorem fl_X2_84 : zLnk RX2 84 6 1 := ⟨by decide, by decide, zTB_t 38 (by decide +kernel) rfl⟩
theorem fl_X1_23 : zLnk RX1 23 1 0 := ⟨by decide, by decide, zTB_t 53 (by decide +kernel) rfl⟩
theorem fl_X8_124 : zLnk RX8 124 1 0 := ⟨by decide, by decide, zTB_t 54 (by decide +kernel) rfl⟩
theorem fl_X1_31 : zLnk RX1 31 1 1 := ⟨by decide, by decide, zTB_t 55 (by decide +kernel) rfl⟩
theorem fl_X8_120 : zLnk RX8 120 1 1 := ⟨by decide, by decide, zTB_t 56 (by decide +kernel) rfl⟩
theorem fl_X1_9 : zLnk RX1 9 1 2 := ⟨by decide, by decide, zTB_t 57 (by decide +kernel) rfl⟩
theorem fl_X8_128 : zLnk RX8 128 1 2 := ⟨by decide, by decide, zTB_t 58 (by decide +kernel) rfl⟩
theorem fl_X1_58 : zLnk RX1 58 1 3 := ⟨by decide, by decide, zTB_t 59 (by decide +kernel) rfl⟩
theorem fl_X8_172 : zLnk RX8 172 1 3 := ⟨by decide, by decide, zTB_t 60 (by decide +kernel) rfl⟩
theorem fl_X1_51 : zLnk RX1 51 1 4 := ⟨by decide, by decide, zTB_t 61 (by decide +kernel) rfl⟩
theorem fl_X8_175 : zLnk RX8 175 1 4 := ⟨by decide, by decide, zTB_t 62 (by decide +kernel) rfl⟩
theorem fl_X1_38 : zLnk RX1 38 1 5 := ⟨by decide, by decide, zTB_t 63 (by decide +kernel) rfl⟩
theorem fl_X4_74 : zLnk RX4 74 1 5 := ⟨by decide, by decide, zTB_t 64 (by decide +kernel) rfl⟩
theorem fl_X2_59 : zLnk RX2 59 1 5 := ⟨by decide, by decide, zTB_t 65 (by decide +kernel) rfl⟩
theorem fl_X8_178 : zLnk RX8 178 1 5 := ⟨by decide, by decide, zTB_t 66 (by decide +kernel) rfl⟩
theorem fl_X1_41 : zLnk RX1 41 1 6 := ⟨by decide, by decide, zTB_t 67 (by decide +kernel) rfl⟩
theorem fl_X8_181 : zLnk RX8 181 1 6 := ⟨by decide, by decide, zTB_t 68 (by decide +kernel) rfl⟩
theorem fl_X1_34 : zLnk RX1 34 1 7 := ⟨by decide, by decide, zTB_t 69 (by decide +kernel) rfl⟩
theorem fl_X1_44 : zLnk RX1 44 1 8 := ⟨by decide, by decide, zTB_t 70 (by decide +kernel) rfl⟩
theorem fl_X1_15 : zLnk RX1 15 1 9 := ⟨by decide, by decide, zTB_t 71 (by decide +kernel) rfl⟩
theorem fl_X1_19 : zLnk RX1 19 1 10 := ⟨by decide, by decide, zTB_t 72 (by decide +kernel) rfl⟩
theorem fl_X0_55 : zLnk RX0 55 0 0 := ⟨by decide, by decide, zTB_t 103 (by decide +kernel) rfl⟩
theorem fl_X3_33 : zLnk RX3 33 0 0 := ⟨by decide, by decide, zTB_t 104 (by decide +kernel) rfl⟩
theorem fl_X8_91 : zLnk RX8 91 0 0 := ⟨by decide, by decide, zTB_t 105 (by decide +kernel) rfl⟩
theorem fl_X7_55 : zLnk RX7 55 0 1 := ⟨by decide, by decide, zTB_t 106 (by decide +kernel) rfl⟩
theorem fl_X3_60 : zLnk RX3 60 0 1 := ⟨by decide, by decide, zTB_t 107 (by decide +kernel) rfl⟩
theorem fl_X0_101 : zLnk RX0 101 0 1 := ⟨by decide, by decide, zTB_t 108 (by decide +kernel) rfl⟩
theorem fl_X0_69 : zLnk RX0 69 0 2 := ⟨by decide, by decide, zTB_t 109 (by decide +kernel) rfl⟩
theorem fl_X3_50 : zLnk RX3 50 0 2 := ⟨by decide, by decide, zTB_t 110 (by decide +kernel) rfl⟩
theorem fl_X8_95 : zLnk RX8 95 0 2 := ⟨by decide, by decide, zTB_t 111 (by decide +kernel) rfl⟩
theorem fl_X0_9 : zLnk RX0 9 0 3 := ⟨by decide, by decide, zTB_t 112 (by decide +kernel) rfl⟩
theorem fl_X3_53 : zLnk RX3 53 0 3 := ⟨by decide, by decide, zTB_t 113 (by decide +kernel) rfl⟩
theorem fl_X0_65 : zLnk RX0 65 0 4 := ⟨by decide, by decide, zTB_t 114 (by decide +kernel) rfl⟩
theorem fl_X0_15 : zLnk RX0 15 0 5 := ⟨by decide, by decide, zTB_t 115 (by decide +kernel) rfl⟩
theorem fl_X0_19 : zLnk RX0 19 0 6 := ⟨by decide, by decide, zTB_t 116 (by decide +kernel) rfl⟩
theorem fl_X0_22 : zLnk RX0 22 0 7 := ⟨by decide, by decide, zTB_t 117 (by decide +kernel) rfl⟩
theorem fl_X0_75 : zLnk RX0 75 0 8 := ⟨by decide, by decide, zTB_t 118 (by decide +kernel) rfl⟩
theorem fl_X0_25 : zLnk RX0 25 0 9 := ⟨by decide, by decide, zTB_t 119 (by decide +kernel) rfl⟩
theorem fl_X0_72 : zLnk RX0 72 0 10 := ⟨by decide, by decide, zTB_t 120 (by decide +kernel) rfl⟩
theorem fl_X0_28 : zLnk RX0 28 0 11 := ⟨by decide, by decide, zTB_t 121 (by decide +kernel) rfl⟩
theorem fl_X0_31 : zLnk RX0 31 0 12 := ⟨by decide, by decide, zTB_t 122 (by decide +kernel) rfl⟩
theorem fl_X0_86 : zLnk RX0 86 0 13 := ⟨by decide, by decide, zTB_t 123 (by decide +kernel) rfl⟩
theorem fl_X0_34 : zLnk RX0 34 0 14 := ⟨by decide, by decide, zTB_t 124 (by decide +kernel) rfl⟩
theorem fl_X0_38 : zLnk RX0 38 0 15 := ⟨by decide, by decide, zTB_t 125 (by decide +kernel) rfl⟩
theorem fl_X0_41 : zLnk RX0 41 0 16 := ⟨by decide, by decide, zTB_t 126 (by decide +kernel) rfl⟩
theorem fl_X3_25 : zLnk RX3 25 3 0 := ⟨by decide, by decide, zTB_t 169 (by decide +kernel) rfl⟩
theorem fl_X3_9 : zLnk RX3 9 3 1 := ⟨by decide, by decide, zTB_t 170 (by decide +kernel) rfl⟩
theorem fl_X3_48 : zLnk RX3 48 3 2 := ⟨by decide, by decide, zTB_t 171 (by decide +kernel) rfl⟩
theorem fl_X3_29 : zLnk RX3 29 3 3 := ⟨by decide, by decide, zTB_t 172 (by decide +kernel) rfl⟩
theorem fl_X3_15 : zLnk RX3 15 3 4 := ⟨by decide, by decide, zTB_t 173 (by decide +kernel) rfl⟩
theorem fl_X3_19 : zLnk RX3 19 3 5 := ⟨by decide, by decide, zTB_t 174 (by decide +kernel) rfl⟩
theorem fl_X3_22 : zLnk RX3 22 3 6 := ⟨by decide, by decide, zTB_t 175 (by decide +kernel) rfl⟩
theorem fl_X3_91 : zLnk RX3 91 3 7 := ⟨by decide, by decide, zTB_t 176 (by decide +kernel) rfl⟩
theorem fl_X7_31 : zLnk RX7 31 7 0 := ⟨by decide, by decide, zTB_t 200 (by decide +kernel) rfl⟩
theorem fl_X7_35 : zLnk RX7 35 7 1 := ⟨by decide, by decide, zTB_t 201 (by decide +kernel) rfl⟩
theorem fl_X7_39 : zLnk RX7 39 7 2 := ⟨by decide, by decide, zTB_t 202 (by decide +kernel) rfl⟩
theorem fl_X4_88 : zLnk RX4 88 7 2 := ⟨by decide, by decide, zTB_t 203 (by decide +kernel) rfl⟩
theorem fl_X8_139 : zLnk RX8 139 7 2 := ⟨by decide, by decide, zTB_t 204 (by decide +kernel) rfl⟩
theorem fl_X7_9 : zLnk RX7 9 7 3 := ⟨by decide, by decide, zTB_t 205 (by decide +kernel) rfl⟩
theorem fl_X4_143 : zLnk RX4 143 7 3 := ⟨by decide, by decide, zTB_t 206 (by decide +kernel) rfl⟩
theorem fl_X7_15 : zLnk RX7 15 7 4 := ⟨by decide, by decide, zTB_t 207 (by decide +kernel) rfl⟩
theorem fl_X4_140 : zLnk RX4 140 7 4 := ⟨by decide, by decide, zTB_t 208 (by decide +kernel) rfl⟩
theorem fl_X7_19 : zLnk RX7 19 7 5 := ⟨by decide, by decide, zTB_t 209 (by decide +kernel) rfl⟩
theorem fl_X4_108 : zLnk RX4 108 7 5 := ⟨by decide, by decide, zTB_t 210 (by decide +kernel) rfl⟩
theorem fl_X7_22 : zLnk RX7 22 7 6 := ⟨by decide, by decide, zTB_t 211 (by decide +kernel) rfl⟩
theorem fl_X4_89 : zLnk RX4 89 7 6 := ⟨by decide, by decide, zTB_t 212 (by decide +kernel) rfl⟩
theorem fl_X7_25 : zLnk RX7 25 7 7 := ⟨by decide, by decide, zTB_t 213 (by decide +kernel) rfl⟩
theorem fl_X4_102 : zLnk RX4 102 7 7 := ⟨by decide, by decide, zTB_t 214 (by decide +kernel) rfl⟩
theorem fl_X8_148 : zLnk RX8 148 7 7 := ⟨by decide, by decide, zTB_t 215 (by decide +kernel) rfl⟩
theorem fl_X7_28 : zLnk RX7 28 7 8 := ⟨by decide, by decide, zTB_t 216 (by decide +kernel) rfl⟩
theorem fl_X4_110 : zLnk RX4 110 7 8 := ⟨by decide, by decide, zTB_t 217 (by decide +kernel) rfl⟩
theorem fl_X7_52 : zLnk RX7 52 7 9 := ⟨by decide, by decide, zTB_t 218 (by decide +kernel) rfl⟩
theorem fl_X2_38 : zLnk RX2 38 2 0 := ⟨by decide, by decide, zTB_t 256 (by decide +kernel) rfl⟩
theorem fl_X2_41 : zLnk RX2 41 2 1 := ⟨by decide, by decide, zTB_t 257 (by decide +kernel) rfl⟩
theorem fl_X2_12 : zLnk RX2 12 2 2 := ⟨by decide, by decide, zTB_t 258 (by decide +kernel) rfl⟩
theorem fl_X2_18 : zLnk RX2 18 2 3 := ⟨by decide, by decide, zTB_t 259 (by decide +kernel) rfl⟩
theorem fl_X2_21 : zLnk RX2 21 2 4 := ⟨by decide, by decide, zTB_t 260 (by decide +kernel) rfl⟩
theorem fl_X2_25 : zLnk RX2 25 2 5 := ⟨by decide, by decide, zTB_t 261 (by decide +kernel) rfl⟩
theorem fl_X2_49 : zLnk RX2 49 2 6 := ⟨by decide, by decide, zTB_t 262 (by decide +kernel) rfl⟩
theorem fl_X4_99 : zLnk RX4 99 2 6 := ⟨by decide, by decide, zTB_t 263 (by decide +kernel) rfl⟩
theorem fl_X2_28 : zLnk RX2 28 2 7 := ⟨by decide, by decide, zTB_t 264 (by decide +kernel) rfl⟩
theorem fl_X2_32 : zLnk RX2 32 2 8 := ⟨by decide, by decide, zTB_t 265 (by decide +kernel) rfl⟩
theorem fl_X2_35 : zLnk RX2 35 2 9 := ⟨by decide, by decide, zTB_t 266 (by decide +kernel) rfl⟩
theorem fl_X4_113 : zLnk RX4 113 2 9 := ⟨by decide, by decide, zTB_t 267 (by decide +kernel) rfl⟩
theorem fl_X4_22 : zLnk RX4 22 4 0 := ⟨by decide, by decide, zTB_t 289 (by decide +kernel) rfl⟩
theorem fl_X4_25 : zLnk RX4 25 4 1 := ⟨by decide, by decide, zTB_t 290 (by decide +kernel) rfl⟩
theorem fl_X4_29 : zLnk RX4 29 4 2 := ⟨by decide, by decide, zTB_t 291 (by decide +kernel) rfl⟩
theorem fl_X4_33 : zLnk RX4 33 4 3 := ⟨by decide, by decide, zTB_t 292 (by decide +kernel) rfl⟩
theorem fl_X4_42 : zLnk RX4 42 4 4 := ⟨by decide, by decide, zTB_t 293 (by decide +kernel) rfl⟩
theorem fl_X4_12 : zLnk RX4 12 4 5 := ⟨by decide, by decide, zTB_t 294 (by decide +kernel) rfl⟩
theorem fl_X4_18 : zLnk RX4 18 4 6 := ⟨by decide, by decide, zTB_t 295 (by decide +kernel) rfl⟩
theorem fl_X8_10 : zLnk RX8 10 8 0 := ⟨by decide, by decide, zTB_t 311 (by decide +kernel) rfl⟩
theorem fl_X8_16 : zLnk RX8 16 8 1 := ⟨by decide, by decide, zTB_t 312 (by decide +kernel) rfl⟩
theorem fl_X8_81 : zLnk RX8 81 8 2 := ⟨by decide, by decide, zTB_t 313 (by decide +kernel) rfl⟩
theorem fl_X8_22 : zLnk RX8 22 8 3 := ⟨by decide, by decide, zTB_t 314 (by decide +kernel) rfl⟩
theorem fl_X8_98 : zLnk RX8 98 8 4 := ⟨by decide, by decide, zTB_t 315 (by decide +kernel) rfl⟩
theorem fl_X8_29 : zLnk RX8 29 8 5 := ⟨by decide, by decide, zTB_t 316 (by decide +kernel) rfl⟩
theorem fl_X8_36 : zLnk RX8 36 8 6 := ⟨by decide, by decide, zTB_t 317 (by decide +kernel) rfl⟩
theorem fl_X8_45 : zLnk RX8 45 8 7 := ⟨by decide, by decide, zTB_t 318 (by decide +kernel) rfl⟩
theorem fl_X8_54 : zLnk RX8 54 8 8 := ⟨by decide, by decide, zTB_t 319 (by decide +kernel) rfl⟩
theorem fl_X8_63 : zLnk RX8 63 8 9 := ⟨by decide, by decide, zTB_t 320 (by decide +kernel) rfl⟩
theorem fl_X8_152 : zLnk RX8 152 8 10 := ⟨by decide, by decide, zTB_t 321 (by decide +kernel) rfl⟩
theorem fl_X5_7 : zLnk RX5 7 5 0 := ⟨by decide, by decide, zTB_t 468 (by decide +kernel) rfl⟩
theorem fl_X1_77 : zLnk RX1 77 5 0 := ⟨by decide, by decide, zTB_t 469 (by decide +kernel) rfl⟩
theorem fl_X5_13 : zLnk RX5 13 5 1 := ⟨by decide, by decide, zTB_t 470 (by decide +kernel) rfl⟩
theorem fl_X1_82 : zLnk RX1 82 5 1 := ⟨by decide, by decide, zTB_t 471 (by decide +kernel) rfl⟩
theorem fl_X5_17 : zLnk RX5 17 5 2 := ⟨by decide, by decide, zTB_t 472 (by decide +kernel) rfl⟩
theorem fl_X1_93 : zLnk RX1 93 5 2 := ⟨by decide, by decide, zTB_t 473 (by decide +kernel) rfl⟩
theorem fl_X5_20 : zLnk RX5 20 5 3 := ⟨by decide, by decide, zTB_t 474 (by decide +kernel) rfl⟩
theorem fl_X1_86 : zLnk RX1 86 5 3 := ⟨by decide, by decide, zTB_t 475 (by decide +kernel) rfl⟩
theorem fl_X5_23 : zLnk RX5 23 5 4 := ⟨by decide, by decide, zTB_t 476 (by decide +kernel) rfl⟩
theorem fl_X1_100 : zLnk RX1 100 5 4 := ⟨by decide, by decide, zTB_t 477 (by decide +kernel) rfl⟩
theorem fl_X5_27 : zLnk RX5 27 5 5 := ⟨by decide, by decide, zTB_t 478 (by decide +kernel) rfl⟩
theorem fl_X1_103 : zLnk RX1 103 5 5 := ⟨by decide, by decide, zTB_t 479 (by decide +kernel) rfl⟩
theorem fl_X5_30 : zLnk RX5 30 5 6 := ⟨by decide, by decide, zTB_t 480 (by decide +kernel) rfl⟩
theorem fl_X8_108 : zLnk RX8 108 5 6 := ⟨by decide, by decide, zTB_t 481 (by decide +kernel) rfl⟩
theorem fl_X9_7 : zLnk RX9 7 9 0 := ⟨by decide, by decide, zTB_t 785 (by decide +kernel) rfl⟩
theorem fl_X9_145 : zLnk RX9 145 9 1 := ⟨by decide, by decide, zTB_t 786 (by decide +kernel) rfl⟩
theorem fl_X9_13 : zLnk RX9 13 9 2 := ⟨by decide, by decide, zTB_t 787 (by decide +kernel) rfl⟩
theorem fl_X9_152 : zLnk RX9 152 9 3 := ⟨by decide, by decide, zTB_t 788 (by decide +kernel) rfl⟩
theorem fl_X9_155 : zLnk RX9 155 9 4 := ⟨by decide, by decide, zTB_t 789 (by decide +kernel) rfl⟩
theorem fl_X9_16 : zLnk RX9 16 9 5 := ⟨by decide, by decide, zTB_t 790 (by decide +kernel) rfl⟩
theorem fl_X9_19 : zLnk RX9 19 9 6 := ⟨by decide, by decide, zTB_t 791 (by decide +kernel) rfl⟩
theorem fl_X9_22 : zLnk RX9 22 9 7 := ⟨by decide, by decide, zTB_t 792 (by decide +kernel) rfl⟩
theorem fl_X9_25 : zLnk RX9 25 9 8 := ⟨by decide, by decide, zTB_t 793 (by decide +kernel) rfl⟩
theorem fl_X9_28 : zLnk RX9 28 9 9 := ⟨by decide, by decide, zTB_t 794 (by decide +kernel) rfl⟩
theorem fl_X9_31 : zLnk RX9 31 9 10 := ⟨by decide, by decide, zTB_t 795 (by decide +kernel) rfl⟩
theorem fl_X9_201 : zLnk RX9 201 9 11 := ⟨by decide, by decide, zTB_t 796 (by decide +kernel) rfl⟩
theorem fl_X9_180 : zLnk RX9 180 9 12 := ⟨by decide, by decide, zTB_t 797 (by decide +kernel) rfl⟩
theorem fl_X9_189 : zLnk RX9 189 9 13 := ⟨by decide, by decide, zTB_t 798 (by decide +kernel) rfl⟩
theorem fl_X9_183 : zLnk RX9 183 9 14 := ⟨by decide, by decide, zTB_t 799 (by decide +kernel) rfl⟩
theorem fl_X9_186 : zLnk RX9 186 9 15 := ⟨by decide, by decide, zTB_t 800 (by decide +kernel) rfl⟩
theorem fl_X9_35 : zLnk RX9 35 9 16 := ⟨by decide, by decide, zTB_t 801 (by decide +kernel) rfl⟩
theorem fl_X9_38 : zLnk RX9 38 9 17 := ⟨by decide, by decide, zTB_t 802 (by decide +kernel) rfl⟩
theorem fl_X9_41 : zLnk RX9 41 9 18 := ⟨by decide, by decide, zTB_t 803 (by decide +kernel) rfl⟩
theorem fl_X9_44 : zLnk RX9 44 9 19 := ⟨by decide, by decide, zTB_t 804 (by decide +kernel) rfl⟩
theorem fl_X9_47 : zLnk RX9 47 9 20 := ⟨by decide, by decide, zTB_t 805 (by decide +kernel) rfl⟩
theorem fl_X9_50 : zLnk RX9 50 9 21 := ⟨by decide, by decide, zTB_t 806 (by decide +kernel) rfl⟩
theorem fl_X9_53 : zLnk RX9 53 9 22 := ⟨by decide, by decide, zTB_t 807 (by decide +kernel) rfl⟩
theorem fl_X9_56 : zLnk RX9 56 9 23 := ⟨by decide, by decide, zTB_t 808 (by decide +kernel) rfl⟩
theorem fl_X9_59 : zLnk RX9 59 9 24 := ⟨by decide, by decide, zTB_t 809 (by decide +kernel) rfl⟩
theorem fl_X9_220 : zLnk RX9 220 9 25 := ⟨by decide, by decide, zTB_t 810 (by decide +kernel) rfl⟩
theorem fl_X9_62 : zLnk RX9 62 9 26 := ⟨by decide, by decide, zTB_t 811 (by decide +kernel) rfl⟩
theorem fl_X9_236 : zLnk RX9 236 9 27 := ⟨by decide, by decide, zTB_t 812 (by decide +kernel) rfl⟩
theorem fl_X9_65 : zLnk RX9 65 9 28 := ⟨by decide, by decide, zTB_t 813 (by decide +kernel) rfl⟩
theorem fl_X9_68 : zLnk RX9 68 9 29 := ⟨by decide, by decide, zTB_t 814 (by decide +kernel) rfl⟩
theorem fl_X9_71 : zLnk RX9 71 9 30 := ⟨by decide, by decide, zTB_t 815 (by decide +kernel) rfl⟩
theorem fl_X9_74 : zLnk RX9 74 9 31 := ⟨by decide, by decide, zTB_t 816 (by decide +kernel) rfl⟩
theorem fl_X9_77 : zLnk RX9 77 9 32 := ⟨by decide, by decide, zTB_t 817 (by decide +kernel) rfl⟩
theorem fl_X9_80 : zLnk RX9 80 9 33 := ⟨by decide, by decide, zTB_t 818 (by decide +kernel) rfl⟩
theorem fl_X9_83 : zLnk RX9 83 9 34 := ⟨by decide, by decide, zTB_t 819 (by decide +kernel) rfl⟩
theorem fl_X9_86 : zLnk RX9 86 9 35 := ⟨by decide, by decide, zTB_t 820 (by decide +kernel) rfl⟩
theorem fl_X9_89 : zLnk RX9 89 9 36 := ⟨by decide, by decide, zTB_t 821 (by decide +kernel) rfl⟩
theorem fl_X9_92 : zLnk RX9 92 9 37 := ⟨by decide, by decide, zTB_t 822 (by decide +kernel) rfl⟩
theorem fl_X9_95 : zLnk RX9 95 9 38 := ⟨by decide, by decide, zTB_t 823 (by decide +kernel) rfl⟩
theorem fl_X9_98 : zLnk RX9 98 9 39 := ⟨by decide, by decide, zTB_t 824 (by decide +kernel) rfl⟩
theorem fl_X9_166 : zLnk RX9 166 9 40 := ⟨by decide, by decide, zTB_t 825 (by decide +kernel) rfl⟩
theorem fl_X9_102 : zLnk RX9 102 9 41 := ⟨by decide, by decide, zTB_t 826 (by decide +kernel) rfl⟩
theorem fl_X9_105 : zLnk RX9 105 9 42 := ⟨by decide, by decide, zTB_t 827 (by decide +kernel) rfl⟩
theorem fl_X9_278 : zLnk RX9 278 9 43 := ⟨by decide, by decide, zTB_t 828 (by decide +kernel) rfl⟩
theorem fl_X9_275 : zLnk RX9 275 9 44 := ⟨by decide, by decide, zTB_t 829 (by decide +kernel) rfl⟩
theorem fl_X9_341 : zLnk RX9 341 9 45 := ⟨by decide, by decide, zTB_t 830 (by decide +kernel) rfl⟩
theorem fl_X9_269 : zLnk RX9 269 9 46 := ⟨by decide, by decide, zTB_t 831 (by decide +kernel) rfl⟩
theorem fl_X9_272 : zLnk RX9 272 9 47 := ⟨by decide, by decide, zTB_t 832 (by decide +kernel) rfl⟩
theorem fl_X9_108 : zLnk RX9 108 9 48 := ⟨by decide, by decide, zTB_t 833 (by decide +kernel) rfl⟩
theorem fl_X9_263 : zLnk RX9 263 9 49 := ⟨by decide, by decide, zTB_t 834 (by decide +kernel) rfl⟩
theorem fl_X9_111 : zLnk RX9 111 9 50 := ⟨by decide, by decide, zTB_t 835 (by decide +kernel) rfl⟩
theorem fl_X9_284 : zLnk RX9 284 9 51 := ⟨by decide, by decide, zTB_t 836 (by decide +kernel) rfl⟩
theorem fl_X9_293 : zLnk RX9 293 9 52 := ⟨by decide, by decide, zTB_t 837 (by decide +kernel) rfl⟩
theorem fl_X9_114 : zLnk RX9 114 9 53 := ⟨by decide, by decide, zTB_t 838 (by decide +kernel) rfl⟩
theorem fl_X9_117 : zLnk RX9 117 9 54 := ⟨by decide, by decide, zTB_t 839 (by decide +kernel) rfl⟩
theorem fl_X9_290 : zLnk RX9 290 9 55 := ⟨by decide, by decide, zTB_t 840 (by decide +kernel) rfl⟩
theorem fl_X9_120 : zLnk RX9 120 9 56 := ⟨by decide, by decide, zTB_t 841 (by decide +kernel) rfl⟩
theorem fl_X9_123 : zLnk RX9 123 9 57 := ⟨by decide, by decide, zTB_t 842 (by decide +kernel) rfl⟩
theorem fl_X9_126 : zLnk RX9 126 9 58 := ⟨by decide, by decide, zTB_t 843 (by decide +kernel) rfl⟩
theorem fl_X9_129 : zLnk RX9 129 9 59 := ⟨by decide, by decide, zTB_t 844 (by decide +kernel) rfl⟩
theorem fl_X9_132 : zLnk RX9 132 9 60 := ⟨by decide, by decide, zTB_t 845 (by decide +kernel) rfl⟩
theorem fl_X9_135 : zLnk RX9 135 9 61 := ⟨by decide, by decide, zTB_t 846 (by decide +kernel) rfl⟩
theorem fl_X9_138 : zLnk RX9 138 9 62 := ⟨by decide, by decide, zTB_t 847 (by decide +kernel) rfl⟩
theorem fl_X9_331 : zLnk RX9 331 9 63 := ⟨by decide, by decide, zTB_t 848 (by decide +kernel) rfl⟩
/-- a method: its name, code, locals, answer type -/
abbrev zY : Type := MethodName × ByteArray × Nat × Option FieldType
abbrev zy_X0_init : zY := (yX0_init, cX0_init, 1, none)
abbrev zy_X0_become : zY := (yX0_become, cX0_become, 3, none)
abbrev zy_X0_firstOf : zY := (yX0_firstOf, cX0_firstOf, 2, (some .int))
abbrev zy_X0_endOf : zY := (yX0_endOf, cX0_endOf, 2, (some .int))
abbrev zy_X0_firstItemOf : zY := (yX0_firstItemOf, cX0_firstItemOf, 2, (some .int))
abbrev zy_X0_endItemOf : zY := (yX0_endItemOf, cX0_endItemOf, 2, (some .int))
abbrev zy_X0_whatOf : zY := (yX0_whatOf, cX0_whatOf, 2, (some .char))
abbrev zy_X0_ruleOf : zY := (yX0_ruleOf, cX0_ruleOf, 2, (some .int))
abbrev zy_X0_hasTail : zY := (yX0_hasTail, cX0_hasTail, 2, (some .boolean))
abbrev zy_X0_hasStar : zY := (yX0_hasStar, cX0_hasStar, 2, (some .boolean))
abbrev zy_X0_mayRepeat : zY := (yX0_mayRepeat, cX0_mayRepeat, 2, (some .boolean))
abbrev zy_X0_mayBeLeftOut : zY := (yX0_mayBeLeftOut, cX0_mayBeLeftOut, 2, (some .boolean))
abbrev zy_X0_forget : zY := (yX0_forget, cX0_forget, 2, none)
abbrev zy_X0_isCut : zY := (yX0_isCut, cX0_isCut, 5, (some .boolean))
abbrev zy_X0_step : zY := (yX0_step, cX0_step, 3, (some .int))
abbrev zy_X0_opens : zY := (yX0_opens, cX0_opens, 2, (some .boolean))
abbrev zy_X0_addAlternative : zY := (yX0_addAlternative, cX0_addAlternative, 1, none)
abbrev zy_X0_addsItem : zY := (yX0_addsItem, cX0_addsItem, 2, (some .boolean))
abbrev zy_X0_isEveryNameDefined : zY := (yX0_isEveryNameDefined, cX0_isEveryNameDefined, 3, (some .boolean))
abbrev zy_X0_findEmptiable : zY := (yX0_findEmptiable, cX0_findEmptiable, 3, none)
abbrev zy_X0_isEmptiable : zY := (yX0_isEmptiable, cX0_isEmptiable, 5, (some .boolean))
abbrev zy_X0_mayBeEmpty : zY := (yX0_mayBeEmpty, cX0_mayBeEmpty, 3, (some .boolean))
abbrev zy_X0_findOrder : zY := (yX0_findOrder, cX0_findOrder, 3, none)
abbrev zy_X0_leadsToPlaced : zY := (yX0_leadsToPlaced, cX0_leadsToPlaced, 6, (some .boolean))
abbrev zy_X1_init : zY := (yX1_init, cX1_init, 1, none)
abbrev zy_X1_verdict : zY := (yX1_verdict, cX1_verdict, 2, (some .int))
abbrev zy_X1_allow : zY := (yX1_allow, cX1_allow, 2, none)
abbrev zy_X1_forget : zY := (yX1_forget, cX1_forget, 1, none)
abbrev zy_X1_ask : zY := (yX1_ask, cX1_ask, 2, (some .int))
abbrev zy_X1_isHeld : zY := (yX1_isHeld, cX1_isHeld, 3, (some .boolean))
abbrev zy_X1_isHeldAt : zY := (yX1_isHeldAt, cX1_isHeldAt, 5, (some .boolean))
abbrev zy_X1_hold : zY := (yX1_hold, cX1_hold, 4, none)
abbrev zy_X1_holds : zY := (yX1_holds, cX1_holds, 3, (some .boolean))
abbrev zy_X2_init : zY := (yX2_init, cX2_init, 3, none)
abbrev zy_X2_begin : zY := (yX2_begin, cX2_begin, 2, none)
abbrev zy_X2_addUnit : zY := (yX2_addUnit, cX2_addUnit, 4, none)
abbrev zy_X2_lessen : zY := (yX2_lessen, cX2_lessen, 3, none)
abbrev zy_X2_takes : zY := (yX2_takes, cX2_takes, 6, (some .boolean))
abbrev zy_X2_makeTrial : zY := (yX2_makeTrial, cX2_makeTrial, 7, none)
abbrev zy_X2_keepTrial : zY := (yX2_keepTrial, cX2_keepTrial, 7, none)
abbrev zy_X3_init : zY := (yX3_init, cX3_init, 2, none)
abbrev zy_X3_forget : zY := (yX3_forget, cX3_forget, 1, none)
abbrev zy_X3_fits : zY := (yX3_fits, cX3_fits, 5, (some .boolean))
abbrev zy_X3_alternativeOf : zY := (yX3_alternativeOf, cX3_alternativeOf, 3, (some .int))
abbrev zy_X3_more : zY := (yX3_more, cX3_more, 7, (some .int))
abbrev zy_X3_cellOf : zY := (yX3_cellOf, cX3_cellOf, 2, (some .int))
abbrev zy_X3_sameAtEnd : zY := (yX3_sameAtEnd, cX3_sameAtEnd, 3, (some .int))
abbrev zy_X3_settle : zY := (yX3_settle, cX3_settle, 5, none)
abbrev zy_X3_behind : zY := (yX3_behind, cX3_behind, 7, (some .int))
abbrev zy_X3_nodesOf : zY := (yX3_nodesOf, cX3_nodesOf, 4, (some .int))
abbrev zy_X4_init : zY := (yX4_init, cX4_init, 5, none)
abbrev zy_X4_bySigns : zY := (yX4_bySigns, cX4_bySigns, 4, none)
abbrev zy_X4_byLevels : zY := (yX4_byLevels, cX4_byLevels, 7, none)
abbrev zy_X4_byMoves : zY := (yX4_byMoves, cX4_byMoves, 4, none)
abbrev zy_X4_beginsWord : zY := (yX4_beginsWord, cX4_beginsWord, 2, (some .boolean))
abbrev zy_X4_chooseUnits : zY := (yX4_chooseUnits, cX4_chooseUnits, 3, none)
abbrev zy_X4_isBelowKept : zY := (yX4_isBelowKept, cX4_isBelowKept, 3, (some .boolean))
abbrev zy_X4_keepUnits : zY := (yX4_keepUnits, cX4_keepUnits, 2, none)
abbrev zy_X4_takesMove : zY := (yX4_takesMove, cX4_takesMove, 5, (some .boolean))
abbrev zy_X4_isBelow : zY := (yX4_isBelow, cX4_isBelow, 3, (some .boolean))
abbrev zy_X4_isMove : zY := (yX4_isMove, cX4_isMove, 3, (some .boolean))
abbrev zy_X5_init : zY := (yX5_init, cX5_init, 5, none)
abbrev zy_X5_init_ : zY := (yX5_init_, cX5_init_, 5, none)
abbrev zy_X6_init : zY := (yX6_init, cX6_init, 1, none)
abbrev zy_X6_put : zY := (yX6_put, cX6_put, 2, (some .boolean))
abbrev zy_X6_putSome : zY := (yX6_putSome, cX6_putSome, 5, none)
abbrev zy_X6_become : zY := (yX6_become, cX6_become, 2, none)
abbrev zy_X6_holdsSign : zY := (yX6_holdsSign, cX6_holdsSign, 5, (some .boolean))
abbrev zy_X6_holdsPair : zY := (yX6_holdsPair, cX6_holdsPair, 6, (some .boolean))
abbrev zy_X7_init : zY := (yX7_init, cX7_init, 3, none)
abbrev zy_X7_build : zY := (yX7_build, cX7_build, 2, (some .boolean))
abbrev zy_X7_told : zY := (yX7_told, cX7_told, 2, (some .int))
abbrev zy_X7_deepest : zY := (yX7_deepest, cX7_deepest, 3, (some .int))
abbrev zy_X7_grow : zY := (yX7_grow, cX7_grow, 9, none)
abbrev zy_X7_put : zY := (yX7_put, cX7_put, 7, (some .int))
abbrev zy_X7_isLoose : zY := (yX7_isLoose, cX7_isLoose, 4, (some .boolean))
abbrev zy_X8_init : zY := (yX8_init, cX8_init, 1, none)
abbrev zy_X8_type : zY := (yX8_type, cX8_type, 2, (some .boolean))
abbrev zy_X8_clear : zY := (yX8_clear, cX8_clear, 1, none)
abbrev zy_X8_write : zY := (yX8_write, cX8_write, 2, (some .boolean))
abbrev zy_X8_read : zY := (yX8_read, cX8_read, 1, (some .int))
abbrev zy_X8_has : zY := (yX8_has, cX8_has, 3, (some .boolean))
abbrev zy_X8_pair : zY := (yX8_pair, cX8_pair, 4, (some .boolean))
abbrev zy_X8_size : zY := (yX8_size, cX8_size, 2, (some .boolean))
abbrev zy_X8_not : zY := (yX8_not, cX8_not, 2, (some .boolean))
abbrev zy_X8_join : zY := (yX8_join, cX8_join, 5, (some .boolean))
abbrev zy_X8_mark : zY := (yX8_mark, cX8_mark, 2, (some .boolean))
abbrev zy_X8_remember : zY := (yX8_remember, cX8_remember, 2, none)
abbrev zy_X8_outcome : zY := (yX8_outcome, cX8_outcome, 1, (some .int))
abbrev zy_X8_nodes : zY := (yX8_nodes, cX8_nodes, 1, (some .int))
abbrev zy_X8_node : zY := (yX8_node, cX8_node, 2, (some .int))
abbrev zy_X8_depth : zY := (yX8_depth, cX8_depth, 2, (some .int))
abbrev zy_X8_reduce : zY := (yX8_reduce, cX8_reduce, 3, (some .int))
abbrev zy_X8_length : zY := (yX8_length, cX8_length, 1, (some .int))
abbrev zy_X8_at : zY := (yX8_at, cX8_at, 2, (some .char))
abbrev zy_X8_count : zY := (yX8_count, cX8_count, 2, (some .int))
abbrev zy_X8_push : zY := (yX8_push, cX8_push, 2, (some .boolean))
abbrev zy_X8_hasNode : zY := (yX8_hasNode, cX8_hasNode, 2, (some .boolean))
abbrev zy_X8_isTextSign : zY := (yX8_isTextSign, cX8_isTextSign, 1, (some .boolean))
abbrev zy_X8_isName : zY := (yX8_isName, cX8_isName, 1, (some .boolean))
abbrev zy_X8_isTail : zY := (yX8_isTail, cX8_isTail, 1, (some .boolean))
abbrev zy_X8_isGrammarSign : zY := (yX8_isGrammarSign, cX8_isGrammarSign, 1, (some .boolean))
abbrev zy_X9_init : zY := (yX9_init, cX9_init, 1, none)
abbrev zy_X9_isText : zY := (yX9_isText, cX9_isText, 1, (some .boolean))
abbrev zy_X9_isName : zY := (yX9_isName, cX9_isName, 1, (some .boolean))
abbrev zy_X9_type : zY := (yX9_type, cX9_type, 2, (some .boolean))
abbrev zy_X9_clear : zY := (yX9_clear, cX9_clear, 1, none)
abbrev zy_X9_write : zY := (yX9_write, cX9_write, 3, (some .boolean))
abbrev zy_X9_push : zY := (yX9_push, cX9_push, 4, none)
abbrev zy_X9_has : zY := (yX9_has, cX9_has, 3, (some .boolean))
abbrev zy_X9_pair : zY := (yX9_pair, cX9_pair, 4, (some .boolean))
abbrev zy_X9_size : zY := (yX9_size, cX9_size, 2, (some .boolean))
abbrev zy_X9_copyStep : zY := (yX9_copyStep, cX9_copyStep, 3, none)
abbrev zy_X9_not : zY := (yX9_not, cX9_not, 2, (some .boolean))
abbrev zy_X9_join : zY := (yX9_join, cX9_join, 6, (some .boolean))
abbrev zy_X9_mark : zY := (yX9_mark, cX9_mark, 4, (some .boolean))
abbrev zy_X9_holdsStep : zY := (yX9_holdsStep, cX9_holdsStep, 11, (some .boolean))
abbrev zy_X9_holds : zY := (yX9_holds, cX9_holds, 7, (some .boolean))
abbrev zy_X9_outcomeOf : zY := (yX9_outcomeOf, cX9_outcomeOf, 3, (some .int))
abbrev zy_X9_outcome : zY := (yX9_outcome, cX9_outcome, 1, (some .int))
abbrev zy_X9_readRules : zY := (yX9_readRules, cX9_readRules, 6, (some .boolean))
abbrev zy_X9_beginAlternative : zY := (yX9_beginAlternative, cX9_beginAlternative, 1, none)
abbrev zy_X9_areNamesThere : zY := (yX9_areNamesThere, cX9_areNamesThere, 3, (some .boolean))
abbrev zy_X9_isVoid : zY := (yX9_isVoid, cX9_isVoid, 2, (some .boolean))
abbrev zy_X9_findEmptiable : zY := (yX9_findEmptiable, cX9_findEmptiable, 6, none)
abbrev zy_X9_findLeads : zY := (yX9_findLeads, cX9_findLeads, 5, none)
abbrev zy_X9_findOrder : zY := (yX9_findOrder, cX9_findOrder, 6, (some .boolean))
abbrev zy_X9_clearDone : zY := (yX9_clearDone, cX9_clearDone, 2, none)
abbrev zy_X9_read : zY := (yX9_read, cX9_read, 2, (some .int))
abbrev zy_X9_once : zY := (yX9_once, cX9_once, 3, (some .int))
abbrev zy_X9_again : zY := (yX9_again, cX9_again, 5, (some .int))
abbrev zy_X9_endOf : zY := (yX9_endOf, cX9_endOf, 6, (some .int))
abbrev zy_X9_alternativeOf : zY := (yX9_alternativeOf, cX9_alternativeOf, 4, (some .int))
abbrev zy_X9_findEnds : zY := (yX9_findEnds, cX9_findEnds, 4, none)
abbrev zy_X9_addNode : zY := (yX9_addNode, cX9_addNode, 7, (some .boolean))
abbrev zy_X9_openFrame : zY := (yX9_openFrame, cX9_openFrame, 4, none)
abbrev zy_X9_taking : zY := (yX9_taking, cX9_taking, 6, (some .int))
abbrev zy_X9_isLoose : zY := (yX9_isLoose, cX9_isLoose, 5, (some .int))
abbrev zy_X9_buildTree : zY := (yX9_buildTree, cX9_buildTree, 7, (some .boolean))
abbrev zy_X9_parse : zY := (yX9_parse, cX9_parse, 4, (some .boolean))
abbrev zy_X9_nodes : zY := (yX9_nodes, cX9_nodes, 2, (some .int))
abbrev zy_X9_node : zY := (yX9_node, cX9_node, 3, (some .int))
abbrev zy_X9_depth : zY := (yX9_depth, cX9_depth, 3, (some .int))
abbrev zy_X9_isKnown : zY := (yX9_isKnown, cX9_isKnown, 4, (some .boolean))
abbrev zy_X9_keep : zY := (yX9_keep, cX9_keep, 3, none)
abbrev zy_X9_ask : zY := (yX9_ask, cX9_ask, 4, (some .boolean))
abbrev zy_X9_askBits : zY := (yX9_askBits, cX9_askBits, 3, (some .boolean))
abbrev zy_X9_unitBits : zY := (yX9_unitBits, cX9_unitBits, 5, (some .int))
abbrev zy_X9_drop : zY := (yX9_drop, cX9_drop, 4, none)
abbrev zy_X9_round : zY := (yX9_round, cX9_round, 8, (some .int))
abbrev zy_X9_lessen : zY := (yX9_lessen, cX9_lessen, 2, none)
abbrev zy_X9_addUnit : zY := (yX9_addUnit, cX9_addUnit, 3, none)
abbrev zy_X9_run : zY := (yX9_run, cX9_run, 4, (some .int))
abbrev zy_X9_setBase : zY := (yX9_setBase, cX9_setBase, 2, none)
abbrev zy_X9_byPlaces : zY := (yX9_byPlaces, cX9_byPlaces, 5, none)
abbrev zy_X9_isKept : zY := (yX9_isKept, cX9_isKept, 3, (some .boolean))
abbrev zy_X9_byDepths : zY := (yX9_byDepths, cX9_byDepths, 4, none)
abbrev zy_X9_againByDepths : zY := (yX9_againByDepths, cX9_againByDepths, 3, none)
abbrev zy_X9_take : zY := (yX9_take, cX9_take, 6, (some .boolean))
abbrev zy_X9_movesOf : zY := (yX9_movesOf, cX9_movesOf, 4, (some .boolean))
abbrev zy_X9_move : zY := (yX9_move, cX9_move, 3, (some .boolean))
abbrev zy_X9_reduce : zY := (yX9_reduce, cX9_reduce, 4, (some .int))
abbrev zy_X9_remember : zY := (yX9_remember, cX9_remember, 2, none)
abbrev zy_X9_length : zY := (yX9_length, cX9_length, 1, (some .int))
abbrev zy_X9_at : zY := (yX9_at, cX9_at, 2, (some .char))
abbrev zy_X9_count : zY := (yX9_count, cX9_count, 2, (some .int))
abbrev zy_L_law : zY := (yL_law, cL_law, 4, (some .boolean))
/-- the words of a method: code, class; n parameters -/
def zMF (y : zY) (n : Nat) : Prop := Cond.code y.1 y.2.1 y.2.2.1 y.2.2.2 ∈ zTB ∧ Cond.initialized y.1.cls ∈ zTB ∧ plainName y.1.cls = true ∧ (y.1.cls ≠ "java/lang/invoke/MethodHandle" ∧ y.1.cls ≠ "java/lang/invoke/VarHandle") ∧ (parseMethodDescriptor y.1.desc).map (fun d => d.parameters.length) = some n
theorem mf_X0_init : zMF zy_X0_init 0 := ⟨zTB_t 101 (by decide +kernel) rfl, zTB_t 4 (by decide +kernel) rfl, by decide +kernel, ⟨by decide +kernel, by decide +kernel⟩, by decide +kernel⟩
theorem mf_X0_become : zMF zy_X0_become 2 := ⟨zTB_t 380 (by decide +kernel) rfl, zTB_t 4 (by decide +kernel) rfl, by decide +kernel, ⟨by decide +kernel, by decide +kernel⟩, by decide +kernel⟩
theorem mf_X0_firstOf : zMF zy_X0_firstOf 1 := ⟨zTB_t 426 (by decide +kernel) rfl, zTB_t 4 (by decide +kernel) rfl, by decide +kernel, ⟨by decide +kernel, by decide +kernel⟩, by decide +kernel⟩
theorem mf_X0_endOf : zMF zy_X0_endOf 1 := ⟨zTB_t 430 (by decide +kernel) rfl, zTB_t 4 (by decide +kernel) rfl, by decide +kernel, ⟨by decide +kernel, by decide +kernel⟩, by decide +kernel⟩
theorem mf_X0_firstItemOf : zMF zy_X0_firstItemOf 1 := ⟨zTB_t 434 (by decide +kernel) rfl, zTB_t 4 (by decide +kernel) rfl, by decide +kernel, ⟨by decide +kernel, by decide +kernel⟩, by decide +kernel⟩
theorem mf_X0_endItemOf : zMF zy_X0_endItemOf 1 := ⟨zTB_t 438 (by decide +kernel) rfl, zTB_t 4 (by decide +kernel) rfl, by decide +kernel, ⟨by decide +kernel, by decide +kernel⟩, by decide +kernel⟩
theorem mf_X0_whatOf : zMF zy_X0_whatOf 1 := ⟨zTB_t 597 (by decide +kernel) rfl, zTB_t 4 (by decide +kernel) rfl, by decide +kernel, ⟨by decide +kernel, by decide +kernel⟩, by decide +kernel⟩
theorem mf_X0_ruleOf : zMF zy_X0_ruleOf 1 := ⟨zTB_t 414 (by decide +kernel) rfl, zTB_t 4 (by decide +kernel) rfl, by decide +kernel, ⟨by decide +kernel, by decide +kernel⟩, by decide +kernel⟩
theorem mf_X0_hasTail : zMF zy_X0_hasTail 1 := ⟨zTB_t 610 (by decide +kernel) rfl, zTB_t 4 (by decide +kernel) rfl, by decide +kernel, ⟨by decide +kernel, by decide +kernel⟩, by decide +kernel⟩
theorem mf_X0_hasStar : zMF zy_X0_hasStar 1 := ⟨zTB_t 601 (by decide +kernel) rfl, zTB_t 4 (by decide +kernel) rfl, by decide +kernel, ⟨by decide +kernel, by decide +kernel⟩, by decide +kernel⟩
theorem mf_X0_mayRepeat : zMF zy_X0_mayRepeat 1 := ⟨zTB_t 592 (by decide +kernel) rfl, zTB_t 4 (by decide +kernel) rfl, by decide +kernel, ⟨by decide +kernel, by decide +kernel⟩, by decide +kernel⟩
theorem mf_X0_mayBeLeftOut : zMF zy_X0_mayBeLeftOut 1 := ⟨zTB_t 446 (by decide +kernel) rfl, zTB_t 4 (by decide +kernel) rfl, by decide +kernel, ⟨by decide +kernel, by decide +kernel⟩, by decide +kernel⟩
theorem mf_X0_forget : zMF zy_X0_forget 0 := ⟨zTB_t 384 (by decide +kernel) rfl, zTB_t 4 (by decide +kernel) rfl, by decide +kernel, ⟨by decide +kernel, by decide +kernel⟩, by decide +kernel⟩
theorem mf_X0_isCut : zMF zy_X0_isCut 2 := ⟨zTB_t 388 (by decide +kernel) rfl, zTB_t 4 (by decide +kernel) rfl, by decide +kernel, ⟨by decide +kernel, by decide +kernel⟩, by decide +kernel⟩
theorem mf_X0_step : zMF zy_X0_step 2 := ⟨zTB_t 392 (by decide +kernel) rfl, zTB_t 4 (by decide +kernel) rfl, by decide +kernel, ⟨by decide +kernel, by decide +kernel⟩, by decide +kernel⟩
theorem mf_X0_opens : zMF zy_X0_opens 1 := ⟨zTB_t 396 (by decide +kernel) rfl, zTB_t 4 (by decide +kernel) rfl, by decide +kernel, ⟨by decide +kernel, by decide +kernel⟩, by decide +kernel⟩
theorem mf_X0_addAlternative : zMF zy_X0_addAlternative 0 := ⟨zTB_t 401 (by decide +kernel) rfl, zTB_t 4 (by decide +kernel) rfl, by decide +kernel, ⟨by decide +kernel, by decide +kernel⟩, by decide +kernel⟩
theorem mf_X0_addsItem : zMF zy_X0_addsItem 1 := ⟨zTB_t 406 (by decide +kernel) rfl, zTB_t 4 (by decide +kernel) rfl, by decide +kernel, ⟨by decide +kernel, by decide +kernel⟩, by decide +kernel⟩
theorem mf_X0_isEveryNameDefined : zMF zy_X0_isEveryNameDefined 0 := ⟨zTB_t 410 (by decide +kernel) rfl, zTB_t 4 (by decide +kernel) rfl, by decide +kernel, ⟨by decide +kernel, by decide +kernel⟩, by decide +kernel⟩
theorem mf_X0_findEmptiable : zMF zy_X0_findEmptiable 0 := ⟨zTB_t 418 (by decide +kernel) rfl, zTB_t 4 (by decide +kernel) rfl, by decide +kernel, ⟨by decide +kernel, by decide +kernel⟩, by decide +kernel⟩
theorem mf_X0_isEmptiable : zMF zy_X0_isEmptiable 1 := ⟨zTB_t 422 (by decide +kernel) rfl, zTB_t 4 (by decide +kernel) rfl, by decide +kernel, ⟨by decide +kernel, by decide +kernel⟩, by decide +kernel⟩
theorem mf_X0_mayBeEmpty : zMF zy_X0_mayBeEmpty 1 := ⟨zTB_t 442 (by decide +kernel) rfl, zTB_t 4 (by decide +kernel) rfl, by decide +kernel, ⟨by decide +kernel, by decide +kernel⟩, by decide +kernel⟩
theorem mf_X0_findOrder : zMF zy_X0_findOrder 0 := ⟨zTB_t 450 (by decide +kernel) rfl, zTB_t 4 (by decide +kernel) rfl, by decide +kernel, ⟨by decide +kernel, by decide +kernel⟩, by decide +kernel⟩
theorem mf_X0_leadsToPlaced : zMF zy_X0_leadsToPlaced 1 := ⟨zTB_t 454 (by decide +kernel) rfl, zTB_t 4 (by decide +kernel) rfl, by decide +kernel, ⟨by decide +kernel, by decide +kernel⟩, by decide +kernel⟩
theorem mf_X1_init : zMF zy_X1_init 0 := ⟨zTB_t 51 (by decide +kernel) rfl, zTB_t 3 (by decide +kernel) rfl, by decide +kernel, ⟨by decide +kernel, by decide +kernel⟩, by decide +kernel⟩
theorem mf_X1_verdict : zMF zy_X1_verdict 1 := ⟨zTB_t 542 (by decide +kernel) rfl, zTB_t 3 (by decide +kernel) rfl, by decide +kernel, ⟨by decide +kernel, by decide +kernel⟩, by decide +kernel⟩
theorem mf_X1_allow : zMF zy_X1_allow 1 := ⟨zTB_t 660 (by decide +kernel) rfl, zTB_t 3 (by decide +kernel) rfl, by decide +kernel, ⟨by decide +kernel, by decide +kernel⟩, by decide +kernel⟩
theorem mf_X1_forget : zMF zy_X1_forget 0 := ⟨zTB_t 530 (by decide +kernel) rfl, zTB_t 3 (by decide +kernel) rfl, by decide +kernel, ⟨by decide +kernel, by decide +kernel⟩, by decide +kernel⟩
theorem mf_X1_ask : zMF zy_X1_ask 1 := ⟨zTB_t 704 (by decide +kernel) rfl, zTB_t 3 (by decide +kernel) rfl, by decide +kernel, ⟨by decide +kernel, by decide +kernel⟩, by decide +kernel⟩
theorem mf_X1_isHeld : zMF zy_X1_isHeld 1 := ⟨zTB_t 708 (by decide +kernel) rfl, zTB_t 3 (by decide +kernel) rfl, by decide +kernel, ⟨by decide +kernel, by decide +kernel⟩, by decide +kernel⟩
theorem mf_X1_isHeldAt : zMF zy_X1_isHeldAt 2 := ⟨zTB_t 712 (by decide +kernel) rfl, zTB_t 3 (by decide +kernel) rfl, by decide +kernel, ⟨by decide +kernel, by decide +kernel⟩, by decide +kernel⟩
theorem mf_X1_hold : zMF zy_X1_hold 1 := ⟨zTB_t 717 (by decide +kernel) rfl, zTB_t 3 (by decide +kernel) rfl, by decide +kernel, ⟨by decide +kernel, by decide +kernel⟩, by decide +kernel⟩
theorem mf_X1_holds : zMF zy_X1_holds 3 := ⟨zTB_t 545 (by decide +kernel) rfl, zTB_t 3 (by decide +kernel) rfl, by decide +kernel, ⟨by decide +kernel, by decide +kernel⟩, by decide +kernel⟩
theorem mf_X2_init : zMF zy_X2_init 2 := ⟨zTB_t 252 (by decide +kernel) rfl, zTB_t 8 (by decide +kernel) rfl, by decide +kernel, ⟨by decide +kernel, by decide +kernel⟩, by decide +kernel⟩
theorem mf_X2_begin : zMF zy_X2_begin 0 := ⟨zTB_t 668 (by decide +kernel) rfl, zTB_t 8 (by decide +kernel) rfl, by decide +kernel, ⟨by decide +kernel, by decide +kernel⟩, by decide +kernel⟩
theorem mf_X2_addUnit : zMF zy_X2_addUnit 3 := ⟨zTB_t 685 (by decide +kernel) rfl, zTB_t 8 (by decide +kernel) rfl, by decide +kernel, ⟨by decide +kernel, by decide +kernel⟩, by decide +kernel⟩
theorem mf_X2_lessen : zMF zy_X2_lessen 0 := ⟨zTB_t 689 (by decide +kernel) rfl, zTB_t 8 (by decide +kernel) rfl, by decide +kernel, ⟨by decide +kernel, by decide +kernel⟩, by decide +kernel⟩
theorem mf_X2_takes : zMF zy_X2_takes 2 := ⟨zTB_t 695 (by decide +kernel) rfl, zTB_t 8 (by decide +kernel) rfl, by decide +kernel, ⟨by decide +kernel, by decide +kernel⟩, by decide +kernel⟩
theorem mf_X2_makeTrial : zMF zy_X2_makeTrial 3 := ⟨zTB_t 699 (by decide +kernel) rfl, zTB_t 8 (by decide +kernel) rfl, by decide +kernel, ⟨by decide +kernel, by decide +kernel⟩, by decide +kernel⟩
theorem mf_X2_keepTrial : zMF zy_X2_keepTrial 3 := ⟨zTB_t 721 (by decide +kernel) rfl, zTB_t 8 (by decide +kernel) rfl, by decide +kernel, ⟨by decide +kernel, by decide +kernel⟩, by decide +kernel⟩
theorem mf_X3_init : zMF zy_X3_init 1 := ⟨zTB_t 167 (by decide +kernel) rfl, zTB_t 5 (by decide +kernel) rfl, by decide +kernel, ⟨by decide +kernel, by decide +kernel⟩, by decide +kernel⟩
theorem mf_X3_forget : zMF zy_X3_forget 0 := ⟨zTB_t 458 (by decide +kernel) rfl, zTB_t 5 (by decide +kernel) rfl, by decide +kernel, ⟨by decide +kernel, by decide +kernel⟩, by decide +kernel⟩
theorem mf_X3_fits : zMF zy_X3_fits 1 := ⟨zTB_t 565 (by decide +kernel) rfl, zTB_t 5 (by decide +kernel) rfl, by decide +kernel, ⟨by decide +kernel, by decide +kernel⟩, by decide +kernel⟩
theorem mf_X3_alternativeOf : zMF zy_X3_alternativeOf 2 := ⟨zTB_t 621 (by decide +kernel) rfl, zTB_t 5 (by decide +kernel) rfl, by decide +kernel, ⟨by decide +kernel, by decide +kernel⟩, by decide +kernel⟩
theorem mf_X3_more : zMF zy_X3_more 3 := ⟨zTB_t 588 (by decide +kernel) rfl, zTB_t 5 (by decide +kernel) rfl, by decide +kernel, ⟨by decide +kernel, by decide +kernel⟩, by decide +kernel⟩
theorem mf_X3_cellOf : zMF zy_X3_cellOf 2 := ⟨zTB_t 576 (by decide +kernel) rfl, zTB_t 5 (by decide +kernel) rfl, by decide +kernel, ⟨by decide +kernel, by decide +kernel⟩, by decide +kernel⟩
theorem mf_X3_sameAtEnd : zMF zy_X3_sameAtEnd 1 := ⟨zTB_t 569 (by decide +kernel) rfl, zTB_t 5 (by decide +kernel) rfl, by decide +kernel, ⟨by decide +kernel, by decide +kernel⟩, by decide +kernel⟩
theorem mf_X3_settle : zMF zy_X3_settle 2 := ⟨zTB_t 573 (by decide +kernel) rfl, zTB_t 5 (by decide +kernel) rfl, by decide +kernel, ⟨by decide +kernel, by decide +kernel⟩, by decide +kernel⟩
theorem mf_X3_behind : zMF zy_X3_behind 2 := ⟨zTB_t 582 (by decide +kernel) rfl, zTB_t 5 (by decide +kernel) rfl, by decide +kernel, ⟨by decide +kernel, by decide +kernel⟩, by decide +kernel⟩
theorem mf_X3_nodesOf : zMF zy_X3_nodesOf 2 := ⟨zTB_t 606 (by decide +kernel) rfl, zTB_t 5 (by decide +kernel) rfl, by decide +kernel, ⟨by decide +kernel, by decide +kernel⟩, by decide +kernel⟩
theorem mf_X4_init : zMF zy_X4_init 4 := ⟨zTB_t 244 (by decide +kernel) rfl, zTB_t 7 (by decide +kernel) rfl, by decide +kernel, ⟨by decide +kernel, by decide +kernel⟩, by decide +kernel⟩
theorem mf_X4_bySigns : zMF zy_X4_bySigns 1 := ⟨zTB_t 664 (by decide +kernel) rfl, zTB_t 7 (by decide +kernel) rfl, by decide +kernel, ⟨by decide +kernel, by decide +kernel⟩, by decide +kernel⟩
theorem mf_X4_byLevels : zMF zy_X4_byLevels 1 := ⟨zTB_t 727 (by decide +kernel) rfl, zTB_t 7 (by decide +kernel) rfl, by decide +kernel, ⟨by decide +kernel, by decide +kernel⟩, by decide +kernel⟩
theorem mf_X4_byMoves : zMF zy_X4_byMoves 0 := ⟨zTB_t 749 (by decide +kernel) rfl, zTB_t 7 (by decide +kernel) rfl, by decide +kernel, ⟨by decide +kernel, by decide +kernel⟩, by decide +kernel⟩
theorem mf_X4_beginsWord : zMF zy_X4_beginsWord 1 := ⟨zTB_t 681 (by decide +kernel) rfl, zTB_t 7 (by decide +kernel) rfl, by decide +kernel, ⟨by decide +kernel, by decide +kernel⟩, by decide +kernel⟩
theorem mf_X4_chooseUnits : zMF zy_X4_chooseUnits 1 := ⟨zTB_t 737 (by decide +kernel) rfl, zTB_t 7 (by decide +kernel) rfl, by decide +kernel, ⟨by decide +kernel, by decide +kernel⟩, by decide +kernel⟩
theorem mf_X4_isBelowKept : zMF zy_X4_isBelowKept 1 := ⟨zTB_t 741 (by decide +kernel) rfl, zTB_t 7 (by decide +kernel) rfl, by decide +kernel, ⟨by decide +kernel, by decide +kernel⟩, by decide +kernel⟩
theorem mf_X4_keepUnits : zMF zy_X4_keepUnits 0 := ⟨zTB_t 745 (by decide +kernel) rfl, zTB_t 7 (by decide +kernel) rfl, by decide +kernel, ⟨by decide +kernel, by decide +kernel⟩, by decide +kernel⟩
theorem mf_X4_takesMove : zMF zy_X4_takesMove 1 := ⟨zTB_t 754 (by decide +kernel) rfl, zTB_t 7 (by decide +kernel) rfl, by decide +kernel, ⟨by decide +kernel, by decide +kernel⟩, by decide +kernel⟩
theorem mf_X4_isBelow : zMF zy_X4_isBelow 2 := ⟨zTB_t 758 (by decide +kernel) rfl, zTB_t 7 (by decide +kernel) rfl, by decide +kernel, ⟨by decide +kernel, by decide +kernel⟩, by decide +kernel⟩
theorem mf_X4_isMove : zMF zy_X4_isMove 2 := ⟨zTB_t 762 (by decide +kernel) rfl, zTB_t 7 (by decide +kernel) rfl, by decide +kernel, ⟨by decide +kernel, by decide +kernel⟩, by decide +kernel⟩
theorem mf_X5_init : zMF zy_X5_init 4 := ⟨zTB_t 466 (by decide +kernel) rfl, zTB_t 10 (by decide +kernel) rfl, by decide +kernel, ⟨by decide +kernel, by decide +kernel⟩, by decide +kernel⟩
theorem mf_X5_init_ : zMF zy_X5_init_ 4 := ⟨zTB_t 515 (by decide +kernel) rfl, zTB_t 10 (by decide +kernel) rfl, by decide +kernel, ⟨by decide +kernel, by decide +kernel⟩, by decide +kernel⟩
theorem mf_X6_init : zMF zy_X6_init 0 := ⟨zTB_t 24 (by decide +kernel) rfl, zTB_t 2 (by decide +kernel) rfl, by decide +kernel, ⟨by decide +kernel, by decide +kernel⟩, by decide +kernel⟩
theorem mf_X6_put : zMF zy_X6_put 1 := ⟨zTB_t 355 (by decide +kernel) rfl, zTB_t 2 (by decide +kernel) rfl, by decide +kernel, ⟨by decide +kernel, by decide +kernel⟩, by decide +kernel⟩
theorem mf_X6_putSome : zMF zy_X6_putSome 3 := ⟨zTB_t 676 (by decide +kernel) rfl, zTB_t 2 (by decide +kernel) rfl, by decide +kernel, ⟨by decide +kernel, by decide +kernel⟩, by decide +kernel⟩
theorem mf_X6_become : zMF zy_X6_become 1 := ⟨zTB_t 672 (by decide +kernel) rfl, zTB_t 2 (by decide +kernel) rfl, by decide +kernel, ⟨by decide +kernel, by decide +kernel⟩, by decide +kernel⟩
theorem mf_X6_holdsSign : zMF zy_X6_holdsSign 2 := ⟨zTB_t 549 (by decide +kernel) rfl, zTB_t 2 (by decide +kernel) rfl, by decide +kernel, ⟨by decide +kernel, by decide +kernel⟩, by decide +kernel⟩
theorem mf_X6_holdsPair : zMF zy_X6_holdsPair 3 := ⟨zTB_t 553 (by decide +kernel) rfl, zTB_t 2 (by decide +kernel) rfl, by decide +kernel, ⟨by decide +kernel, by decide +kernel⟩, by decide +kernel⟩
theorem mf_X7_init : zMF zy_X7_init 2 := ⟨zTB_t 198 (by decide +kernel) rfl, zTB_t 6 (by decide +kernel) rfl, by decide +kernel, ⟨by decide +kernel, by decide +kernel⟩, by decide +kernel⟩
theorem mf_X7_build : zMF zy_X7_build 1 := ⟨zTB_t 561 (by decide +kernel) rfl, zTB_t 6 (by decide +kernel) rfl, by decide +kernel, ⟨by decide +kernel, by decide +kernel⟩, by decide +kernel⟩
theorem mf_X7_told : zMF zy_X7_told 1 := ⟨zTB_t 648 (by decide +kernel) rfl, zTB_t 6 (by decide +kernel) rfl, by decide +kernel, ⟨by decide +kernel, by decide +kernel⟩, by decide +kernel⟩
theorem mf_X7_deepest : zMF zy_X7_deepest 0 := ⟨zTB_t 732 (by decide +kernel) rfl, zTB_t 6 (by decide +kernel) rfl, by decide +kernel, ⟨by decide +kernel, by decide +kernel⟩, by decide +kernel⟩
theorem mf_X7_grow : zMF zy_X7_grow 2 := ⟨zTB_t 617 (by decide +kernel) rfl, zTB_t 6 (by decide +kernel) rfl, by decide +kernel, ⟨by decide +kernel, by decide +kernel⟩, by decide +kernel⟩
theorem mf_X7_put : zMF zy_X7_put 4 := ⟨zTB_t 628 (by decide +kernel) rfl, zTB_t 6 (by decide +kernel) rfl, by decide +kernel, ⟨by decide +kernel, by decide +kernel⟩, by decide +kernel⟩
theorem mf_X7_isLoose : zMF zy_X7_isLoose 3 := ⟨zTB_t 634 (by decide +kernel) rfl, zTB_t 6 (by decide +kernel) rfl, by decide +kernel, ⟨by decide +kernel, by decide +kernel⟩, by decide +kernel⟩
theorem mf_X8_init : zMF zy_X8_init 0 := ⟨zTB_t 16 (by decide +kernel) rfl, zTB_t 1 (by decide +kernel) rfl, by decide +kernel, ⟨by decide +kernel, by decide +kernel⟩, by decide +kernel⟩
theorem mf_X8_type : zMF zy_X8_type 1 := ⟨zTB_t 348 (by decide +kernel) rfl, zTB_t 1 (by decide +kernel) rfl, by decide +kernel, ⟨by decide +kernel, by decide +kernel⟩, by decide +kernel⟩
theorem mf_X8_clear : zMF zy_X8_clear 0 := ⟨zTB_t 359 (by decide +kernel) rfl, zTB_t 1 (by decide +kernel) rfl, by decide +kernel, ⟨by decide +kernel, by decide +kernel⟩, by decide +kernel⟩
theorem mf_X8_write : zMF zy_X8_write 1 := ⟨zTB_t 363 (by decide +kernel) rfl, zTB_t 1 (by decide +kernel) rfl, by decide +kernel, ⟨by decide +kernel, by decide +kernel⟩, by decide +kernel⟩
theorem mf_X8_read : zMF zy_X8_read 0 := ⟨zTB_t 376 (by decide +kernel) rfl, zTB_t 1 (by decide +kernel) rfl, by decide +kernel, ⟨by decide +kernel, by decide +kernel⟩, by decide +kernel⟩
theorem mf_X8_has : zMF zy_X8_has 2 := ⟨zTB_t 462 (by decide +kernel) rfl, zTB_t 1 (by decide +kernel) rfl, by decide +kernel, ⟨by decide +kernel, by decide +kernel⟩, by decide +kernel⟩
theorem mf_X8_pair : zMF zy_X8_pair 3 := ⟨zTB_t 504 (by decide +kernel) rfl, zTB_t 1 (by decide +kernel) rfl, by decide +kernel, ⟨by decide +kernel, by decide +kernel⟩, by decide +kernel⟩
theorem mf_X8_size : zMF zy_X8_size 1 := ⟨zTB_t 508 (by decide +kernel) rfl, zTB_t 1 (by decide +kernel) rfl, by decide +kernel, ⟨by decide +kernel, by decide +kernel⟩, by decide +kernel⟩
theorem mf_X8_not : zMF zy_X8_not 0 := ⟨zTB_t 512 (by decide +kernel) rfl, zTB_t 1 (by decide +kernel) rfl, by decide +kernel, ⟨by decide +kernel, by decide +kernel⟩, by decide +kernel⟩
theorem mf_X8_join : zMF zy_X8_join 1 := ⟨zTB_t 519 (by decide +kernel) rfl, zTB_t 1 (by decide +kernel) rfl, by decide +kernel, ⟨by decide +kernel, by decide +kernel⟩, by decide +kernel⟩
theorem mf_X8_mark : zMF zy_X8_mark 1 := ⟨zTB_t 526 (by decide +kernel) rfl, zTB_t 1 (by decide +kernel) rfl, by decide +kernel, ⟨by decide +kernel, by decide +kernel⟩, by decide +kernel⟩
theorem mf_X8_remember : zMF zy_X8_remember 1 := ⟨zTB_t 534 (by decide +kernel) rfl, zTB_t 1 (by decide +kernel) rfl, by decide +kernel, ⟨by decide +kernel, by decide +kernel⟩, by decide +kernel⟩
theorem mf_X8_outcome : zMF zy_X8_outcome 0 := ⟨zTB_t 538 (by decide +kernel) rfl, zTB_t 1 (by decide +kernel) rfl, by decide +kernel, ⟨by decide +kernel, by decide +kernel⟩, by decide +kernel⟩
theorem mf_X8_nodes : zMF zy_X8_nodes 0 := ⟨zTB_t 557 (by decide +kernel) rfl, zTB_t 1 (by decide +kernel) rfl, by decide +kernel, ⟨by decide +kernel, by decide +kernel⟩, by decide +kernel⟩
theorem mf_X8_node : zMF zy_X8_node 1 := ⟨zTB_t 640 (by decide +kernel) rfl, zTB_t 1 (by decide +kernel) rfl, by decide +kernel, ⟨by decide +kernel, by decide +kernel⟩, by decide +kernel⟩
theorem mf_X8_depth : zMF zy_X8_depth 1 := ⟨zTB_t 652 (by decide +kernel) rfl, zTB_t 1 (by decide +kernel) rfl, by decide +kernel, ⟨by decide +kernel, by decide +kernel⟩, by decide +kernel⟩
theorem mf_X8_reduce : zMF zy_X8_reduce 2 := ⟨zTB_t 656 (by decide +kernel) rfl, zTB_t 1 (by decide +kernel) rfl, by decide +kernel, ⟨by decide +kernel, by decide +kernel⟩, by decide +kernel⟩
theorem mf_X8_length : zMF zy_X8_length 0 := ⟨zTB_t 770 (by decide +kernel) rfl, zTB_t 1 (by decide +kernel) rfl, by decide +kernel, ⟨by decide +kernel, by decide +kernel⟩, by decide +kernel⟩
theorem mf_X8_at : zMF zy_X8_at 1 := ⟨zTB_t 774 (by decide +kernel) rfl, zTB_t 1 (by decide +kernel) rfl, by decide +kernel, ⟨by decide +kernel, by decide +kernel⟩, by decide +kernel⟩
theorem mf_X8_count : zMF zy_X8_count 1 := ⟨zTB_t 778 (by decide +kernel) rfl, zTB_t 1 (by decide +kernel) rfl, by decide +kernel, ⟨by decide +kernel, by decide +kernel⟩, by decide +kernel⟩
theorem mf_X8_push : zMF zy_X8_push 1 := ⟨zTB_t 500 (by decide +kernel) rfl, zTB_t 1 (by decide +kernel) rfl, by decide +kernel, ⟨by decide +kernel, by decide +kernel⟩, by decide +kernel⟩
theorem mf_X8_hasNode : zMF zy_X8_hasNode 1 := ⟨zTB_t 644 (by decide +kernel) rfl, zTB_t 1 (by decide +kernel) rfl, by decide +kernel, ⟨by decide +kernel, by decide +kernel⟩, by decide +kernel⟩
theorem mf_X8_isTextSign : zMF zy_X8_isTextSign 1 := ⟨zTB_t 351 (by decide +kernel) rfl, zTB_t 1 (by decide +kernel) rfl, by decide +kernel, ⟨by decide +kernel, by decide +kernel⟩, by decide +kernel⟩
theorem mf_X8_isName : zMF zy_X8_isName 1 := ⟨zTB_t 369 (by decide +kernel) rfl, zTB_t 1 (by decide +kernel) rfl, by decide +kernel, ⟨by decide +kernel, by decide +kernel⟩, by decide +kernel⟩
theorem mf_X8_isTail : zMF zy_X8_isTail 1 := ⟨zTB_t 372 (by decide +kernel) rfl, zTB_t 1 (by decide +kernel) rfl, by decide +kernel, ⟨by decide +kernel, by decide +kernel⟩, by decide +kernel⟩
theorem mf_X8_isGrammarSign : zMF zy_X8_isGrammarSign 1 := ⟨zTB_t 366 (by decide +kernel) rfl, zTB_t 1 (by decide +kernel) rfl, by decide +kernel, ⟨by decide +kernel, by decide +kernel⟩, by decide +kernel⟩
theorem mf_X9_init : zMF zy_X9_init 0 := ⟨zTB_t 783 (by decide +kernel) rfl, zTB_t 9 (by decide +kernel) rfl, by decide +kernel, ⟨by decide +kernel, by decide +kernel⟩, by decide +kernel⟩
theorem mf_X9_isText : zMF zy_X9_isText 1 := ⟨zTB_t 984 (by decide +kernel) rfl, zTB_t 9 (by decide +kernel) rfl, by decide +kernel, ⟨by decide +kernel, by decide +kernel⟩, by decide +kernel⟩
theorem mf_X9_isName : zMF zy_X9_isName 1 := ⟨zTB_t 995 (by decide +kernel) rfl, zTB_t 9 (by decide +kernel) rfl, by decide +kernel, ⟨by decide +kernel, by decide +kernel⟩, by decide +kernel⟩
theorem mf_X9_type : zMF zy_X9_type 1 := ⟨zTB_t 981 (by decide +kernel) rfl, zTB_t 9 (by decide +kernel) rfl, by decide +kernel, ⟨by decide +kernel, by decide +kernel⟩, by decide +kernel⟩
theorem mf_X9_clear : zMF zy_X9_clear 0 := ⟨zTB_t 988 (by decide +kernel) rfl, zTB_t 9 (by decide +kernel) rfl, by decide +kernel, ⟨by decide +kernel, by decide +kernel⟩, by decide +kernel⟩
theorem mf_X9_write : zMF zy_X9_write 1 := ⟨zTB_t 992 (by decide +kernel) rfl, zTB_t 9 (by decide +kernel) rfl, by decide +kernel, ⟨by decide +kernel, by decide +kernel⟩, by decide +kernel⟩
theorem mf_X9_push : zMF zy_X9_push 3 := ⟨zTB_t 1003 (by decide +kernel) rfl, zTB_t 9 (by decide +kernel) rfl, by decide +kernel, ⟨by decide +kernel, by decide +kernel⟩, by decide +kernel⟩
theorem mf_X9_has : zMF zy_X9_has 2 := ⟨zTB_t 999 (by decide +kernel) rfl, zTB_t 9 (by decide +kernel) rfl, by decide +kernel, ⟨by decide +kernel, by decide +kernel⟩, by decide +kernel⟩
theorem mf_X9_pair : zMF zy_X9_pair 3 := ⟨zTB_t 1007 (by decide +kernel) rfl, zTB_t 9 (by decide +kernel) rfl, by decide +kernel, ⟨by decide +kernel, by decide +kernel⟩, by decide +kernel⟩
theorem mf_X9_size : zMF zy_X9_size 1 := ⟨zTB_t 1011 (by decide +kernel) rfl, zTB_t 9 (by decide +kernel) rfl, by decide +kernel, ⟨by decide +kernel, by decide +kernel⟩, by decide +kernel⟩
theorem mf_X9_copyStep : zMF zy_X9_copyStep 2 := ⟨zTB_t 1023 (by decide +kernel) rfl, zTB_t 9 (by decide +kernel) rfl, by decide +kernel, ⟨by decide +kernel, by decide +kernel⟩, by decide +kernel⟩
theorem mf_X9_not : zMF zy_X9_not 0 := ⟨zTB_t 1015 (by decide +kernel) rfl, zTB_t 9 (by decide +kernel) rfl, by decide +kernel, ⟨by decide +kernel, by decide +kernel⟩, by decide +kernel⟩
theorem mf_X9_join : zMF zy_X9_join 1 := ⟨zTB_t 1019 (by decide +kernel) rfl, zTB_t 9 (by decide +kernel) rfl, by decide +kernel, ⟨by decide +kernel, by decide +kernel⟩, by decide +kernel⟩
theorem mf_X9_mark : zMF zy_X9_mark 1 := ⟨zTB_t 1027 (by decide +kernel) rfl, zTB_t 9 (by decide +kernel) rfl, by decide +kernel, ⟨by decide +kernel, by decide +kernel⟩, by decide +kernel⟩
theorem mf_X9_holdsStep : zMF zy_X9_holdsStep 3 := ⟨zTB_t 1043 (by decide +kernel) rfl, zTB_t 9 (by decide +kernel) rfl, by decide +kernel, ⟨by decide +kernel, by decide +kernel⟩, by decide +kernel⟩
theorem mf_X9_holds : zMF zy_X9_holds 3 := ⟨zTB_t 1039 (by decide +kernel) rfl, zTB_t 9 (by decide +kernel) rfl, by decide +kernel, ⟨by decide +kernel, by decide +kernel⟩, by decide +kernel⟩
theorem mf_X9_outcomeOf : zMF zy_X9_outcomeOf 2 := ⟨zTB_t 1035 (by decide +kernel) rfl, zTB_t 9 (by decide +kernel) rfl, by decide +kernel, ⟨by decide +kernel, by decide +kernel⟩, by decide +kernel⟩
theorem mf_X9_outcome : zMF zy_X9_outcome 0 := ⟨zTB_t 1031 (by decide +kernel) rfl, zTB_t 9 (by decide +kernel) rfl, by decide +kernel, ⟨by decide +kernel, by decide +kernel⟩, by decide +kernel⟩
theorem mf_X9_readRules : zMF zy_X9_readRules 0 := ⟨zTB_t 1051 (by decide +kernel) rfl, zTB_t 9 (by decide +kernel) rfl, by decide +kernel, ⟨by decide +kernel, by decide +kernel⟩, by decide +kernel⟩
theorem mf_X9_beginAlternative : zMF zy_X9_beginAlternative 0 := ⟨zTB_t 1055 (by decide +kernel) rfl, zTB_t 9 (by decide +kernel) rfl, by decide +kernel, ⟨by decide +kernel, by decide +kernel⟩, by decide +kernel⟩
theorem mf_X9_areNamesThere : zMF zy_X9_areNamesThere 0 := ⟨zTB_t 1059 (by decide +kernel) rfl, zTB_t 9 (by decide +kernel) rfl, by decide +kernel, ⟨by decide +kernel, by decide +kernel⟩, by decide +kernel⟩
theorem mf_X9_isVoid : zMF zy_X9_isVoid 1 := ⟨zTB_t 1067 (by decide +kernel) rfl, zTB_t 9 (by decide +kernel) rfl, by decide +kernel, ⟨by decide +kernel, by decide +kernel⟩, by decide +kernel⟩
theorem mf_X9_findEmptiable : zMF zy_X9_findEmptiable 0 := ⟨zTB_t 1063 (by decide +kernel) rfl, zTB_t 9 (by decide +kernel) rfl, by decide +kernel, ⟨by decide +kernel, by decide +kernel⟩, by decide +kernel⟩
theorem mf_X9_findLeads : zMF zy_X9_findLeads 0 := ⟨zTB_t 1071 (by decide +kernel) rfl, zTB_t 9 (by decide +kernel) rfl, by decide +kernel, ⟨by decide +kernel, by decide +kernel⟩, by decide +kernel⟩
theorem mf_X9_findOrder : zMF zy_X9_findOrder 0 := ⟨zTB_t 1075 (by decide +kernel) rfl, zTB_t 9 (by decide +kernel) rfl, by decide +kernel, ⟨by decide +kernel, by decide +kernel⟩, by decide +kernel⟩
theorem mf_X9_clearDone : zMF zy_X9_clearDone 0 := ⟨zTB_t 1079 (by decide +kernel) rfl, zTB_t 9 (by decide +kernel) rfl, by decide +kernel, ⟨by decide +kernel, by decide +kernel⟩, by decide +kernel⟩
theorem mf_X9_read : zMF zy_X9_read 0 := ⟨zTB_t 1047 (by decide +kernel) rfl, zTB_t 9 (by decide +kernel) rfl, by decide +kernel, ⟨by decide +kernel, by decide +kernel⟩, by decide +kernel⟩
theorem mf_X9_once : zMF zy_X9_once 2 := ⟨zTB_t 1107 (by decide +kernel) rfl, zTB_t 9 (by decide +kernel) rfl, by decide +kernel, ⟨by decide +kernel, by decide +kernel⟩, by decide +kernel⟩
theorem mf_X9_again : zMF zy_X9_again 2 := ⟨zTB_t 1103 (by decide +kernel) rfl, zTB_t 9 (by decide +kernel) rfl, by decide +kernel, ⟨by decide +kernel, by decide +kernel⟩, by decide +kernel⟩
theorem mf_X9_endOf : zMF zy_X9_endOf 2 := ⟨zTB_t 1099 (by decide +kernel) rfl, zTB_t 9 (by decide +kernel) rfl, by decide +kernel, ⟨by decide +kernel, by decide +kernel⟩, by decide +kernel⟩
theorem mf_X9_alternativeOf : zMF zy_X9_alternativeOf 2 := ⟨zTB_t 1095 (by decide +kernel) rfl, zTB_t 9 (by decide +kernel) rfl, by decide +kernel, ⟨by decide +kernel, by decide +kernel⟩, by decide +kernel⟩
theorem mf_X9_findEnds : zMF zy_X9_findEnds 0 := ⟨zTB_t 1091 (by decide +kernel) rfl, zTB_t 9 (by decide +kernel) rfl, by decide +kernel, ⟨by decide +kernel, by decide +kernel⟩, by decide +kernel⟩
theorem mf_X9_addNode : zMF zy_X9_addNode 6 := ⟨zTB_t 1115 (by decide +kernel) rfl, zTB_t 9 (by decide +kernel) rfl, by decide +kernel, ⟨by decide +kernel, by decide +kernel⟩, by decide +kernel⟩
theorem mf_X9_openFrame : zMF zy_X9_openFrame 2 := ⟨zTB_t 1119 (by decide +kernel) rfl, zTB_t 9 (by decide +kernel) rfl, by decide +kernel, ⟨by decide +kernel, by decide +kernel⟩, by decide +kernel⟩
theorem mf_X9_taking : zMF zy_X9_taking 3 := ⟨zTB_t 1123 (by decide +kernel) rfl, zTB_t 9 (by decide +kernel) rfl, by decide +kernel, ⟨by decide +kernel, by decide +kernel⟩, by decide +kernel⟩
theorem mf_X9_isLoose : zMF zy_X9_isLoose 3 := ⟨zTB_t 1127 (by decide +kernel) rfl, zTB_t 9 (by decide +kernel) rfl, by decide +kernel, ⟨by decide +kernel, by decide +kernel⟩, by decide +kernel⟩
theorem mf_X9_buildTree : zMF zy_X9_buildTree 0 := ⟨zTB_t 1111 (by decide +kernel) rfl, zTB_t 9 (by decide +kernel) rfl, by decide +kernel, ⟨by decide +kernel, by decide +kernel⟩, by decide +kernel⟩
theorem mf_X9_parse : zMF zy_X9_parse 2 := ⟨zTB_t 1087 (by decide +kernel) rfl, zTB_t 9 (by decide +kernel) rfl, by decide +kernel, ⟨by decide +kernel, by decide +kernel⟩, by decide +kernel⟩
theorem mf_X9_nodes : zMF zy_X9_nodes 0 := ⟨zTB_t 1083 (by decide +kernel) rfl, zTB_t 9 (by decide +kernel) rfl, by decide +kernel, ⟨by decide +kernel, by decide +kernel⟩, by decide +kernel⟩
theorem mf_X9_node : zMF zy_X9_node 1 := ⟨zTB_t 1131 (by decide +kernel) rfl, zTB_t 9 (by decide +kernel) rfl, by decide +kernel, ⟨by decide +kernel, by decide +kernel⟩, by decide +kernel⟩
theorem mf_X9_depth : zMF zy_X9_depth 1 := ⟨zTB_t 1135 (by decide +kernel) rfl, zTB_t 9 (by decide +kernel) rfl, by decide +kernel, ⟨by decide +kernel, by decide +kernel⟩, by decide +kernel⟩
theorem mf_X9_isKnown : zMF zy_X9_isKnown 1 := ⟨zTB_t 1179 (by decide +kernel) rfl, zTB_t 9 (by decide +kernel) rfl, by decide +kernel, ⟨by decide +kernel, by decide +kernel⟩, by decide +kernel⟩
theorem mf_X9_keep : zMF zy_X9_keep 0 := ⟨zTB_t 1183 (by decide +kernel) rfl, zTB_t 9 (by decide +kernel) rfl, by decide +kernel, ⟨by decide +kernel, by decide +kernel⟩, by decide +kernel⟩
theorem mf_X9_ask : zMF zy_X9_ask 0 := ⟨zTB_t 1175 (by decide +kernel) rfl, zTB_t 9 (by decide +kernel) rfl, by decide +kernel, ⟨by decide +kernel, by decide +kernel⟩, by decide +kernel⟩
theorem mf_X9_askBits : zMF zy_X9_askBits 1 := ⟨zTB_t 1171 (by decide +kernel) rfl, zTB_t 9 (by decide +kernel) rfl, by decide +kernel, ⟨by decide +kernel, by decide +kernel⟩, by decide +kernel⟩
theorem mf_X9_unitBits : zMF zy_X9_unitBits 2 := ⟨zTB_t 1167 (by decide +kernel) rfl, zTB_t 9 (by decide +kernel) rfl, by decide +kernel, ⟨by decide +kernel, by decide +kernel⟩, by decide +kernel⟩
theorem mf_X9_drop : zMF zy_X9_drop 2 := ⟨zTB_t 1187 (by decide +kernel) rfl, zTB_t 9 (by decide +kernel) rfl, by decide +kernel, ⟨by decide +kernel, by decide +kernel⟩, by decide +kernel⟩
theorem mf_X9_round : zMF zy_X9_round 1 := ⟨zTB_t 1163 (by decide +kernel) rfl, zTB_t 9 (by decide +kernel) rfl, by decide +kernel, ⟨by decide +kernel, by decide +kernel⟩, by decide +kernel⟩
theorem mf_X9_lessen : zMF zy_X9_lessen 0 := ⟨zTB_t 1159 (by decide +kernel) rfl, zTB_t 9 (by decide +kernel) rfl, by decide +kernel, ⟨by decide +kernel, by decide +kernel⟩, by decide +kernel⟩
theorem mf_X9_addUnit : zMF zy_X9_addUnit 2 := ⟨zTB_t 1155 (by decide +kernel) rfl, zTB_t 9 (by decide +kernel) rfl, by decide +kernel, ⟨by decide +kernel, by decide +kernel⟩, by decide +kernel⟩
theorem mf_X9_run : zMF zy_X9_run 2 := ⟨zTB_t 1151 (by decide +kernel) rfl, zTB_t 9 (by decide +kernel) rfl, by decide +kernel, ⟨by decide +kernel, by decide +kernel⟩, by decide +kernel⟩
theorem mf_X9_setBase : zMF zy_X9_setBase 0 := ⟨zTB_t 1148 (by decide +kernel) rfl, zTB_t 9 (by decide +kernel) rfl, by decide +kernel, ⟨by decide +kernel, by decide +kernel⟩, by decide +kernel⟩
theorem mf_X9_byPlaces : zMF zy_X9_byPlaces 1 := ⟨zTB_t 1144 (by decide +kernel) rfl, zTB_t 9 (by decide +kernel) rfl, by decide +kernel, ⟨by decide +kernel, by decide +kernel⟩, by decide +kernel⟩
theorem mf_X9_isKept : zMF zy_X9_isKept 1 := ⟨zTB_t 1195 (by decide +kernel) rfl, zTB_t 9 (by decide +kernel) rfl, by decide +kernel, ⟨by decide +kernel, by decide +kernel⟩, by decide +kernel⟩
theorem mf_X9_byDepths : zMF zy_X9_byDepths 0 := ⟨zTB_t 1191 (by decide +kernel) rfl, zTB_t 9 (by decide +kernel) rfl, by decide +kernel, ⟨by decide +kernel, by decide +kernel⟩, by decide +kernel⟩
theorem mf_X9_againByDepths : zMF zy_X9_againByDepths 0 := ⟨zTB_t 1199 (by decide +kernel) rfl, zTB_t 9 (by decide +kernel) rfl, by decide +kernel, ⟨by decide +kernel, by decide +kernel⟩, by decide +kernel⟩
theorem mf_X9_take : zMF zy_X9_take 4 := ⟨zTB_t 1211 (by decide +kernel) rfl, zTB_t 9 (by decide +kernel) rfl, by decide +kernel, ⟨by decide +kernel, by decide +kernel⟩, by decide +kernel⟩
theorem mf_X9_movesOf : zMF zy_X9_movesOf 1 := ⟨zTB_t 1207 (by decide +kernel) rfl, zTB_t 9 (by decide +kernel) rfl, by decide +kernel, ⟨by decide +kernel, by decide +kernel⟩, by decide +kernel⟩
theorem mf_X9_move : zMF zy_X9_move 0 := ⟨zTB_t 1203 (by decide +kernel) rfl, zTB_t 9 (by decide +kernel) rfl, by decide +kernel, ⟨by decide +kernel, by decide +kernel⟩, by decide +kernel⟩
theorem mf_X9_reduce : zMF zy_X9_reduce 2 := ⟨zTB_t 1139 (by decide +kernel) rfl, zTB_t 9 (by decide +kernel) rfl, by decide +kernel, ⟨by decide +kernel, by decide +kernel⟩, by decide +kernel⟩
theorem mf_X9_remember : zMF zy_X9_remember 1 := ⟨zTB_t 1215 (by decide +kernel) rfl, zTB_t 9 (by decide +kernel) rfl, by decide +kernel, ⟨by decide +kernel, by decide +kernel⟩, by decide +kernel⟩
theorem mf_X9_length : zMF zy_X9_length 0 := ⟨zTB_t 1219 (by decide +kernel) rfl, zTB_t 9 (by decide +kernel) rfl, by decide +kernel, ⟨by decide +kernel, by decide +kernel⟩, by decide +kernel⟩
theorem mf_X9_at : zMF zy_X9_at 1 := ⟨zTB_t 1223 (by decide +kernel) rfl, zTB_t 9 (by decide +kernel) rfl, by decide +kernel, ⟨by decide +kernel, by decide +kernel⟩, by decide +kernel⟩
theorem mf_X9_count : zMF zy_X9_count 1 := ⟨zTB_t 1227 (by decide +kernel) rfl, zTB_t 9 (by decide +kernel) rfl, by decide +kernel, ⟨by decide +kernel, by decide +kernel⟩, by decide +kernel⟩
/-- an instance method -/
def zMI (y : zY) : Prop := Cond.instanceMethod y.1 ∈ zTB ∧ Cond.selects y.1.cls y.1 y.1 ∈ zTB
theorem mi_X0_init : Cond.instanceMethod yX0_init ∈ zTB := zTB_t 100 (by decide +kernel) rfl
theorem mi_X0_become : zMI zy_X0_become := ⟨zTB_t 378 (by decide +kernel) rfl, zTB_t 379 (by decide +kernel) rfl⟩
theorem mi_X0_firstOf : zMI zy_X0_firstOf := ⟨zTB_t 424 (by decide +kernel) rfl, zTB_t 425 (by decide +kernel) rfl⟩
theorem mi_X0_endOf : zMI zy_X0_endOf := ⟨zTB_t 428 (by decide +kernel) rfl, zTB_t 429 (by decide +kernel) rfl⟩
theorem mi_X0_firstItemOf : zMI zy_X0_firstItemOf := ⟨zTB_t 432 (by decide +kernel) rfl, zTB_t 433 (by decide +kernel) rfl⟩
theorem mi_X0_endItemOf : zMI zy_X0_endItemOf := ⟨zTB_t 436 (by decide +kernel) rfl, zTB_t 437 (by decide +kernel) rfl⟩
theorem mi_X0_whatOf : zMI zy_X0_whatOf := ⟨zTB_t 595 (by decide +kernel) rfl, zTB_t 596 (by decide +kernel) rfl⟩
theorem mi_X0_ruleOf : zMI zy_X0_ruleOf := ⟨zTB_t 412 (by decide +kernel) rfl, zTB_t 413 (by decide +kernel) rfl⟩
theorem mi_X0_hasTail : zMI zy_X0_hasTail := ⟨zTB_t 608 (by decide +kernel) rfl, zTB_t 609 (by decide +kernel) rfl⟩
theorem mi_X0_hasStar : zMI zy_X0_hasStar := ⟨zTB_t 599 (by decide +kernel) rfl, zTB_t 600 (by decide +kernel) rfl⟩
theorem mi_X0_mayRepeat : zMI zy_X0_mayRepeat := ⟨zTB_t 590 (by decide +kernel) rfl, zTB_t 591 (by decide +kernel) rfl⟩
theorem mi_X0_mayBeLeftOut : zMI zy_X0_mayBeLeftOut := ⟨zTB_t 444 (by decide +kernel) rfl, zTB_t 445 (by decide +kernel) rfl⟩
theorem mi_X0_forget : zMI zy_X0_forget := ⟨zTB_t 383 (by decide +kernel) rfl, zTB_s 0 (by decide +kernel) rfl⟩
theorem mi_X0_isCut : zMI zy_X0_isCut := ⟨zTB_t 387 (by decide +kernel) rfl, zTB_s 1 (by decide +kernel) rfl⟩
theorem mi_X0_step : zMI zy_X0_step := ⟨zTB_t 391 (by decide +kernel) rfl, zTB_s 2 (by decide +kernel) rfl⟩
theorem mi_X0_opens : zMI zy_X0_opens := ⟨zTB_t 395 (by decide +kernel) rfl, zTB_s 3 (by decide +kernel) rfl⟩
theorem mi_X0_addAlternative : zMI zy_X0_addAlternative := ⟨zTB_t 400 (by decide +kernel) rfl, zTB_s 4 (by decide +kernel) rfl⟩
theorem mi_X0_addsItem : zMI zy_X0_addsItem := ⟨zTB_t 405 (by decide +kernel) rfl, zTB_s 5 (by decide +kernel) rfl⟩
theorem mi_X0_isEveryNameDefined : zMI zy_X0_isEveryNameDefined := ⟨zTB_t 409 (by decide +kernel) rfl, zTB_s 6 (by decide +kernel) rfl⟩
theorem mi_X0_findEmptiable : zMI zy_X0_findEmptiable := ⟨zTB_t 417 (by decide +kernel) rfl, zTB_s 7 (by decide +kernel) rfl⟩
theorem mi_X0_isEmptiable : zMI zy_X0_isEmptiable := ⟨zTB_t 421 (by decide +kernel) rfl, zTB_s 8 (by decide +kernel) rfl⟩
theorem mi_X0_mayBeEmpty : zMI zy_X0_mayBeEmpty := ⟨zTB_t 441 (by decide +kernel) rfl, zTB_s 9 (by decide +kernel) rfl⟩
theorem mi_X0_findOrder : zMI zy_X0_findOrder := ⟨zTB_t 449 (by decide +kernel) rfl, zTB_s 10 (by decide +kernel) rfl⟩
theorem mi_X0_leadsToPlaced : zMI zy_X0_leadsToPlaced := ⟨zTB_t 453 (by decide +kernel) rfl, zTB_s 11 (by decide +kernel) rfl⟩
theorem mi_X1_init : Cond.instanceMethod yX1_init ∈ zTB := zTB_t 50 (by decide +kernel) rfl
theorem mi_X1_verdict : zMI zy_X1_verdict := ⟨zTB_t 540 (by decide +kernel) rfl, zTB_t 541 (by decide +kernel) rfl⟩
theorem mi_X1_allow : zMI zy_X1_allow := ⟨zTB_t 658 (by decide +kernel) rfl, zTB_t 659 (by decide +kernel) rfl⟩
theorem mi_X1_forget : zMI zy_X1_forget := ⟨zTB_t 528 (by decide +kernel) rfl, zTB_t 529 (by decide +kernel) rfl⟩
theorem mi_X1_ask : zMI zy_X1_ask := ⟨zTB_t 702 (by decide +kernel) rfl, zTB_t 703 (by decide +kernel) rfl⟩
theorem mi_X1_isHeld : zMI zy_X1_isHeld := ⟨zTB_t 707 (by decide +kernel) rfl, zTB_s 24 (by decide +kernel) rfl⟩
theorem mi_X1_isHeldAt : zMI zy_X1_isHeldAt := ⟨zTB_t 711 (by decide +kernel) rfl, zTB_s 25 (by decide +kernel) rfl⟩
theorem mi_X1_hold : zMI zy_X1_hold := ⟨zTB_t 716 (by decide +kernel) rfl, zTB_s 26 (by decide +kernel) rfl⟩
theorem ms_X1_holds : Cond.static yX1_holds ∈ zTB := zTB_t 544 (by decide +kernel) rfl
theorem mi_X2_init : Cond.instanceMethod yX2_init ∈ zTB := zTB_t 251 (by decide +kernel) rfl
theorem mi_X2_begin : zMI zy_X2_begin := ⟨zTB_t 666 (by decide +kernel) rfl, zTB_t 667 (by decide +kernel) rfl⟩
theorem mi_X2_addUnit : zMI zy_X2_addUnit := ⟨zTB_t 683 (by decide +kernel) rfl, zTB_t 684 (by decide +kernel) rfl⟩
theorem mi_X2_lessen : zMI zy_X2_lessen := ⟨zTB_t 687 (by decide +kernel) rfl, zTB_t 688 (by decide +kernel) rfl⟩
theorem mi_X2_takes : zMI zy_X2_takes := ⟨zTB_t 694 (by decide +kernel) rfl, zTB_s 22 (by decide +kernel) rfl⟩
theorem mi_X2_makeTrial : zMI zy_X2_makeTrial := ⟨zTB_t 698 (by decide +kernel) rfl, zTB_s 23 (by decide +kernel) rfl⟩
theorem mi_X2_keepTrial : zMI zy_X2_keepTrial := ⟨zTB_t 720 (by decide +kernel) rfl, zTB_s 27 (by decide +kernel) rfl⟩
theorem mi_X3_init : Cond.instanceMethod yX3_init ∈ zTB := zTB_t 166 (by decide +kernel) rfl
theorem mi_X3_forget : zMI zy_X3_forget := ⟨zTB_t 456 (by decide +kernel) rfl, zTB_t 457 (by decide +kernel) rfl⟩
theorem mi_X3_fits : zMI zy_X3_fits := ⟨zTB_t 563 (by decide +kernel) rfl, zTB_t 564 (by decide +kernel) rfl⟩
theorem mi_X3_alternativeOf : zMI zy_X3_alternativeOf := ⟨zTB_t 619 (by decide +kernel) rfl, zTB_t 620 (by decide +kernel) rfl⟩
theorem mi_X3_more : zMI zy_X3_more := ⟨zTB_t 586 (by decide +kernel) rfl, zTB_t 587 (by decide +kernel) rfl⟩
theorem ms_X3_cellOf : Cond.static yX3_cellOf ∈ zTB := zTB_t 575 (by decide +kernel) rfl
theorem mi_X3_sameAtEnd : zMI zy_X3_sameAtEnd := ⟨zTB_t 568 (by decide +kernel) rfl, zTB_s 13 (by decide +kernel) rfl⟩
theorem mi_X3_settle : zMI zy_X3_settle := ⟨zTB_t 572 (by decide +kernel) rfl, zTB_s 14 (by decide +kernel) rfl⟩
theorem mi_X3_behind : zMI zy_X3_behind := ⟨zTB_t 581 (by decide +kernel) rfl, zTB_s 15 (by decide +kernel) rfl⟩
theorem mi_X3_nodesOf : zMI zy_X3_nodesOf := ⟨zTB_t 605 (by decide +kernel) rfl, zTB_s 16 (by decide +kernel) rfl⟩
theorem mi_X4_init : Cond.instanceMethod yX4_init ∈ zTB := zTB_t 243 (by decide +kernel) rfl
theorem mi_X4_bySigns : zMI zy_X4_bySigns := ⟨zTB_t 662 (by decide +kernel) rfl, zTB_t 663 (by decide +kernel) rfl⟩
theorem mi_X4_byLevels : zMI zy_X4_byLevels := ⟨zTB_t 725 (by decide +kernel) rfl, zTB_t 726 (by decide +kernel) rfl⟩
theorem mi_X4_byMoves : zMI zy_X4_byMoves := ⟨zTB_t 747 (by decide +kernel) rfl, zTB_t 748 (by decide +kernel) rfl⟩
theorem mi_X4_beginsWord : zMI zy_X4_beginsWord := ⟨zTB_t 680 (by decide +kernel) rfl, zTB_s 21 (by decide +kernel) rfl⟩
theorem mi_X4_chooseUnits : zMI zy_X4_chooseUnits := ⟨zTB_t 736 (by decide +kernel) rfl, zTB_s 28 (by decide +kernel) rfl⟩
theorem mi_X4_isBelowKept : zMI zy_X4_isBelowKept := ⟨zTB_t 740 (by decide +kernel) rfl, zTB_s 29 (by decide +kernel) rfl⟩
theorem mi_X4_keepUnits : zMI zy_X4_keepUnits := ⟨zTB_t 744 (by decide +kernel) rfl, zTB_s 30 (by decide +kernel) rfl⟩
theorem mi_X4_takesMove : zMI zy_X4_takesMove := ⟨zTB_t 753 (by decide +kernel) rfl, zTB_s 31 (by decide +kernel) rfl⟩
theorem mi_X4_isBelow : zMI zy_X4_isBelow := ⟨zTB_t 757 (by decide +kernel) rfl, zTB_s 32 (by decide +kernel) rfl⟩
theorem mi_X4_isMove : zMI zy_X4_isMove := ⟨zTB_t 761 (by decide +kernel) rfl, zTB_s 33 (by decide +kernel) rfl⟩
theorem mi_X5_init : Cond.instanceMethod yX5_init ∈ zTB := zTB_t 465 (by decide +kernel) rfl
theorem mi_X5_init_ : Cond.instanceMethod yX5_init_ ∈ zTB := zTB_t 514 (by decide +kernel) rfl
theorem mi_X6_init : Cond.instanceMethod yX6_init ∈ zTB := zTB_t 23 (by decide +kernel) rfl
theorem mi_X6_put : zMI zy_X6_put := ⟨zTB_t 353 (by decide +kernel) rfl, zTB_t 354 (by decide +kernel) rfl⟩
theorem mi_X6_putSome : zMI zy_X6_putSome := ⟨zTB_t 674 (by decide +kernel) rfl, zTB_t 675 (by decide +kernel) rfl⟩
theorem mi_X6_become : zMI zy_X6_become := ⟨zTB_t 670 (by decide +kernel) rfl, zTB_t 671 (by decide +kernel) rfl⟩
theorem mi_X6_holdsSign : zMI zy_X6_holdsSign := ⟨zTB_t 547 (by decide +kernel) rfl, zTB_t 548 (by decide +kernel) rfl⟩
theorem mi_X6_holdsPair : zMI zy_X6_holdsPair := ⟨zTB_t 551 (by decide +kernel) rfl, zTB_t 552 (by decide +kernel) rfl⟩
theorem mi_X7_init : Cond.instanceMethod yX7_init ∈ zTB := zTB_t 197 (by decide +kernel) rfl
theorem mi_X7_build : zMI zy_X7_build := ⟨zTB_t 559 (by decide +kernel) rfl, zTB_t 560 (by decide +kernel) rfl⟩
theorem mi_X7_told : zMI zy_X7_told := ⟨zTB_t 646 (by decide +kernel) rfl, zTB_t 647 (by decide +kernel) rfl⟩
theorem mi_X7_deepest : zMI zy_X7_deepest := ⟨zTB_t 730 (by decide +kernel) rfl, zTB_t 731 (by decide +kernel) rfl⟩
theorem mi_X7_grow : zMI zy_X7_grow := ⟨zTB_t 616 (by decide +kernel) rfl, zTB_s 17 (by decide +kernel) rfl⟩
theorem mi_X7_put : zMI zy_X7_put := ⟨zTB_t 627 (by decide +kernel) rfl, zTB_s 18 (by decide +kernel) rfl⟩
theorem mi_X7_isLoose : zMI zy_X7_isLoose := ⟨zTB_t 633 (by decide +kernel) rfl, zTB_s 19 (by decide +kernel) rfl⟩
theorem mi_X8_init : Cond.instanceMethod yX8_init ∈ zTB := zTB_t 15 (by decide +kernel) rfl
theorem mi_X8_type : zMI zy_X8_type := ⟨zTB_t 346 (by decide +kernel) rfl, zTB_t 347 (by decide +kernel) rfl⟩
theorem mi_X8_clear : zMI zy_X8_clear := ⟨zTB_t 357 (by decide +kernel) rfl, zTB_t 358 (by decide +kernel) rfl⟩
theorem mi_X8_write : zMI zy_X8_write := ⟨zTB_t 361 (by decide +kernel) rfl, zTB_t 362 (by decide +kernel) rfl⟩
theorem mi_X8_read : zMI zy_X8_read := ⟨zTB_t 374 (by decide +kernel) rfl, zTB_t 375 (by decide +kernel) rfl⟩
theorem mi_X8_has : zMI zy_X8_has := ⟨zTB_t 460 (by decide +kernel) rfl, zTB_t 461 (by decide +kernel) rfl⟩
theorem mi_X8_pair : zMI zy_X8_pair := ⟨zTB_t 502 (by decide +kernel) rfl, zTB_t 503 (by decide +kernel) rfl⟩
theorem mi_X8_size : zMI zy_X8_size := ⟨zTB_t 506 (by decide +kernel) rfl, zTB_t 507 (by decide +kernel) rfl⟩
theorem mi_X8_not : zMI zy_X8_not := ⟨zTB_t 510 (by decide +kernel) rfl, zTB_t 511 (by decide +kernel) rfl⟩
theorem mi_X8_join : zMI zy_X8_join := ⟨zTB_t 517 (by decide +kernel) rfl, zTB_t 518 (by decide +kernel) rfl⟩
theorem mi_X8_mark : zMI zy_X8_mark := ⟨zTB_t 524 (by decide +kernel) rfl, zTB_t 525 (by decide +kernel) rfl⟩
theorem mi_X8_remember : zMI zy_X8_remember := ⟨zTB_t 532 (by decide +kernel) rfl, zTB_t 533 (by decide +kernel) rfl⟩
theorem mi_X8_outcome : zMI zy_X8_outcome := ⟨zTB_t 536 (by decide +kernel) rfl, zTB_t 537 (by decide +kernel) rfl⟩
theorem mi_X8_nodes : zMI zy_X8_nodes := ⟨zTB_t 555 (by decide +kernel) rfl, zTB_t 556 (by decide +kernel) rfl⟩
theorem mi_X8_node : zMI zy_X8_node := ⟨zTB_t 638 (by decide +kernel) rfl, zTB_t 639 (by decide +kernel) rfl⟩
theorem mi_X8_depth : zMI zy_X8_depth := ⟨zTB_t 650 (by decide +kernel) rfl, zTB_t 651 (by decide +kernel) rfl⟩
theorem mi_X8_reduce : zMI zy_X8_reduce := ⟨zTB_t 654 (by decide +kernel) rfl, zTB_t 655 (by decide +kernel) rfl⟩
theorem mi_X8_length : zMI zy_X8_length := ⟨zTB_t 768 (by decide +kernel) rfl, zTB_t 769 (by decide +kernel) rfl⟩
theorem mi_X8_at : zMI zy_X8_at := ⟨zTB_t 772 (by decide +kernel) rfl, zTB_t 773 (by decide +kernel) rfl⟩
theorem mi_X8_count : zMI zy_X8_count := ⟨zTB_t 776 (by decide +kernel) rfl, zTB_t 777 (by decide +kernel) rfl⟩
theorem mi_X8_push : zMI zy_X8_push := ⟨zTB_t 499 (by decide +kernel) rfl, zTB_s 12 (by decide +kernel) rfl⟩
theorem mi_X8_hasNode : zMI zy_X8_hasNode := ⟨zTB_t 643 (by decide +kernel) rfl, zTB_s 20 (by decide +kernel) rfl⟩
theorem ms_X8_isTextSign : Cond.static yX8_isTextSign ∈ zTB := zTB_t 350 (by decide +kernel) rfl
theorem ms_X8_isName : Cond.static yX8_isName ∈ zTB := zTB_t 368 (by decide +kernel) rfl
theorem ms_X8_isTail : Cond.static yX8_isTail ∈ zTB := zTB_t 371 (by decide +kernel) rfl
theorem ms_X8_isGrammarSign : Cond.static yX8_isGrammarSign ∈ zTB := zTB_t 365 (by decide +kernel) rfl
theorem mi_X9_init : Cond.instanceMethod yX9_init ∈ zTB := zTB_t 782 (by decide +kernel) rfl
theorem ms_X9_isText : Cond.static yX9_isText ∈ zTB := zTB_t 983 (by decide +kernel) rfl
theorem ms_X9_isName : Cond.static yX9_isName ∈ zTB := zTB_t 994 (by decide +kernel) rfl
theorem mi_X9_type : zMI zy_X9_type := ⟨zTB_t 979 (by decide +kernel) rfl, zTB_t 980 (by decide +kernel) rfl⟩
theorem mi_X9_clear : zMI zy_X9_clear := ⟨zTB_t 986 (by decide +kernel) rfl, zTB_t 987 (by decide +kernel) rfl⟩
theorem mi_X9_write : zMI zy_X9_write := ⟨zTB_t 990 (by decide +kernel) rfl, zTB_t 991 (by decide +kernel) rfl⟩
theorem mi_X9_push : zMI zy_X9_push := ⟨zTB_t 1002 (by decide +kernel) rfl, zTB_s 34 (by decide +kernel) rfl⟩
theorem mi_X9_has : zMI zy_X9_has := ⟨zTB_t 997 (by decide +kernel) rfl, zTB_t 998 (by decide +kernel) rfl⟩
theorem mi_X9_pair : zMI zy_X9_pair := ⟨zTB_t 1005 (by decide +kernel) rfl, zTB_t 1006 (by decide +kernel) rfl⟩
theorem mi_X9_size : zMI zy_X9_size := ⟨zTB_t 1009 (by decide +kernel) rfl, zTB_t 1010 (by decide +kernel) rfl⟩
theorem mi_X9_copyStep : zMI zy_X9_copyStep := ⟨zTB_t 1022 (by decide +kernel) rfl, zTB_s 35 (by decide +kernel) rfl⟩
theorem mi_X9_not : zMI zy_X9_not := ⟨zTB_t 1013 (by decide +kernel) rfl, zTB_t 1014 (by decide +kernel) rfl⟩
theorem mi_X9_join : zMI zy_X9_join := ⟨zTB_t 1017 (by decide +kernel) rfl, zTB_t 1018 (by decide +kernel) rfl⟩
theorem mi_X9_mark : zMI zy_X9_mark := ⟨zTB_t 1025 (by decide +kernel) rfl, zTB_t 1026 (by decide +kernel) rfl⟩
theorem mi_X9_holdsStep : zMI zy_X9_holdsStep := ⟨zTB_t 1042 (by decide +kernel) rfl, zTB_s 38 (by decide +kernel) rfl⟩
theorem mi_X9_holds : zMI zy_X9_holds := ⟨zTB_t 1038 (by decide +kernel) rfl, zTB_s 37 (by decide +kernel) rfl⟩
theorem mi_X9_outcomeOf : zMI zy_X9_outcomeOf := ⟨zTB_t 1034 (by decide +kernel) rfl, zTB_s 36 (by decide +kernel) rfl⟩
theorem mi_X9_outcome : zMI zy_X9_outcome := ⟨zTB_t 1029 (by decide +kernel) rfl, zTB_t 1030 (by decide +kernel) rfl⟩
theorem mi_X9_readRules : zMI zy_X9_readRules := ⟨zTB_t 1050 (by decide +kernel) rfl, zTB_s 39 (by decide +kernel) rfl⟩
theorem mi_X9_beginAlternative : zMI zy_X9_beginAlternative := ⟨zTB_t 1054 (by decide +kernel) rfl, zTB_s 40 (by decide +kernel) rfl⟩
theorem mi_X9_areNamesThere : zMI zy_X9_areNamesThere := ⟨zTB_t 1058 (by decide +kernel) rfl, zTB_s 41 (by decide +kernel) rfl⟩
theorem mi_X9_isVoid : zMI zy_X9_isVoid := ⟨zTB_t 1066 (by decide +kernel) rfl, zTB_s 43 (by decide +kernel) rfl⟩
theorem mi_X9_findEmptiable : zMI zy_X9_findEmptiable := ⟨zTB_t 1062 (by decide +kernel) rfl, zTB_s 42 (by decide +kernel) rfl⟩
theorem mi_X9_findLeads : zMI zy_X9_findLeads := ⟨zTB_t 1070 (by decide +kernel) rfl, zTB_s 44 (by decide +kernel) rfl⟩
theorem mi_X9_findOrder : zMI zy_X9_findOrder := ⟨zTB_t 1074 (by decide +kernel) rfl, zTB_s 45 (by decide +kernel) rfl⟩
theorem mi_X9_clearDone : zMI zy_X9_clearDone := ⟨zTB_t 1078 (by decide +kernel) rfl, zTB_s 46 (by decide +kernel) rfl⟩
theorem mi_X9_read : zMI zy_X9_read := ⟨zTB_t 1045 (by decide +kernel) rfl, zTB_t 1046 (by decide +kernel) rfl⟩
theorem mi_X9_once : zMI zy_X9_once := ⟨zTB_t 1106 (by decide +kernel) rfl, zTB_s 52 (by decide +kernel) rfl⟩
theorem mi_X9_again : zMI zy_X9_again := ⟨zTB_t 1102 (by decide +kernel) rfl, zTB_s 51 (by decide +kernel) rfl⟩
theorem mi_X9_endOf : zMI zy_X9_endOf := ⟨zTB_t 1098 (by decide +kernel) rfl, zTB_s 50 (by decide +kernel) rfl⟩
theorem mi_X9_alternativeOf : zMI zy_X9_alternativeOf := ⟨zTB_t 1094 (by decide +kernel) rfl, zTB_s 49 (by decide +kernel) rfl⟩
theorem mi_X9_findEnds : zMI zy_X9_findEnds := ⟨zTB_t 1090 (by decide +kernel) rfl, zTB_s 48 (by decide +kernel) rfl⟩
theorem mi_X9_addNode : zMI zy_X9_addNode := ⟨zTB_t 1114 (by decide +kernel) rfl, zTB_s 54 (by decide +kernel) rfl⟩
theorem mi_X9_openFrame : zMI zy_X9_openFrame := ⟨zTB_t 1118 (by decide +kernel) rfl, zTB_s 55 (by decide +kernel) rfl⟩
theorem mi_X9_taking : zMI zy_X9_taking := ⟨zTB_t 1122 (by decide +kernel) rfl, zTB_s 56 (by decide +kernel) rfl⟩
theorem mi_X9_isLoose : zMI zy_X9_isLoose := ⟨zTB_t 1126 (by decide +kernel) rfl, zTB_s 57 (by decide +kernel) rfl⟩
theorem mi_X9_buildTree : zMI zy_X9_buildTree := ⟨zTB_t 1110 (by decide +kernel) rfl, zTB_s 53 (by decide +kernel) rfl⟩
theorem mi_X9_parse : zMI zy_X9_parse := ⟨zTB_t 1086 (by decide +kernel) rfl, zTB_s 47 (by decide +kernel) rfl⟩
theorem mi_X9_nodes : zMI zy_X9_nodes := ⟨zTB_t 1081 (by decide +kernel) rfl, zTB_t 1082 (by decide +kernel) rfl⟩
theorem mi_X9_node : zMI zy_X9_node := ⟨zTB_t 1129 (by decide +kernel) rfl, zTB_t 1130 (by decide +kernel) rfl⟩
theorem mi_X9_depth : zMI zy_X9_depth := ⟨zTB_t 1133 (by decide +kernel) rfl, zTB_t 1134 (by decide +kernel) rfl⟩
theorem mi_X9_isKnown : zMI zy_X9_isKnown := ⟨zTB_t 1178 (by decide +kernel) rfl, zTB_s 66 (by decide +kernel) rfl⟩
theorem mi_X9_keep : zMI zy_X9_keep := ⟨zTB_t 1182 (by decide +kernel) rfl, zTB_s 67 (by decide +kernel) rfl⟩
theorem mi_X9_ask : zMI zy_X9_ask := ⟨zTB_t 1174 (by decide +kernel) rfl, zTB_s 65 (by decide +kernel) rfl⟩
theorem mi_X9_askBits : zMI zy_X9_askBits := ⟨zTB_t 1170 (by decide +kernel) rfl, zTB_s 64 (by decide +kernel) rfl⟩
theorem mi_X9_unitBits : zMI zy_X9_unitBits := ⟨zTB_t 1166 (by decide +kernel) rfl, zTB_s 63 (by decide +kernel) rfl⟩
theorem mi_X9_drop : zMI zy_X9_drop := ⟨zTB_t 1186 (by decide +kernel) rfl, zTB_s 68 (by decide +kernel) rfl⟩
theorem mi_X9_round : zMI zy_X9_round := ⟨zTB_t 1162 (by decide +kernel) rfl, zTB_s 62 (by decide +kernel) rfl⟩
theorem mi_X9_lessen : zMI zy_X9_lessen := ⟨zTB_t 1158 (by decide +kernel) rfl, zTB_s 61 (by decide +kernel) rfl⟩
theorem mi_X9_addUnit : zMI zy_X9_addUnit := ⟨zTB_t 1154 (by decide +kernel) rfl, zTB_s 60 (by decide +kernel) rfl⟩
theorem ms_X9_run : Cond.static yX9_run ∈ zTB := zTB_t 1150 (by decide +kernel) rfl
theorem mi_X9_setBase : zMI zy_X9_setBase := ⟨zTB_t 1147 (by decide +kernel) rfl, zTB_s 59 (by decide +kernel) rfl⟩
theorem mi_X9_byPlaces : zMI zy_X9_byPlaces := ⟨zTB_t 1143 (by decide +kernel) rfl, zTB_s 58 (by decide +kernel) rfl⟩
theorem mi_X9_isKept : zMI zy_X9_isKept := ⟨zTB_t 1194 (by decide +kernel) rfl, zTB_s 70 (by decide +kernel) rfl⟩
theorem mi_X9_byDepths : zMI zy_X9_byDepths := ⟨zTB_t 1190 (by decide +kernel) rfl, zTB_s 69 (by decide +kernel) rfl⟩
theorem mi_X9_againByDepths : zMI zy_X9_againByDepths := ⟨zTB_t 1198 (by decide +kernel) rfl, zTB_s 71 (by decide +kernel) rfl⟩
theorem mi_X9_take : zMI zy_X9_take := ⟨zTB_t 1210 (by decide +kernel) rfl, zTB_s 74 (by decide +kernel) rfl⟩
theorem mi_X9_movesOf : zMI zy_X9_movesOf := ⟨zTB_t 1206 (by decide +kernel) rfl, zTB_s 73 (by decide +kernel) rfl⟩
theorem mi_X9_move : zMI zy_X9_move := ⟨zTB_t 1202 (by decide +kernel) rfl, zTB_s 72 (by decide +kernel) rfl⟩
theorem mi_X9_reduce : zMI zy_X9_reduce := ⟨zTB_t 1137 (by decide +kernel) rfl, zTB_t 1138 (by decide +kernel) rfl⟩
theorem mi_X9_remember : zMI zy_X9_remember := ⟨zTB_t 1213 (by decide +kernel) rfl, zTB_t 1214 (by decide +kernel) rfl⟩
theorem mi_X9_length : zMI zy_X9_length := ⟨zTB_t 1217 (by decide +kernel) rfl, zTB_t 1218 (by decide +kernel) rfl⟩
theorem mi_X9_at : zMI zy_X9_at := ⟨zTB_t 1221 (by decide +kernel) rfl, zTB_t 1222 (by decide +kernel) rfl⟩
theorem mi_X9_count : zMI zy_X9_count := ⟨zTB_t 1225 (by decide +kernel) rfl, zTB_t 1226 (by decide +kernel) rfl⟩
theorem ml_L_9 : Cond.methodLink RL 9 yX8_init ∈ zTB := zTB_t 14 (by decide +kernel) rfl
theorem ml_X8_1 : Cond.methodLink RX8 1 objectInit ∈ zTB := zTB_t 17 (by decide +kernel) rfl
theorem ml_X8_9 : Cond.methodLink RX8 9 yX6_init ∈ zTB := zTB_t 22 (by decide +kernel) rfl
theorem ml_X6_3 : Cond.methodLink RX6 3 objectInit ∈ zTB := zTB_t 25 (by decide +kernel) rfl
theorem ml_X8_28 : Cond.methodLink RX8 28 yX1_init ∈ zTB := zTB_t 49 (by decide +kernel) rfl
theorem ml_X1_3 : Cond.methodLink RX1 3 objectInit ∈ zTB := zTB_t 52 (by decide +kernel) rfl
theorem ml_X8_35 : Cond.methodLink RX8 35 yX0_init ∈ zTB := zTB_t 99 (by decide +kernel) rfl
theorem ml_X0_3 : Cond.methodLink RX0 3 objectInit ∈ zTB := zTB_t 102 (by decide +kernel) rfl
theorem ml_X8_42 : Cond.methodLink RX8 42 yX3_init ∈ zTB := zTB_t 165 (by decide +kernel) rfl
theorem ml_X3_3 : Cond.methodLink RX3 3 objectInit ∈ zTB := zTB_t 168 (by decide +kernel) rfl
theorem ml_X8_51 : Cond.methodLink RX8 51 yX7_init ∈ zTB := zTB_t 196 (by decide +kernel) rfl
theorem ml_X7_3 : Cond.methodLink RX7 3 objectInit ∈ zTB := zTB_t 199 (by decide +kernel) rfl
theorem ml_X8_60 : Cond.methodLink RX8 60 yX4_init ∈ zTB := zTB_t 242 (by decide +kernel) rfl
theorem ml_X4_3 : Cond.methodLink RX4 3 objectInit ∈ zTB := zTB_t 245 (by decide +kernel) rfl
theorem ml_X4_11 : Cond.methodLink RX4 11 yX6_init ∈ zTB := zTB_t 247 (by decide +kernel) rfl
theorem ml_X4_39 : Cond.methodLink RX4 39 yX2_init ∈ zTB := zTB_t 250 (by decide +kernel) rfl
theorem ml_X2_3 : Cond.methodLink RX2 3 objectInit ∈ zTB := zTB_t 253 (by decide +kernel) rfl
theorem ml_X2_11 : Cond.methodLink RX2 11 yX6_init ∈ zTB := zTB_t 255 (by decide +kernel) rfl
theorem ml_L_13 : Cond.methodLink RL 13 yX8_type ∈ zTB := zTB_t 345 (by decide +kernel) rfl
theorem ml_X8_67 : Cond.methodLink RX8 67 yX8_isTextSign ∈ zTB := zTB_t 349 (by decide +kernel) rfl
theorem ml_X8_71 : Cond.methodLink RX8 71 yX6_put ∈ zTB := zTB_t 352 (by decide +kernel) rfl
theorem ml_L_18 : Cond.methodLink RL 18 yX8_clear ∈ zTB := zTB_t 356 (by decide +kernel) rfl
theorem ml_L_22 : Cond.methodLink RL 22 yX8_write ∈ zTB := zTB_t 360 (by decide +kernel) rfl
theorem ml_X8_78 : Cond.methodLink RX8 78 yX8_isGrammarSign ∈ zTB := zTB_t 364 (by decide +kernel) rfl
theorem ml_X8_184 : Cond.methodLink RX8 184 yX8_isName ∈ zTB := zTB_t 367 (by decide +kernel) rfl
theorem ml_X8_187 : Cond.methodLink RX8 187 yX8_isTail ∈ zTB := zTB_t 370 (by decide +kernel) rfl
theorem ml_L_26 : Cond.methodLink RL 26 yX8_read ∈ zTB := zTB_t 373 (by decide +kernel) rfl
theorem ml_X8_84 : Cond.methodLink RX8 84 yX0_become ∈ zTB := zTB_t 377 (by decide +kernel) rfl
theorem ml_X0_44 : Cond.methodLink RX0 44 yX0_forget ∈ zTB := zTB_t 381 (by decide +kernel) rfl
theorem ml_X0_47 : Cond.methodLink RX0 47 yX0_isCut ∈ zTB := zTB_t 385 (by decide +kernel) rfl
theorem ml_X0_78 : Cond.methodLink RX0 78 yX0_step ∈ zTB := zTB_t 389 (by decide +kernel) rfl
theorem ml_X0_82 : Cond.methodLink RX0 82 yX0_opens ∈ zTB := zTB_t 393 (by decide +kernel) rfl
theorem ml_X0_89 : Cond.methodLink RX0 89 yX0_addAlternative ∈ zTB := zTB_t 398 (by decide +kernel) rfl
theorem ml_X0_95 : Cond.methodLink RX0 95 yX0_addsItem ∈ zTB := zTB_t 403 (by decide +kernel) rfl
theorem ml_X0_51 : Cond.methodLink RX0 51 yX0_isEveryNameDefined ∈ zTB := zTB_t 407 (by decide +kernel) rfl
theorem ml_X0_104 : Cond.methodLink RX0 104 yX0_ruleOf ∈ zTB := zTB_t 411 (by decide +kernel) rfl
theorem ml_X0_59 : Cond.methodLink RX0 59 yX0_findEmptiable ∈ zTB := zTB_t 415 (by decide +kernel) rfl
theorem ml_X0_108 : Cond.methodLink RX0 108 yX0_isEmptiable ∈ zTB := zTB_t 419 (by decide +kernel) rfl
theorem ml_X0_112 : Cond.methodLink RX0 112 yX0_firstOf ∈ zTB := zTB_t 423 (by decide +kernel) rfl
theorem ml_X0_115 : Cond.methodLink RX0 115 yX0_endOf ∈ zTB := zTB_t 427 (by decide +kernel) rfl
theorem ml_X0_118 : Cond.methodLink RX0 118 yX0_firstItemOf ∈ zTB := zTB_t 431 (by decide +kernel) rfl
theorem ml_X0_121 : Cond.methodLink RX0 121 yX0_endItemOf ∈ zTB := zTB_t 435 (by decide +kernel) rfl
theorem ml_X0_124 : Cond.methodLink RX0 124 yX0_mayBeEmpty ∈ zTB := zTB_t 439 (by decide +kernel) rfl
theorem ml_X0_127 : Cond.methodLink RX0 127 yX0_mayBeLeftOut ∈ zTB := zTB_t 443 (by decide +kernel) rfl
theorem ml_X0_62 : Cond.methodLink RX0 62 yX0_findOrder ∈ zTB := zTB_t 447 (by decide +kernel) rfl
theorem ml_X0_130 : Cond.methodLink RX0 130 yX0_leadsToPlaced ∈ zTB := zTB_t 451 (by decide +kernel) rfl
theorem ml_X8_88 : Cond.methodLink RX8 88 yX3_forget ∈ zTB := zTB_t 455 (by decide +kernel) rfl
theorem ml_L_31 : Cond.methodLink RL 31 yX8_has ∈ zTB := zTB_t 459 (by decide +kernel) rfl
theorem ml_X8_101 : Cond.methodLink RX8 101 yX5_init ∈ zTB := zTB_t 464 (by decide +kernel) rfl
theorem ml_X5_1 : Cond.methodLink RX5 1 objectInit ∈ zTB := zTB_t 467 (by decide +kernel) rfl
theorem ml_X8_104 : Cond.methodLink RX8 104 yX8_push ∈ zTB := zTB_t 497 (by decide +kernel) rfl
theorem ml_L_36 : Cond.methodLink RL 36 yX8_pair ∈ zTB := zTB_t 501 (by decide +kernel) rfl
theorem ml_L_41 : Cond.methodLink RL 41 yX8_size ∈ zTB := zTB_t 505 (by decide +kernel) rfl
theorem ml_L_46 : Cond.methodLink RL 46 yX8_not ∈ zTB := zTB_t 509 (by decide +kernel) rfl
theorem ml_X8_111 : Cond.methodLink RX8 111 yX5_init_ ∈ zTB := zTB_t 513 (by decide +kernel) rfl
theorem ml_L_51 : Cond.methodLink RL 51 yX8_join ∈ zTB := zTB_t 516 (by decide +kernel) rfl
theorem ml_X8_114 : Cond.methodLink RX8 114 Lib.Math.max.name ∈ zTB := zTB_t 520 (by decide +kernel) rfl
theorem ml_L_56 : Cond.methodLink RL 56 yX8_mark ∈ zTB := zTB_t 523 (by decide +kernel) rfl
theorem ml_X8_127 : Cond.methodLink RX8 127 yX1_forget ∈ zTB := zTB_t 527 (by decide +kernel) rfl
theorem ml_L_60 : Cond.methodLink RL 60 yX8_remember ∈ zTB := zTB_t 531 (by decide +kernel) rfl
theorem ml_L_65 : Cond.methodLink RL 65 yX8_outcome ∈ zTB := zTB_t 535 (by decide +kernel) rfl
theorem ml_X8_131 : Cond.methodLink RX8 131 yX1_verdict ∈ zTB := zTB_t 539 (by decide +kernel) rfl
theorem ml_X1_27 : Cond.methodLink RX1 27 yX1_holds ∈ zTB := zTB_t 543 (by decide +kernel) rfl
theorem ml_X1_89 : Cond.methodLink RX1 89 yX6_holdsSign ∈ zTB := zTB_t 546 (by decide +kernel) rfl
theorem ml_X1_96 : Cond.methodLink RX1 96 yX6_holdsPair ∈ zTB := zTB_t 550 (by decide +kernel) rfl
theorem ml_L_69 : Cond.methodLink RL 69 yX8_nodes ∈ zTB := zTB_t 554 (by decide +kernel) rfl
theorem ml_X8_135 : Cond.methodLink RX8 135 yX7_build ∈ zTB := zTB_t 558 (by decide +kernel) rfl
theorem ml_X7_43 : Cond.methodLink RX7 43 yX3_fits ∈ zTB := zTB_t 562 (by decide +kernel) rfl
theorem ml_X3_38 : Cond.methodLink RX3 38 yX3_sameAtEnd ∈ zTB := zTB_t 566 (by decide +kernel) rfl
theorem ml_X3_56 : Cond.methodLink RX3 56 yX3_settle ∈ zTB := zTB_t 570 (by decide +kernel) rfl
theorem ml_X3_63 : Cond.methodLink RX3 63 yX3_cellOf ∈ zTB := zTB_t 574 (by decide +kernel) rfl
theorem ml_X3_82 : Cond.methodLink RX3 82 yX0_firstOf ∈ zTB := zTB_t 577 (by decide +kernel) rfl
theorem ml_X3_85 : Cond.methodLink RX3 85 yX0_endOf ∈ zTB := zTB_t 578 (by decide +kernel) rfl
theorem ml_X3_88 : Cond.methodLink RX3 88 yX3_behind ∈ zTB := zTB_t 579 (by decide +kernel) rfl
theorem ml_X3_94 : Cond.methodLink RX3 94 yX0_firstItemOf ∈ zTB := zTB_t 583 (by decide +kernel) rfl
theorem ml_X3_97 : Cond.methodLink RX3 97 yX0_endItemOf ∈ zTB := zTB_t 584 (by decide +kernel) rfl
theorem ml_X3_100 : Cond.methodLink RX3 100 yX3_more ∈ zTB := zTB_t 585 (by decide +kernel) rfl
theorem ml_X3_67 : Cond.methodLink RX3 67 yX0_mayRepeat ∈ zTB := zTB_t 589 (by decide +kernel) rfl
theorem ml_X3_71 : Cond.methodLink RX3 71 yX0_ruleOf ∈ zTB := zTB_t 593 (by decide +kernel) rfl
theorem ml_X3_75 : Cond.methodLink RX3 75 yX0_whatOf ∈ zTB := zTB_t 594 (by decide +kernel) rfl
theorem ml_X3_79 : Cond.methodLink RX3 79 yX0_hasStar ∈ zTB := zTB_t 598 (by decide +kernel) rfl
theorem ml_X3_104 : Cond.methodLink RX3 104 yX0_mayBeLeftOut ∈ zTB := zTB_t 602 (by decide +kernel) rfl
theorem ml_X3_107 : Cond.methodLink RX3 107 yX3_nodesOf ∈ zTB := zTB_t 603 (by decide +kernel) rfl
theorem ml_X3_115 : Cond.methodLink RX3 115 yX0_hasTail ∈ zTB := zTB_t 607 (by decide +kernel) rfl
theorem ml_X3_110 : Cond.methodLink RX3 110 Lib.Math.min.name ∈ zTB := zTB_t 611 (by decide +kernel) rfl
theorem ml_X7_60 : Cond.methodLink RX7 60 yX7_grow ∈ zTB := zTB_t 614 (by decide +kernel) rfl
theorem ml_X7_70 : Cond.methodLink RX7 70 yX3_alternativeOf ∈ zTB := zTB_t 618 (by decide +kernel) rfl
theorem ml_X7_73 : Cond.methodLink RX7 73 yX0_firstItemOf ∈ zTB := zTB_t 622 (by decide +kernel) rfl
theorem ml_X7_77 : Cond.methodLink RX7 77 yX0_endItemOf ∈ zTB := zTB_t 623 (by decide +kernel) rfl
theorem ml_X7_80 : Cond.methodLink RX7 80 yX3_more ∈ zTB := zTB_t 624 (by decide +kernel) rfl
theorem ml_X7_84 : Cond.methodLink RX7 84 yX7_put ∈ zTB := zTB_t 625 (by decide +kernel) rfl
theorem ml_X7_92 : Cond.methodLink RX7 92 yX0_ruleOf ∈ zTB := zTB_t 629 (by decide +kernel) rfl
theorem ml_X7_95 : Cond.methodLink RX7 95 yX0_hasTail ∈ zTB := zTB_t 630 (by decide +kernel) rfl
theorem ml_X7_88 : Cond.methodLink RX7 88 yX7_isLoose ∈ zTB := zTB_t 631 (by decide +kernel) rfl
theorem ml_X7_99 : Cond.methodLink RX7 99 yX0_mayBeLeftOut ∈ zTB := zTB_t 635 (by decide +kernel) rfl
theorem ml_X7_102 : Cond.methodLink RX7 102 yX0_mayRepeat ∈ zTB := zTB_t 636 (by decide +kernel) rfl
theorem ml_L_73 : Cond.methodLink RL 73 yX8_node ∈ zTB := zTB_t 637 (by decide +kernel) rfl
theorem ml_X8_140 : Cond.methodLink RX8 140 yX8_hasNode ∈ zTB := zTB_t 641 (by decide +kernel) rfl
theorem ml_X8_144 : Cond.methodLink RX8 144 yX7_told ∈ zTB := zTB_t 645 (by decide +kernel) rfl
theorem ml_L_78 : Cond.methodLink RL 78 yX8_depth ∈ zTB := zTB_t 649 (by decide +kernel) rfl
theorem ml_L_82 : Cond.methodLink RL 82 yX8_reduce ∈ zTB := zTB_t 653 (by decide +kernel) rfl
theorem ml_X8_155 : Cond.methodLink RX8 155 yX1_allow ∈ zTB := zTB_t 657 (by decide +kernel) rfl
theorem ml_X8_159 : Cond.methodLink RX8 159 yX4_bySigns ∈ zTB := zTB_t 661 (by decide +kernel) rfl
theorem ml_X4_46 : Cond.methodLink RX4 46 yX2_begin ∈ zTB := zTB_t 665 (by decide +kernel) rfl
theorem ml_X2_45 : Cond.methodLink RX2 45 yX6_become ∈ zTB := zTB_t 669 (by decide +kernel) rfl
theorem ml_X6_23 : Cond.methodLink RX6 23 yX6_putSome ∈ zTB := zTB_t 673 (by decide +kernel) rfl
theorem ml_X6_19 : Cond.methodLink RX6 19 yX6_put ∈ zTB := zTB_t 677 (by decide +kernel) rfl
theorem ml_X4_53 : Cond.methodLink RX4 53 yX4_beginsWord ∈ zTB := zTB_t 678 (by decide +kernel) rfl
theorem ml_X4_57 : Cond.methodLink RX4 57 yX2_addUnit ∈ zTB := zTB_t 682 (by decide +kernel) rfl
theorem ml_X4_61 : Cond.methodLink RX4 61 yX2_lessen ∈ zTB := zTB_t 686 (by decide +kernel) rfl
theorem ml_X2_53 : Cond.methodLink RX2 53 Lib.Math.min.name ∈ zTB := zTB_t 690 (by decide +kernel) rfl
theorem ml_X2_66 : Cond.methodLink RX2 66 yX2_takes ∈ zTB := zTB_t 692 (by decide +kernel) rfl
theorem ml_X2_73 : Cond.methodLink RX2 73 yX2_makeTrial ∈ zTB := zTB_t 696 (by decide +kernel) rfl
theorem ml_X2_91 : Cond.methodLink RX2 91 yX6_put ∈ zTB := zTB_t 700 (by decide +kernel) rfl
theorem ml_X2_77 : Cond.methodLink RX2 77 yX1_ask ∈ zTB := zTB_t 701 (by decide +kernel) rfl
theorem ml_X1_47 : Cond.methodLink RX1 47 yX1_isHeld ∈ zTB := zTB_t 705 (by decide +kernel) rfl
theorem ml_X1_70 : Cond.methodLink RX1 70 yX1_isHeldAt ∈ zTB := zTB_t 709 (by decide +kernel) rfl
theorem ml_X1_54 : Cond.methodLink RX1 54 yX1_verdict ∈ zTB := zTB_t 713 (by decide +kernel) rfl
theorem ml_X1_61 : Cond.methodLink RX1 61 yX1_hold ∈ zTB := zTB_t 714 (by decide +kernel) rfl
theorem ml_X2_81 : Cond.methodLink RX2 81 yX2_keepTrial ∈ zTB := zTB_t 718 (by decide +kernel) rfl
theorem ml_X2_95 : Cond.methodLink RX2 95 yX2_addUnit ∈ zTB := zTB_t 722 (by decide +kernel) rfl
theorem ml_X2_70 : Cond.methodLink RX2 70 Lib.Math.max.name ∈ zTB := zTB_t 723 (by decide +kernel) rfl
theorem ml_X8_163 : Cond.methodLink RX8 163 yX4_byLevels ∈ zTB := zTB_t 724 (by decide +kernel) rfl
theorem ml_X4_64 : Cond.methodLink RX4 64 yX7_build ∈ zTB := zTB_t 728 (by decide +kernel) rfl
theorem ml_X4_70 : Cond.methodLink RX4 70 yX7_deepest ∈ zTB := zTB_t 729 (by decide +kernel) rfl
theorem ml_X7_64 : Cond.methodLink RX7 64 Lib.Math.max.name ∈ zTB := zTB_t 733 (by decide +kernel) rfl
theorem ml_X4_80 : Cond.methodLink RX4 80 yX4_chooseUnits ∈ zTB := zTB_t 734 (by decide +kernel) rfl
theorem ml_X4_105 : Cond.methodLink RX4 105 yX4_isBelowKept ∈ zTB := zTB_t 738 (by decide +kernel) rfl
theorem ml_X4_84 : Cond.methodLink RX4 84 yX4_keepUnits ∈ zTB := zTB_t 742 (by decide +kernel) rfl
theorem ml_X8_166 : Cond.methodLink RX8 166 yX4_byMoves ∈ zTB := zTB_t 746 (by decide +kernel) rfl
theorem ml_X4_93 : Cond.methodLink RX4 93 yX4_takesMove ∈ zTB := zTB_t 751 (by decide +kernel) rfl
theorem ml_X4_116 : Cond.methodLink RX4 116 yX4_isBelow ∈ zTB := zTB_t 755 (by decide +kernel) rfl
theorem ml_X4_120 : Cond.methodLink RX4 120 yX4_isMove ∈ zTB := zTB_t 759 (by decide +kernel) rfl
theorem ml_X4_123 : Cond.methodLink RX4 123 yX6_putSome ∈ zTB := zTB_t 763 (by decide +kernel) rfl
theorem ml_X4_127 : Cond.methodLink RX4 127 yX3_fits ∈ zTB := zTB_t 764 (by decide +kernel) rfl
theorem ml_X4_132 : Cond.methodLink RX4 132 yX1_ask ∈ zTB := zTB_t 765 (by decide +kernel) rfl
theorem ml_X4_136 : Cond.methodLink RX4 136 yX6_become ∈ zTB := zTB_t 766 (by decide +kernel) rfl
theorem ml_L_87 : Cond.methodLink RL 87 yX8_length ∈ zTB := zTB_t 767 (by decide +kernel) rfl
theorem ml_L_91 : Cond.methodLink RL 91 yX8_at ∈ zTB := zTB_t 771 (by decide +kernel) rfl
theorem ml_L_96 : Cond.methodLink RL 96 yX8_count ∈ zTB := zTB_t 775 (by decide +kernel) rfl
theorem ml_L_12 : Cond.methodLink RL 12 yX9_init ∈ zTB := zTB_t 781 (by decide +kernel) rfl
theorem ml_X9_1 : Cond.methodLink RX9 1 objectInit ∈ zTB := zTB_t 784 (by decide +kernel) rfl
theorem ml_L_17 : Cond.methodLink RL 17 yX9_type ∈ zTB := zTB_t 978 (by decide +kernel) rfl
theorem ml_X9_141 : Cond.methodLink RX9 141 yX9_isText ∈ zTB := zTB_t 982 (by decide +kernel) rfl
theorem ml_L_21 : Cond.methodLink RL 21 yX9_clear ∈ zTB := zTB_t 985 (by decide +kernel) rfl
theorem ml_L_25 : Cond.methodLink RL 25 yX9_write ∈ zTB := zTB_t 989 (by decide +kernel) rfl
theorem ml_X9_149 : Cond.methodLink RX9 149 yX9_isName ∈ zTB := zTB_t 993 (by decide +kernel) rfl
theorem ml_L_35 : Cond.methodLink RL 35 yX9_has ∈ zTB := zTB_t 996 (by decide +kernel) rfl
theorem ml_X9_158 : Cond.methodLink RX9 158 yX9_push ∈ zTB := zTB_t 1000 (by decide +kernel) rfl
theorem ml_L_40 : Cond.methodLink RL 40 yX9_pair ∈ zTB := zTB_t 1004 (by decide +kernel) rfl
theorem ml_L_45 : Cond.methodLink RL 45 yX9_size ∈ zTB := zTB_t 1008 (by decide +kernel) rfl
theorem ml_L_50 : Cond.methodLink RL 50 yX9_not ∈ zTB := zTB_t 1012 (by decide +kernel) rfl
theorem ml_L_55 : Cond.methodLink RL 55 yX9_join ∈ zTB := zTB_t 1016 (by decide +kernel) rfl
theorem ml_X9_162 : Cond.methodLink RX9 162 yX9_copyStep ∈ zTB := zTB_t 1020 (by decide +kernel) rfl
theorem ml_L_59 : Cond.methodLink RL 59 yX9_mark ∈ zTB := zTB_t 1024 (by decide +kernel) rfl
theorem ml_L_68 : Cond.methodLink RL 68 yX9_outcome ∈ zTB := zTB_t 1028 (by decide +kernel) rfl
theorem ml_X9_176 : Cond.methodLink RX9 176 yX9_outcomeOf ∈ zTB := zTB_t 1032 (by decide +kernel) rfl
theorem ml_X9_173 : Cond.methodLink RX9 173 yX9_holds ∈ zTB := zTB_t 1036 (by decide +kernel) rfl
theorem ml_X9_169 : Cond.methodLink RX9 169 yX9_holdsStep ∈ zTB := zTB_t 1040 (by decide +kernel) rfl
theorem ml_L_30 : Cond.methodLink RL 30 yX9_read ∈ zTB := zTB_t 1044 (by decide +kernel) rfl
theorem ml_X9_204 : Cond.methodLink RX9 204 yX9_readRules ∈ zTB := zTB_t 1048 (by decide +kernel) rfl
theorem ml_X9_192 : Cond.methodLink RX9 192 yX9_beginAlternative ∈ zTB := zTB_t 1052 (by decide +kernel) rfl
theorem ml_X9_208 : Cond.methodLink RX9 208 yX9_areNamesThere ∈ zTB := zTB_t 1056 (by decide +kernel) rfl
theorem ml_X9_211 : Cond.methodLink RX9 211 yX9_findEmptiable ∈ zTB := zTB_t 1060 (by decide +kernel) rfl
theorem ml_X9_195 : Cond.methodLink RX9 195 yX9_isVoid ∈ zTB := zTB_t 1064 (by decide +kernel) rfl
theorem ml_X9_214 : Cond.methodLink RX9 214 yX9_findLeads ∈ zTB := zTB_t 1068 (by decide +kernel) rfl
theorem ml_X9_217 : Cond.methodLink RX9 217 yX9_findOrder ∈ zTB := zTB_t 1072 (by decide +kernel) rfl
theorem ml_X9_198 : Cond.methodLink RX9 198 yX9_clearDone ∈ zTB := zTB_t 1076 (by decide +kernel) rfl
theorem ml_L_72 : Cond.methodLink RL 72 yX9_nodes ∈ zTB := zTB_t 1080 (by decide +kernel) rfl
theorem ml_X9_259 : Cond.methodLink RX9 259 yX9_parse ∈ zTB := zTB_t 1084 (by decide +kernel) rfl
theorem ml_X9_253 : Cond.methodLink RX9 253 yX9_findEnds ∈ zTB := zTB_t 1088 (by decide +kernel) rfl
theorem ml_X9_233 : Cond.methodLink RX9 233 yX9_alternativeOf ∈ zTB := zTB_t 1092 (by decide +kernel) rfl
theorem ml_X9_230 : Cond.methodLink RX9 230 yX9_endOf ∈ zTB := zTB_t 1096 (by decide +kernel) rfl
theorem ml_X9_227 : Cond.methodLink RX9 227 yX9_again ∈ zTB := zTB_t 1100 (by decide +kernel) rfl
theorem ml_X9_223 : Cond.methodLink RX9 223 yX9_once ∈ zTB := zTB_t 1104 (by decide +kernel) rfl
theorem ml_X9_256 : Cond.methodLink RX9 256 yX9_buildTree ∈ zTB := zTB_t 1108 (by decide +kernel) rfl
theorem ml_X9_239 : Cond.methodLink RX9 239 yX9_addNode ∈ zTB := zTB_t 1112 (by decide +kernel) rfl
theorem ml_X9_243 : Cond.methodLink RX9 243 yX9_openFrame ∈ zTB := zTB_t 1116 (by decide +kernel) rfl
theorem ml_X9_246 : Cond.methodLink RX9 246 yX9_taking ∈ zTB := zTB_t 1120 (by decide +kernel) rfl
theorem ml_X9_250 : Cond.methodLink RX9 250 yX9_isLoose ∈ zTB := zTB_t 1124 (by decide +kernel) rfl
theorem ml_L_77 : Cond.methodLink RL 77 yX9_node ∈ zTB := zTB_t 1128 (by decide +kernel) rfl
theorem ml_L_81 : Cond.methodLink RL 81 yX9_depth ∈ zTB := zTB_t 1132 (by decide +kernel) rfl
theorem ml_L_86 : Cond.methodLink RL 86 yX9_reduce ∈ zTB := zTB_t 1136 (by decide +kernel) rfl
theorem ml_X9_337 : Cond.methodLink RX9 337 yX9_outcome ∈ zTB := zTB_t 1140 (by decide +kernel) rfl
theorem ml_X9_344 : Cond.methodLink RX9 344 yX9_byPlaces ∈ zTB := zTB_t 1141 (by decide +kernel) rfl
theorem ml_X9_312 : Cond.methodLink RX9 312 yX9_setBase ∈ zTB := zTB_t 1145 (by decide +kernel) rfl
theorem ml_X9_309 : Cond.methodLink RX9 309 yX9_run ∈ zTB := zTB_t 1149 (by decide +kernel) rfl
theorem ml_X9_315 : Cond.methodLink RX9 315 yX9_addUnit ∈ zTB := zTB_t 1152 (by decide +kernel) rfl
theorem ml_X9_318 : Cond.methodLink RX9 318 yX9_lessen ∈ zTB := zTB_t 1156 (by decide +kernel) rfl
theorem ml_X9_305 : Cond.methodLink RX9 305 yX9_round ∈ zTB := zTB_t 1160 (by decide +kernel) rfl
theorem ml_X9_296 : Cond.methodLink RX9 296 yX9_unitBits ∈ zTB := zTB_t 1164 (by decide +kernel) rfl
theorem ml_X9_299 : Cond.methodLink RX9 299 yX9_askBits ∈ zTB := zTB_t 1168 (by decide +kernel) rfl
theorem ml_X9_287 : Cond.methodLink RX9 287 yX9_ask ∈ zTB := zTB_t 1172 (by decide +kernel) rfl
theorem ml_X9_266 : Cond.methodLink RX9 266 yX9_isKnown ∈ zTB := zTB_t 1176 (by decide +kernel) rfl
theorem ml_X9_281 : Cond.methodLink RX9 281 yX9_keep ∈ zTB := zTB_t 1180 (by decide +kernel) rfl
theorem ml_X9_302 : Cond.methodLink RX9 302 yX9_drop ∈ zTB := zTB_t 1184 (by decide +kernel) rfl
theorem ml_X9_324 : Cond.methodLink RX9 324 yX9_byDepths ∈ zTB := zTB_t 1188 (by decide +kernel) rfl
theorem ml_X9_321 : Cond.methodLink RX9 321 yX9_isKept ∈ zTB := zTB_t 1192 (by decide +kernel) rfl
theorem ml_X9_348 : Cond.methodLink RX9 348 yX9_againByDepths ∈ zTB := zTB_t 1196 (by decide +kernel) rfl
theorem ml_X9_351 : Cond.methodLink RX9 351 yX9_move ∈ zTB := zTB_t 1200 (by decide +kernel) rfl
theorem ml_X9_334 : Cond.methodLink RX9 334 yX9_movesOf ∈ zTB := zTB_t 1204 (by decide +kernel) rfl
theorem ml_X9_327 : Cond.methodLink RX9 327 yX9_take ∈ zTB := zTB_t 1208 (by decide +kernel) rfl
theorem ml_L_64 : Cond.methodLink RL 64 yX9_remember ∈ zTB := zTB_t 1212 (by decide +kernel) rfl
theorem ml_L_90 : Cond.methodLink RL 90 yX9_length ∈ zTB := zTB_t 1216 (by decide +kernel) rfl
theorem ml_L_95 : Cond.methodLink RL 95 yX9_at ∈ zTB := zTB_t 1220 (by decide +kernel) rfl
theorem ml_L_99 : Cond.methodLink RL 99 yX9_count ∈ zTB := zTB_t 1224 (by decide +kernel) rfl
theorem mn_X0_98 : Cond.methodLinkNest RX0 98 yX8_isName "ShrinkDesk" ∈ lw_tbl := List.mem_append_right _ (List.mem_of_getElem? (i := 397) (by decide +kernel))
theorem mn_X0_92 : Cond.methodLinkNest RX0 92 yX8_isTail "ShrinkDesk" ∈ lw_tbl := List.mem_append_right _ (List.mem_of_getElem? (i := 402) (by decide +kernel))
theorem cl_L_7 : Cond.classLink RL 7 RX8 ∈ zTB := zTB_t 12 (by decide +kernel) rfl
theorem cl_X8_7 : Cond.classLink RX8 7 RX6 ∈ zTB := zTB_t 20 (by decide +kernel) rfl
theorem cl_X8_20 : Cond.classLink RX8 20 RX5 ∈ zTB := zTB_t 45 (by decide +kernel) rfl
theorem cl_X8_26 : Cond.classLink RX8 26 RX1 ∈ zTB := zTB_t 47 (by decide +kernel) rfl
theorem cl_X8_33 : Cond.classLink RX8 33 RX0 ∈ zTB := zTB_t 97 (by decide +kernel) rfl
theorem cl_X8_40 : Cond.classLink RX8 40 RX3 ∈ zTB := zTB_t 163 (by decide +kernel) rfl
theorem cl_X8_49 : Cond.classLink RX8 49 RX7 ∈ zTB := zTB_t 194 (by decide +kernel) rfl
theorem cl_X8_58 : Cond.classLink RX8 58 RX4 ∈ zTB := zTB_t 240 (by decide +kernel) rfl
theorem cl_X4_9 : Cond.classLink RX4 9 RX6 ∈ zTB := zTB_t 246 (by decide +kernel) rfl
theorem cl_X4_37 : Cond.classLink RX4 37 RX2 ∈ zTB := zTB_t 248 (by decide +kernel) rfl
theorem cl_X2_9 : Cond.classLink RX2 9 RX6 ∈ zTB := zTB_t 254 (by decide +kernel) rfl
theorem cl_L_10 : Cond.classLink RL 10 RX9 ∈ zTB := zTB_t 779 (by decide +kernel) rfl
theorem ck_X2_65 : Cond.constant RX2 65 1000000 ∈ zTB := zTB_t 691 (by decide +kernel) rfl
theorem ck_X4_87 : Cond.constant RX4 87 1000000 ∈ zTB := zTB_t 750 (by decide +kernel) rfl
theorem mj_max : Cond.static Lib.Math.max.name ∈ zTB ∧ Cond.initialized "java/lang/Math" ∈ zTB ∧ Cond.code Lib.Math.max.name Lib.Math.max.code 2 (some .int) ∈ zTB := ⟨zTB_t 521 (by decide +kernel) rfl, zTB_t 11 (by decide +kernel) rfl, zTB_t 522 (by decide +kernel) rfl⟩
theorem mj_min : Cond.static Lib.Math.min.name ∈ zTB ∧ Cond.initialized "java/lang/Math" ∈ zTB ∧ Cond.code Lib.Math.min.name Lib.Math.min.code 2 (some .int) ∈ zTB := ⟨zTB_t 612 (by decide +kernel) rfl, zTB_t 11 (by decide +kernel) rfl, zTB_t 613 (by decide +kernel) rfl⟩
theorem mj_obj : Cond.instanceMethod objectInit ∈ zTB ∧ Cond.code objectInit ⟨#[0xb1]⟩ 1 none ∈ zTB := ⟨zTB_t 18 (by decide +kernel) rfl, zTB_t 19 (by decide +kernel) rfl⟩
theorem ma_char : Cond.arrayClass .char ∈ zTB := zTB_t 44 (by decide +kernel) rfl
theorem ma_int : Cond.arrayClass .int ∈ zTB := zTB_t 96 (by decide +kernel) rfl
theorem ma_boolean : Cond.arrayClass .boolean ∈ zTB := zTB_t 162 (by decide +kernel) rfl
end
section
/-! ===== THE ABSTRACT MACHINE: ints are Int, cells have numbers (0, 1, .. in the order in which they are made), a class's final references are a table ===== -/
/-- a value: an int, an object or null, a raw address (the law's script) -/
abbrev zV : Type := Int ⊕ (Option Nat ⊕ Nat)
abbrev zI (x : Int) : zV := Sum.inl x
abbrev zO (o : Option Nat) : zV := Sum.inr (Sum.inl o)
abbrev zN : zV := Sum.inr (Sum.inl none)
abbrev zR (k : Nat) : zV := Sum.inr (Sum.inl (some k))
abbrev zX (a : Nat) : zV := Sum.inr (Sum.inr a)
/-- the memory: the ints by cell and slot, the moving references by cell and slot, how many cells there are -/
abbrev zM : Type := (Nat → Nat → Int) × (Nat → Nat → Option Nat) × Nat
def gi (M : zM) (k : Nat) : Nat → Int := M.1 k
def gr (M : zM) (k : Nat) : Nat → Option Nat := M.2.1 k
def gn (M : zM) : Nat := M.2.2
def si (M : zM) (k j : Nat) (v : Int) : zM := (fun a => if a = k then (fun b => if b = j then v else M.1 a b) else M.1 a, M.2.1, M.2.2)
def sr (M : zM) (k j : Nat) (v : Option Nat) : zM := (M.1, fun a => if a = k then (fun b => if b = j then v else M.2.1 a b) else M.2.1 a, M.2.2)
/-- one more cell, blank -/
def nw (M : zM) : zM := (fun a => if a = M.2.2 then (fun _ => 0) else M.1 a, fun a => if a = M.2.2 then (fun _ => none) else M.2.1 a, M.2.2 + 1)
theorem gi_si (M : zM) (k j : Nat) (v : Int) (a b : Nat) : gi (si M k j v) a b = if a = k ∧ b = j then v else gi M a b := by
  unfold gi si
  by_cases h : a = k
  · by_cases h2 : b = j
    · simp [h, h2]
    · simp [h, h2]
  · simp [h]
theorem gi_si_ne {M : zM} {k j : Nat} {v : Int} {a : Nat} (h : a ≠ k) : gi (si M k j v) a = gi M a := by
  unfold gi si
  simp [h]
theorem gi_si_eq {M : zM} {k j : Nat} {v : Int} {b : Nat} : gi (si M k j v) k b = if b = j then v else gi M k b := by
  rw [gi_si]
  simp
theorem gr_si {M : zM} {k j : Nat} {v : Int} : gr (si M k j v) = gr M := rfl
theorem gn_si {M : zM} {k j : Nat} {v : Int} : gn (si M k j v) = gn M := rfl
theorem gi_sr {M : zM} {k j : Nat} {v : Option Nat} : gi (sr M k j v) = gi M := rfl
theorem gn_sr {M : zM} {k j : Nat} {v : Option Nat} : gn (sr M k j v) = gn M := rfl
theorem gr_sr (M : zM) (k j : Nat) (v : Option Nat) (a b : Nat) : gr (sr M k j v) a b = if a = k ∧ b = j then v else gr M a b := by
  unfold gr sr
  by_cases h : a = k
  · by_cases h2 : b = j
    · simp [h, h2]
    · simp [h, h2]
  · simp [h]
theorem gr_sr_ne {M : zM} {k j : Nat} {v : Option Nat} {a : Nat} (h : a ≠ k) : gr (sr M k j v) a = gr M a := by
  unfold gr sr
  simp [h]
theorem gn_nw {M : zM} : gn (nw M) = gn M + 1 := rfl
theorem gi_nw_ne {M : zM} {a : Nat} (h : a ≠ gn M) : gi (nw M) a = gi M a := by
  unfold gi nw
  have h : a ≠ M.2.2 := h
  simp [h]
theorem gi_nw_eq {M : zM} {b : Nat} : gi (nw M) (gn M) b = 0 := by
  unfold gi nw gn
  simp
theorem gr_nw_ne {M : zM} {a : Nat} (h : a ≠ gn M) : gr (nw M) a = gr M a := by
  unfold gr nw
  have h : a ≠ M.2.2 := h
  simp [h]
theorem gr_nw_eq {M : zM} {b : Nat} : gr (nw M) (gn M) b = none := by
  unfold gr nw gn
  simp
/-- within an int's range -/
abbrev zin (x : Int) : Prop := -2147483648 ≤ x ∧ x ≤ 2147483647
theorem zin_toInt {x : Int} (h : zin x) : (Int32.ofInt x).toInt = x := Int32.toInt_ofInt_of_le (by omega) (by omega)
theorem zin_of (x : Int32) : zin x.toInt := by
  have a := x.toInt_lt
  have b := x.le_toInt
  constructor <;> omega
theorem zof_toInt (x : Int32) : Int32.ofInt x.toInt = x := Int32.toInt_inj.mp (zin_toInt (zin_of x))
theorem zeq {x y : Int} (hx : zin x) (hy : zin y) : Int32.ofInt x = Int32.ofInt y ↔ x = y :=
  ⟨fun h => by rw [← zin_toInt hx, ← zin_toInt hy, h], fun h => by rw [h]⟩
theorem zlt {x y : Int} (hx : zin x) (hy : zin y) : Int32.ofInt x < Int32.ofInt y ↔ x < y := by
  rw [Int32.lt_iff_toInt_lt, zin_toInt hx, zin_toInt hy]
theorem zle {x y : Int} (hx : zin x) (hy : zin y) : Int32.ofInt x ≤ Int32.ofInt y ↔ x ≤ y := by
  rw [Int32.le_iff_toInt_le, zin_toInt hx, zin_toInt hy]
theorem zeq0 {x : Int} (hx : zin x) : Int32.ofInt x = 0 ↔ x = 0 := zeq (y := 0) hx (by decide)
theorem zlt0 {x : Int} (hx : zin x) : Int32.ofInt x < 0 ↔ x < 0 := zlt (y := 0) hx (by decide)
theorem zle0 {x : Int} (hx : zin x) : Int32.ofInt x ≤ 0 ↔ x ≤ 0 := zle (y := 0) hx (by decide)
theorem zcl {x : Int} (hx : zin x) : (Int32.ofInt x).toNatClampNeg = x.toNat := by
  unfold Int32.toNatClampNeg
  rw [zin_toInt hx]
theorem zvp {x : Int} {n : Nat} (hx : zin x) (h : 0 ≤ x ∧ x < n) : ¬ (Int32.ofInt x < 0 ∨ n ≤ (Int32.ofInt x).toNatClampNeg) := by
  rw [zlt0 hx, zcl hx]
  omega
theorem zch {x : Int} : ((Int32.ofInt x).toUInt32 % 65536).toInt32 = Int32.ofInt (x % 65536) := by
  rw [pk_char]
  have e : (Int32.ofInt x).toBitVec.toNat = (x % 4294967296).toNat := by
    rw [Int32.toBitVec_ofInt, BitVec.toNat_ofInt]
    rfl
  rw [e]
  unfold nI
  rw [← Int32.ofInt_eq_ofNat]
  congr 1
  omega
theorem zn_char {x : Int} (h : 0 ≤ x ∧ x < 65536) : narrow .char (.int (Int32.ofInt x)) = .int (Int32.ofInt x) ∧ fits .char (.int (Int32.ofInt x)) = true := by
  have e : Int32.ofInt x = ((Int32.ofInt x).toUInt32 % 65536).toInt32 := by
    rw [zch]
    congr 1
    omega
  rw [e]
  exact ⟨pk_nc _, pk_fc _⟩
theorem zn_bool {x : Int} (h : x = 0 ∨ x = 1) : narrow .boolean (.int (Int32.ofInt x)) = .int (Int32.ofInt x) ∧ fits .boolean (.int (Int32.ofInt x)) = true := by
  rcases h with rfl | rfl <;> exact ⟨by decide, by decide⟩
theorem zn_int {x : Int} : narrow .int (.int (Int32.ofInt x)) = .int (Int32.ofInt x) ∧ fits .int (.int (Int32.ofInt x)) = true := ⟨rfl, rfl⟩
/-! bits -/
def zand (x y : Int) : Int := (Int32.ofInt x &&& Int32.ofInt y).toInt
def zor (x y : Int) : Int := (Int32.ofInt x ||| Int32.ofInt y).toInt
def zxor (x y : Int) : Int := (Int32.ofInt x ^^^ Int32.ofInt y).toInt
def zshl (x y : Int) : Int := (Int32.ofInt x <<< (Int32.ofInt y &&& 31)).toInt
def zshr (x y : Int) : Int := (Int32.ofInt x >>> (Int32.ofInt y &&& 31)).toInt
/-- what an int may be kept as in a slot of a type -/
def zfit (ty : FieldType) (x : Int) : Prop := match ty with
  | .boolean => x = 0 ∨ x = 1
  | .char => 0 ≤ x ∧ x < 65536
  | .int => True
  | _ => False
theorem zfit_ok {ty : FieldType} {x : Int} (h : zfit ty x) : narrow ty (.int (Int32.ofInt x)) = .int (Int32.ofInt x) ∧ fits ty (.int (Int32.ofInt x)) = true := by
  cases ty <;> first | exact h.elim | exact zn_bool h | exact zn_char h | exact zn_int
/-! values -/
def ztr (base : Nat) : zV → Value
  | .inl x => .int (Int32.ofInt x)
  | .inr (.inl none) => .null
  | .inr (.inl (some k)) => .ref (base + k)
  | .inr (.inr a) => .ref a
def zokV (n : Nat) : zV → Prop
  | .inl x => zin x
  | .inr (.inl (some k)) => k < n
  | _ => True
theorem zokV.mono {n n' : Nat} (h : n ≤ n') {v : zV} (hv : zokV n v) : zokV n' v := by
  match v, hv with
  | .inl x, hv => exact hv
  | .inr (.inl none), _ => trivial
  | .inr (.inl (some k)), hv => exact Nat.lt_of_lt_of_le hv h
  | .inr (.inr a), _ => trivial
theorem ztr_cat (base : Nat) (v : zV) : (ztr base v).category = 1 := by
  match v with
  | .inl x => rfl
  | .inr (.inl none) => rfl
  | .inr (.inl (some k)) => rfl
  | .inr (.inr a) => rfl
theorem ztr_sum (base : Nat) (st : List zV) : ((st.map (ztr base)).map fun v => v.category).sum = st.length := by
  induction st with
  | nil => rfl
  | cons v t ih =>
    simp only [List.map_cons, List.sum_cons, List.length_cons, ztr_cat, ih]
    omega
/-- the locals -/
def zlh (base : Nat) (lsr : Array Slot) (nL : Nat) (ls : List (Option zV)) : Prop := lsr.size = nL ∧ lv_wf lsr ∧ ls.length ≤ nL ∧ ∀ (i : Nat) (v : zV), ls[i]? = some (some v) → lsr[i]? = some (.val (ztr base v))
theorem zlh.has {base : Nat} {lsr : Array Slot} {nL : Nat} {ls : List (Option zV)} (h : zlh base lsr nL ls) {i : Nat} {v : zV} (hi : ls[i]? = some (some v)) : lv_has lsr nL [(i, ztr base v)] :=
  ⟨h.1, h.2.1, fun q hq => by
    rw [List.mem_singleton] at hq
    subst hq
    exact h.2.2.2 i v hi⟩
/-- all locals that are listed, as the kit lists them -/
def zlv (base : Nat) : Nat → List (Option zV) → List (Nat × Value)
  | _, [] => []
  | i, none :: t => zlv base (i + 1) t
  | i, some v :: t => (i, ztr base v) :: zlv base (i + 1) t
theorem zlv_mem {base : Nat} {ls : List (Option zV)} {k i : Nat} {v : zV} (h : ls[i]? = some (some v)) : (k + i, ztr base v) ∈ zlv base k ls := by
  induction ls generalizing k i with
  | nil => simp at h
  | cons a t ih =>
    cases i with
    | zero =>
      simp only [List.getElem?_cons_zero, Option.some.injEq] at h
      subst h
      exact List.mem_cons_self
    | succ i =>
      simp only [List.getElem?_cons_succ] at h
      have h2 := ih (k := k + 1) h
      have e : k + 1 + i = k + (i + 1) := by omega
      rw [e] at h2
      cases a with
      | none => exact h2
      | some w => exact List.mem_cons_of_mem _ h2
theorem zlv_of {base : Nat} {ls : List (Option zV)} {k : Nat} {q : Nat × Value} (h : q ∈ zlv base k ls) : ∃ (i : Nat) (v : zV), ls[i]? = some (some v) ∧ q = (k + i, ztr base v) := by
  induction ls generalizing k with
  | nil => simp [zlv] at h
  | cons a t ih =>
    cases a with
    | none =>
      obtain ⟨i, v, h1, h2⟩ := ih (k := k + 1) h
      exact ⟨i + 1, v, by simpa using h1, by rw [h2]; congr 1; omega⟩
    | some w =>
      rcases List.mem_cons.mp h with h | h
      · exact ⟨0, w, rfl, h⟩
      · obtain ⟨i, v, h1, h2⟩ := ih (k := k + 1) h
        exact ⟨i + 1, v, by simpa using h1, by rw [h2]; congr 1; omega⟩
theorem zlh.all {base : Nat} {lsr : Array Slot} {nL : Nat} {ls : List (Option zV)} (h : zlh base lsr nL ls) : lv_has lsr nL (zlv base 0 ls) :=
  ⟨h.1, h.2.1, fun q hq => by
    obtain ⟨i, v, h1, rfl⟩ := zlv_of hq
    simpa using h.2.2.2 i v h1⟩
/-- after a store -/
theorem zlh.store {base : Nat} {lsr ls' : Array Slot} {nL : Nat} {ls : List (Option zV)} (h : zlh base lsr nL ls) {i : Nat} {w : zV} (hi : i < ls.length)
    (h' : lv_has ls' nL ((i, ztr base w) :: (zlv base 0 ls).filter (fun q => !(q.1 == i) && !(q.1 + 1 == i && q.2.category == 2)))) : zlh base ls' nL (ls.set i (some w)) := by
  refine ⟨h'.1, h'.2.1, by rw [List.length_set]; exact h.2.2.1, fun j v hj => ?_⟩
  by_cases e : j = i
  · subst e
    rw [List.getElem?_set_self hi] at hj
    have hw : w = v := by simpa using hj
    subst hw
    exact h'.2.2 _ List.mem_cons_self
  · rw [List.getElem?_set_ne (Ne.symm e)] at hj
    have hm := zlv_mem (base := base) (k := 0) hj
    rw [Nat.zero_add] at hm
    refine h'.2.2 (j, ztr base v) (List.mem_cons_of_mem _ (List.mem_filter.mpr ⟨hm, ?_⟩))
    simp [e, ztr_cat]
end
section
/-! ===== THE JUDGEMENT: from here the method comes to its end; and a rule an instruction ===== -/
abbrev zIni : Type := Nat → Nat → Bool
/-- all references that are set once are set -/
def zA1 : zIni := fun _ _ => true
/-- launch, classes and slots, array classes, where the cells begin -/
abbrev zB : Type := Launch × va_G × (Nat → ClassId) × Nat
def zfv (base : Nat) (ini : zIni) (M : zM) (k c j : Nat) : Value := match zsk c j with
  | 0 => .int (Int32.ofInt (gi M k j))
  | 1 => if ini k j = true then .ref (base + zsf k j) else .null
  | _ => va_rf ((gr M k j).map (base + ·))
def zarr (base : Nat) (M : zM) (k t n : Nat) : vp_A := (n, if t = 3 then .inr (.inr (.inr (.inr (fun j => (gr M k j).map (base + ·))))) else .inl (fun j => Int32.ofInt (gi M k j)))
def zcell (B : zB) (ini : zIni) (M : zM) (k : Nat) : va_E := match zkd k with
  | .inl q => .inl (B.2.2.1 q.1, zarr B.2.2.2 M k q.1 q.2)
  | .inr c => .inr (c, (List.range (znf c)).map (zfv B.2.2.2 ini M k c))
def zat (B : zB) (ini : zIni) (M : zM) (k : Nat) (H : Heap) : Prop := va_at B.2.1 vwCl (B.2.2.2 + k, zcell B ini M k) H
/-- the numbers and references are in their bounds -/
def zwf (ini : zIni) (M : zM) : Prop := (∀ k j, zin (gi M k j)) ∧ (∀ k j r, gr M k j = some r → r < gn M) ∧ ∀ k j, ini k j = true → zsf k j < gn M
def zrel (B : zB) (ini : zIni) (M : zM) (H : Heap) : Prop := H.size = B.2.2.2 + gn M ∧ (∀ k, k < gn M → zat B ini M k H) ∧ zwf ini M
def ztys (B : zB) : List (ClassId × FieldType) := [(B.2.2.1 0, zta 0), (B.2.2.1 1, zta 1), (B.2.2.1 2, zta 2), (B.2.2.1 3, zta 3)]
def zKn (B : zB) (U : State) : Prop := va_K B.2.1 vwCl (ztys B) U ∧ va_AO RX5 U ∧ va_Nw (.methodLinkNest RX0 98 yX8_isName "ShrinkDesk") U ∧ va_Nw (.methodLinkNest RX0 92 yX8_isTail "ShrinkDesk") U
theorem zKn.warm {B : zB} {s U : State} (hW : s.WarmedH U.vm) (h : zKn B s) : zKn B U := ⟨va_K.moved hW.alike h.1, h.2.1.moved hW.alike, va_Nw.warmM hW h.2.2.1, va_Nw.warmM hW h.2.2.2⟩
theorem zKn.same {B : zB} {s U : State} (hv : s.vm = U.vm) (h : zKn B s) : zKn B U := ⟨va_K.moved (by rw [hv]; exact Vm.Alike.refl _) h.1, h.2.1.moved (by rw [hv]; exact Vm.Alike.refl _), va_Nw.same rfl hv h.2.2.1, va_Nw.same rfl hv h.2.2.2⟩
/-- a frame: its method, its room, how many cells there were, what else is known of its start, what its end must be -/
abbrev zE : Type := zY × Room × Nat × (State → Prop) × (List Frame → Array Value → State → State → Prop)
def zFix (y : zY) (p : Program) (s : State) (m : MethodId) (args : Array Value) (meth : Method) (c : Code) : Prop :=
  p.tables.exec = Jvm.exec ∧ c.code = y.2.1 ∧ c.maxLocals = y.2.2.1 ∧ s.vm.findClass y.1.cls = some m.cls ∧ (∀ w ∈ zTB, w.before args s = true) ∧ meth.sig.returnType = y.2.2.2 ∧ meth.locks = false ∧ (y.1.name = "<init>" → meth.name = "<init>")
def zW (B : zB) (E : zE) (pc : Nat) (ls : List (Option zV)) (st : List zV) (ini : zIni) (M : zM) (ce sl : Nat) : Prop :=
  ∀ (p : Program) (e : Env) (s : State) (m : MethodId) (args : Array Value) (below : List Frame) (meth : Method) (c : Code) (H : Heap) (locs : List Loc) (lsr : Array Slot),
    zFix E.1 p s m args meth c → E.2.2.2.1 s → zKn B s → zrel B ini M H → va_S (fun q => B.2.2.2 ≤ q) s.heap H locs → B.2.2.2 ≤ s.heap.size → E.2.2.1 ≤ gn M → zlh B.2.2.2 lsr E.1.2.2.1 ls → (∀ v, some v ∈ ls → zokV (gn M) v) → (∀ v ∈ st, zokV (gn M) v) →
    W p B.1 e E.2.1 s m args below meth c H locs ce sl (E.2.2.2.2 below args s) (F0 m pc lsr (st.map (ztr B.2.2.2)))
theorem zmem_of {ls : List (Option zV)} {i : Nat} {v : zV} (h : ls[i]? = some (some v)) : some v ∈ ls := List.mem_of_getElem? h
theorem zok_set {n : Nat} {ls : List (Option zV)} {i : Nat} {w : zV} (h : ∀ v, some v ∈ ls → zokV n v) (hw : zokV n w) : ∀ v, some v ∈ ls.set i (some w) → zokV n v := by
  intro v hv
  rcases List.mem_or_eq_of_mem_set hv with h1 | h1
  · exact h v h1
  · have e : v = w := by simpa using h1
    rw [e]; exact hw
section ZR
variable {B : zB} {E : zE} {pc : Nat} {ls : List (Option zV)} {st : List zV} {ini : zIni} {M : zM} {ce sl : Nat}
theorem zW.mp {pc2 : Nat} {st1 st2 : List zV}
    (hok : (∀ v ∈ st1, zokV (gn M) v) → ∀ v ∈ st2, zokV (gn M) v)
    (h : ∀ {p : Program} {e : Env} {s : State} {m : MethodId} {args : Array Value} {below : List Frame} {meth : Method} {c : Code} {H : Heap} {locs : List Loc} {lsr : Array Slot} {Q : State → Prop}, p.tables.exec = Jvm.exec → c.code = E.1.2.1 → (∀ v ∈ st1, zokV (gn M) v) →
      W p B.1 e E.2.1 s m args below meth c H locs ce sl Q (F0 m pc2 lsr (st2.map (ztr B.2.2.2))) → W p B.1 e E.2.1 s m args below meth c H locs ce sl Q (F0 m pc lsr (st1.map (ztr B.2.2.2))))
    (k : zW B E pc2 ls st2 ini M ce sl) : zW B E pc ls st1 ini M ce sl := by
  intro p e s m args below meth c H locs lsr hF hE hK hR hS hb hn hl hlo hst
  exact h hF.1 hF.2.1 hst (k p e s m args below meth c H locs lsr hF hE hK hR hS hb hn hl hlo (hok hst))
theorem zok_cons {n : Nat} {v : zV} {st : List zV} (hv : zokV n v) (h : ∀ v ∈ st, zokV n v) : ∀ w ∈ v :: st, zokV n w := fun w hw => by
  rcases List.mem_cons.mp hw with rfl | hw
  · exact hv
  · exact h w hw
theorem zok_t {n : Nat} {v : zV} {st : List zV} (h : ∀ w ∈ v :: st, zokV n w) : ∀ w ∈ st, zokV n w := fun w hw => h w (List.mem_cons_of_mem _ hw)
theorem zok_h {n : Nat} {v : zV} {st : List zV} (h : ∀ w ∈ v :: st, zokV n w) : zokV n v := h v List.mem_cons_self
theorem r_eq {pc' : Nat} {ls' : List (Option zV)} {st' : List zV} {M' : zM} (h1 : pc' = pc) (h2 : ls' = ls) (h3 : st' = st) (h4 : M' = M) (k : zW B E pc' ls' st' ini M' ce sl) : zW B E pc ls st ini M ce sl := by
  subst h1; subst h2; subst h3; subst h4; exact k
/-! constants -/
theorem r_iconst {n : Int} (hd : decode E.1.2.1 pc = .ok (.iconst n, 1)) (hn : zin n) (k : zW B E (pc + 1) ls (zI n :: st) ini M ce sl) : zW B E pc ls st ini M ce sl :=
  zW.mp (fun h => zok_cons (v := zI n) hn h) (fun hx hb _ kk => lv_iconst hx hb hd rfl kk) k
theorem r_bipush {n : Int} (hd : decode E.1.2.1 pc = .ok (.bipush n, 2)) (hn : zin n) (he : (Int8.ofInt n).toInt32 = Int32.ofInt n) (k : zW B E (pc + 2) ls (zI n :: st) ini M ce sl) : zW B E pc ls st ini M ce sl :=
  zW.mp (fun h => zok_cons (v := zI n) hn h) (fun hx hb _ kk => lv_bipush hx hb hd he kk) k
theorem r_sipush {n : Int} (hd : decode E.1.2.1 pc = .ok (.sipush n, 3)) (hn : zin n) (he : (Int16.ofInt n).toInt32 = Int32.ofInt n) (k : zW B E (pc + 3) ls (zI n :: st) ini M ce sl) : zW B E pc ls st ini M ce sl :=
  zW.mp (fun h => zok_cons (v := zI n) hn h) (fun hx hb _ kk => lv_sipush hx hb hd he kk) k
theorem r_null (hd : decode E.1.2.1 pc = .ok (.aconst_null, 1)) (k : zW B E (pc + 1) ls (zN :: st) ini M ce sl) : zW B E pc ls st ini M ce sl :=
  zW.mp (fun h => zok_cons (v := zN) trivial h) (fun hx hb _ kk => lv_null hx hb hd kk) k
theorem r_ldc {idx : Nat} {n : Int} (hd : decode E.1.2.1 pc = .ok (.ldc idx, 2)) (hw : Cond.constant E.1.1.cls idx (Int32.ofInt n) ∈ zTB) (hn : zin n) (k : zW B E (pc + 2) ls (zI n :: st) ini M ce sl) : zW B E pc ls st ini M ce sl := by
  intro p e s m args below meth c H locs lsr hF hE hK hR hS hb hn' hl hlo hst
  exact lv_ldc hF.1 hF.2.1 hF.2.2.2.1 (hF.2.2.2.2.1 _ hw) hd (k p e s m args below meth c H locs lsr hF hE hK hR hS hb hn' hl hlo (zok_cons (v := zI n) hn hst))
/-! locals -/
theorem r_iload_n {k4 : Fin 4} {i : Nat} {x : Int} (hd : decode E.1.2.1 pc = .ok (.iload_n k4, 1)) (hi : (k4 : Nat) = i) (hx : ls[i]? = some (some (zI x))) (k : zW B E (pc + 1) ls (zI x :: st) ini M ce sl) : zW B E pc ls st ini M ce sl := by
  intro p e s m args below meth c H locs lsr hF hE hK hR hS hb hn hl hlo hst
  exact lv_iload_n hF.1 hF.2.1 hd hi (hl.2.2.2 _ _ hx) (k p e s m args below meth c H locs lsr hF hE hK hR hS hb hn hl hlo (zok_cons (hlo _ (zmem_of hx)) hst))
theorem r_iload {i : Nat} {x : Int} (hd : decode E.1.2.1 pc = .ok (.iload i, 2)) (hx : ls[i]? = some (some (zI x))) (k : zW B E (pc + 2) ls (zI x :: st) ini M ce sl) : zW B E pc ls st ini M ce sl := by
  intro p e s m args below meth c H locs lsr hF hE hK hR hS hb hn hl hlo hst
  exact lv_iload hF.1 hF.2.1 hd (hl.2.2.2 _ _ hx) (k p e s m args below meth c H locs lsr hF hE hK hR hS hb hn hl hlo (zok_cons (hlo _ (zmem_of hx)) hst))
theorem r_aload_n {k4 : Fin 4} {i : Nat} {v : Option Nat ⊕ Nat} (hd : decode E.1.2.1 pc = .ok (.aload_n k4, 1)) (hi : (k4 : Nat) = i) (hx : ls[i]? = some (some (.inr v))) (k : zW B E (pc + 1) ls (.inr v :: st) ini M ce sl) : zW B E pc ls st ini M ce sl := by
  intro p e s m args below meth c H locs lsr hF hE hK hR hS hb hn hl hlo hst
  have kk := k p e s m args below meth c H locs lsr hF hE hK hR hS hb hn hl hlo (zok_cons (hlo _ (zmem_of hx)) hst)
  have h1 := hl.2.2.2 _ _ hx
  match v, h1, kk with
  | .inl none, h1, kk => exact lv_aload_nN hF.1 hF.2.1 hd hi h1 kk
  | .inl (some a), h1, kk => exact lv_aload_n hF.1 hF.2.1 hd hi h1 kk
  | .inr a, h1, kk => exact lv_aload_n hF.1 hF.2.1 hd hi h1 kk
theorem r_aload {i : Nat} {v : Option Nat ⊕ Nat} (hd : decode E.1.2.1 pc = .ok (.aload i, 2)) (hx : ls[i]? = some (some (.inr v))) (k : zW B E (pc + 2) ls (.inr v :: st) ini M ce sl) : zW B E pc ls st ini M ce sl := by
  intro p e s m args below meth c H locs lsr hF hE hK hR hS hb hn hl hlo hst
  have kk := k p e s m args below meth c H locs lsr hF hE hK hR hS hb hn hl hlo (zok_cons (hlo _ (zmem_of hx)) hst)
  have h1 := hl.2.2.2 _ _ hx
  match v, h1, kk with
  | .inl none, h1, kk => exact lv_aloadN hF.1 hF.2.1 hd h1 kk
  | .inl (some a), h1, kk => exact lv_aload hF.1 hF.2.1 hd h1 kk
  | .inr a, h1, kk => exact lv_aload hF.1 hF.2.1 hd h1 kk
theorem r_istore_n {k4 : Fin 4} {i : Nat} {x : Int} {ls2 : List (Option zV)} (hd : decode E.1.2.1 pc = .ok (.istore_n k4, 1)) (hi : (k4 : Nat) = i) (hi2 : i < ls.length) (hs : ls.set i (some (zI x)) = ls2) (k : zW B E (pc + 1) ls2 st ini M ce sl) : zW B E pc ls (zI x :: st) ini M ce sl := by
  subst hs
  intro p e s m args below meth c H locs lsr hF hE hK hR hS hb hn hl hlo hst
  exact lv_istore_n hF.1 hF.2.1 hd hi hl.all (Nat.lt_of_lt_of_le hi2 hl.2.2.1) rfl (fun ls' h' => k p e s m args below meth c H locs ls' hF hE hK hR hS hb hn (hl.store (w := zI x) hi2 h') (zok_set hlo (zok_h hst)) (zok_t hst))
theorem r_istore {i : Nat} {x : Int} {ls2 : List (Option zV)} (hd : decode E.1.2.1 pc = .ok (.istore i, 2)) (hi2 : i < ls.length) (hs : ls.set i (some (zI x)) = ls2) (k : zW B E (pc + 2) ls2 st ini M ce sl) : zW B E pc ls (zI x :: st) ini M ce sl := by
  subst hs
  intro p e s m args below meth c H locs lsr hF hE hK hR hS hb hn hl hlo hst
  exact lv_istore hF.1 hF.2.1 hd hl.all (Nat.lt_of_lt_of_le hi2 hl.2.2.1) rfl (fun ls' h' => k p e s m args below meth c H locs ls' hF hE hK hR hS hb hn (hl.store (w := zI x) hi2 h') (zok_set hlo (zok_h hst)) (zok_t hst))
theorem r_astore_n {k4 : Fin 4} {i : Nat} {v : Option Nat ⊕ Nat} {ls2 : List (Option zV)} (hd : decode E.1.2.1 pc = .ok (.astore_n k4, 1)) (hi : (k4 : Nat) = i) (hi2 : i < ls.length) (hs : ls.set i (some (.inr v)) = ls2) (k : zW B E (pc + 1) ls2 st ini M ce sl) : zW B E pc ls (.inr v :: st) ini M ce sl := by
  subst hs
  intro p e s m args below meth c H locs lsr hF hE hK hR hS hb hn hl hlo hst
  match v, k, hst with
  | .inl none, k, hst => exact lv_astore_nN hF.1 hF.2.1 hd hi hl.all (Nat.lt_of_lt_of_le hi2 hl.2.2.1) rfl (fun ls' h' => k p e s m args below meth c H locs ls' hF hE hK hR hS hb hn (hl.store (w := zN) hi2 h') (zok_set hlo (zok_h hst)) (zok_t hst))
  | .inl (some a), k, hst => exact lv_astore_n hF.1 hF.2.1 hd hi hl.all (Nat.lt_of_lt_of_le hi2 hl.2.2.1) rfl (fun ls' h' => k p e s m args below meth c H locs ls' hF hE hK hR hS hb hn (hl.store (w := zR a) hi2 h') (zok_set hlo (zok_h hst)) (zok_t hst))
  | .inr a, k, hst => exact lv_astore_n hF.1 hF.2.1 hd hi hl.all (Nat.lt_of_lt_of_le hi2 hl.2.2.1) rfl (fun ls' h' => k p e s m args below meth c H locs ls' hF hE hK hR hS hb hn (hl.store (w := zX a) hi2 h') (zok_set hlo (zok_h hst)) (zok_t hst))
theorem r_astore {i : Nat} {v : Option Nat ⊕ Nat} {ls2 : List (Option zV)} (hd : decode E.1.2.1 pc = .ok (.astore i, 2)) (hi2 : i < ls.length) (hs : ls.set i (some (.inr v)) = ls2) (k : zW B E (pc + 2) ls2 st ini M ce sl) : zW B E pc ls (.inr v :: st) ini M ce sl := by
  subst hs
  intro p e s m args below meth c H locs lsr hF hE hK hR hS hb hn hl hlo hst
  match v, k, hst with
  | .inl none, k, hst => exact lv_astoreN hF.1 hF.2.1 hd hl.all (Nat.lt_of_lt_of_le hi2 hl.2.2.1) rfl (fun ls' h' => k p e s m args below meth c H locs ls' hF hE hK hR hS hb hn (hl.store (w := zN) hi2 h') (zok_set hlo (zok_h hst)) (zok_t hst))
  | .inl (some a), k, hst => exact lv_astore hF.1 hF.2.1 hd hl.all (Nat.lt_of_lt_of_le hi2 hl.2.2.1) rfl (fun ls' h' => k p e s m args below meth c H locs ls' hF hE hK hR hS hb hn (hl.store (w := zR a) hi2 h') (zok_set hlo (zok_h hst)) (zok_t hst))
  | .inr a, k, hst => exact lv_astore hF.1 hF.2.1 hd hl.all (Nat.lt_of_lt_of_le hi2 hl.2.2.1) rfl (fun ls' h' => k p e s m args below meth c H locs ls' hF hE hK hR hS hb hn (hl.store (w := zX a) hi2 h') (zok_set hlo (zok_h hst)) (zok_t hst))
theorem zlv_get {base : Nat} {ls : List (Option zV)} {i : Nat} {v : zV} (h : ls[i]? = some (some v)) : ∃ q : Nat, (zlv base 0 ls)[q]? = some (i, ztr base v) := by
  have hm := zlv_mem (base := base) (k := 0) h
  rw [Nat.zero_add] at hm
  exact List.getElem?_of_mem hm
theorem zlt_of {α : Type} {l : List α} {i : Nat} {x : α} (h : l[i]? = some x) : i < l.length := (List.getElem?_eq_some_iff.mp h).1
theorem r_iinc {i : Nat} {n x : Int} {ls2 : List (Option zV)} (hd : decode E.1.2.1 pc = .ok (.iinc i n, 3)) (hx : ls[i]? = some (some (zI x))) (hr : zin (x + n)) (hs : ls.set i (some (zI (x + n))) = ls2) (k : zW B E (pc + 3) ls2 st ini M ce sl) : zW B E pc ls st ini M ce sl := by
  subst hs
  intro p e s m args below meth c H locs lsr hF hE hK hR hS hb hn hl hlo hst
  obtain ⟨q, hq⟩ := zlv_get (base := B.2.2.2) hx
  exact lv_iinc (v := Int32.ofInt (x + n)) hF.1 hF.2.1 hd hl.all hq (by rw [Int32.ofInt_add]) (Nat.lt_of_lt_of_le (zlt_of hx) hl.2.2.1) rfl (fun ls' h' => k p e s m args below meth c H locs ls' hF hE hK hR hS hb hn (hl.store (w := zI (x + n)) (zlt_of hx) h') (zok_set hlo hr) hst)
/-! the stack -/
theorem r_dup {v : zV} (hd : decode E.1.2.1 pc = .ok (.dup, 1)) (k : zW B E (pc + 1) ls (v :: v :: st) ini M ce sl) : zW B E pc ls (v :: st) ini M ce sl :=
  zW.mp (fun h => zok_cons (zok_h h) h) (fun hx hb _ kk => lv_dup hx hb hd (ztr_cat _ _) kk) k
theorem r_dup2 {v w : zV} (hd : decode E.1.2.1 pc = .ok (.dup2, 1)) (k : zW B E (pc + 1) ls (v :: w :: v :: w :: st) ini M ce sl) : zW B E pc ls (v :: w :: st) ini M ce sl :=
  zW.mp (fun h => zok_cons (zok_h h) (zok_cons (zok_h (zok_t h)) h)) (fun hx hb _ kk => lv_dup2_11 hx hb hd (ztr_cat _ _) (ztr_cat _ _) kk) k
theorem r_pop {v : zV} (hd : decode E.1.2.1 pc = .ok (.pop, 1)) (k : zW B E (pc + 1) ls st ini M ce sl) : zW B E pc ls (v :: st) ini M ce sl :=
  zW.mp (fun h => zok_t h) (fun hx hb _ kk => lv_pop hx hb hd (ztr_cat _ _) kk) k
theorem r_goto {off : Int} {tgt : Nat} (hd : decode E.1.2.1 pc = .ok (.goto off, 3)) (ht : (pc : Int) + off = (tgt : Int)) (k : zW B E tgt ls st ini M ce sl) : zW B E pc ls st ini M ce sl :=
  zW.mp (fun h => h) (fun hx hb _ kk => lv_goto hx hb hd ht kk) k
/-! arithmetic -/
theorem r_iadd {a b : Int} (hd : decode E.1.2.1 pc = .ok (.iadd, 1)) (hr : zin (a + b)) (k : zW B E (pc + 1) ls (zI (a + b) :: st) ini M ce sl) : zW B E pc ls (zI b :: zI a :: st) ini M ce sl :=
  zW.mp (fun h => zok_cons (v := zI (a + b)) hr (zok_t (zok_t h))) (fun hx hb _ kk => lv_iadd hx hb hd (by rw [← Int32.ofInt_add]; exact kk)) k
theorem r_isub {a b : Int} (hd : decode E.1.2.1 pc = .ok (.isub, 1)) (hr : zin (a - b)) (k : zW B E (pc + 1) ls (zI (a - b) :: st) ini M ce sl) : zW B E pc ls (zI b :: zI a :: st) ini M ce sl :=
  zW.mp (fun h => zok_cons (v := zI (a - b)) hr (zok_t (zok_t h))) (fun hx hb _ kk => lv_isub hx hb hd (by rw [← Int32.ofInt_sub]; exact kk)) k
theorem r_imul {a b : Int} (hd : decode E.1.2.1 pc = .ok (.imul, 1)) (hr : zin (a * b)) (k : zW B E (pc + 1) ls (zI (a * b) :: st) ini M ce sl) : zW B E pc ls (zI b :: zI a :: st) ini M ce sl :=
  zW.mp (fun h => zok_cons (v := zI (a * b)) hr (zok_t (zok_t h))) (fun hx hb _ kk => lv_imul hx hb hd (by rw [← Int32.ofInt_mul]; exact kk)) k
theorem zdiv {a b : Int} (ha : zin a) (hb : zin b) (h : 0 ≤ a ∧ 0 < b) : Int32.ofInt a / Int32.ofInt b = Int32.ofInt (a / b) := by
  rw [← Int.tdiv_eq_ediv_of_nonneg h.1]
  have e1 : Int32.minValue.toInt = -2147483648 := by decide
  have e2 : Int32.maxValue.toInt = 2147483647 := by decide
  exact (Int32.ofInt_tdiv (by omega) (by omega) (by omega) (by omega)).symm
theorem zdiv_in {a b : Int} (ha : zin a) (h : 0 ≤ a ∧ 0 < b) : zin (a / b) := by
  have h1 : 0 ≤ a / b := Int.ediv_nonneg h.1 (by omega)
  have h2 : a / b ≤ a := Int.ediv_le_self b h.1
  omega
theorem r_idiv {a b : Int} (hd : decode E.1.2.1 pc = .ok (.idiv, 1)) (hr : 0 ≤ a ∧ 0 < b) (k : zW B E (pc + 1) ls (zI (a / b) :: st) ini M ce sl) : zW B E pc ls (zI b :: zI a :: st) ini M ce sl :=
  zW.mp (fun h => zok_cons (v := zI (a / b)) (zdiv_in (zok_h (zok_t h)) hr) (zok_t (zok_t h))) (fun hx hb hok kk => lv_idiv hx hb hd (fun q => by
      have hbz : zin b := zok_h hok
      rw [zeq0 hbz] at q; omega) (by rw [zdiv (zok_h (zok_t hok)) (zok_h hok) hr]; exact kk)) k
theorem r_irem {a b : Int} (hd : decode E.1.2.1 pc = .ok (.irem, 1)) (hr : 0 ≤ a ∧ 0 < b) (k : zW B E (pc + 1) ls (zI (a % b) :: st) ini M ce sl) : zW B E pc ls (zI b :: zI a :: st) ini M ce sl :=
  zW.mp (fun h => zok_cons (v := zI (a % b)) (by
      have hbz : zin b := zok_h h
      have h1 := Int.emod_nonneg a (by omega : b ≠ 0)
      have h2 := Int.emod_lt_of_pos a hr.2
      show zin _
      omega) (zok_t (zok_t h))) (fun hx hb hok kk => lv_irem hx hb hd (fun q => by
      have hbz : zin b := zok_h hok
      rw [zeq0 hbz] at q; omega) (by
      rw [zdiv (zok_h (zok_t hok)) (zok_h hok) hr, ← Int32.ofInt_mul, ← Int32.ofInt_sub]
      have e : a - a / b * b = a % b := by
        have := Int.emod_add_mul_ediv a b
        have e2 : a / b * b = b * (a / b) := Int.mul_comm _ _
        omega
      rw [e]; exact kk)) k
theorem r_iand {a b : Int} (hd : decode E.1.2.1 pc = .ok (.iand, 1)) (k : zW B E (pc + 1) ls (zI (zand a b) :: st) ini M ce sl) : zW B E pc ls (zI b :: zI a :: st) ini M ce sl :=
  zW.mp (fun h => zok_cons (v := zI (zand a b)) (zin_of _) (zok_t (zok_t h))) (fun hx hb hok kk => lv_iand hx hb hd (by rw [← zof_toInt (Int32.ofInt a &&& Int32.ofInt b)]; exact kk)) k
theorem r_ior {a b : Int} (hd : decode E.1.2.1 pc = .ok (.ior, 1)) (k : zW B E (pc + 1) ls (zI (zor a b) :: st) ini M ce sl) : zW B E pc ls (zI b :: zI a :: st) ini M ce sl :=
  zW.mp (fun h => zok_cons (v := zI (zor a b)) (zin_of _) (zok_t (zok_t h))) (fun hx hb hok kk => lv_ior hx hb hd (by rw [← zof_toInt (Int32.ofInt a ||| Int32.ofInt b)]; exact kk)) k
theorem r_ixor {a b : Int} (hd : decode E.1.2.1 pc = .ok (.ixor, 1)) (k : zW B E (pc + 1) ls (zI (zxor a b) :: st) ini M ce sl) : zW B E pc ls (zI b :: zI a :: st) ini M ce sl :=
  zW.mp (fun h => zok_cons (v := zI (zxor a b)) (zin_of _) (zok_t (zok_t h))) (fun hx hb hok kk => lv_ixor hx hb hd (by rw [← zof_toInt (Int32.ofInt a ^^^ Int32.ofInt b)]; exact kk)) k
theorem r_ishl {a b : Int} (hd : decode E.1.2.1 pc = .ok (.ishl, 1)) (k : zW B E (pc + 1) ls (zI (zshl a b) :: st) ini M ce sl) : zW B E pc ls (zI b :: zI a :: st) ini M ce sl :=
  zW.mp (fun h => zok_cons (v := zI (zshl a b)) (zin_of _) (zok_t (zok_t h))) (fun hx hb hok kk => lv_ishl hx hb hd (by rw [← zof_toInt (Int32.ofInt a <<< (Int32.ofInt b &&& 31))]; exact kk)) k
theorem r_ishr {a b : Int} (hd : decode E.1.2.1 pc = .ok (.ishr, 1)) (k : zW B E (pc + 1) ls (zI (zshr a b) :: st) ini M ce sl) : zW B E pc ls (zI b :: zI a :: st) ini M ce sl :=
  zW.mp (fun h => zok_cons (v := zI (zshr a b)) (zin_of _) (zok_t (zok_t h))) (fun hx hb hok kk => lv_ishr hx hb hd (by rw [← zof_toInt (Int32.ofInt a >>> (Int32.ofInt b &&& 31))]; exact kk)) k
theorem r_i2c {a : Int} (hd : decode E.1.2.1 pc = .ok (.i2c, 1)) (k : zW B E (pc + 1) ls (zI (a % 65536) :: st) ini M ce sl) : zW B E pc ls (zI a :: st) ini M ce sl :=
  zW.mp (fun h => zok_cons (v := zI (a % 65536)) (by show zin _; omega) (zok_t h)) (fun hx hb _ kk => lv_i2c hx hb hd zch kk) k
/-! branches -/
theorem r_icmp_eq {a b : Int} {off : Int} {tgt : Nat} (hd : decode E.1.2.1 pc = .ok (.if_icmp .eq off, 3)) (ht : (pc : Int) + off = (tgt : Int)) (kt : a = b → zW B E tgt ls st ini M ce sl) (kf : ¬ a = b → zW B E (pc + 3) ls st ini M ce sl) : zW B E pc ls (zI b :: zI a :: st) ini M ce sl := by
  intro p e s m args below meth c H locs lsr hF hE hK hR hS hbs hn hl hlo hst
  have ha : zin a := zok_h (zok_t hst)
  have hb : zin b := zok_h hst
  have kt' := fun q => kt q p e s m args below meth c H locs lsr hF hE hK hR hS hbs hn hl hlo (zok_t (zok_t hst))
  have kf' := fun q => kf q p e s m args below meth c H locs lsr hF hE hK hR hS hbs hn hl hlo (zok_t (zok_t hst))
  exact lv_icmp_eq hF.1 hF.2.1 hd ht (fun q => kt' ((zeq ha hb).mp q)) (fun q => kf' (fun z => q ((zeq ha hb).mpr z)))
theorem r_if_eq {a : Int} {off : Int} {tgt : Nat} (hd : decode E.1.2.1 pc = .ok (.ifCond .eq off, 3)) (ht : (pc : Int) + off = (tgt : Int)) (kt : a = 0 → zW B E tgt ls st ini M ce sl) (kf : ¬ a = 0 → zW B E (pc + 3) ls st ini M ce sl) : zW B E pc ls (zI a :: st) ini M ce sl := by
  intro p e s m args below meth c H locs lsr hF hE hK hR hS hbs hn hl hlo hst
  have ha : zin a := zok_h hst
  have hb : zin 0 := by decide
  have kt' := fun q => kt q p e s m args below meth c H locs lsr hF hE hK hR hS hbs hn hl hlo (zok_t hst)
  have kf' := fun q => kf q p e s m args below meth c H locs lsr hF hE hK hR hS hbs hn hl hlo (zok_t hst)
  exact lv_if_eq hF.1 hF.2.1 hd ht (fun q => kt' ((zeq ha hb).mp q)) (fun q => kf' (fun z => q ((zeq ha hb).mpr z)))
theorem r_icmp_ne {a b : Int} {off : Int} {tgt : Nat} (hd : decode E.1.2.1 pc = .ok (.if_icmp .ne off, 3)) (ht : (pc : Int) + off = (tgt : Int)) (kt : ¬ a = b → zW B E tgt ls st ini M ce sl) (kf : a = b → zW B E (pc + 3) ls st ini M ce sl) : zW B E pc ls (zI b :: zI a :: st) ini M ce sl := by
  intro p e s m args below meth c H locs lsr hF hE hK hR hS hbs hn hl hlo hst
  have ha : zin a := zok_h (zok_t hst)
  have hb : zin b := zok_h hst
  have kt' := fun q => kt q p e s m args below meth c H locs lsr hF hE hK hR hS hbs hn hl hlo (zok_t (zok_t hst))
  have kf' := fun q => kf q p e s m args below meth c H locs lsr hF hE hK hR hS hbs hn hl hlo (zok_t (zok_t hst))
  exact lv_icmp_ne hF.1 hF.2.1 hd ht (fun q => kt' (fun z => q ((zeq ha hb).mpr z))) (fun q => kf' ((zeq ha hb).mp q))
theorem r_if_ne {a : Int} {off : Int} {tgt : Nat} (hd : decode E.1.2.1 pc = .ok (.ifCond .ne off, 3)) (ht : (pc : Int) + off = (tgt : Int)) (kt : ¬ a = 0 → zW B E tgt ls st ini M ce sl) (kf : a = 0 → zW B E (pc + 3) ls st ini M ce sl) : zW B E pc ls (zI a :: st) ini M ce sl := by
  intro p e s m args below meth c H locs lsr hF hE hK hR hS hbs hn hl hlo hst
  have ha : zin a := zok_h hst
  have hb : zin 0 := by decide
  have kt' := fun q => kt q p e s m args below meth c H locs lsr hF hE hK hR hS hbs hn hl hlo (zok_t hst)
  have kf' := fun q => kf q p e s m args below meth c H locs lsr hF hE hK hR hS hbs hn hl hlo (zok_t hst)
  exact lv_if_ne hF.1 hF.2.1 hd ht (fun q => kt' (fun z => q ((zeq ha hb).mpr z))) (fun q => kf' ((zeq ha hb).mp q))
theorem r_icmp_lt {a b : Int} {off : Int} {tgt : Nat} (hd : decode E.1.2.1 pc = .ok (.if_icmp .lt off, 3)) (ht : (pc : Int) + off = (tgt : Int)) (kt : a < b → zW B E tgt ls st ini M ce sl) (kf : b ≤ a → zW B E (pc + 3) ls st ini M ce sl) : zW B E pc ls (zI b :: zI a :: st) ini M ce sl := by
  intro p e s m args below meth c H locs lsr hF hE hK hR hS hbs hn hl hlo hst
  have ha : zin a := zok_h (zok_t hst)
  have hb : zin b := zok_h hst
  have kt' := fun q => kt q p e s m args below meth c H locs lsr hF hE hK hR hS hbs hn hl hlo (zok_t (zok_t hst))
  have kf' := fun q => kf q p e s m args below meth c H locs lsr hF hE hK hR hS hbs hn hl hlo (zok_t (zok_t hst))
  exact lv_icmp_lt hF.1 hF.2.1 hd ht (fun q => kt' ((zlt ha hb).mp q)) (fun q => kf' (Int.not_lt.mp (fun z => q ((zlt ha hb).mpr z))))
theorem r_if_lt {a : Int} {off : Int} {tgt : Nat} (hd : decode E.1.2.1 pc = .ok (.ifCond .lt off, 3)) (ht : (pc : Int) + off = (tgt : Int)) (kt : a < 0 → zW B E tgt ls st ini M ce sl) (kf : 0 ≤ a → zW B E (pc + 3) ls st ini M ce sl) : zW B E pc ls (zI a :: st) ini M ce sl := by
  intro p e s m args below meth c H locs lsr hF hE hK hR hS hbs hn hl hlo hst
  have ha : zin a := zok_h hst
  have hb : zin 0 := by decide
  have kt' := fun q => kt q p e s m args below meth c H locs lsr hF hE hK hR hS hbs hn hl hlo (zok_t hst)
  have kf' := fun q => kf q p e s m args below meth c H locs lsr hF hE hK hR hS hbs hn hl hlo (zok_t hst)
  exact lv_if_lt hF.1 hF.2.1 hd ht (fun q => kt' ((zlt ha hb).mp q)) (fun q => kf' (Int.not_lt.mp (fun z => q ((zlt ha hb).mpr z))))
theorem r_icmp_ge {a b : Int} {off : Int} {tgt : Nat} (hd : decode E.1.2.1 pc = .ok (.if_icmp .ge off, 3)) (ht : (pc : Int) + off = (tgt : Int)) (kt : b ≤ a → zW B E tgt ls st ini M ce sl) (kf : a < b → zW B E (pc + 3) ls st ini M ce sl) : zW B E pc ls (zI b :: zI a :: st) ini M ce sl := by
  intro p e s m args below meth c H locs lsr hF hE hK hR hS hbs hn hl hlo hst
  have ha : zin a := zok_h (zok_t hst)
  have hb : zin b := zok_h hst
  have kt' := fun q => kt q p e s m args below meth c H locs lsr hF hE hK hR hS hbs hn hl hlo (zok_t (zok_t hst))
  have kf' := fun q => kf q p e s m args below meth c H locs lsr hF hE hK hR hS hbs hn hl hlo (zok_t (zok_t hst))
  exact lv_icmp_ge hF.1 hF.2.1 hd ht (fun q => kt' ((zle hb ha).mp q)) (fun q => kf' (Int.not_le.mp (fun z => q ((zle hb ha).mpr z))))
theorem r_if_ge {a : Int} {off : Int} {tgt : Nat} (hd : decode E.1.2.1 pc = .ok (.ifCond .ge off, 3)) (ht : (pc : Int) + off = (tgt : Int)) (kt : 0 ≤ a → zW B E tgt ls st ini M ce sl) (kf : a < 0 → zW B E (pc + 3) ls st ini M ce sl) : zW B E pc ls (zI a :: st) ini M ce sl := by
  intro p e s m args below meth c H locs lsr hF hE hK hR hS hbs hn hl hlo hst
  have ha : zin a := zok_h hst
  have hb : zin 0 := by decide
  have kt' := fun q => kt q p e s m args below meth c H locs lsr hF hE hK hR hS hbs hn hl hlo (zok_t hst)
  have kf' := fun q => kf q p e s m args below meth c H locs lsr hF hE hK hR hS hbs hn hl hlo (zok_t hst)
  exact lv_if_ge hF.1 hF.2.1 hd ht (fun q => kt' ((zle hb ha).mp q)) (fun q => kf' (Int.not_le.mp (fun z => q ((zle hb ha).mpr z))))
theorem r_icmp_gt {a b : Int} {off : Int} {tgt : Nat} (hd : decode E.1.2.1 pc = .ok (.if_icmp .gt off, 3)) (ht : (pc : Int) + off = (tgt : Int)) (kt : b < a → zW B E tgt ls st ini M ce sl) (kf : a ≤ b → zW B E (pc + 3) ls st ini M ce sl) : zW B E pc ls (zI b :: zI a :: st) ini M ce sl := by
  intro p e s m args below meth c H locs lsr hF hE hK hR hS hbs hn hl hlo hst
  have ha : zin a := zok_h (zok_t hst)
  have hb : zin b := zok_h hst
  have kt' := fun q => kt q p e s m args below meth c H locs lsr hF hE hK hR hS hbs hn hl hlo (zok_t (zok_t hst))
  have kf' := fun q => kf q p e s m args below meth c H locs lsr hF hE hK hR hS hbs hn hl hlo (zok_t (zok_t hst))
  exact lv_icmp_gt hF.1 hF.2.1 hd ht (fun q => kt' ((zlt hb ha).mp q)) (fun q => kf' (Int.not_lt.mp (fun z => q ((zlt hb ha).mpr z))))
theorem r_if_gt {a : Int} {off : Int} {tgt : Nat} (hd : decode E.1.2.1 pc = .ok (.ifCond .gt off, 3)) (ht : (pc : Int) + off = (tgt : Int)) (kt : 0 < a → zW B E tgt ls st ini M ce sl) (kf : a ≤ 0 → zW B E (pc + 3) ls st ini M ce sl) : zW B E pc ls (zI a :: st) ini M ce sl := by
  intro p e s m args below meth c H locs lsr hF hE hK hR hS hbs hn hl hlo hst
  have ha : zin a := zok_h hst
  have hb : zin 0 := by decide
  have kt' := fun q => kt q p e s m args below meth c H locs lsr hF hE hK hR hS hbs hn hl hlo (zok_t hst)
  have kf' := fun q => kf q p e s m args below meth c H locs lsr hF hE hK hR hS hbs hn hl hlo (zok_t hst)
  exact lv_if_gt hF.1 hF.2.1 hd ht (fun q => kt' ((zlt hb ha).mp q)) (fun q => kf' (Int.not_lt.mp (fun z => q ((zlt hb ha).mpr z))))
theorem r_icmp_le {a b : Int} {off : Int} {tgt : Nat} (hd : decode E.1.2.1 pc = .ok (.if_icmp .le off, 3)) (ht : (pc : Int) + off = (tgt : Int)) (kt : a ≤ b → zW B E tgt ls st ini M ce sl) (kf : b < a → zW B E (pc + 3) ls st ini M ce sl) : zW B E pc ls (zI b :: zI a :: st) ini M ce sl := by
  intro p e s m args below meth c H locs lsr hF hE hK hR hS hbs hn hl hlo hst
  have ha : zin a := zok_h (zok_t hst)
  have hb : zin b := zok_h hst
  have kt' := fun q => kt q p e s m args below meth c H locs lsr hF hE hK hR hS hbs hn hl hlo (zok_t (zok_t hst))
  have kf' := fun q => kf q p e s m args below meth c H locs lsr hF hE hK hR hS hbs hn hl hlo (zok_t (zok_t hst))
  exact lv_icmp_le hF.1 hF.2.1 hd ht (fun q => kt' ((zle ha hb).mp q)) (fun q => kf' (Int.not_le.mp (fun z => q ((zle ha hb).mpr z))))
theorem r_if_le {a : Int} {off : Int} {tgt : Nat} (hd : decode E.1.2.1 pc = .ok (.ifCond .le off, 3)) (ht : (pc : Int) + off = (tgt : Int)) (kt : a ≤ 0 → zW B E tgt ls st ini M ce sl) (kf : 0 < a → zW B E (pc + 3) ls st ini M ce sl) : zW B E pc ls (zI a :: st) ini M ce sl := by
  intro p e s m args below meth c H locs lsr hF hE hK hR hS hbs hn hl hlo hst
  have ha : zin a := zok_h hst
  have hb : zin 0 := by decide
  have kt' := fun q => kt q p e s m args below meth c H locs lsr hF hE hK hR hS hbs hn hl hlo (zok_t hst)
  have kf' := fun q => kf q p e s m args below meth c H locs lsr hF hE hK hR hS hbs hn hl hlo (zok_t hst)
  exact lv_if_le hF.1 hF.2.1 hd ht (fun q => kt' ((zle ha hb).mp q)) (fun q => kf' (Int.not_le.mp (fun z => q ((zle ha hb).mpr z))))
theorem r_ifnull {x : Option Nat} {off : Int} {tgt : Nat} (hd : decode E.1.2.1 pc = .ok (.ifnull off, 3)) (ht : (pc : Int) + off = (tgt : Int)) (kt : x = none → zW B E tgt ls st ini M ce sl) (kf : ∀ k, x = some k → zW B E (pc + 3) ls st ini M ce sl) : zW B E pc ls (zO x :: st) ini M ce sl := by
  intro p e s m args below meth c H locs lsr hF hE hK hR hS hbs hn hl hlo hst
  cases x with
  | none => exact lv_ifnullN hF.1 hF.2.1 hd ht (kt rfl p e s m args below meth c H locs lsr hF hE hK hR hS hbs hn hl hlo (zok_t hst))
  | some a => exact lv_ifnull hF.1 hF.2.1 hd (kf a rfl p e s m args below meth c H locs lsr hF hE hK hR hS hbs hn hl hlo (zok_t hst))
theorem r_ifnonnull {x : Option Nat} {off : Int} {tgt : Nat} (hd : decode E.1.2.1 pc = .ok (.ifnonnull off, 3)) (ht : (pc : Int) + off = (tgt : Int)) (kt : ∀ k, x = some k → zW B E tgt ls st ini M ce sl) (kf : x = none → zW B E (pc + 3) ls st ini M ce sl) : zW B E pc ls (zO x :: st) ini M ce sl := by
  intro p e s m args below meth c H locs lsr hF hE hK hR hS hbs hn hl hlo hst
  cases x with
  | none => exact lv_ifnonnullN hF.1 hF.2.1 hd (kf rfl p e s m args below meth c H locs lsr hF hE hK hR hS hbs hn hl hlo (zok_t hst))
  | some a => exact lv_ifnonnull hF.1 hF.2.1 hd ht (kt a rfl p e s m args below meth c H locs lsr hF hE hK hR hS hbs hn hl hlo (zok_t hst))
/-- a switch: one row a case (j: the case's place), and the rest -/
theorem r_table {dflt lo hi : Int} {offs : Array Int} {len : Nat} {x : Int} {tgt : Nat} (hd : decode E.1.2.1 pc = .ok (.tableswitch dflt lo hi offs, len)) (ht : (pc : Int) + dflt = (tgt : Int))
    (kd : (x < lo ∨ hi < x) → zW B E tgt ls st ini M ce sl) (kc : ∀ j : Nat, lo + j ≤ hi → x = lo + j → ∃ (off : Int) (tg : Nat), offs[j]? = some off ∧ (pc : Int) + off = (tg : Int) ∧ zW B E tg ls st ini M ce sl) : zW B E pc ls (zI x :: st) ini M ce sl := by
  intro p e s m args below meth c H locs lsr hF hE hK hR hS hbs hn hl hlo hst
  have hx : zin x := zok_h hst
  by_cases h : x < lo ∨ hi < x
  · exact lv_tableOut hF.1 hF.2.1 hd (by rw [zin_toInt hx]; exact h) ht (kd h p e s m args below meth c H locs lsr hF hE hK hR hS hbs hn hl hlo (zok_t hst))
  · obtain ⟨off, tg, h1, h2, h3⟩ := kc (x - lo).toNat (by omega) (by omega)
    exact lv_tableIn hF.1 hF.2.1 hd (by rw [zin_toInt hx]; omega) (by rw [zin_toInt hx]; omega) (by rw [zin_toInt hx]; exact h1) h2 (h3 p e s m args below meth c H locs lsr hF hE hK hR hS hbs hn hl hlo (zok_t hst))
end ZR
end
section
/-! ===== cells: how each is read and written ===== -/
theorem zat_arr {B : zB} {ini : zIni} {M : zM} {H : Heap} {k t n : Nat} (h : zat B ini M k H) (hk : zkd k = .inl (t, n)) (ht : t ≠ 3) : H[B.2.2.2 + k]? = some (arrV (B.2.2.1 t) n (fun j => .int (Int32.ofInt (gi M k j)))) := by
  unfold zat zcell at h
  rw [hk] at h
  have h2 : H[B.2.2.2 + k]? = some (vp_cell (B.2.2.1 t) (zarr B.2.2.2 M k t n)) := h
  rw [h2]
  unfold zarr
  rw [if_neg ht]
  rfl
theorem zat_arrq {B : zB} {ini : zIni} {M : zM} {H : Heap} {k n : Nat} (h : zat B ini M k H) (hk : zkd k = .inl (3, n)) : H[B.2.2.2 + k]? = some (arrV (B.2.2.1 3) n (fun j => va_rf ((gr M k j).map (B.2.2.2 + ·)))) := by
  unfold zat zcell at h
  rw [hk] at h
  exact h
theorem zat_arr_mk {B : zB} {ini : zIni} {M : zM} {H : Heap} {k t n : Nat} (hk : zkd k = .inl (t, n)) (ht : t ≠ 3) (h : H[B.2.2.2 + k]? = some (arrV (B.2.2.1 t) n (fun j => .int (Int32.ofInt (gi M k j))))) : zat B ini M k H := by
  unfold zat zcell
  rw [hk]
  show H[B.2.2.2 + k]? = some (vp_cell (B.2.2.1 t) (zarr B.2.2.2 M k t n))
  rw [h]
  unfold zarr
  rw [if_neg ht]
  rfl
theorem zat_arrq_mk {B : zB} {ini : zIni} {M : zM} {H : Heap} {k n : Nat} (hk : zkd k = .inl (3, n)) (h : H[B.2.2.2 + k]? = some (arrV (B.2.2.1 3) n (fun j => va_rf ((gr M k j).map (B.2.2.2 + ·))))) : zat B ini M k H := by
  unfold zat zcell
  rw [hk]
  exact h
theorem zat_obj {B : zB} {ini : zIni} {M : zM} {H : Heap} {k c : Nat} (h : zat B ini M k H) (hk : zkd k = .inr c) (hc : c < 10) : t_OB (B.2.2.2 + k) (B.2.1.1 c) (znf c) (B.2.1.2 c) H (fun j => zfv B.2.2.2 ini M k c j) := by
  unfold zat zcell at h
  rw [hk] at h
  obtain ⟨r, h1, h2⟩ := h
  have hr : r = (zNm c, zT c, znf c) := Option.some.inj (h1.symm.trans (zc_cl c hc))
  subst hr
  refine t_OB.to h2 (fun j hj => ?_)
  have hj : j < znf c := hj
  unfold vp_V
  simp [List.getD, hj]
theorem zat_obj_mk {B : zB} {ini : zIni} {M : zM} {H : Heap} {k c : Nat} (hk : zkd k = .inr c) (hc : c < 10) (h : t_OB (B.2.2.2 + k) (B.2.1.1 c) (znf c) (B.2.1.2 c) H (fun j => zfv B.2.2.2 ini M k c j)) : zat B ini M k H := by
  unfold zat zcell
  rw [hk]
  refine ⟨_, zc_cl c hc, t_OB.to h (fun j hj => ?_)⟩
  have hj : j < znf c := hj
  unfold vp_V
  simp [List.getD, hj]
/-- a cell depends on its own row of the memory -/
theorem zat_same {B : zB} {ini ini' : zIni} {M M' : zM} {k : Nat} {H H' : Heap} (h : zat B ini M k H) (hq : H'[B.2.2.2 + k]? = H[B.2.2.2 + k]?) (h1 : gi M' k = gi M k) (h2 : gr M' k = gr M k) (h3 : ini' k = ini k) : zat B ini' M' k H' := by
  have e : zcell B ini' M' k = zcell B ini M k := by
    unfold zcell zarr
    cases zkd k with
    | inl q => simp only [h1, h2]
    | inr c =>
      simp only
      congr 2
      apply List.map_congr_left
      intro j _
      unfold zfv
      rw [h1, h2, h3]
  unfold zat
  rw [e]
  exact va_at.kept h hq
/-- writing: one cell anew, the others as they were -/
theorem zrel_set {B : zB} {ini ini' : zIni} {M M' : zM} {k : Nat} {H H' : Heap} (h : zrel B ini M H) (hk : zat B ini' M' k H') (hz : H'.size = H.size) (ho : ∀ q : Nat, q ≠ B.2.2.2 + k → H'[q]? = H[q]?) (hn : gn M' = gn M)
    (h1 : ∀ a, a ≠ k → gi M' a = gi M a) (h2 : ∀ a, a ≠ k → gr M' a = gr M a) (h3 : ∀ a, a ≠ k → ini' a = ini a) (hw : zwf ini' M') : zrel B ini' M' H' := by
  refine ⟨by rw [hz, hn]; exact h.1, fun a ha => ?_, hw⟩
  by_cases e : a = k
  · subst e; exact hk
  · exact zat_same (h.2.1 a (by rw [← hn]; exact ha)) (ho _ (by omega)) (h1 a e) (h2 a e) (h3 a e)
theorem zwf_si {ini : zIni} {M : zM} (h : zwf ini M) {k j : Nat} {x : Int} (hx : zin x) : zwf ini (si M k j x) := by
  refine ⟨fun a b => ?_, h.2.1, h.2.2⟩
  rw [gi_si]
  split
  · exact hx
  · exact h.1 a b
theorem zwf_sr {ini : zIni} {M : zM} (h : zwf ini M) {k j : Nat} {x : Option Nat} (hx : ∀ r, x = some r → r < gn M) : zwf ini (sr M k j x) := by
  refine ⟨h.1, fun a b r hr => ?_, h.2.2⟩
  rw [gr_sr] at hr
  split at hr
  · exact hx r hr
  · exact h.2.1 a b r hr
/-- one more reference that is set once is set -/
def zst (ini : zIni) (k j : Nat) : zIni := fun a => if a = k then (fun b => if b = j then true else ini a b) else ini a
theorem zst_ne {ini : zIni} {k j a : Nat} (h : a ≠ k) : zst ini k j a = ini a := by
  unfold zst; rw [if_neg h]
theorem zst_k {ini : zIni} {k j b : Nat} : zst ini k j k b = if b = j then true else ini k b := by
  unfold zst; rw [if_pos rfl]
theorem zwf_zst {ini : zIni} {M : zM} (h : zwf ini M) {k j : Nat} (hx : zsf k j < gn M) : zwf (zst ini k j) M := by
  refine ⟨h.1, h.2.1, fun a b hab => ?_⟩
  by_cases e : a = k
  · subst e
    rw [zst_k] at hab
    by_cases e2 : b = j
    · subst e2; exact hx
    · rw [if_neg e2] at hab; exact h.2.2 a b hab
  · rw [zst_ne e] at hab; exact h.2.2 a b hab
theorem zupd {f : Nat → Int} {g : Nat → Int} {i : Nat} {x : Int} (h : ∀ j, g j = if j = i then x else f j) : (fun j => (Value.int (Int32.ofInt (g j)))) = updV (fun j => .int (Int32.ofInt (f j))) i (.int (Int32.ofInt x)) := by
  funext j
  unfold updV
  rw [h j]
  split <;> rfl
theorem zK_arr {B : zB} {s : State} (hK : zKn B s) {t : Nat} (ht : t < 4) : ArrOfT s (B.2.2.1 t) (zta t) ∧ va_RA s (B.2.2.1 t) (zta t) := by
  have h : (ztys B)[t]? = some (B.2.2.1 t, zta t) := by
    rcases (show t = 0 ∨ t = 1 ∨ t = 2 ∨ t = 3 by omega) with rfl | rfl | rfl | rfl <;> rfl
  exact hK.1.2 t _ h
section ZH
variable {B : zB} {E : zE} {pc : Nat} {ls : List (Option zV)} {st : List zV} {ini : zIni} {M : zM} {ce sl : Nat}
/-- reading a field -/
theorem zget {p : Program} {e : Env} {R : Room} {s : State} {m : MethodId} {args : Array Value} {below : List Frame} {meth : Method} {c : Code} {H : Heap} {locs : List Loc} {Q : State → Prop} {lsr : Array Slot} {rest : List Value} {y : zY}
    (hF : zFix y p s m args meth c) (hK : zKn B s) (hR : zrel B ini M H) {idx ci j k : Nat} (hk : k < gn M) (hL : zLnk y.1.cls idx ci j) (hkd : zkd k = .inr ci) (hd : decode y.2.1 pc = .ok (.getfield idx, 3))
    (kk : W p B.1 e R s m args below meth c H locs ce sl Q (F0 m (pc + 3) lsr (zfv B.2.2.2 ini M k ci j :: rest))) : W p B.1 e R s m args below meth c H locs ce sl Q (F0 m pc lsr (.ref (B.2.2.2 + k) :: rest)) := by
  obtain ⟨hx, hb, -, hown, hts, -⟩ := hF
  obtain ⟨hc, hj, hw⟩ := hL
  obtain ⟨cell, q1, q2, q3, q4⟩ := zat_obj (hR.2.1 k hk) hkd hc
  obtain ⟨hS, hfc, kC, hkC, hkind⟩ := hK.1.1 ci _ (zc_cl ci hc)
  obtain ⟨cf, kf, fi, f, hi, hsl⟩ := hS j hj
  refine W.getf hx hb hown (hts _ hw) hi (u_facts hfc hkC (u_lays hts (zc_in ci hc) hj) hi).1 q1 (by rw [q3]; exact fun h => by cases h) (v := zfv B.2.2.2 ini M k ci j) ?_ rfl rfl hd kk
  rw [hsl, q4 j hj]
theorem r_geti {k ci j idx : Nat} (hd : decode E.1.2.1 pc = .ok (.getfield idx, 3)) (hL : zLnk E.1.1.cls idx ci j) (hkd : zkd k = .inr ci) (hs : zsk ci j = 0) (kk : zW B E (pc + 3) ls (zI (gi M k j) :: st) ini M ce sl) : zW B E pc ls (zR k :: st) ini M ce sl := by
  intro p e s m args below meth c H locs lsr hF hE hK hR hS hbs hn hl hlo hst
  refine zget hF hK hR (zok_h hst) hL hkd hd ?_
  have k2 := kk p e s m args below meth c H locs lsr hF hE hK hR hS hbs hn hl hlo (zok_cons (v := zI (gi M k j)) (hR.2.2.1 k j) (zok_t hst))
  unfold zfv
  rw [hs]
  exact k2
theorem r_gets {k ci j idx : Nat} (hd : decode E.1.2.1 pc = .ok (.getfield idx, 3)) (hL : zLnk E.1.1.cls idx ci j) (hkd : zkd k = .inr ci) (hs : zsk ci j = 1) (hi : ini k j = true) (kk : zW B E (pc + 3) ls (zR (zsf k j) :: st) ini M ce sl) : zW B E pc ls (zR k :: st) ini M ce sl := by
  intro p e s m args below meth c H locs lsr hF hE hK hR hS hbs hn hl hlo hst
  refine zget hF hK hR (zok_h hst) hL hkd hd ?_
  have k2 := kk p e s m args below meth c H locs lsr hF hE hK hR hS hbs hn hl hlo (zok_cons (v := zR (zsf k j)) (hR.2.2.2.2 k j hi) (zok_t hst))
  unfold zfv
  rw [hs, if_pos hi]
  exact k2
theorem zrf_tr (base : Nat) (o : Option Nat) : va_rf (o.map (base + ·)) = ztr base (zO o) := by
  cases o <;> rfl
theorem zok_gr {ini : zIni} {M : zM} (h : zwf ini M) (k j : Nat) : zokV (gn M) (zO (gr M k j)) := by
  cases hg : gr M k j with
  | none => trivial
  | some r => exact h.2.1 k j r hg
theorem r_getd {k ci j idx : Nat} (hd : decode E.1.2.1 pc = .ok (.getfield idx, 3)) (hL : zLnk E.1.1.cls idx ci j) (hkd : zkd k = .inr ci) (hs : zsk ci j = 2) (kk : zW B E (pc + 3) ls (zO (gr M k j) :: st) ini M ce sl) : zW B E pc ls (zR k :: st) ini M ce sl := by
  intro p e s m args below meth c H locs lsr hF hE hK hR hS hbs hn hl hlo hst
  refine zget hF hK hR (zok_h hst) hL hkd hd ?_
  have k2 := kk p e s m args below meth c H locs lsr hF hE hK hR hS hbs hn hl hlo (zok_cons (zok_gr hR.2.2 k j) (zok_t hst))
  unfold zfv
  rw [hs]
  show W _ _ _ _ _ _ _ _ _ _ _ _ _ _ _ (F0 m (pc + 3) lsr (va_rf ((gr M k j).map (B.2.2.2 + ·)) :: _))
  rw [zrf_tr]
  exact k2
/-- writing a field -/
theorem zput {p : Program} {e : Env} {R : Room} {s : State} {m : MethodId} {args : Array Value} {below : List Frame} {meth : Method} {c : Code} {H : Heap} {locs : List Loc} {Q : State → Prop} {lsr : Array Slot} {rest : List Value} {y : zY} {v : Value} {ini' : zIni} {M' : zM} {fin : Bool}
    (hF : zFix y p s m args meth c) (hK : zKn B s) (hR : zrel B ini M H) {idx ci j k : Nat} (hk : k < gn M) (hL : zLnk y.1.cls idx ci j) (hkd : zkd k = .inr ci)
    (hfin : (zT ci j).2.2.2 = fin) (hi0 : fin = true → y.1.name = "<init>" ∧ (zT ci j).1 = y.1.cls) (hn : narrow (zty ci j) v = v) (hfit : fits (zty ci j) v = true)
    (hd : decode y.2.1 pc = .ok (.putfield idx, 3))
    (hv : ∀ i, i < znf ci → zfv B.2.2.2 ini' M' k ci i = if i = j then v else zfv B.2.2.2 ini M k ci i) (hgn : gn M' = gn M) (h1 : ∀ a, a ≠ k → gi M' a = gi M a) (h2 : ∀ a, a ≠ k → gr M' a = gr M a) (h3 : ∀ a, a ≠ k → ini' a = ini a) (hw' : zwf ini' M')
    (hS0 : va_S (fun q => B.2.2.2 ≤ q) s.heap H locs)
    (kk : ∀ (H1 : Heap) (locs1 : List Loc), zrel B ini' M' H1 → va_S (fun q => B.2.2.2 ≤ q) s.heap H1 locs1 → W p B.1 e R s m args below meth c H1 locs1 ce sl Q (F0 m (pc + 3) lsr rest)) : W p B.1 e R s m args below meth c H locs ce sl Q (F0 m pc lsr (v :: .ref (B.2.2.2 + k) :: rest)) := by
  obtain ⟨hx, hb, -, hown, hts, -, -, hinit⟩ := hF
  obtain ⟨hc, hj, hw⟩ := hL
  obtain ⟨cell, q1, q2, q3, q4⟩ := zat_obj (hR.2.1 k hk) hkd hc
  have hKc := hK.1.1 ci _ (zc_cl ci hc)
  have hap : ∀ x y : Nat, x < znf ci → y < znf ci → x ≠ y → B.2.1.2 ci x ≠ B.2.1.2 ci y := by
    intro x y hx' hy' hne
    obtain ⟨hSs, -⟩ := hKc
    obtain ⟨_, _, _, fa, hia, ea⟩ := hSs x hx'
    obtain ⟨_, _, _, fb, hib, eb⟩ := hSs y hy'
    rw [← ea, ← eb]
    refine u_apart (u_lays hts (zc_in ci hc) hx') (u_lays hts (zc_in ci hc) hy') hia hib ?_
    rw [(State.fieldFound?_type hia (zc_ty ci hc x hx')).1, (State.fieldFound?_type hib (zc_ty ci hc y hy')).1]
    exact zc_nm ci hc x hx' y hy' hne
  obtain ⟨hSs, hfc, kC, hkC, hkind⟩ := hKc
  obtain ⟨cf, kf, fi, f, hi, hsl⟩ := hSs j hj
  have hlay := hts _ (zc_in ci hc _ (u_in_lay hj))
  have hst := (u_facts hfc hkC (u_lays hts (zc_in ci hc) hj) hi).1
  have hd' := zc_ty ci hc j hj
  have fin2 : ∀ H' : Heap, H'[B.2.2.2 + k]? = some (cell.setSlot f.slot v) → H'.size = H.size → (∀ q, q ≠ B.2.2.2 + k → H'[q]? = H[q]?) → W p B.1 e R s m args below meth c H' (locs ++ [⟨B.2.2.2 + k, f.slot⟩]) ce sl Q (F0 m (pc + 3) lsr rest) := by
    intro H' e1 e2 e3
    rw [hsl] at e1
    refine kk H' _ (zrel_set hR (zat_obj_mk hkd hc ?_) e2 e3 hgn h1 h2 h3 hw') (hS0.put e2 e3 (Nat.le_add_right _ _))
    refine ⟨_, e1, q2, q3, fun i hi' => ?_⟩
    rw [t_set q4 hap hj v i hi']
    show some (updV _ j v i) = some (zfv B.2.2.2 ini' M' k ci i)
    rw [hv i hi']
    unfold updV
    rfl
  unfold u_lay at hlay
  cases fin with
  | false =>
    rw [if_neg (by rw [hfin]; decide)] at hlay
    have h6 := u_store hfc hkC hkind hlay hi hd' hn hfit
    exact W.putK hx hb (f := f) ⟨hown, hts _ hw, ⟨_, _, _, hi⟩, hst⟩ (by rw [q2]; exact h6) q1 q3 (by rw [hsl]; exact k2_hasslot (q4 j hj)) rfl rfl hd fin2
  | true =>
    rw [if_pos hfin] at hlay
    obtain ⟨hi1, hdecl⟩ := hi0 rfl
    have hcf : m.cls = cf := by
      obtain ⟨_, _, c', _, _, _, -, -, hf', -, -, -, hown2, -⟩ := Cond.laysFinal_spec hlay
      have e1 : c' = cf := by have := hi.symm.trans hf'; simp at this; exact this.1.symm
      rw [hdecl] at hown2
      rw [← e1]; exact Option.some.inj (hown.symm.trans hown2)
    have h6 := u_fits hfc hkC hkind (Or.inr hlay) hi hd' hn hfit
    exact W.putFinK hx hb hown (hts _ hw) hi hst hcf (hinit hi1) (by rw [q2]; exact h6) q1 q3 (by rw [hsl]; exact k2_hasslot (q4 j hj)) rfl rfl hd fin2
theorem r_puti {k ci j idx : Nat} {x : Int} {fin : Bool} (hd : decode E.1.2.1 pc = .ok (.putfield idx, 3)) (hL : zLnk E.1.1.cls idx ci j) (hkd : zkd k = .inr ci) (hs : zsk ci j = 0) (hfin : (zT ci j).2.2.2 = fin) (hi0 : fin = true → E.1.1.name = "<init>" ∧ (zT ci j).1 = E.1.1.cls) (hf : zfit (zty ci j) x)
    (kk : zW B E (pc + 3) ls st ini (si M k j x) ce sl) : zW B E pc ls (zI x :: zR k :: st) ini M ce sl := by
  intro p e s m args below meth c H locs lsr hF hE hK hR hS hbs hn hl hlo hst
  have hx : zin x := zok_h hst
  refine zput (ini' := ini) (M' := si M k j x) hF hK hR (zok_h (zok_t hst)) hL hkd hfin hi0 (zfit_ok hf).1 (zfit_ok hf).2 hd (fun i hi => ?_) gn_si (fun a ha => gi_si_ne ha) (fun a _ => rfl) (fun a _ => rfl) (zwf_si hR.2.2 hx) hS (fun H1 locs1 hR1 hS1 => kk p e s m args below meth c H1 locs1 lsr hF hE hK hR1 hS1 hbs hn hl hlo (zok_t (zok_t hst)))
  unfold zfv
  by_cases e2 : i = j
  · subst e2
    rw [hs, if_pos rfl]
    show Value.int (Int32.ofInt (gi (si M k i x) k i)) = _
    rw [gi_si_eq, if_pos rfl]
    rfl
  · rw [if_neg e2, gi_si_eq, if_neg e2, gr_si]
theorem r_putd {k ci j idx : Nat} {x : Option Nat} {fin : Bool} {C : String} (hd : decode E.1.2.1 pc = .ok (.putfield idx, 3)) (hL : zLnk E.1.1.cls idx ci j) (hkd : zkd k = .inr ci) (hs : zsk ci j = 2) (hfin : (zT ci j).2.2.2 = fin) (hi0 : fin = true → E.1.1.name = "<init>" ∧ (zT ci j).1 = E.1.1.cls) (hf : zty ci j = .object C)
    (kk : zW B E (pc + 3) ls st ini (sr M k j x) ce sl) : zW B E pc ls (zO x :: zR k :: st) ini M ce sl := by
  intro p e s m args below meth c H locs lsr hF hE hK hR hS hbs hn hl hlo hst
  have hx : ∀ r, x = some r → r < gn M := fun r hr => by
    subst hr
    exact zok_h hst
  have hnf : narrow (zty ci j) (ztr B.2.2.2 (zO x)) = ztr B.2.2.2 (zO x) ∧ fits (zty ci j) (ztr B.2.2.2 (zO x)) = true := by
    rw [hf]
    cases x <;> exact ⟨rfl, rfl⟩
  refine zput (ini' := ini) (M' := sr M k j x) hF hK hR (zok_h (zok_t hst)) hL hkd hfin hi0 hnf.1 hnf.2 hd (fun i hi => ?_) gn_sr (fun a ha => rfl) (fun a ha => gr_sr_ne ha) (fun a _ => rfl) (zwf_sr hR.2.2 hx) hS (fun H1 locs1 hR1 hS1 => kk p e s m args below meth c H1 locs1 lsr hF hE hK hR1 hS1 hbs hn hl hlo (zok_t (zok_t hst)))
  unfold zfv
  by_cases e2 : i = j
  · subst e2
    rw [hs, if_pos rfl]
    show va_rf ((gr (sr M k i x) k i).map (B.2.2.2 + ·)) = _
    rw [gr_sr, if_pos ⟨rfl, rfl⟩]
    exact zrf_tr _ _
  · have e3 : ¬ (k = k ∧ i = j) := fun h => e2 h.2
    rw [if_neg e2, gr_sr, if_neg e3, gi_sr]
theorem r_puts {k ci j idx r : Nat} {fin : Bool} (hd : decode E.1.2.1 pc = .ok (.putfield idx, 3)) (hL : zLnk E.1.1.cls idx ci j) (hkd : zkd k = .inr ci) (hs : zsk ci j = 1) (hfin : (zT ci j).2.2.2 = fin) (hi0 : fin = true → E.1.1.name = "<init>" ∧ (zT ci j).1 = E.1.1.cls) (hf : (∃ C, zty ci j = .object C) ∨ ∃ t, zty ci j = .array t) (hr : zsf k j = r)
    (kk : zW B E (pc + 3) ls st (zst ini k j) M ce sl) : zW B E pc ls (zR r :: zR k :: st) ini M ce sl := by
  subst hr
  intro p e s m args below meth c H locs lsr hF hE hK hR hS hbs hn hl hlo hst
  have hnf : narrow (zty ci j) (ztr B.2.2.2 (zR (zsf k j))) = ztr B.2.2.2 (zR (zsf k j)) ∧ fits (zty ci j) (ztr B.2.2.2 (zR (zsf k j))) = true := by
    rcases hf with ⟨C, h⟩ | ⟨t, h⟩ <;> (rw [h]; exact ⟨rfl, rfl⟩)
  refine zput (ini' := zst ini k j) (M' := M) hF hK hR (zok_h (zok_t hst)) hL hkd hfin hi0 hnf.1 hnf.2 hd (fun i hi => ?_) rfl (fun a ha => rfl) (fun a ha => rfl) (fun a ha => zst_ne ha) (zwf_zst hR.2.2 (zok_h hst)) hS (fun H1 locs1 hR1 hS1 => kk p e s m args below meth c H1 locs1 lsr hF hE hK hR1 hS1 hbs hn hl hlo (zok_t (zok_t hst)))
  unfold zfv
  by_cases e2 : i = j
  · subst e2
    rw [hs, if_pos rfl, zst_k, if_pos rfl]
    rfl
  · rw [if_neg e2, zst_k, if_neg e2]
/-! arrays -/
theorem r_iaload {k n : Nat} {i : Int} (hd : decode E.1.2.1 pc = .ok (.iaload, 1)) (hkd : zkd k = .inl (0, n)) (hi : 0 ≤ i ∧ i < n) (kk : zW B E (pc + 1) ls (zI (gi M k i.toNat) :: st) ini M ce sl) : zW B E pc ls (zI i :: zR k :: st) ini M ce sl := by
  intro p e s m args below meth c H locs lsr hF hE hK hR hS hbs hn hl hlo hst
  have hiz : zin i := zok_h hst
  have hk : k < gn M := zok_h (zok_t hst)
  have hA := zat_arr (hR.2.1 k hk) hkd (by decide)
  have k2 := kk p e s m args below meth c H locs lsr hF hE hK hR hS hbs hn hl hlo (zok_cons (v := zI (gi M k i.toNat)) (hR.2.2.1 k _) (zok_t (zok_t hst)))
  have hlt : i.toNat < n := by omega
  refine W.iald (v := .int (Int32.ofInt (gi M k i.toNat))) hF.1 hF.2.1 hA ((zK_arr hK (t := 0) (by decide)).1 n _) (fun q => by cases q) (by rw [arrV_size]; exact zvp hiz hi) (by rw [zcl hiz, arrV_read _ _ hlt]) rfl rfl hd k2
theorem r_baload {k n : Nat} {i : Int} (hd : decode E.1.2.1 pc = .ok (.baload, 1)) (hkd : zkd k = .inl (1, n)) (hi : 0 ≤ i ∧ i < n) (kk : zW B E (pc + 1) ls (zI (gi M k i.toNat) :: st) ini M ce sl) : zW B E pc ls (zI i :: zR k :: st) ini M ce sl := by
  intro p e s m args below meth c H locs lsr hF hE hK hR hS hbs hn hl hlo hst
  have hiz : zin i := zok_h hst
  have hk : k < gn M := zok_h (zok_t hst)
  have hA := zat_arr (hR.2.1 k hk) hkd (by decide)
  have k2 := kk p e s m args below meth c H locs lsr hF hE hK hR hS hbs hn hl hlo (zok_cons (v := zI (gi M k i.toNat)) (hR.2.2.1 k _) (zok_t (zok_t hst)))
  have hlt : i.toNat < n := by omega
  refine W.zald (v := .int (Int32.ofInt (gi M k i.toNat))) hF.1 hF.2.1 hA ((zK_arr hK (t := 1) (by decide)).1 n _) (fun q => by cases q) (by rw [arrV_size]; exact zvp hiz hi) (by rw [zcl hiz, arrV_read _ _ hlt]) rfl rfl hd k2
theorem r_caload {k n : Nat} {i : Int} (hd : decode E.1.2.1 pc = .ok (.caload, 1)) (hkd : zkd k = .inl (2, n)) (hi : 0 ≤ i ∧ i < n) (kk : zW B E (pc + 1) ls (zI (gi M k i.toNat) :: st) ini M ce sl) : zW B E pc ls (zI i :: zR k :: st) ini M ce sl := by
  intro p e s m args below meth c H locs lsr hF hE hK hR hS hbs hn hl hlo hst
  have hiz : zin i := zok_h hst
  have hk : k < gn M := zok_h (zok_t hst)
  have hA := zat_arr (hR.2.1 k hk) hkd (by decide)
  have k2 := kk p e s m args below meth c H locs lsr hF hE hK hR hS hbs hn hl hlo (zok_cons (v := zI (gi M k i.toNat)) (hR.2.2.1 k _) (zok_t (zok_t hst)))
  have hlt : i.toNat < n := by omega
  refine W.cald (v := .int (Int32.ofInt (gi M k i.toNat))) hF.1 hF.2.1 hA ((zK_arr hK (t := 2) (by decide)).1 n _) (fun q => by cases q) (by rw [arrV_size]; exact zvp hiz hi) (by rw [zcl hiz, arrV_read _ _ hlt]) rfl rfl hd k2
theorem r_iastore {k n : Nat} {i x : Int} (hd : decode E.1.2.1 pc = .ok (.iastore, 1)) (hkd : zkd k = .inl (0, n)) (hi : 0 ≤ i ∧ i < n) (kk : zW B E (pc + 1) ls st ini (si M k i.toNat x) ce sl) : zW B E pc ls (zI x :: zI i :: zR k :: st) ini M ce sl := by
  intro p e s m args below meth c H locs lsr hF hE hK hR hS hbs hn hl hlo hst
  have hx : zin x := zok_h hst
  have hiz : zin i := zok_h (zok_t hst)
  have hk : k < gn M := zok_h (zok_t (zok_t hst))
  have hA := zat_arr (hR.2.1 k hk) hkd (by decide)
  refine W.iast hF.1 hF.2.1 hA ((zK_arr hK (t := 0) (by decide)).1 n _) (fun q => by cases q) (by rw [arrV_size]; exact zvp hiz hi) rfl rfl hd (fun H1 e1 e2 e3 => ?_)
  rw [zcl hiz, arrV_store] at e1
  refine kk p e s m args below meth c H1 _ lsr hF hE hK (zrel_set hR (zat_arr_mk hkd (by decide) ?_) e2 e3 gn_si (fun a ha => gi_si_ne ha) (fun a _ => rfl) (fun a _ => rfl) (zwf_si hR.2.2 hx)) (hS.put e2 e3 (Nat.le_add_right _ _)) hbs hn hl hlo (zok_t (zok_t (zok_t hst)))
  rw [e1, zupd (fun j => gi_si_eq)]
theorem r_bastore {k n : Nat} {i x : Int} (hd : decode E.1.2.1 pc = .ok (.bastore, 1)) (hkd : zkd k = .inl (1, n)) (hi : 0 ≤ i ∧ i < n) (hf : x = 0 ∨ x = 1) (kk : zW B E (pc + 1) ls st ini (si M k i.toNat x) ce sl) : zW B E pc ls (zI x :: zI i :: zR k :: st) ini M ce sl := by
  intro p e s m args below meth c H locs lsr hF hE hK hR hS hbs hn hl hlo hst
  have hx : zin x := zok_h hst
  have hiz : zin i := zok_h (zok_t hst)
  have hk : k < gn M := zok_h (zok_t (zok_t hst))
  have hA := zat_arr (hR.2.1 k hk) hkd (by decide)
  refine W.zast hF.1 hF.2.1 hA ((zK_arr hK (t := 1) (by decide)).1 n _) (fun q => by cases q) (by rw [arrV_size]; exact zvp hiz hi) rfl rfl hd (fun H1 e1 e2 e3 => ?_)
  rw [zcl hiz, (zn_bool hf).1, arrV_store] at e1
  refine kk p e s m args below meth c H1 _ lsr hF hE hK (zrel_set hR (zat_arr_mk hkd (by decide) ?_) e2 e3 gn_si (fun a ha => gi_si_ne ha) (fun a _ => rfl) (fun a _ => rfl) (zwf_si hR.2.2 hx)) (hS.put e2 e3 (Nat.le_add_right _ _)) hbs hn hl hlo (zok_t (zok_t (zok_t hst)))
  rw [e1, zupd (fun j => gi_si_eq)]
theorem r_castore {k n : Nat} {i x : Int} (hd : decode E.1.2.1 pc = .ok (.castore, 1)) (hkd : zkd k = .inl (2, n)) (hi : 0 ≤ i ∧ i < n) (hf : 0 ≤ x ∧ x < 65536) (kk : zW B E (pc + 1) ls st ini (si M k i.toNat x) ce sl) : zW B E pc ls (zI x :: zI i :: zR k :: st) ini M ce sl := by
  intro p e s m args below meth c H locs lsr hF hE hK hR hS hbs hn hl hlo hst
  have hx : zin x := zok_h hst
  have hiz : zin i := zok_h (zok_t hst)
  have hk : k < gn M := zok_h (zok_t (zok_t hst))
  have hA := zat_arr (hR.2.1 k hk) hkd (by decide)
  refine W.cast hF.1 hF.2.1 hA ((zK_arr hK (t := 2) (by decide)).1 n _) (fun q => by cases q) (by rw [arrV_size]; exact zvp hiz hi) rfl rfl hd (fun H1 e1 e2 e3 => ?_)
  rw [zcl hiz, (zn_char hf).1, arrV_store] at e1
  refine kk p e s m args below meth c H1 _ lsr hF hE hK (zrel_set hR (zat_arr_mk hkd (by decide) ?_) e2 e3 gn_si (fun a ha => gi_si_ne ha) (fun a _ => rfl) (fun a _ => rfl) (zwf_si hR.2.2 hx)) (hS.put e2 e3 (Nat.le_add_right _ _)) hbs hn hl hlo (zok_t (zok_t (zok_t hst)))
  rw [e1, zupd (fun j => gi_si_eq)]
theorem r_aaload {k n : Nat} {i : Int} (hd : decode E.1.2.1 pc = .ok (.aaload, 1)) (hkd : zkd k = .inl (3, n)) (hi : 0 ≤ i ∧ i < n) (kk : zW B E (pc + 1) ls (zO (gr M k i.toNat) :: st) ini M ce sl) : zW B E pc ls (zI i :: zR k :: st) ini M ce sl := by
  intro p e s m args below meth c H locs lsr hF hE hK hR hS hbs hn hl hlo hst
  have hiz : zin i := zok_h hst
  have hk : k < gn M := zok_h (zok_t hst)
  have hA := zat_arrq (hR.2.1 k hk) hkd
  have k2 := kk p e s m args below meth c H locs lsr hF hE hK hR hS hbs hn hl hlo (zok_cons (zok_gr hR.2.2 k _) (zok_t (zok_t hst)))
  have hlt : i.toNat < n := by omega
  rw [List.map_cons, ← zrf_tr] at k2
  refine W.aald (v := va_rf ((gr M k i.toNat).map (B.2.2.2 + ·))) (ty := zta 3) hF.1 hF.2.1 hA ((zK_arr hK (t := 3) (by decide)).1 n _) rfl (fun q => by cases q) (by rw [arrV_size]; exact zvp hiz hi) (by rw [zcl hiz, arrV_read _ _ hlt]) rfl rfl hd k2
theorem zupdq {base : Nat} {f g : Nat → Option Nat} {i : Nat} {x : Option Nat} (h : ∀ j, g j = if j = i then x else f j) : (fun j => va_rf ((g j).map (base + ·))) = updV (fun j => va_rf ((f j).map (base + ·))) i (va_rf (x.map (base + ·))) := by
  funext j
  unfold updV
  rw [h j]
  split <;> rfl
theorem gr_sr_eq {M : zM} {k j : Nat} {v : Option Nat} {b : Nat} : gr (sr M k j v) k b = if b = j then v else gr M k b := by
  rw [gr_sr]
  simp
theorem r_aastore {k n r : Nat} {i : Int} (hd : decode E.1.2.1 pc = .ok (.aastore, 1)) (hkd : zkd k = .inl (3, n)) (hi : 0 ≤ i ∧ i < n) (hr : zkd r = .inr 5) (kk : zW B E (pc + 1) ls st ini (sr M k i.toNat (some r)) ce sl) : zW B E pc ls (zR r :: zI i :: zR k :: st) ini M ce sl := by
  intro p e s m args below meth c H locs lsr hF hE hK hR hS hbs hn hl hlo hst
  have hrn : r < gn M := zok_h hst
  have hiz : zin i := zok_h (zok_t hst)
  have hk : k < gn M := zok_h (zok_t (zok_t hst))
  have hA := zat_arrq (hR.2.1 k hk) hkd
  obtain ⟨cellV, g1, g2, g3, -⟩ := zat_obj (hR.2.1 r hrn) hr (by decide)
  have hcls := (hK.1.1 5 _ (zc_cl 5 (by decide))).2
  obtain ⟨kA, comp, k1, k2, k3, -⟩ := (zK_arr hK (t := 3) (by decide)).2
  have hcomp : comp = B.2.1.1 5 := Option.some.inj (k3.symm.trans hcls.1)
  subst hcomp
  obtain ⟨kC, hkC, -⟩ := hcls.2
  have hlt : i.toNat < n := by omega
  refine W.aast hF.1 hF.2.1 hA (fun q h => by cases h) (fun h => by cases h) k1 k2 rfl hkC ⟨fun q => zvp (n := n) hiz hi (Or.inl q), by rw [arrV_size, zcl hiz]; exact hlt⟩ g1 (fun q h => by rw [g3] at h; cases h) (by rw [g2]; exact hkC) (by rw [g2]; exact va_assign hcls) rfl rfl hd (fun H1 e1 e2 e3 => ?_)
  rw [zcl hiz, arrV_store] at e1
  refine kk p e s m args below meth c H1 _ lsr hF hE hK (zrel_set hR (zat_arrq_mk hkd ?_) e2 e3 gn_sr (fun a ha => rfl) (fun a ha => gr_sr_ne ha) (fun a _ => rfl) (zwf_sr hR.2.2 (fun q hq => by cases hq; exact hrn))) (hS.put e2 e3 (Nat.le_add_right _ _)) hbs hn hl hlo (zok_t (zok_t (zok_t hst)))
  rw [e1, zupdq (fun j => gr_sr_eq)]
  rfl
theorem r_aastoreN {k n : Nat} {i : Int} (hd : decode E.1.2.1 pc = .ok (.aastore, 1)) (hkd : zkd k = .inl (3, n)) (hi : 0 ≤ i ∧ i < n) (kk : zW B E (pc + 1) ls st ini (sr M k i.toNat none) ce sl) : zW B E pc ls (zN :: zI i :: zR k :: st) ini M ce sl := by
  intro p e s m args below meth c H locs lsr hF hE hK hR hS hbs hn hl hlo hst
  have hiz : zin i := zok_h (zok_t hst)
  have hk : k < gn M := zok_h (zok_t (zok_t hst))
  have hA := zat_arrq (hR.2.1 k hk) hkd
  refine va_WaastN (C := RX5) hF.1 hF.2.1 hA ((zK_arr hK (t := 3) (by decide)).1 n _) (fun h => by cases h) (by rw [arrV_size]; exact zvp hiz hi) rfl rfl hd (fun H1 e1 e2 e3 => ?_)
  rw [zcl hiz, arrV_store] at e1
  refine kk p e s m args below meth c H1 _ lsr hF hE hK (zrel_set hR (zat_arrq_mk hkd ?_) e2 e3 gn_sr (fun a ha => rfl) (fun a ha => gr_sr_ne ha) (fun a _ => rfl) (zwf_sr hR.2.2 (fun q hq => by cases hq))) (hS.put e2 e3 (Nat.le_add_right _ _)) hbs hn hl hlo (zok_t (zok_t (zok_t hst)))
  rw [e1, zupdq (fun j => gr_sr_eq)]
  rfl
theorem r_alen {k t n : Nat} (hd : decode E.1.2.1 pc = .ok (.arraylength, 1)) (hkd : zkd k = .inl (t, n)) (ht : t < 3) (hn' : zin n) (kk : zW B E (pc + 1) ls (zI n :: st) ini M ce sl) : zW B E pc ls (zR k :: st) ini M ce sl := by
  intro p e s m args below meth c H locs lsr hF hE hK hR hS hbs hn hl hlo hst
  have hk : k < gn M := zok_h hst
  have hA := zat_arr (hR.2.1 k hk) hkd (by omega)
  have k2 := kk p e s m args below meth c H locs lsr hF hE hK hR hS hbs hn hl hlo (zok_cons (v := zI n) hn' (zok_t hst))
  exact W.alen (n := Int32.ofInt n) hF.1 hF.2.1 hA ((zK_arr hK (t := t) (by omega)).1 n _) (by rw [arrV_size]; exact (Int32.ofInt_eq_ofNat).symm) rfl rfl hd k2
/-! Math -/
theorem r_max {a b : Int} {idx : Nat} (hd : decode E.1.2.1 pc = .ok (.invokestatic idx, 3)) (hw : Cond.methodLink E.1.1.cls idx Lib.Math.max.name ∈ zTB) (hst8 : st.length ≤ 8) (hrm : 1 ≤ E.2.1.frames ∧ 21 ≤ E.2.1.locals ∧ ce ≤ E.2.1.cells ∧ sl ≤ E.2.1.slots) (kk : zW B E (pc + 3) ls (zI (if a < b then b else a) :: st) ini M ce sl) : zW B E pc ls (zI b :: zI a :: st) ini M ce sl := by
  intro p e s m args below meth c H locs lsr hF hE hK hR hS hbs hn hl hlo hst
  have ha : zin a := zok_h (zok_t hst)
  have hb : zin b := zok_h hst
  have k2 := kk p e s m args below meth c H locs lsr hF hE hK hR hS hbs hn hl hlo (zok_cons (v := zI (if a < b then b else a)) (by show zin _; split <;> assumption) (zok_t (zok_t hst)))
  have ht := hF.2.2.2.2.1
  refine va_mmax hF.1 hF.2.1 (hF.2.2.1.trans hl.1.symm) hF.2.2.2.1 (ht _ hw) (ht _ mj_max.1) (ht _ mj_max.2.1) (ht _ mj_max.2.2) hrm.1 (by rw [ztr_sum]; omega) hrm.2.2.1 hrm.2.2.2 hd ?_
  have e1 : (if Int32.ofInt a < Int32.ofInt b then Int32.ofInt b else Int32.ofInt a) = Int32.ofInt (if a < b then b else a) := by
    simp only [zlt ha hb]
    split <;> rfl
  rw [e1]
  exact k2
theorem r_min {a b : Int} {idx : Nat} (hd : decode E.1.2.1 pc = .ok (.invokestatic idx, 3)) (hw : Cond.methodLink E.1.1.cls idx Lib.Math.min.name ∈ zTB) (hst8 : st.length ≤ 8) (hrm : 1 ≤ E.2.1.frames ∧ 21 ≤ E.2.1.locals ∧ ce ≤ E.2.1.cells ∧ sl ≤ E.2.1.slots) (kk : zW B E (pc + 3) ls (zI (if b < a then b else a) :: st) ini M ce sl) : zW B E pc ls (zI b :: zI a :: st) ini M ce sl := by
  intro p e s m args below meth c H locs lsr hF hE hK hR hS hbs hn hl hlo hst
  have ha : zin a := zok_h (zok_t hst)
  have hb : zin b := zok_h hst
  have k2 := kk p e s m args below meth c H locs lsr hF hE hK hR hS hbs hn hl hlo (zok_cons (v := zI (if b < a then b else a)) (by show zin _; split <;> assumption) (zok_t (zok_t hst)))
  have ht := hF.2.2.2.2.1
  refine va_mmin hF.1 hF.2.1 (hF.2.2.1.trans hl.1.symm) hF.2.2.2.1 (ht _ hw) (ht _ mj_min.1) (ht _ mj_min.2.1) (ht _ mj_min.2.2) hrm.1 (by rw [ztr_sum]; omega) hrm.2.2.1 hrm.2.2.2 hd ?_
  have e1 : (if Int32.ofInt b < Int32.ofInt a then Int32.ofInt b else Int32.ofInt a) = Int32.ofInt (if b < a then b else a) := by
    simp only [zlt hb ha]
    split <;> rfl
  rw [e1]
  exact k2
/-! making -/
theorem zrel_push {ini : zIni} {M : zM} {H H1 : Heap} (hR : zrel B ini M H) (hk : zat B ini (nw M) (gn M) H1) (hz : H1.size = B.2.2.2 + gn M + 1) (ho : ∀ q : Nat, q < B.2.2.2 + gn M → H1[q]? = H[q]?) : zrel B ini (nw M) H1 := by
  refine ⟨by rw [hz, gn_nw]; omega, fun a ha => ?_, fun a b => ?_, fun a b r hr => ?_, fun a b hab => Nat.lt_of_lt_of_le (hR.2.2.2.2 a b hab) (by rw [gn_nw]; omega)⟩
  · by_cases e : a = gn M
    · subst e; exact hk
    · rw [gn_nw] at ha
      exact zat_same (hR.2.1 a (by omega)) (ho _ (by omega)) (gi_nw_ne e) (gr_nw_ne e) rfl
  · by_cases e : a = gn M
    · subst e; rw [gi_nw_eq]; decide
    · rw [gi_nw_ne e]; exact hR.2.2.1 a b
  · by_cases e : a = gn M
    · subst e; rw [gr_nw_eq] at hr; cases hr
    · rw [gr_nw_ne e] at hr
      exact Nat.lt_succ_of_lt (hR.2.2.2.1 a b r hr)
theorem zS_push {s : State} {H H1 : Heap} {locs : List Loc} (hS : va_S (fun q => B.2.2.2 ≤ q) s.heap H locs) (hz : H.size ≤ H1.size) (ho : ∀ q : Nat, q < H.size → H1[q]? = H[q]?) : va_S (fun q => B.2.2.2 ≤ q) s.heap H1 locs :=
  ⟨Nat.le_trans hS.1 hz, fun q h1 h2 => (ho q (Nat.lt_of_lt_of_le h1 hS.1)).trans (hS.2.1 q h1 h2), hS.2.2⟩
theorem zok_nw {M : zM} {ls : List (Option zV)} (h : ∀ v, some v ∈ ls → zokV (gn M) v) : ∀ v, some v ∈ ls → zokV (gn (nw M)) v := fun v hv => (h v hv).mono (by rw [gn_nw]; omega)
theorem zok_nws {M : zM} {st : List zV} (h : ∀ v ∈ st, zokV (gn M) v) : ∀ v ∈ st, zokV (gn (nw M)) v := fun v hv => (h v hv).mono (by rw [gn_nw]; omega)
/-- a new object's fields, blank -/
theorem zfv_new {base : Nat} {ini : zIni} {M : zM} {c j : Nat} (hi : zsk c j = 1 → ini (gn M) j = false) (h0 : zsk c j = 0 → defaultValue (zty c j) = .int 0) (h1 : zsk c j ≠ 0 → defaultValue (zty c j) = .null) : zfv base ini (nw M) (gn M) c j = defaultValue (zty c j) := by
  unfold zfv
  match h : zsk c j with
  | 0 => rw [h0 h]; show Value.int (Int32.ofInt (gi (nw M) (gn M) j)) = _; rw [gi_nw_eq]; rfl
  | 1 => rw [h1 (by rw [h]; decide)]; simp [hi h]
  | n + 2 => rw [h1 (by rw [h]; omega)]; show va_rf _ = _; rw [gr_nw_eq]; rfl
/-- int-like fields are ints, booleans or chars, the others references -/
theorem zdef_ok : ∀ c, c < 10 → ∀ j, j < znf c → (zsk c j = 0 → defaultValue (zty c j) = .int 0) ∧ (zsk c j ≠ 0 → defaultValue (zty c j) = .null) := by
  decide +kernel
theorem r_new {ci idx : Nat} (hd : decode E.1.2.1 pc = .ok (.new idx, 3)) (hc : ci < 10) (hw : Cond.classLink E.1.1.cls idx (zNm ci) ∈ zTB) (hkd : zkd (gn M) = .inr ci) (hi : ∀ j, j < znf ci → zsk ci j = 1 → ini (gn M) j = false) (hce : ce + 1 ≤ E.2.1.cells ∧ sl + znf ci ≤ E.2.1.slots)
    (kk : zW B E (pc + 3) ls (zR (gn M) :: st) ini (nw M) (ce + 1) (sl + znf ci)) : zW B E pc ls st ini M ce sl := by
  intro p e s m args below meth c H locs lsr hF hE hK hR hS hbs hn hl hlo hst
  have ht := hF.2.2.2.2.1
  have hKn := hK.1.1 ci _ (zc_cl ci hc)
  refine W.newcK hF.1 hF.2.1 hF.2.2.2.1 (ht _ hw) (ht _ (zc_is ci hc).2) (ht _ (zc_is ci hc).1) rfl hd hce.1 hce.2 hKn.2.1 hR.1 (fun H1 kC hkC e1 z1 o1 => ?_)
  refine kk p e s m args below meth c H1 locs lsr hF hE hK (zrel_push hR (zat_obj_mk hkd hc ?_) z1 o1) (zS_push hS (by rw [z1, hR.1]; omega) (fun q hq => o1 q (by rw [← hR.1]; exact hq))) hbs (Nat.le_trans hn (by rw [gn_nw]; omega)) hl (zok_nw hlo) (zok_cons (v := zR (gn M)) (by show gn M < gn (nw M); rw [gn_nw]; omega) (zok_nws hst))
  exact (u_born (zty ci) ht (zc_in ci hc) hKn hkC e1 (zc_ty ci hc)).to (fun j hj => (zfv_new (hi j hj) (zdef_ok ci hc j hj).1 (zdef_ok ci hc j hj).2).symm)
end ZH
end
section
/-! ===== arrays made, the script, calls, ends ===== -/
section ZC
variable {B : zB} {E : zE} {pc : Nat} {ls : List (Option zV)} {st : List zV} {ini : zIni} {M : zM} {ce sl : Nat}
theorem zcA_uniq {s : State} {t : Nat} (ht : t < 3) {cA : ClassId} (hK : zKn B s) (h : s.vm.findClass ("[" ++ (zta t).toString) = some cA) : cA = B.2.2.1 t := by
  have h2 := (zK_arr hK (t := t) (by omega)).2
  rcases (show t = 0 ∨ t = 1 ∨ t = 2 by omega) with rfl | rfl | rfl
  · exact Option.some.inj (h.symm.trans h2)
  · exact Option.some.inj (h.symm.trans h2)
  · exact Option.some.inj (h.symm.trans h2)
theorem r_newarray {t n : Nat} {at' : ArrayType} (hd : decode E.1.2.1 pc = .ok (.newarray at', 2)) (hty : newarray.typeOf at' = zta t) (ht : t < 3) (hw : Cond.arrayClass (zta t) ∈ zTB) (hkd : zkd (gn M) = .inl (t, n)) (hnb : n * 8 ≤ 536870912) (hce : ce + 1 ≤ E.2.1.cells ∧ sl + n ≤ E.2.1.slots)
    (kk : zW B E (pc + 2) ls (zR (gn M) :: st) ini (nw M) (ce + 1) (sl + n)) : zW B E pc ls (zI n :: st) ini M ce sl := by
  intro p e s m args below meth c H locs lsr hF hE hK hR hS hbs hn hl hlo hst
  have hts := hF.2.2.2.2.1
  have hnz : zin n := zok_h hst
  have hcomp : componentBytes (newarray.typeOf at') ≤ 8 := by
    rw [hty]
    rcases (show t = 0 ∨ t = 1 ∨ t = 2 by omega) with rfl | rfl | rfl <;> decide
  refine va_newaK (N := n) hF.1 hF.2.1 (by rw [hty]; exact hts _ hw) rfl hd rfl (by rw [zlt0 hnz]; omega) (by rw [zcl hnz]; omega) (Nat.le_trans (Nat.mul_le_mul_left n hcomp) hnb) hce.1 hce.2 hR.1 (fun H1 cA e1 z1 o1 hA1 hA2 => ?_)
  rw [hty] at hA2
  have hcA := zcA_uniq ht hK hA2
  subst hcA
  refine kk p e s m args below meth c H1 locs lsr hF hE hK (zrel_push hR (zat_arr_mk hkd (by omega) ?_) z1 o1) (zS_push hS (by rw [z1, hR.1]; omega) (fun q hq => o1 q (by rw [← hR.1]; exact hq))) hbs (Nat.le_trans hn (by rw [gn_nw]; omega)) hl (zok_nw hlo) (zok_cons (v := zR (gn M)) (by show gn M < gn (nw M); rw [gn_nw]; omega) (zok_nws (zok_t hst)))
  rw [e1, hty]
  congr 2
  funext j
  rw [gi_nw_eq]
  rcases (show t = 0 ∨ t = 1 ∨ t = 2 by omega) with rfl | rfl | rfl <;> rfl
theorem r_anewarray {n idx : Nat} (hd : decode E.1.2.1 pc = .ok (.anewarray idx, 3)) (hw : Cond.classLink E.1.1.cls idx RX5 ∈ zTB) (hkd : zkd (gn M) = .inl (3, n)) (hnb : n * 4 ≤ 536870912) (hce : ce + 1 ≤ E.2.1.cells ∧ sl + n ≤ E.2.1.slots)
    (kk : zW B E (pc + 3) ls (zR (gn M) :: st) ini (nw M) (ce + 1) (sl + n)) : zW B E pc ls (zI n :: st) ini M ce sl := by
  intro p e s m args below meth c H locs lsr hF hE hK hR hS hbs hn hl hlo hst
  have hts := hF.2.2.2.2.1
  have hnz : zin n := zok_h hst
  have hcln : (Int32.ofInt (n : Int)).toNatClampNeg = n := by rw [zcl hnz]; omega
  refine W.anew hF.1 hF.2.1 hF.2.2.2.1 (hts _ hw) (va_AO.use hK.2.1) rfl hd rfl (by rw [zlt0 hnz]; omega) (by rw [hcln]; exact hnb) hce.1 (by rw [hcln]; exact hce.2) (fun cA kA comp f1 f2 f3 f4 => ?_)
  rw [hcln]
  obtain ⟨kA', comp', -, -, -, k4⟩ := (zK_arr hK (t := 3) (by decide)).2
  generalize hH1 : H.push ({ cls := cA, slots := Array.replicate n .null, vm := .none } : Cell) = H1
  have z1 : H1.size = H.size + 1 := by rw [← hH1, Array.size_push]
  have e1 : H1[H.size]? = some (arrV cA n (fun _ => .null)) := by rw [← hH1, Array.getElem?_push_size, ← arrV_new]
  have o1 : ∀ q : Nat, q < H.size → H1[q]? = H[q]? := fun q hq => by rw [← hH1, Array.getElem?_push, if_neg (Nat.ne_of_lt hq)]
  have hcA : cA = B.2.2.1 3 := by
    first
      | exact Option.some.inj (f1.symm.trans k4)
      | exact Option.some.inj (f4.symm.trans k4)
  rw [hcA, hR.1] at e1
  rw [hR.1] at z1
  rw [hR.1] at o1
  rw [hR.1]
  refine kk p e s m args below meth c H1 locs lsr hF hE hK (zrel_push hR (zat_arrq_mk hkd ?_) z1 o1) (zS_push hS (by rw [z1, hR.1]; omega) (fun q hq => o1 q (by rw [← hR.1]; exact hq))) hbs (Nat.le_trans hn (by rw [gn_nw]; omega)) hl (zok_nw hlo) (zok_cons (v := zR (gn M)) (by show gn M < gn (nw M); rw [gn_nw]; omega) (zok_nws (zok_t hst)))
  rw [e1]
  congr 2
  funext j
  rw [gr_nw_eq]
  rfl
/-! the law's script: an array that is older than the cells -/
theorem r_slen {b L : Nat} {xs : Nat → Int32} (hX : ∀ s, E.2.2.2.1 s → va_X b L xs s s.heap ∧ b < s.heap.size ∧ b < B.2.2.2) (hd : decode E.1.2.1 pc = .ok (.arraylength, 1)) (hL : zin L) (kk : zW B E (pc + 1) ls (zI L :: st) ini M ce sl) : zW B E pc ls (zX b :: st) ini M ce sl := by
  intro p e s m args below meth c H locs lsr hF hE hK hR hS hbs hn hl hlo hst
  obtain ⟨h1, h2, h3⟩ := hX s hE
  have k2 := kk p e s m args below meth c H locs lsr hF hE hK hR hS hbs hn hl hlo (zok_cons (v := zI L) hL (zok_t hst))
  refine va_slen (A := fun q => B.2.2.2 ≤ q) hF.1 hF.2.1 h1 h2 (by show ¬ B.2.2.2 ≤ b; omega) hS hd ?_
  rw [← Int32.ofInt_eq_ofNat]
  exact k2
theorem r_sld {b L : Nat} {xs : Nat → Int32} {i : Int} (hX : ∀ s, E.2.2.2.1 s → va_X b L xs s s.heap ∧ b < s.heap.size ∧ b < B.2.2.2) (hd : decode E.1.2.1 pc = .ok (.iaload, 1)) (hi : 0 ≤ i ∧ i < L) (kk : zW B E (pc + 1) ls (zI (xs i.toNat).toInt :: st) ini M ce sl) : zW B E pc ls (zI i :: zX b :: st) ini M ce sl := by
  intro p e s m args below meth c H locs lsr hF hE hK hR hS hbs hn hl hlo hst
  obtain ⟨h1, h2, h3⟩ := hX s hE
  have hiz : zin i := zok_h hst
  have k2 := kk p e s m args below meth c H locs lsr hF hE hK hR hS hbs hn hl hlo (zok_cons (v := zI (xs i.toNat).toInt) (zin_of _) (zok_t (zok_t hst)))
  refine va_sld (A := fun q => B.2.2.2 ≤ q) hF.1 hF.2.1 h1 h2 (by show ¬ B.2.2.2 ≤ b; omega) hS (zvp hiz hi) hd ?_
  rw [zcl hiz, ← zof_toInt (xs i.toNat)]
  exact k2
/-! calls -/
/-- the room of a level -/
def zrm (d mc ms : Nat) : Room := { frames := d + 1, cells := mc, slots := ms, locals := 64 * (d + 1) }
def zws (y : zY) : List Cond := .code y.1 y.2.1 y.2.2.1 y.2.2.2 :: zTB
/-- what holds at a method's end -/
def zQc (B : zB) (n0 : Nat) (Q : Option zV → zIni → zM → Prop) : Array Value → State → Outcome → State → Prop := fun _ st o t =>
  ∃ (r : Option zV) (ini' : zIni) (M' : zM), o = .returned (r.map (ztr B.2.2.2)) ∧ Q r ini' M' ∧ zrel B ini' M' t.heap ∧ (∀ v, r = some v → zokV (gn M') v) ∧ n0 ≤ gn M' ∧ va_F (fun q => B.2.2.2 ≤ q) st t
/-- a method's contract: called with these arguments over this memory it returns, and Q holds of the answer and the memory -/
def zMet (B : zB) (y : zY) (rm : Room) (ini : zIni) (as : List zV) (M : zM) (mc ms : Nat) (Q : Option zV → zIni → zM → Prop) : Prop :=
  Met B.1 y.1 (zws y) rm (va_Pc (as.map (ztr B.2.2.2)) (fun U => (∀ v ∈ as, zokV (gn M) v) ∧ B.2.2.2 ≤ U.heap.size ∧ zrel B ini M U.heap ∧ zKn B U)) (zQc B (gn M) Q) mc ms (fun q => B.2.2.2 ≤ q)
theorem zPc_blind (as : List Value) {P : State → Prop} (hP : ∀ U U' : State, U.heap = U'.heap → U.vm = U'.vm → P U → P U') : FrameBlind (va_Pc as P) := fun a U g mk h => ⟨h.1, hP U _ rfl rfl h.2⟩
theorem zws_good {y : zY} {n : Nat} (h : zMF y n) : GoodIn zTB (zws y) := fun w hw => by
  rcases List.mem_cons.mp hw with rfl | hw
  · exact zTB_good _ h.1
  · exact zTB_good _ hw
/-- the way on behind a call -/
theorem zgo {p : Program} {e : Env} {s : State} {m : MethodId} {args : Array Value} {below : List Frame} {meth : Method} {c : Code} {H : Heap} {locs : List Loc} {lsr : Array Slot} {mc ms : Nat} {a : Array Value} {g : List Value}
    (hr : va_Run p B.1 e E.2.1 s m args below meth c H locs ce sl mc ms (F0 m pc lsr g) (st.map (ztr B.2.2.2)) (zQc B (gn M) (fun r ini' M' => gn M ≤ gn M' → zW B E (pc + 3) ls (r.toList ++ st) ini' M' (ce + mc) (sl + ms)) a) (fun q => B.2.2.2 ≤ q))
    (hF : zFix E.1 p s m args meth c) (hE : E.2.2.2.1 s) (hK : zKn B s) (hS : va_S (fun q => B.2.2.2 ≤ q) s.heap H locs) (hbs : B.2.2.2 ≤ s.heap.size) (hn : E.2.2.1 ≤ gn M) (hl : zlh B.2.2.2 lsr E.1.2.2.1 ls) (hlo : ∀ v, some v ∈ ls → zokV (gn M) v) (hst : ∀ v ∈ st, zokV (gn M) v) :
    W p B.1 e E.2.1 s m args below meth c H locs ce sl (E.2.2.2.2 below args s) (F0 m pc lsr g) := by
  intro T hT X
  obtain ⟨v, st₀, t, T', L, h0, X', hL, e1, e2, ⟨r, ini', M', hv, hk, hR', hrv, hgn, hz, hkp⟩, stp⟩ := hr T hT X
  cases hv
  rw [h0] at hz hkp
  have kk := hk hgn p e s m args below meth c T'.heap (locs ++ L) lsr hF hE hK (by rw [e1]; exact hR')
    ⟨Nat.le_trans hS.1 (by rw [e1]; exact hz), fun q h1 h2 => by rw [e1, hkp q (Nat.lt_of_lt_of_le h1 hS.1) h2]; exact hS.2.1 q h1 h2, fun q hq => by
      rcases List.mem_append.mp hq with h | h
      · exact hS.2.2 q h
      · exact hL q h⟩ hbs (Nat.le_trans hn hgn) hl (fun v hv => (hlo v hv).mono hgn) (fun w hw => by
      rcases List.mem_append.mp hw with h | h
      · have h2 : r = some w := by simpa using h
        exact hrv w h2
      · exact (hst w h).mono hgn)
  obtain ⟨t2, a1, b1⟩ := kk T' rfl X'
  refine ⟨t2, stp t2 ?_, b1⟩
  cases r with
  | none => exact a1
  | some w => exact a1
theorem zargs_rev (base : Nat) (as st : List zV) (b : zV) : (as.reverse ++ b :: st).map (ztr base) = (as.map (ztr base)).reverse ++ ztr base b :: st.map (ztr base) := by simp
theorem zargs_rev0 (base : Nat) (as st : List zV) : (as.reverse ++ st).map (ztr base) = (as.map (ztr base)).reverse ++ st.map (ztr base) := by simp
theorem zpre {s : State} {H : Heap} {as : List zV} (hK : zKn B s) (hR : zrel B ini M H) (has : ∀ v ∈ as, zokV (gn M) v) (hH : B.2.2.2 ≤ H.size) :
    PreS s H (va_Pc (as.map (ztr B.2.2.2)) (fun U => (∀ v ∈ as, zokV (gn M) v) ∧ B.2.2.2 ≤ U.heap.size ∧ zrel B ini M U.heap ∧ zKn B U)) (as.map (ztr B.2.2.2)) :=
  ⟨zPc_blind _ (fun U U' h1 h2 q => ⟨q.1, by rw [← h1]; exact q.2.1, by rw [← h1]; exact q.2.2.1, zKn.same h2 q.2.2.2⟩), fun U hU hW => ⟨rfl, has, by rw [hU]; exact hH, by rw [hU]; exact hR, hK.warm hW⟩⟩
theorem zroom (s : List zV) (base : Nat) {pc : Nat} {lsr : Array Slot} {m : MethodId} {g : List Value} (h : s.length ≤ 8) : 2 * (F0 m pc lsr g).monitorRoom + ((s.map (ztr base)).map fun v => v.category).sum ≤ 8 := by
  rw [ztr_sum]
  show 2 * 0 + _ ≤ 8
  omega
theorem r_callV {y : zY} {as : List zV} {k ci idx n d mc ms : Nat} {stk : List zV} (hd : decode E.1.2.1 pc = .ok (.invokevirtual idx, 3)) (hmf : zMF y n) (hmi : zMI y) (hml : Cond.methodLink E.1.1.cls idx y.1 ∈ zTB) (hstk : stk = as.reverse ++ zR k :: st) (hlen : as.length = n) (hkd : zkd k = .inr ci) (hci : ci < 10) (hcn : zNm ci = y.1.cls) (hst8 : st.length ≤ 8)
    (hrm : (d + 1 + 1 ≤ E.2.1.frames ∧ 8 + (y.2.2.1 + 11) + 64 * (d + 1) ≤ E.2.1.locals) ∧ ce + mc ≤ E.2.1.cells ∧ sl + ms ≤ E.2.1.slots)
    (hM : zMet B y (zrm d mc ms) ini (zR k :: as) M mc ms (fun r ini' M' => gn M ≤ gn M' → zW B E (pc + 3) ls (r.toList ++ st) ini' M' (ce + mc) (sl + ms))) : zW B E pc ls stk ini M ce sl := by
  subst hstk
  intro p e s m args below meth c H locs lsr hF hE hK hR hS hbs hn hl hlo hst
  have hts := hF.2.2.2.2.1
  have has : ∀ v ∈ zR k :: as, zokV (gn M) v := fun v hv => by
    rcases List.mem_cons.mp hv with rfl | hv
    · exact hst _ (List.mem_append_right _ List.mem_cons_self)
    · exact hst _ (List.mem_append_left _ (List.mem_reverse.mpr hv))
  have hs2 : ∀ v ∈ st, zokV (gn M) v := fun v hv => hst _ (List.mem_append_right _ (List.mem_cons_of_mem _ hv))
  have hH : B.2.2.2 ≤ H.size := by rw [hR.1]; omega
  have hP := zpre hK hR has hH
  obtain ⟨cell, q1, q2, q3, q4⟩ := zat_obj (hR.2.1 k (has _ List.mem_cons_self)) hkd hci
  have hcl := (hK.1.1 ci _ (zc_cl ci hci)).2.1
  rw [zargs_rev]
  refine zgo (a := (Value.ref (B.2.2.2 + k) :: as.map (ztr B.2.2.2)).toArray) (va_runV (C := y.1.cls) (n := n) (bytes := y.2.1) (maxL := y.2.2.1) (ret := y.2.2.2) (ws := zws y) ⟨hF.1, hF.2.1, hF.2.2.1, hF.2.2.2.1, hts⟩ hM ⟨callB_of n hts (zws_good hmf) rfl rfl rfl (hts _ hmf.2.1) (hts _ hml) ⟨hmf.2.2.2.1.1, hmf.2.2.2.1.2, hmf.2.2.2.2⟩ hrm.1, hts _ hmi.1, hts _ hmi.2⟩ ⟨hP.1, ⟨cell, q1, by rw [q3]; rfl, by rw [q2, ← hcn]; exact hcl⟩, hP.2⟩ rfl (by rw [List.length_map]; exact hlen) hl.1 rfl (zroom st _ hst8) hd hrm.2) hF hE hK hS hbs hn hl hlo hs2
theorem r_callS {y : zY} {as : List zV} {idx n d mc ms : Nat} {stk : List zV} (hd : decode E.1.2.1 pc = .ok (.invokestatic idx, 3)) (hmf : zMF y n) (hms : Cond.static y.1 ∈ zTB) (hml : Cond.methodLink E.1.1.cls idx y.1 ∈ zTB) (hstk : stk = as.reverse ++ st) (hlen : as.length = n) (hst8 : st.length ≤ 8)
    (hrm : (d + 1 + 1 ≤ E.2.1.frames ∧ 8 + (y.2.2.1 + 11) + 64 * (d + 1) ≤ E.2.1.locals) ∧ ce + mc ≤ E.2.1.cells ∧ sl + ms ≤ E.2.1.slots)
    (hM : zMet B y (zrm d mc ms) ini as M mc ms (fun r ini' M' => gn M ≤ gn M' → zW B E (pc + 3) ls (r.toList ++ st) ini' M' (ce + mc) (sl + ms))) : zW B E pc ls stk ini M ce sl := by
  subst hstk
  intro p e s m args below meth c H locs lsr hF hE hK hR hS hbs hn hl hlo hst
  have hts := hF.2.2.2.2.1
  have has : ∀ v ∈ as, zokV (gn M) v := fun v hv => hst _ (List.mem_append_left _ (List.mem_reverse.mpr hv))
  have hs2 : ∀ v ∈ st, zokV (gn M) v := fun v hv => hst _ (List.mem_append_right _ hv)
  have hP := zpre hK hR has (by rw [hR.1]; omega)
  rw [zargs_rev0]
  exact zgo (a := (as.map (ztr B.2.2.2)).toArray) (va_runS (n := n) (bytes := y.2.1) (maxL := y.2.2.1) (ret := y.2.2.2) (ws := zws y) ⟨hF.1, hF.2.1, hF.2.2.1, hF.2.2.2.1, hts⟩ hM ⟨callB_of n hts (zws_good hmf) rfl rfl rfl (hts _ hmf.2.1) (hts _ hml) ⟨hmf.2.2.2.1.1, hmf.2.2.2.1.2, hmf.2.2.2.2⟩ hrm.1, hts _ hms⟩ hP rfl (by rw [List.length_map]; exact hlen) hl.1 rfl (zroom st _ hst8) hd hrm.2) hF hE hK hS hbs hn hl hlo hs2
/-- a private static method of the outer class -/
theorem r_callN {y : zY} {as : List zV} {idx n d mc ms : Nat} {stk : List zV} (hd : decode E.1.2.1 pc = .ok (.invokestatic idx, 3)) (hmf : zMF y n) (hms : Cond.static y.1 ∈ zTB) (hml : ∀ s : State, zKn B s → va_Nw (.methodLinkNest E.1.1.cls idx y.1 "ShrinkDesk") s) (hstk : stk = as.reverse ++ st) (hlen : as.length = n) (hst8 : st.length ≤ 8)
    (hrm : (d + 1 + 1 ≤ E.2.1.frames ∧ 8 + (y.2.2.1 + 11) + 64 * (d + 1) ≤ E.2.1.locals) ∧ ce + mc ≤ E.2.1.cells ∧ sl + ms ≤ E.2.1.slots)
    (hM : zMet B y (zrm d mc ms) ini as M mc ms (fun r ini' M' => gn M ≤ gn M' → zW B E (pc + 3) ls (r.toList ++ st) ini' M' (ce + mc) (sl + ms))) : zW B E pc ls stk ini M ce sl := by
  subst hstk
  intro p e s m args below meth c H locs lsr hF hE hK hR hS hbs hn hl hlo hst
  have hts := hF.2.2.2.2.1
  have has : ∀ v ∈ as, zokV (gn M) v := fun v hv => hst _ (List.mem_append_left _ (List.mem_reverse.mpr hv))
  have hs2 : ∀ v ∈ st, zokV (gn M) v := fun v hv => hst _ (List.mem_append_right _ hv)
  have hP := zpre hK hR has (by rw [hR.1]; omega)
  rw [zargs_rev0]
  exact zgo (a := (as.map (ztr B.2.2.2)).toArray) (va_runSN (n := n) (bytes := y.2.1) (maxL := y.2.2.1) (ret := y.2.2.2) (ws := zws y) ⟨hF.1, hF.2.1, hF.2.2.1, hF.2.2.2.1, hts⟩ hM ⟨va_cnB n hts (zws_good hmf) rfl rfl rfl (hml s hK) (hts _ hmf.2.1) ⟨hmf.2.2.2.1.1, hmf.2.2.2.1.2, hmf.2.2.2.2⟩ hrm.1, hts _ hms, trivial⟩ hP rfl (by rw [List.length_map]; exact hlen) hl.1 rfl (zroom st _ hst8) hd hrm.2) hF hE hK hS hbs hn hl hlo hs2
/-- a constructor -/
theorem r_callI {y : zY} {as : List zV} {k idx n d mc ms : Nat} {stk : List zV} (hd : decode E.1.2.1 pc = .ok (.invokespecial idx, 3)) (hmf : zMF y n) (hmi : Cond.instanceMethod y.1 ∈ zTB) (hy1 : y.1.name = "<init>") (hrt : y.2.2.2 = none) (hml : Cond.methodLink E.1.1.cls idx y.1 ∈ zTB) (hstk : stk = as.reverse ++ zR k :: st) (hlen : as.length = n) (hst8 : st.length ≤ 8)
    (hrm : (d + 1 + 1 ≤ E.2.1.frames ∧ 8 + (y.2.2.1 + 11) + 64 * (d + 1) ≤ E.2.1.locals) ∧ ce + mc ≤ E.2.1.cells ∧ sl + ms ≤ E.2.1.slots)
    (hM : zMet B y (zrm d mc ms) ini (zR k :: as) M mc ms (fun r ini' M' => gn M ≤ gn M' → zW B E (pc + 3) ls (r.toList ++ st) ini' M' (ce + mc) (sl + ms))) : zW B E pc ls stk ini M ce sl := by
  subst hstk
  intro p e s m args below meth c H locs lsr hF hE hK hR hS hbs hn hl hlo hst
  have hts := hF.2.2.2.2.1
  have has : ∀ v ∈ zR k :: as, zokV (gn M) v := fun v hv => by
    rcases List.mem_cons.mp hv with rfl | hv
    · exact hst _ (List.mem_append_right _ List.mem_cons_self)
    · exact hst _ (List.mem_append_left _ (List.mem_reverse.mpr hv))
  have hs2 : ∀ v ∈ st, zokV (gn M) v := fun v hv => hst _ (List.mem_append_right _ (List.mem_cons_of_mem _ hv))
  have hP := zpre hK hR has (by rw [hR.1]; omega)
  rw [zargs_rev]
  exact zgo (a := (Value.ref (B.2.2.2 + k) :: as.map (ztr B.2.2.2)).toArray) (va_runI (n := n) (bytes := y.2.1) (maxL := y.2.2.1) (ws := zws y) ⟨hF.1, hF.2.1, hF.2.2.1, hF.2.2.2.1, hts⟩ hM (cwI n hts (zws_good hmf) (by unfold zws; rw [hrt]) rfl rfl (hts _ hmf.2.1) (hts _ hml) (hts _ hmi) hy1 ⟨hmf.2.2.2.1.1, hmf.2.2.2.1.2, hmf.2.2.2.2⟩ hrm.1) hP rfl (by rw [List.length_map]; exact hlen) hl.1 rfl (zroom st _ hst8) hd hrm.2) hF hE hK hS hbs hn hl hlo hs2
/-- Object's constructor -/
theorem r_objInit {k idx : Nat} (hd : decode E.1.2.1 pc = .ok (.invokespecial idx, 3)) (hml : Cond.methodLink E.1.1.cls idx objectInit ∈ zTB) (hst8 : st.length ≤ 8) (hrm : 1 ≤ E.2.1.frames ∧ 20 ≤ E.2.1.locals) (kk : zW B E (pc + 3) ls st ini M ce sl) : zW B E pc ls (zR k :: st) ini M ce sl := by
  intro p e s m args below meth c H locs lsr hF hE hK hR hS hbs hn hl hlo hst
  have hts := hF.2.2.2.2.1
  refine W.objInit hF.1 hF.2.1 hF.2.2.2.1 (hts _ hml) (hts _ mj_obj.1) (hts _ mj_obj.2) rfl (hl.1.trans hF.2.2.1.symm) rfl hd hrm.1 ?_ (kk p e s m args below meth c H locs lsr hF hE hK hR hS hbs hn hl hlo (zok_t hst))
  rw [ztr_sum]
  show 2 * 0 + _ + 12 ≤ _
  omega
/-! ends -/
def zFq (B : zB) (n0 mc ms : Nat) (Q : Option zV → zIni → zM → Prop) : List Frame → Array Value → State → State → Prop := fun below args s => MQ below (zQc B n0 Q) args s mc ms (fun q => B.2.2.2 ≤ q)
/-- the frame of a method that is proved by itself -/
abbrev zEm (B : zB) (y : zY) (d mc ms n0 : Nat) (Q : Option zV → zIni → zM → Prop) : zE := (y, zrm d mc ms, n0, fun _ => True, zFq B n0 mc ms Q)
theorem r_iret {y : zY} {d mc ms n0 : Nat} {Q : Option zV → zIni → zM → Prop} {x : Int} {ty : FieldType} (hd : decode y.2.1 pc = .ok (.ireturn, 1)) (hty : y.2.2.2 = some ty) (hf : zfit ty x) (hce : ce ≤ mc ∧ sl ≤ ms) (k : Q (some (zI x)) ini M) : zW B (zEm B y d mc ms n0 Q) pc ls [zI x] ini M ce sl := by
  intro p e s m args below meth c H locs lsr hF hE hK hR hS hbs hn hl hlo hst
  refine W.widen hce.1 hce.2 (W.zret (v := Int32.ofInt x) (ty := ty) hF.1 hF.2.1 (hF.2.2.2.2.2.1.trans hty) (zfit_ok hf).1 (fun t ht hW => ?_) hS.2.2 hd hF.2.2.2.2.2.2.1)
  exact ⟨some (zI x), ini, M, rfl, k, by rw [ht]; exact hR, fun v hv => by cases hv; exact zok_h hst, hn, hS.F ht⟩
theorem r_vret {y : zY} {d mc ms n0 : Nat} {Q : Option zV → zIni → zM → Prop} (hd : decode y.2.1 pc = .ok (.return_, 1)) (hty : y.2.2.2 = none) (hce : ce ≤ mc ∧ sl ≤ ms) (k : Q none ini M) : zW B (zEm B y d mc ms n0 Q) pc ls [] ini M ce sl := by
  intro p e s m args below meth c H locs lsr hF hE hK hR hS hbs hn hl hlo hst
  refine W.widen hce.1 hce.2 (W.vret hF.1 hF.2.1 (hF.2.2.2.2.2.1.trans hty) (fun t ht hW => ?_) hS.2.2 hd hF.2.2.2.2.2.2.1)
  exact ⟨none, ini, M, rfl, k, by rw [ht]; exact hR, fun v hv => (by cases hv), hn, hS.F ht⟩
/-! a method from its entry -/
theorem zsl_len (base : Nat) (as : List zV) : (lg_sl (as.map (ztr base))).length = as.length := by
  induction as with
  | nil => rfl
  | cons a t ih =>
    have e : lg_sl ((a :: t).map (ztr base)) = .val (ztr base a) :: lg_sl (t.map (ztr base)) := by
      unfold lg_sl
      simp [ztr_cat]
    rw [e, List.length_cons, ih, List.length_cons]
theorem zlv_args {base : Nat} {as : List zV} {k i : Nat} {v : zV} (h : as[i]? = some v) : (k + i, ztr base v) ∈ lv_args k (as.map (ztr base)) := by
  induction as generalizing k i with
  | nil => simp at h
  | cons a t ih =>
    have e : lv_args k ((a :: t).map (ztr base)) = (k, ztr base a) :: lv_args (k + 1) (t.map (ztr base)) := by
      simp [lv_args, ztr_cat]
    rw [e]
    cases i with
    | zero =>
      simp only [List.getElem?_cons_zero, Option.some.injEq] at h
      subst h
      exact List.mem_cons_self
    | succ i =>
      simp only [List.getElem?_cons_succ] at h
      have h2 := ih (k := k + 1) h
      have e : k + 1 + i = k + (i + 1) := by omega
      rw [e] at h2
      exact List.mem_cons_of_mem _ h2
theorem zlh_entry (base : Nat) (as : List zV) {n : Nat} (h : as.length ≤ n) : zlh base ((lg_sl (as.map (ztr base)) ++ List.replicate (n - (lg_sl (as.map (ztr base))).length) Slot.unset).toArray) n (as.map some ++ List.replicate (n - as.length) none) := by
  obtain ⟨h1, h2, h3⟩ := lv_entry (as.map (ztr base)) (n := n) (by rw [zsl_len]; exact h)
  refine ⟨h1, h2, by simp; omega, fun i v hi => ?_⟩
  by_cases hlt : i < as.length
  · rw [List.getElem?_append_left (by simpa using hlt)] at hi
    have hi2 : as[i]? = some v := by simpa using hi
    have hm := zlv_args (base := base) (k := 0) hi2
    rw [Nat.zero_add] at hm
    exact h3 _ hm
  · rw [List.getElem?_append_right (by simpa using Nat.not_lt.mp hlt)] at hi
    rw [List.getElem?_replicate] at hi
    split at hi <;> cases hi
theorem zMet.of {y : zY} {d mc ms n : Nat} {as : List zV} {ls0 : List (Option zV)} {Q : Option zV → zIni → zM → Prop} (hmf : zMF y n) (hlen : as.length ≤ y.2.2.1) (hls : as.map some ++ List.replicate (y.2.2.1 - as.length) none = ls0)
    (k : zW B (zEm B y d mc ms (gn M) Q) 0 ls0 [] ini M 0 0) : zMet B y (zrm d mc ms) ini as M mc ms Q := by
  subst hls
  refine Met.ofW (cc := y.2.1) (maxL := y.2.2.1) (ret := y.2.2.2) hmf.2.2.1 rfl ?_
  intro p e s m args below meth c s₁ Bd hml hv
  obtain ⟨rfl, has, hbs, hR, hK⟩ := hv
  have hts : ∀ w ∈ zws y, w.before (as.map (ztr B.2.2.2)).toArray s = true := atoms_spec (ws := zws y) Bd.pre
  rw [lg_entry_eq]
  refine k p e s m _ below meth c s.heap [] _ ⟨Bd.exec, Bd.bytes, hml, findClass_of_methodNamed Bd.named, fun w hw => hts w (List.mem_cons_of_mem _ hw), Bd.returns, Bd.notSynchronized, fun h => ?_⟩ trivial hK hR va_S.rf hbs (Nat.le_refl _) (zlh_entry _ as hlen) (fun v hv => ?_) (fun v hv => by cases hv)
  · rw [(name_of_methodNamed Bd.named Bd.method).1]
    exact h
  · rcases List.mem_append.mp hv with h | h
    · obtain ⟨w, hw, e⟩ := List.mem_map.mp h
      cases e
      exact has _ hw
    · have := List.eq_of_mem_replicate h
      cases this
/-- a contract says less -/
theorem zMet.mono {y : zY} {rm : Room} {as : List zV} {mc ms : Nat} {Q Q' : Option zV → zIni → zM → Prop} (h : zMet B y rm ini as M mc ms Q) (hq : ∀ r ini' M', Q r ini' M' → Q' r ini' M') : zMet B y rm ini as M mc ms Q' := by
  unfold zMet Met at *
  intro p e ha hc hk s m args below hf happ hp hx
  obtain ⟨k, o, h1, h2, h3, ⟨h4, h5⟩⟩ := h p e ha hc hk s m args below hf happ hp hx
  obtain ⟨r, ini', M', g1, g2, g3⟩ := h4
  exact ⟨k, o, h1, h2, h3, ⟨r, ini', M', g1, hq _ _ _ g2, g3⟩, h5⟩
end ZC
end
section
/-! ===== contracts in the form in which they are used: 'go on with K' ===== -/
def zQi (K : Int → zM → Prop) : Option zV → zIni → zM → Prop := fun r i M => i = zA1 ∧ ∃ x, r = some (zI x) ∧ K x M
def zQv (K : zM → Prop) : Option zV → zIni → zM → Prop := fun r i M => i = zA1 ∧ r = none ∧ K M
/-- inside a method that answers an int (mc cells of ms slots may come) -/
abbrev zGi (B : zB) (y : zY) (d mc ms n0 : Nat) (K : Int → zM → Prop) (pc : Nat) (ls : List (Option zV)) (st : List zV) (M : zM) (ce sl : Nat) : Prop := zW B (zEm B y d mc ms n0 (zQi K)) pc ls st zA1 M ce sl
abbrev zGv (B : zB) (y : zY) (d mc ms n0 : Nat) (K : zM → Prop) (pc : Nat) (ls : List (Option zV)) (st : List zV) (M : zM) (ce sl : Nat) : Prop := zW B (zEm B y d mc ms n0 (zQv K)) pc ls st zA1 M ce sl
/-- a call of such a method -/
abbrev zCi (B : zB) (y : zY) (d mc ms : Nat) (as : List zV) (M : zM) (K : Int → zM → Prop) : Prop := zMet B y (zrm d mc ms) zA1 as M mc ms (zQi K)
abbrev zCv (B : zB) (y : zY) (d mc ms : Nat) (as : List zV) (M : zM) (K : zM → Prop) : Prop := zMet B y (zrm d mc ms) zA1 as M mc ms (zQv K)
/-- fewer locals -/
def zsubl : List (Option zV) → List (Option zV) → Prop
  | [], [] => True
  | none :: a, _ :: b => zsubl a b
  | some v :: a, some w :: b => v = w ∧ zsubl a b
  | _, _ => False
theorem zsubl_len {a b : List (Option zV)} (h : zsubl a b) : a.length = b.length := by
  induction a generalizing b with
  | nil =>
    cases b with
    | nil => rfl
    | cons => exact h.elim
  | cons x t ih =>
    cases b with
    | nil => cases x <;> exact h.elim
    | cons y u =>
      cases x with
      | none => simp [ih (b := u) h]
      | some v =>
        cases y with
        | none => exact h.elim
        | some w => simp [ih (b := u) h.2]
theorem zsubl_get {a b : List (Option zV)} (h : zsubl a b) {i : Nat} {v : zV} (hi : a[i]? = some (some v)) : b[i]? = some (some v) := by
  induction a generalizing b i with
  | nil => simp at hi
  | cons x t ih =>
    cases b with
    | nil => cases x <;> exact h.elim
    | cons y u =>
      cases x with
      | none =>
        cases i with
        | zero => simp at hi
        | succ i => simpa using ih (b := u) h (by simpa using hi)
      | some w =>
        cases y with
        | none => exact h.elim
        | some z =>
          cases i with
          | zero =>
            have e : w = v := by simpa using hi
            rw [← e, h.1]
            rfl
          | succ i => simpa using ih (b := u) h.2 (by simpa using hi)
section ZN
variable {B : zB} {E : zE} {pc : Nat} {ls : List (Option zV)} {st : List zV} {ini : zIni} {M : zM} {ce sl : Nat}
theorem r_fgt {ls2 : List (Option zV)} (h : zsubl ls2 ls) (k : zW B E pc ls2 st ini M ce sl) : zW B E pc ls st ini M ce sl := by
  intro p e s m args below meth c H locs lsr hF hE hK hR hS hbs hn hl hlo hst
  refine k p e s m args below meth c H locs lsr hF hE hK hR hS hbs hn ⟨hl.1, hl.2.1, by rw [zsubl_len h]; exact hl.2.2.1, fun i v hi => hl.2.2.2 i v (zsubl_get h hi)⟩ (fun v hv => ?_) hst
  obtain ⟨i, hi⟩ := List.getElem?_of_mem hv
  exact hlo v (List.mem_of_getElem? (zsubl_get h hi))
theorem r_gi {x : Option Nat} {k ci j idx : Nat} {v : Int} (hd : decode E.1.2.1 pc = .ok (.getfield idx, 3)) (hL : zLnk E.1.1.cls idx ci j) (hx : x = some k) (hkd : zkd k = .inr ci) (hs : zsk ci j = 0) (hv : gi M k j = v) (kk : zW B E (pc + 3) ls (zI v :: st) ini M ce sl) : zW B E pc ls (zO x :: st) ini M ce sl := by
  subst hx; subst hv
  exact r_geti hd hL hkd hs kk
theorem r_gs {x : Option Nat} {k ci j idx r : Nat} (hd : decode E.1.2.1 pc = .ok (.getfield idx, 3)) (hL : zLnk E.1.1.cls idx ci j) (hx : x = some k) (hkd : zkd k = .inr ci) (hs : zsk ci j = 1) (hi : ini k j = true) (hr : zsf k j = r) (kk : zW B E (pc + 3) ls (zR r :: st) ini M ce sl) : zW B E pc ls (zO x :: st) ini M ce sl := by
  subst hx; subst hr
  exact r_gets hd hL hkd hs hi kk
theorem r_gd {x v : Option Nat} {k ci j idx : Nat} (hd : decode E.1.2.1 pc = .ok (.getfield idx, 3)) (hL : zLnk E.1.1.cls idx ci j) (hx : x = some k) (hkd : zkd k = .inr ci) (hs : zsk ci j = 2) (hv : gr M k j = v) (kk : zW B E (pc + 3) ls (zO v :: st) ini M ce sl) : zW B E pc ls (zO x :: st) ini M ce sl := by
  subst hx; subst hv
  exact r_getd hd hL hkd hs kk
theorem r_ial {k n : Nat} {i v : Int} (hd : decode E.1.2.1 pc = .ok (.iaload, 1)) (hkd : zkd k = .inl (0, n)) (hi : 0 ≤ i ∧ i < n) (hv : gi M k i.toNat = v) (kk : zW B E (pc + 1) ls (zI v :: st) ini M ce sl) : zW B E pc ls (zI i :: zR k :: st) ini M ce sl := by
  subst hv
  exact r_iaload hd hkd hi kk
theorem r_bal {k n : Nat} {i v : Int} (hd : decode E.1.2.1 pc = .ok (.baload, 1)) (hkd : zkd k = .inl (1, n)) (hi : 0 ≤ i ∧ i < n) (hv : gi M k i.toNat = v) (kk : zW B E (pc + 1) ls (zI v :: st) ini M ce sl) : zW B E pc ls (zI i :: zR k :: st) ini M ce sl := by
  subst hv
  exact r_baload hd hkd hi kk
theorem r_cal {k n : Nat} {i v : Int} (hd : decode E.1.2.1 pc = .ok (.caload, 1)) (hkd : zkd k = .inl (2, n)) (hi : 0 ≤ i ∧ i < n) (hv : gi M k i.toNat = v) (kk : zW B E (pc + 1) ls (zI v :: st) ini M ce sl) : zW B E pc ls (zI i :: zR k :: st) ini M ce sl := by
  subst hv
  exact r_caload hd hkd hi kk
theorem r_aal {k n : Nat} {i : Int} {v : Option Nat} (hd : decode E.1.2.1 pc = .ok (.aaload, 1)) (hkd : zkd k = .inl (3, n)) (hi : 0 ≤ i ∧ i < n) (hv : gr M k i.toNat = v) (kk : zW B E (pc + 1) ls (zO v :: st) ini M ce sl) : zW B E pc ls (zI i :: zR k :: st) ini M ce sl := by
  subst hv
  exact r_aaload hd hkd hi kk
/-- writing an int field that isn't final, a reference that moves -/
theorem r_pi {k ci j idx : Nat} {x : Int} (hd : decode E.1.2.1 pc = .ok (.putfield idx, 3)) (hL : zLnk E.1.1.cls idx ci j) (hkd : zkd k = .inr ci) (hs : zsk ci j = 0) (hfin : (zT ci j).2.2.2 = false) (hf : zfit (zty ci j) x) (kk : zW B E (pc + 3) ls st ini (si M k j x) ce sl) : zW B E pc ls (zI x :: zR k :: st) ini M ce sl :=
  r_puti hd hL hkd hs hfin (fun h => by cases h) hf kk
theorem r_pd {k ci j idx : Nat} {x : Option Nat} {C : String} (hd : decode E.1.2.1 pc = .ok (.putfield idx, 3)) (hL : zLnk E.1.1.cls idx ci j) (hkd : zkd k = .inr ci) (hs : zsk ci j = 2) (hfin : (zT ci j).2.2.2 = false) (hf : zty ci j = .object C) (kk : zW B E (pc + 3) ls st ini (sr M k j x) ce sl) : zW B E pc ls (zO x :: zR k :: st) ini M ce sl :=
  r_putd hd hL hkd hs hfin (fun h => by cases h) hf kk
theorem zQi.call {y : zY} {rm : Room} {as : List zV} {mc ms : Nat} {K : Int → zM → Prop} (hM : zMet B y rm zA1 as M mc ms (zQi K)) {F : Option zV → zIni → zM → Prop} (h : ∀ x M', K x M' → F (some (zI x)) zA1 M') : zMet B y rm zA1 as M mc ms F :=
  hM.mono (fun r i M' q => by obtain ⟨rfl, x, rfl, q⟩ := q; exact h x M' q)
theorem zQv.call {y : zY} {rm : Room} {as : List zV} {mc ms : Nat} {K : zM → Prop} (hM : zMet B y rm zA1 as M mc ms (zQv K)) {F : Option zV → zIni → zM → Prop} (h : ∀ M', K M' → F none zA1 M') : zMet B y rm zA1 as M mc ms F :=
  hM.mono (fun r i M' q => by obtain ⟨rfl, rfl, q⟩ := q; exact h M' q)
theorem r_cVi {y : zY} {as : List zV} {k ci idx n d mc ms : Nat} {stk : List zV} (hd : decode E.1.2.1 pc = .ok (.invokevirtual idx, 3)) (hmf : zMF y n) (hmi : zMI y) (hml : Cond.methodLink E.1.1.cls idx y.1 ∈ zTB) (hstk : stk = as.reverse ++ zR k :: st) (hlen : as.length = n) (hkd : zkd k = .inr ci) (hci : ci < 10) (hcn : zNm ci = y.1.cls) (hst8 : st.length ≤ 8)
    (hrm : (d + 1 + 1 ≤ E.2.1.frames ∧ 8 + (y.2.2.1 + 11) + 64 * (d + 1) ≤ E.2.1.locals) ∧ ce + mc ≤ E.2.1.cells ∧ sl + ms ≤ E.2.1.slots)
    (hM : zCi B y d mc ms (zR k :: as) M (fun x M' => zW B E (pc + 3) ls (zI x :: st) zA1 M' (ce + mc) (sl + ms))) : zW B E pc ls stk zA1 M ce sl :=
  r_callV hd hmf hmi hml hstk hlen hkd hci hcn hst8 hrm (zQi.call hM (fun x M' q _ => q))
theorem r_cVv {y : zY} {as : List zV} {k ci idx n d mc ms : Nat} {stk : List zV} (hd : decode E.1.2.1 pc = .ok (.invokevirtual idx, 3)) (hmf : zMF y n) (hmi : zMI y) (hml : Cond.methodLink E.1.1.cls idx y.1 ∈ zTB) (hstk : stk = as.reverse ++ zR k :: st) (hlen : as.length = n) (hkd : zkd k = .inr ci) (hci : ci < 10) (hcn : zNm ci = y.1.cls) (hst8 : st.length ≤ 8)
    (hrm : (d + 1 + 1 ≤ E.2.1.frames ∧ 8 + (y.2.2.1 + 11) + 64 * (d + 1) ≤ E.2.1.locals) ∧ ce + mc ≤ E.2.1.cells ∧ sl + ms ≤ E.2.1.slots)
    (hM : zCv B y d mc ms (zR k :: as) M (fun M' => zW B E (pc + 3) ls st zA1 M' (ce + mc) (sl + ms))) : zW B E pc ls stk zA1 M ce sl :=
  r_callV hd hmf hmi hml hstk hlen hkd hci hcn hst8 hrm (zQv.call hM (fun M' q _ => q))
theorem r_cSi {y : zY} {as : List zV} {idx n d mc ms : Nat} {stk : List zV} (hd : decode E.1.2.1 pc = .ok (.invokestatic idx, 3)) (hmf : zMF y n) (hms : Cond.static y.1 ∈ zTB) (hml : Cond.methodLink E.1.1.cls idx y.1 ∈ zTB) (hstk : stk = as.reverse ++ st) (hlen : as.length = n) (hst8 : st.length ≤ 8)
    (hrm : (d + 1 + 1 ≤ E.2.1.frames ∧ 8 + (y.2.2.1 + 11) + 64 * (d + 1) ≤ E.2.1.locals) ∧ ce + mc ≤ E.2.1.cells ∧ sl + ms ≤ E.2.1.slots)
    (hM : zCi B y d mc ms as M (fun x M' => zW B E (pc + 3) ls (zI x :: st) zA1 M' (ce + mc) (sl + ms))) : zW B E pc ls stk zA1 M ce sl :=
  r_callS hd hmf hms hml hstk hlen hst8 hrm (zQi.call hM (fun x M' q _ => q))
theorem r_cNi {y : zY} {as : List zV} {idx n d mc ms : Nat} {stk : List zV} (hd : decode E.1.2.1 pc = .ok (.invokestatic idx, 3)) (hmf : zMF y n) (hms : Cond.static y.1 ∈ zTB) (hml : ∀ s : State, zKn B s → va_Nw (.methodLinkNest E.1.1.cls idx y.1 "ShrinkDesk") s) (hstk : stk = as.reverse ++ st) (hlen : as.length = n) (hst8 : st.length ≤ 8)
    (hrm : (d + 1 + 1 ≤ E.2.1.frames ∧ 8 + (y.2.2.1 + 11) + 64 * (d + 1) ≤ E.2.1.locals) ∧ ce + mc ≤ E.2.1.cells ∧ sl + ms ≤ E.2.1.slots)
    (hM : zCi B y d mc ms as M (fun x M' => zW B E (pc + 3) ls (zI x :: st) zA1 M' (ce + mc) (sl + ms))) : zW B E pc ls stk zA1 M ce sl :=
  r_callN hd hmf hms hml hstk hlen hst8 hrm (zQi.call hM (fun x M' q _ => q))
theorem r_cIv {y : zY} {as : List zV} {k idx n d mc ms : Nat} {stk : List zV} (hd : decode E.1.2.1 pc = .ok (.invokespecial idx, 3)) (hmf : zMF y n) (hmi : Cond.instanceMethod y.1 ∈ zTB) (hy1 : y.1.name = "<init>") (hrt : y.2.2.2 = none) (hml : Cond.methodLink E.1.1.cls idx y.1 ∈ zTB) (hstk : stk = as.reverse ++ zR k :: st) (hlen : as.length = n) (hst8 : st.length ≤ 8)
    (hrm : (d + 1 + 1 ≤ E.2.1.frames ∧ 8 + (y.2.2.1 + 11) + 64 * (d + 1) ≤ E.2.1.locals) ∧ ce + mc ≤ E.2.1.cells ∧ sl + ms ≤ E.2.1.slots)
    (hM : zCv B y d mc ms (zR k :: as) M (fun M' => zW B E (pc + 3) ls st zA1 M' (ce + mc) (sl + ms))) : zW B E pc ls stk zA1 M ce sl :=
  r_callI hd hmf hmi hy1 hrt hml hstk hlen hst8 hrm (zQv.call hM (fun M' q _ => q))
theorem r_reti {y : zY} {d mc ms n0 : Nat} {K : Int → zM → Prop} {x : Int} {ty : FieldType} (hd : decode y.2.1 pc = .ok (.ireturn, 1)) (hty : y.2.2.2 = some ty) (hce : ce ≤ mc ∧ sl ≤ ms) (hf : zfit ty x) (k : K x M) : zGi B y d mc ms n0 K pc ls [zI x] M ce sl :=
  r_iret hd hty hf hce ⟨rfl, x, rfl, k⟩
theorem r_retv {y : zY} {d mc ms n0 : Nat} {K : zM → Prop} (hd : decode y.2.1 pc = .ok (.return_, 1)) (hty : y.2.2.2 = none) (hce : ce ≤ mc ∧ sl ≤ ms) (k : K M) : zGv B y d mc ms n0 K pc ls [] M ce sl :=
  r_vret hd hty hce ⟨rfl, rfl, k⟩
end ZN
/-- a Text: its signs are the next cell -/
def zTx (t : Nat) : Prop := zkd t = .inr 6 ∧ zsf t 0 = t + 1 ∧ zkd (t + 1) = .inl (2, 32)
theorem zTx_1 : zTx 1 := ⟨rfl, rfl, rfl⟩
theorem zTx_32 : zTx 32 := ⟨rfl, rfl, rfl⟩
theorem zTx_36 : zTx 36 := ⟨rfl, rfl, rfl⟩
theorem zTx_38 : zTx 38 := ⟨rfl, rfl, rfl⟩
theorem zkd_term {k : Nat} (h : 88 ≤ k) : zkd k = .inr 5 := by
  unfold zkd
  have e : zkdL.length = 88 := rfl
  simp [List.getD, e, h]
theorem zbool {x : Int} {C : Prop} [Decidable C] (h : x = if C then 1 else 0) : x = 0 ∨ x = 1 := by
  split at h <;> omega
end
section
/-! ===== frames ===== -/
/-- outside the cells S nothing has changed -/
def zSm (S : List Nat) (M M' : zM) : Prop := (∀ a, a ∉ S → gi M' a = gi M a) ∧ gr M' = gr M ∧ gn M' = gn M
theorem zSm.rf {S : List Nat} {M : zM} : zSm S M M := ⟨fun _ _ => rfl, rfl, rfl⟩
theorem zSm.tr {S : List Nat} {M M' M2 : zM} (h : zSm S M M') (h' : zSm S M' M2) : zSm S M M2 := ⟨fun a ha => (h'.1 a ha).trans (h.1 a ha), h'.2.1.trans h.2.1, h'.2.2.trans h.2.2⟩
theorem zSm.mono {S T : List Nat} {M M' : zM} (h : zSm S M M') (hs : ∀ a ∈ S, a ∈ T) : zSm T M M' := ⟨fun a ha => h.1 a (fun q => ha (hs a q)), h.2⟩
theorem zSm.st {S : List Nat} {M M' : zM} (h : zSm S M M') {k j : Nat} {v : Int} (hk : k ∈ S) : zSm S M (si M' k j v) := ⟨fun a ha => (gi_si_ne (fun q => ha (by rw [q]; exact hk))).trans (h.1 a ha), h.2.1, h.2.2⟩
theorem zSm.ge {S : List Nat} {M M' : zM} (h : zSm S M M') {a : Nat} (ha : a ∉ S) : gi M' a = gi M a := h.1 a ha
/-! ===== rows of numbers ===== -/
def sg (f : Nat → Int) (n : Nat) : List Int := (List.range n).map f
theorem sg_len (f : Nat → Int) (n : Nat) : (sg f n).length = n := by simp [sg]
theorem sg_succ (f : Nat → Int) (n : Nat) : sg f (n + 1) = sg f n ++ [f n] := by simp [sg, List.range_succ]
theorem sg_ext {f g : Nat → Int} {n : Nat} (h : ∀ i, i < n → f i = g i) : sg f n = sg g n := by
  unfold sg
  apply List.map_congr_left
  intro i hi
  exact h i (List.mem_range.mp hi)
theorem sg_getD {f : Nat → Int} {n i : Nat} (h : i < n) : (sg f n).getD i 0 = f i := by simp [sg, List.getD, h]
/-- an array holds a row from its first place on -/
def zA (M : zM) (a : Nat) (s : List Int) : Prop := sg (gi M a) s.length = s
theorem zA.get {M : zM} {a : Nat} {s : List Int} (h : zA M a s) {i : Nat} (hi : i < s.length) : gi M a i = s.getD i 0 := by
  rw [← h, sg_getD hi]
theorem zA.mk {M : zM} {a : Nat} {s : List Int} (h : ∀ i, i < s.length → gi M a i = s.getD i 0) : zA M a s := by
  unfold zA
  apply List.ext_getElem
  · exact sg_len _ _
  · intro i h1 h2
    have := h i h2
    simp [sg, this, List.getD, h2]
theorem zA.same {M M' : zM} {a : Nat} {s : List Int} (h : zA M a s) (e : gi M' a = gi M a) : zA M' a s := by
  unfold zA
  rw [e]
  exact h
theorem zA.of {M M' : zM} {a : Nat} {s : List Int} (h : zA M a s) (e : ∀ i, i < s.length → gi M' a i = gi M a i) : zA M' a s := by
  unfold zA
  rw [sg_ext e]
  exact h
theorem zA.nil {M : zM} {a : Nat} : zA M a [] := rfl
theorem zA.app {M M' : zM} {a : Nat} {s : List Int} {x : Int} (h : zA M a s) (e : ∀ i, i < s.length → gi M' a i = gi M a i) (ex : gi M' a s.length = x) : zA M' a (s ++ [x]) := by
  unfold zA
  rw [List.length_append, List.length_singleton, sg_succ, ex, sg_ext e]
  congr 1
theorem zA.app1 {M : zM} {a : Nat} {s : List Int} {x : Int} (h : zA M a s) : zA (si M a s.length x) a (s ++ [x]) :=
  h.app (fun i hi => by rw [gi_si_eq, if_neg (by omega)]) (by rw [gi_si_eq, if_pos rfl])
theorem zA.take {M : zM} {a : Nat} {s : List Int} (h : zA M a s) (n : Nat) : zA M a (s.take n) := by
  apply zA.mk
  intro i hi
  rw [List.length_take] at hi
  rw [h.get (by omega)]
  simp only [List.getD, List.getElem?_take]
  rw [if_pos (by omega)]
theorem zA.inj {M M' : zM} {a b : Nat} {s s' : List Int} (h : zA M a s) (h' : zA M' b s') (hl : s.length = s'.length) (e : ∀ i, i < s.length → gi M a i = gi M' b i) : s = s' := by
  rw [← h, ← h', ← hl]
  exact sg_ext e
theorem take_succ' {s : List Int} {i : Nat} (h : i < s.length) : s.take (i + 1) = s.take i ++ [s.getD i 0] := by
  rw [List.take_succ]
  simp [List.getD, h]
theorem getD_app1 {s : List Int} {x : Int} : (s ++ [x]).getD s.length 0 = x := by simp [List.getD]
/-- a text: its characters are the next cell -/
def tT (M : zM) (t : Nat) (s : List Int) : Prop := gi M t 1 = (s.length : Int) ∧ zA M (t + 1) s
theorem tT.same {M M' : zM} {t : Nat} {s : List Int} (h : tT M t s) (e : gi M' t = gi M t) (e1 : gi M' (t + 1) = gi M (t + 1)) : tT M' t s := ⟨by rw [e]; exact h.1, h.2.same e1⟩
theorem tT.fr {S : List Nat} {M M' : zM} {t : Nat} {s : List Int} (h : tT M t s) (hs : zSm S M M') (e : t ∉ S) (e1 : t + 1 ∉ S) : tT M' t s := h.same (hs.ge e) (hs.ge e1)
/-- up to 32 characters -/
def okS (s : List Int) : Prop := s.length ≤ 32 ∧ ∀ x ∈ s, 0 ≤ x ∧ x < 65536
theorem getD_mem {s : List Int} {i : Nat} (h : i < s.length) : s.getD i 0 ∈ s := by
  simp [List.getD, h]
theorem okS.get {s : List Int} (h : okS s) {i : Nat} (hi : i < s.length) : 0 ≤ s.getD i 0 ∧ s.getD i 0 < 65536 := h.2 _ (getD_mem hi)
theorem okS.sub {s r : List Int} (h : okS s) (hl : r.length ≤ 32) (hr : ∀ x ∈ r, x ∈ s) : okS r := ⟨hl, fun x hx => h.2 x (hr x hx)⟩
/-! ===== terms over texts ===== -/
def cntL (c : Int) (s : List Int) : Int := s.foldl (fun n x => if x = c then n + 1 else n) 0
theorem cntL_app {c x : Int} {s : List Int} : cntL c (s ++ [x]) = if x = c then cntL c s + 1 else cntL c s := by simp [cntL]
theorem cntL_take {c : Int} {s : List Int} {i : Nat} (h : i < s.length) : cntL c (s.take (i + 1)) = if s.getD i 0 = c then cntL c (s.take i) + 1 else cntL c (s.take i) := by
  rw [take_succ' h, cntL_app]
theorem cntL_bd {c : Int} {s : List Int} (i : Nat) (h : i ≤ s.length) : 0 ≤ cntL c (s.take i) ∧ cntL c (s.take i) ≤ i := by
  induction i with
  | zero => simp [cntL]
  | succ i ih =>
    have := ih (by omega)
    rw [cntL_take (by omega)]
    split <;> omega
def prS (c d : Int) (near : Bool) (p : Bool × Bool) (x : Int) : Bool × Bool := (p.1 || (p.2 && decide (x = d)), decide (x = c) || (p.2 && !near))
def prF (c d : Int) (near : Bool) (s : List Int) : Bool × Bool := s.foldl (prS c d near) (false, false)
def prL (c d : Int) (near : Bool) (s : List Int) : Bool := (prF c d near s).1
theorem prF_take {c d : Int} {near : Bool} {s : List Int} {i : Nat} (h : i < s.length) : prF c d near (s.take (i + 1)) = prS c d near (prF c d near (s.take i)) (s.getD i 0) := by
  rw [take_succ' h]
  simp [prF]
theorem prL_up {c d : Int} {near : Bool} {s : List Int} {i : Nat} (h : (prF c d near (s.take i)).1 = true) (n : Nat) (hn : i + n ≤ s.length) : (prF c d near (s.take (i + n))).1 = true := by
  induction n with
  | zero => exact h
  | succ n ih =>
    rw [← Nat.add_assoc, prF_take (by omega)]
    simp [prS, ih (by omega)]
theorem prL_all {c d : Int} {near : Bool} {s : List Int} {i : Nat} (h : (prF c d near (s.take i)).1 = true) (hi : i ≤ s.length) : prL c d near s = true := by
  have h2 := prL_up h (s.length - i) (by omega)
  rw [show i + (s.length - i) = s.length from by omega, List.take_length] at h2
  exact h2
theorem toNat_succ {x : Int} (h : 0 ≤ x) : (x + 1).toNat = x.toNat + 1 := by omega
/-- an int that wraps around -/
def zw (x : Int) : Int := (Int32.ofInt x).toInt
theorem r_iaddw {B : zB} {E : zE} {pc : Nat} {ls : List (Option zV)} {st : List zV} {ini : zIni} {M : zM} {ce sl : Nat} {a b : Int} (hd : decode E.1.2.1 pc = .ok (.iadd, 1)) (k : zW B E (pc + 1) ls (zI (zw (a + b)) :: st) ini M ce sl) : zW B E pc ls (zI b :: zI a :: st) ini M ce sl :=
  zW.mp (fun h => zok_cons (v := zI (zw (a + b))) (zin_of _) (zok_t (zok_t h))) (fun hx hb _ kk => lv_iadd hx hb hd (by
    have e : Int32.ofInt a + Int32.ofInt b = Int32.ofInt (zw (a + b)) := by
      unfold zw
      rw [zof_toInt, Int32.ofInt_add]
    rw [e]; exact kk)) k
theorem r_ifb_eq {B : zB} {E : zE} {pc : Nat} {ls : List (Option zV)} {st : List zV} {ini : zIni} {M : zM} {ce sl : Nat} {P : Prop} [Decidable P] {off : Int} {tgt : Nat} (hd : decode E.1.2.1 pc = .ok (.ifCond .eq off, 3)) (ht : (pc : Int) + off = (tgt : Int)) (kt : ¬ P → zW B E tgt ls st ini M ce sl) (kf : P → zW B E (pc + 3) ls st ini M ce sl) : zW B E pc ls (zI (if P then 1 else 0) :: st) ini M ce sl :=
  r_if_eq hd ht (fun h => kt (fun p => by rw [if_pos p] at h; exact absurd h (by decide))) (fun h => kf (Decidable.byContradiction (fun p => h (if_neg p))))
theorem r_ifb_ne {B : zB} {E : zE} {pc : Nat} {ls : List (Option zV)} {st : List zV} {ini : zIni} {M : zM} {ce sl : Nat} {P : Prop} [Decidable P] {off : Int} {tgt : Nat} (hd : decode E.1.2.1 pc = .ok (.ifCond .ne off, 3)) (ht : (pc : Int) + off = (tgt : Int)) (kt : P → zW B E tgt ls st ini M ce sl) (kf : ¬ P → zW B E (pc + 3) ls st ini M ce sl) : zW B E pc ls (zI (if P then 1 else 0) :: st) ini M ce sl :=
  r_if_ne hd ht (fun h => kt (Decidable.byContradiction (fun p => h (if_neg p)))) (fun h => kf (fun p => by rw [if_pos p] at h; exact absurd h (by decide)))
theorem zJ1 {P : Int → Prop} {a : Int} (h : P a) : ∀ x, x = a → P x := fun x e => by subst e; exact h
theorem zJ2 {P : Int → Int → Prop} {a b : Int} (h : P a b) : ∀ x, x = a → ∀ y, y = b → P x y := fun x e y e2 => by subst e; subst e2; exact h
theorem zJ3 {P : Int → Int → Int → Prop} {a b c : Int} (h : P a b c) : ∀ x, x = a → ∀ y, y = b → ∀ z, z = c → P x y z := fun x e y e2 z e3 => by subst e; subst e2; subst e3; exact h
theorem zJ4 {P : Int → Int → Int → Int → Prop} {a b c d : Int} (h : P a b c d) : ∀ x, x = a → ∀ y, y = b → ∀ z, z = c → ∀ w, w = d → P x y z w := fun x e y e2 z e3 w e4 => by subst e; subst e2; subst e3; subst e4; exact h
end
section
/-! ===== characters and grammars ===== -/
def isTx (c : Int) : Bool := (decide (97 ≤ c) && decide (c ≤ 122)) || (decide (48 ≤ c) && decide (c ≤ 57)) || decide (c = 32) || decide (c = 44) || decide (c = 45) || decide (c = 40) || decide (c = 41)
def isNm (c : Int) : Bool := decide (65 ≤ c) && decide (c ≤ 70)
def isTl (c : Int) : Bool := decide (c = 63) || decide (c = 42) || decide (c = 43)
def isGs (c : Int) : Bool := isTx c || isNm c || isTl c || decide (c = 61) || decide (c = 47) || decide (c = 59)
/-- the rule that an item names, 6 for a character -/
def nm (c : Int) : Int := if isNm c = true then c - 65 else 6
theorem isTx_iff {c : Int} : isTx c = true ↔ (97 ≤ c ∧ c ≤ 122) ∨ (48 ≤ c ∧ c ≤ 57) ∨ c = 32 ∨ c = 44 ∨ c = 45 ∨ c = 40 ∨ c = 41 := by
  unfold isTx
  simp only [Bool.or_eq_true, Bool.and_eq_true, decide_eq_true_eq]
  omega
theorem isNm_iff {c : Int} : isNm c = true ↔ 65 ≤ c ∧ c ≤ 70 := by
  unfold isNm
  simp only [Bool.and_eq_true, decide_eq_true_eq]
theorem isTl_iff {c : Int} : isTl c = true ↔ c = 63 ∨ c = 42 ∨ c = 43 := by
  unfold isTl
  simp only [Bool.or_eq_true, decide_eq_true_eq]
  omega
theorem isGs_iff {c : Int} : isGs c = true ↔ isTx c = true ∨ isNm c = true ∨ isTl c = true ∨ c = 61 ∨ c = 47 ∨ c = 59 := by
  unfold isGs
  simp only [Bool.or_eq_true, decide_eq_true_eq]
  constructor
  · rintro (((((h | h) | h) | h) | h) | h) <;> simp [h]
  · rintro (h | h | h | h | h | h) <;> simp [h]
theorem nm_bd (c : Int) : 0 ≤ nm c ∧ nm c ≤ 6 := by
  unfold nm
  split
  · next h => rw [isNm_iff] at h; omega
  · omega
theorem nm_lt {c : Int} : nm c < 6 ↔ isNm c = true := by
  unfold nm
  split
  · next h => exact ⟨fun _ => h, fun _ => by rw [isNm_iff] at h; omega⟩
  · next h => simp [h]
theorem nm_eq {c : Int} (h : isNm c = true) : nm c = c - 65 := by
  unfold nm
  rw [if_pos h]
theorem zifc {P Q : Prop} [Decidable P] [Decidable Q] (h : P ↔ Q) : (if P then (1 : Int) else 0) = if Q then 1 else 0 := by
  by_cases p : P
  · rw [if_pos p, if_pos (h.mp p)]
  · rw [if_neg p, if_neg (fun q => p (h.mpr q))]
/-- a grammar: how many items; the items' characters; their tails (0: none); how many alternatives; where each begins (and, behind the last, how many items); where the alternatives of a rule begin (-1: no such rule), and end -/
abbrev zG : Type := Int × (Nat → Int) × (Nat → Int) × Int × (Nat → Int) × (Nat → Int) × (Nat → Int)
def gN (g : zG) : Int := g.1
def gI (g : zG) : Nat → Int := g.2.1
def gS (g : zG) : Nat → Int := g.2.2.1
def gA (g : zG) : Int := g.2.2.2.1
def gF (g : zG) : Nat → Int := g.2.2.2.2.1
def gR (g : zG) : Nat → Int := g.2.2.2.2.2.1
def gE (g : zG) : Nat → Int := g.2.2.2.2.2.2
/-- the class's cells hold the grammar -/
def RX (M : zM) (g : zG) : Prop := gi M 8 8 = gN g ∧ gi M 8 10 = gA g ∧ (∀ j : Nat, (j : Int) < gN g → gi M 10 j = gI g j ∧ gi M 11 j = (if gS g j = 0 then 32 else gS g j) ∧ gi M 12 j = nm (gI g j)) ∧ (∀ j : Nat, (j : Int) ≤ gA g → gi M 13 j = gF g j) ∧
  ∀ r : Nat, r < 6 → gi M 16 r = (if gR g r < 0 then 0 else 1) ∧ (0 ≤ gR g r → gi M 14 r = gR g r ∧ gi M 15 r = gE g r)
/-- the model's cells hold the grammar -/
def RM (M : zM) (g : zG) : Prop := gi M 45 14 = gN g ∧ gi M 45 15 = gA g ∧ (∀ j : Nat, (j : Int) < gN g → gi M 54 j = gI g j ∧ gi M 55 j = gS g j) ∧ (∀ j : Nat, (j : Int) ≤ gA g → gi M 56 j = gF g j) ∧
  ∀ r : Nat, r < 6 → gi M 57 r = gR g r ∧ (0 ≤ gR g r → gi M 58 r = gE g r)
def WG (g : zG) : Prop := (0 ≤ gN g ∧ gN g ≤ 60) ∧ (0 ≤ gA g ∧ gA g ≤ 60) ∧ (∀ j : Nat, (j : Int) < gN g → (isTx (gI g j) = true ∨ isNm (gI g j) = true) ∧ (gS g j = 0 ∨ gS g j = 63 ∨ gS g j = 42 ∨ gS g j = 43)) ∧
  (∀ j : Nat, (j : Int) < gA g → 0 ≤ gF g j ∧ gF g j ≤ gF g (j + 1)) ∧ (∀ j : Nat, (j : Int) ≤ gA g → 0 ≤ gF g j ∧ gF g j ≤ gN g) ∧
  ∀ r : Nat, r < 6 → -1 ≤ gR g r ∧ (0 ≤ gR g r → gR g r ≤ gE g r ∧ gE g r ≤ gA g)
/-- every name that is used has a rule -/
def NG (g : zG) : Prop := ∀ j : Nat, (j : Int) < gN g → isNm (gI g j) = true → 0 ≤ gR g (gI g j - 65).toNat
theorem RX.same {M M' : zM} {g : zG} (h : RX M g) (e : ∀ a, a = 8 ∨ a = 10 ∨ a = 11 ∨ a = 12 ∨ a = 13 ∨ a = 14 ∨ a = 15 ∨ a = 16 → gi M' a = gi M a) : RX M' g := by
  unfold RX at *
  rw [e 8 (by simp), e 10 (by simp), e 11 (by simp), e 12 (by simp), e 13 (by simp), e 14 (by simp), e 15 (by simp), e 16 (by simp)]
  exact h
theorem RX.fr {S : List Nat} {M M' : zM} {g : zG} (h : RX M g) (hs : zSm S M M') (hd : ∀ a ∈ S, a < 8 ∨ a = 9 ∨ 16 < a) : RX M' g := by
  refine h.same (fun a ha => hs.ge (fun q => ?_))
  have := hd a q
  omega
theorem RM.same {M M' : zM} {g : zG} (h : RM M g) (e : ∀ a, a = 54 ∨ a = 55 ∨ a = 56 ∨ a = 57 ∨ a = 58 → gi M' a = gi M a) (e1 : gi M' 45 14 = gi M 45 14) (e2 : gi M' 45 15 = gi M 45 15) : RM M' g := by
  unfold RM at *
  rw [e1, e2, e 54 (by simp), e 55 (by simp), e 56 (by simp), e 57 (by simp), e 58 (by simp)]
  exact h
/-- whether an item may match nothing, by what is known of the rules -/
def gV (g : zG) (e : Nat → Bool) (j : Nat) : Bool := decide (gS g j = 63) || decide (gS g j = 42) || (isNm (gI g j) && e (nm (gI g j)).toNat)
/-! ===== the leaves ===== -/
end
section
theorem e_X6_put {B : zB} {K : Int → zM → Prop} {M : zM} {p1 : Int} {t : Nat} (k : ∀ n0, zGi B zy_X6_put 1 0 0 n0 K 0 [some (zR t), some (zI p1)] [] M 0 0) :
    zCi B zy_X6_put 1 0 0 [zR t, zI p1] M K :=
  zMet.of mf_X6_put (Nat.le_of_ble_eq_true rfl) rfl (k _)
set_option maxRecDepth 4000 in
theorem b_X6_put_0 {B : zB} {n0 : Nat} {K : Int → zM → Prop} {M : zM} {p1 : Int} {t : Nat} (h_t : zTx t)
    (c1 : (gi M t 1) < 32 → 0 ≤ (gi M t 1) ∧ (gi M t 1) < 32)
    (c2 : (gi M t 1) < 32 → 0 ≤ p1 ∧ p1 < 65536)
    (c3 : (gi M t 1) < 32 → zin ((gi M t 1) + 1))
    (k1 : (gi M t 1) < 32 → K 1 (si (si M (t + 1) (gi M t 1).toNat p1) t 1 ((gi M t 1) + 1)))
    (k2 : 32 ≤ (gi M t 1) → K 0 M) :
    zGi B zy_X6_put 1 0 0 n0 K 0 [some (zR t), some (zI p1)] [] M 0 0 :=
  (r_aload_n (i := 0) dX6_put_0 rfl rfl (r_gi dX6_put_1 fl_X6_15 rfl h_t.1 rfl rfl (r_bipush dX6_put_4 (by decide) rfl (r_icmp_lt (tgt := 11) dX6_put_6 (by decide) (fun h1 => (r_aload_n (i := 0) dX6_put_11 rfl rfl (r_gs (r := (t + 1)) dX6_put_12 fl_X6_9 rfl h_t.1 rfl rfl h_t.2.1 (r_aload_n (i := 0) dX6_put_15 rfl rfl (r_gi dX6_put_16 fl_X6_15 rfl h_t.1 rfl rfl (r_iload_n (i := 1) dX6_put_19 rfl rfl (r_castore (n := 32) dX6_put_20 h_t.2.2 (c1 h1) (c2 h1) (r_aload_n (i := 0) dX6_put_21 rfl rfl (r_dup dX6_put_22 (r_gi dX6_put_23 fl_X6_15 rfl h_t.1 rfl (by simp [gi_si]) (r_iconst dX6_put_26 (by decide) (r_iadd dX6_put_27 (c3 h1) (r_pi dX6_put_28 fl_X6_15 h_t.1 rfl rfl trivial (r_iconst dX6_put_31 (by decide) (r_reti dX6_put_32 rfl (by decide) (Or.inr rfl) (k1 h1)))))))))))))))) (fun h2 => (r_iconst dX6_put_9 (by decide) (r_reti dX6_put_10 rfl (by decide) (Or.inl rfl) (k2 h2))))))))
theorem e_X6_putSome {B : zB} {K : zM → Prop} {M : zM} {p2 p3 : Int} {t : Nat} {u : Nat} (k : ∀ n0, zGv B zy_X6_putSome 2 0 0 n0 K 0 [some (zR t), some (zR u), some (zI p2), some (zI p3), none] [] M 0 0) :
    zCv B zy_X6_putSome 2 0 0 [zR t, zR u, zI p2, zI p3] M K :=
  zMet.of mf_X6_putSome (Nat.le_of_ble_eq_true rfl) rfl (k _)
set_option maxRecDepth 4000 in
theorem b_X6_putSome_0 {B : zB} {n0 : Nat} {K : zM → Prop} {M : zM} {p2 p3 : Int} {t : Nat} (h_t : zTx t) {u : Nat} (h_u : zTx u)
    (k1 : zGv B zy_X6_putSome 2 0 0 n0 K 3 [some (zR t), some (zR u), some (zI p2), some (zI p3), some (zI p2)] [] M 0 0) :
    zGv B zy_X6_putSome 2 0 0 n0 K 0 [some (zR t), some (zR u), some (zI p2), some (zI p3), none] [] M 0 0 :=
  (r_iload_n (i := 2) dX6_putSome_0 rfl rfl (r_istore (i := 4) dX6_putSome_1 (Nat.le_of_ble_eq_true rfl) rfl k1))
set_option maxRecDepth 4000 in
theorem b_X6_putSome_3 {B : zB} {n0 : Nat} {K : zM → Prop} {M : zM} {v2 v3 v4 : Int} {t : Nat} (h_t : zTx t) {u : Nat} (h_u : zTx u)
    (k1 : v4 < 0 → K M)
    (k2 : 0 ≤ v4 → v3 ≤ v4 → K M)
    (k3 : 0 ≤ v4 → v4 < v3 → (gi M u 1) ≤ v4 → K M)
    (c1 : 0 ≤ v4 → v4 < v3 → v4 < (gi M u 1) → 0 ≤ v4 ∧ v4 < 32)
    (k4 : 0 ≤ v4 → v4 < v3 → v4 < (gi M u 1) → zCi B zy_X6_put 1 0 0 [zR t, zI (gi M (u + 1) v4.toNat)] M (fun x M' => zGv B zy_X6_putSome 2 0 0 n0 K 34 [some (zR t), some (zR u), some (zI v2), some (zI v3), some (zI v4)] [zI x] M' 0 0)) :
    zGv B zy_X6_putSome 2 0 0 n0 K 3 [some (zR t), some (zR u), some (zI v2), some (zI v3), some (zI v4)] [] M 0 0 :=
  (r_iload (i := 4) dX6_putSome_3 rfl (r_if_lt (tgt := 41) dX6_putSome_5 (by decide) (fun h1 => (r_retv dX6_putSome_41 rfl (by decide) (k1 h1))) (fun h2 => (r_iload (i := 4) dX6_putSome_8 rfl (r_iload_n (i := 3) dX6_putSome_10 rfl rfl (r_icmp_ge (tgt := 41) dX6_putSome_11 (by decide) (fun h3 => (r_retv dX6_putSome_41 rfl (by decide) (k2 h2 h3))) (fun h4 => (r_iload (i := 4) dX6_putSome_14 rfl (r_aload_n (i := 1) dX6_putSome_16 rfl rfl (r_gi dX6_putSome_17 fl_X6_15 rfl h_u.1 rfl rfl (r_icmp_ge (tgt := 41) dX6_putSome_20 (by decide) (fun h5 => (r_retv dX6_putSome_41 rfl (by decide) (k3 h2 h4 h5))) (fun h6 => (r_aload_n (i := 0) dX6_putSome_23 rfl rfl (r_aload_n (i := 1) dX6_putSome_24 rfl rfl (r_gs (r := (u + 1)) dX6_putSome_25 fl_X6_9 rfl h_u.1 rfl rfl h_u.2.1 (r_iload (i := 4) dX6_putSome_28 rfl (r_cal (n := 32) dX6_putSome_30 h_u.2.2 (c1 h2 h4 h6) rfl (r_cVi (as := [zI (gi M (u + 1) v4.toNat)]) (d := 1) dX6_putSome_31 mf_X6_put mi_X6_put ml_X6_19 rfl rfl h_t.1 (by decide) rfl (Nat.le_of_ble_eq_true rfl) ⟨⟨Nat.le_of_ble_eq_true rfl, Nat.le_of_ble_eq_true rfl⟩, Nat.le_of_ble_eq_true rfl, Nat.le_of_ble_eq_true rfl⟩ (k4 h2 h4 h6)))))))))))))))))))
set_option maxRecDepth 4000 in
theorem b_X6_putSome_34 {B : zB} {n0 : Nat} {K : zM → Prop} {M : zM} {v2 v3 v4 s0 : Int} {t : Nat} (h_t : zTx t) {u : Nat} (h_u : zTx u)
    (c1 : zin (v4 + 1))
    (k1 : zGv B zy_X6_putSome 2 0 0 n0 K 3 [some (zR t), some (zR u), some (zI v2), some (zI v3), some (zI (v4 + 1))] [] M 0 0) :
    zGv B zy_X6_putSome 2 0 0 n0 K 34 [some (zR t), some (zR u), some (zI v2), some (zI v3), some (zI v4)] [zI s0] M 0 0 :=
  (r_pop dX6_putSome_34 (r_iinc (i := 4) dX6_putSome_35 rfl c1 rfl (r_goto (tgt := 3) dX6_putSome_38 (by decide) k1)))
theorem e_X6_become {B : zB} {K : zM → Prop} {M : zM} {t : Nat} {u : Nat} (k : ∀ n0, zGv B zy_X6_become 3 0 0 n0 K 0 [some (zR t), some (zR u)] [] M 0 0) :
    zCv B zy_X6_become 3 0 0 [zR t, zR u] M K :=
  zMet.of mf_X6_become (Nat.le_of_ble_eq_true rfl) rfl (k _)
set_option maxRecDepth 4000 in
theorem b_X6_become_0 {B : zB} {n0 : Nat} {K : zM → Prop} {M : zM} {t : Nat} (h_t : zTx t) {u : Nat} (h_u : zTx u)
    (k1 : zCv B zy_X6_putSome 2 0 0 [zR t, zR u, zI 0, zI (gi (si M t 1 0) u 1)] (si M t 1 0) (fun M' => zGv B zy_X6_become 3 0 0 n0 K 15 [some (zR t), some (zR u)] [] M' 0 0)) :
    zGv B zy_X6_become 3 0 0 n0 K 0 [some (zR t), some (zR u)] [] M 0 0 :=
  (r_aload_n (i := 0) dX6_become_0 rfl rfl (r_iconst dX6_become_1 (by decide) (r_pi dX6_become_2 fl_X6_15 h_t.1 rfl rfl trivial (r_aload_n (i := 0) dX6_become_5 rfl rfl (r_aload_n (i := 1) dX6_become_6 rfl rfl (r_iconst dX6_become_7 (by decide) (r_aload_n (i := 1) dX6_become_8 rfl rfl (r_gi dX6_become_9 fl_X6_15 rfl h_u.1 rfl rfl (r_cVv (as := [zR u, zI 0, zI (gi (si M t 1 0) u 1)]) (d := 2) dX6_become_12 mf_X6_putSome mi_X6_putSome ml_X6_23 rfl rfl h_t.1 (by decide) rfl (Nat.le_of_ble_eq_true rfl) ⟨⟨Nat.le_of_ble_eq_true rfl, Nat.le_of_ble_eq_true rfl⟩, Nat.le_of_ble_eq_true rfl, Nat.le_of_ble_eq_true rfl⟩ k1)))))))))
set_option maxRecDepth 4000 in
theorem b_X6_become_15 {B : zB} {n0 : Nat} {K : zM → Prop} {M : zM} {t : Nat} (h_t : zTx t) {u : Nat} (h_u : zTx u)
    (k1 : K M) :
    zGv B zy_X6_become 3 0 0 n0 K 15 [some (zR t), some (zR u)] [] M 0 0 :=
  (r_retv dX6_become_15 rfl (by decide) k1)
theorem e_X6_holdsSign {B : zB} {K : Int → zM → Prop} {M : zM} {p1 p2 : Int} {t : Nat} (k : ∀ n0, zGi B zy_X6_holdsSign 1 0 0 n0 K 0 [some (zR t), some (zI p1), some (zI p2), none, none] [] M 0 0) :
    zCi B zy_X6_holdsSign 1 0 0 [zR t, zI p1, zI p2] M K :=
  zMet.of mf_X6_holdsSign (Nat.le_of_ble_eq_true rfl) rfl (k _)
set_option maxRecDepth 4000 in
theorem b_X6_holdsSign_0 {B : zB} {n0 : Nat} {K : Int → zM → Prop} {M : zM} {p1 p2 : Int} {t : Nat} (h_t : zTx t)
    (k1 : zGi B zy_X6_holdsSign 1 0 0 n0 K 5 [some (zR t), some (zI p1), some (zI p2), some (zI 0), some (zI 0)] [] M 0 0) :
    zGi B zy_X6_holdsSign 1 0 0 n0 K 0 [some (zR t), some (zI p1), some (zI p2), none, none] [] M 0 0 :=
  (r_iconst dX6_holdsSign_0 (by decide) (r_istore_n (i := 3) dX6_holdsSign_1 rfl (Nat.le_of_ble_eq_true rfl) rfl (r_iconst dX6_holdsSign_2 (by decide) (r_istore (i := 4) dX6_holdsSign_3 (Nat.le_of_ble_eq_true rfl) rfl k1))))
set_option maxRecDepth 4000 in
theorem b_X6_holdsSign_5 {B : zB} {n0 : Nat} {K : Int → zM → Prop} {M : zM} {v1 v2 v3 v4 : Int} {t : Nat} (h_t : zTx t)
    (k1 : (gi M t 1) ≤ v4 → K (if v2 ≤ v3 then 1 else 0) M)
    (c1 : v4 < (gi M t 1) → 0 ≤ v4 ∧ v4 < 32)
    (c2 : v4 < (gi M t 1) → (gi M (t + 1) v4.toNat) = v1 → zin (v3 + 1))
    (c3 : v4 < (gi M t 1) → zin (v4 + 1))
    (k2 : v4 < (gi M t 1) → zGi B zy_X6_holdsSign 1 0 0 n0 K 5 [some (zR t), some (zI v1), some (zI v2), some (zI (if (gi M (t + 1) v4.toNat) = v1 then v3 + 1 else v3)), some (zI (v4 + 1))] [] M 0 0) :
    zGi B zy_X6_holdsSign 1 0 0 n0 K 5 [some (zR t), some (zI v1), some (zI v2), some (zI v3), some (zI v4)] [] M 0 0 :=
  (r_iload (i := 4) dX6_holdsSign_5 rfl (r_aload_n (i := 0) dX6_holdsSign_7 rfl rfl (r_gi dX6_holdsSign_8 fl_X6_15 rfl h_t.1 rfl rfl (r_icmp_ge (tgt := 34) dX6_holdsSign_11 (by decide) (fun h1 => (r_iload_n (i := 3) dX6_holdsSign_34 rfl rfl (r_iload_n (i := 2) dX6_holdsSign_35 rfl rfl ((fun (J1 : ∀ y1_0 : Int, y1_0 = (if v2 ≤ v3 then 1 else 0) → zGi B zy_X6_holdsSign 1 0 0 n0 K 44 [some (zR t), some (zI v1), some (zI v2), some (zI v3), some (zI v4)] [zI y1_0] M 0 0) => (r_icmp_lt (tgt := 43) dX6_holdsSign_36 (by decide) (fun h2 => (r_iconst dX6_holdsSign_43 (by decide) (J1 0 (by first | ((repeat' split) <;> omega) | simp_all | ((repeat' split) <;> simp_all))))) (fun h3 => (r_iconst dX6_holdsSign_39 (by decide) (r_goto (tgt := 44) dX6_holdsSign_40 (by decide) (J1 1 (by first | ((repeat' split) <;> omega) | simp_all | ((repeat' split) <;> simp_all)))))))) (zJ1 (P := (fun (y1_0 : Int) => zGi B zy_X6_holdsSign 1 0 0 n0 K 44 [some (zR t), some (zI v1), some (zI v2), some (zI v3), some (zI v4)] [zI y1_0] M 0 0)) (r_reti dX6_holdsSign_44 rfl (by decide) (zbool rfl) (k1 h1))))))) (fun h4 => (r_aload_n (i := 0) dX6_holdsSign_14 rfl rfl (r_gs (r := (t + 1)) dX6_holdsSign_15 fl_X6_9 rfl h_t.1 rfl rfl h_t.2.1 (r_iload (i := 4) dX6_holdsSign_18 rfl (r_cal (n := 32) dX6_holdsSign_20 h_t.2.2 (c1 h4) rfl (r_iload_n (i := 1) dX6_holdsSign_21 rfl rfl ((fun (J2 : ∀ y2_0 : Int, y2_0 = (if (gi M (t + 1) v4.toNat) = v1 then v3 + 1 else v3) → zGi B zy_X6_holdsSign 1 0 0 n0 K 28 [some (zR t), some (zI v1), some (zI v2), some (zI y2_0), some (zI v4)] [] M 0 0) => (r_icmp_ne (tgt := 28) dX6_holdsSign_22 (by decide) (fun h5 => (J2 v3 (by first | ((repeat' split) <;> omega) | simp_all | ((repeat' split) <;> simp_all)))) (fun h6 => (r_iinc (i := 3) dX6_holdsSign_25 rfl (c2 h4 h6) rfl (J2 (v3 + 1) (by first | ((repeat' split) <;> omega) | simp_all | ((repeat' split) <;> simp_all))))))) (zJ1 (P := (fun (y2_0 : Int) => zGi B zy_X6_holdsSign 1 0 0 n0 K 28 [some (zR t), some (zI v1), some (zI v2), some (zI y2_0), some (zI v4)] [] M 0 0)) (r_iinc (i := 4) dX6_holdsSign_28 rfl (c3 h4) rfl (r_goto (tgt := 5) dX6_holdsSign_31 (by decide) (k2 h4)))))))))))))))
theorem e_X6_holdsPair {B : zB} {K : Int → zM → Prop} {M : zM} {p1 p2 p3 : Int} {t : Nat} (k : ∀ n0, zGi B zy_X6_holdsPair 1 0 0 n0 K 0 [some (zR t), some (zI p1), some (zI p2), some (zI p3), none, none] [] M 0 0) :
    zCi B zy_X6_holdsPair 1 0 0 [zR t, zI p1, zI p2, zI p3] M K :=
  zMet.of mf_X6_holdsPair (Nat.le_of_ble_eq_true rfl) rfl (k _)
set_option maxRecDepth 4000 in
theorem b_X6_holdsPair_0 {B : zB} {n0 : Nat} {K : Int → zM → Prop} {M : zM} {p1 p2 p3 : Int} {t : Nat} (h_t : zTx t)
    (k1 : zGi B zy_X6_holdsPair 1 0 0 n0 K 6 [some (zR t), some (zI p1), some (zI p2), some (zI p3), some (zI 0), some (zI 0)] [] M 0 0) :
    zGi B zy_X6_holdsPair 1 0 0 n0 K 0 [some (zR t), some (zI p1), some (zI p2), some (zI p3), none, none] [] M 0 0 :=
  (r_iconst dX6_holdsPair_0 (by decide) (r_istore (i := 4) dX6_holdsPair_1 (Nat.le_of_ble_eq_true rfl) rfl (r_iconst dX6_holdsPair_3 (by decide) (r_istore (i := 5) dX6_holdsPair_4 (Nat.le_of_ble_eq_true rfl) rfl k1))))
set_option maxRecDepth 4000 in
theorem b_X6_holdsPair_6 {B : zB} {n0 : Nat} {K : Int → zM → Prop} {M : zM} {v1 v2 v3 v4 v5 : Int} {t : Nat} (h_t : zTx t)
    (k1 : (gi M t 1) ≤ v5 → K 0 M)
    (c1 : v5 < (gi M t 1) → v4 = 0 → 0 ≤ v5 ∧ v5 < 32)
    (c2 : v5 < (gi M t 1) → v4 = 0 → zin (v5 + 1))
    (k2 : v5 < (gi M t 1) → v4 = 0 → zGi B zy_X6_holdsPair 1 0 0 n0 K 6 [some (zR t), some (zI v1), some (zI v2), some (zI v3), some (zI (if (gi M (t + 1) v5.toNat) = v1 ∨ ((¬ v4 = 0) ∧ v3 = 0) then 1 else 0)), some (zI (v5 + 1))] [] M 0 0)
    (c3 : v5 < (gi M t 1) → ¬ v4 = 0 → 0 ≤ v5 ∧ v5 < 32)
    (c4 : v5 < (gi M t 1) → ¬ v4 = 0 → ¬ (gi M (t + 1) v5.toNat) = v2 → zin (v5 + 1))
    (k3 : v5 < (gi M t 1) → ¬ v4 = 0 → ¬ (gi M (t + 1) v5.toNat) = v2 → zGi B zy_X6_holdsPair 1 0 0 n0 K 6 [some (zR t), some (zI v1), some (zI v2), some (zI v3), some (zI (if (gi M (t + 1) v5.toNat) = v1 ∨ ((¬ v4 = 0) ∧ v3 = 0) then 1 else 0)), some (zI (v5 + 1))] [] M 0 0)
    (k4 : v5 < (gi M t 1) → ¬ v4 = 0 → (gi M (t + 1) v5.toNat) = v2 → K 1 M) :
    zGi B zy_X6_holdsPair 1 0 0 n0 K 6 [some (zR t), some (zI v1), some (zI v2), some (zI v3), some (zI v4), some (zI v5)] [] M 0 0 :=
  (r_iload (i := 5) dX6_holdsPair_6 rfl (r_aload_n (i := 0) dX6_holdsPair_8 rfl rfl (r_gi dX6_holdsPair_9 fl_X6_15 rfl h_t.1 rfl rfl (r_icmp_ge (tgt := 66) dX6_holdsPair_12 (by decide) (fun h1 => (r_iconst dX6_holdsPair_66 (by decide) (r_reti dX6_holdsPair_67 rfl (by decide) (Or.inl rfl) (k1 h1)))) (fun h2 => (r_iload (i := 4) dX6_holdsPair_15 rfl (r_if_eq (tgt := 33) dX6_holdsPair_17 (by decide) (fun h3 => (r_aload_n (i := 0) dX6_holdsPair_33 rfl rfl (r_gs (r := (t + 1)) dX6_holdsPair_34 fl_X6_9 rfl h_t.1 rfl rfl h_t.2.1 (r_iload (i := 5) dX6_holdsPair_37 rfl (r_cal (n := 32) dX6_holdsPair_39 h_t.2.2 (c1 h2 h3) rfl (r_iload_n (i := 1) dX6_holdsPair_40 rfl rfl ((fun (J1 : ∀ y1_0 : Int, y1_0 = (if (gi M (t + 1) v5.toNat) = v1 ∨ ((¬ v4 = 0) ∧ v3 = 0) then 1 else 0) → zGi B zy_X6_holdsPair 1 0 0 n0 K 58 [some (zR t), some (zI v1), some (zI v2), some (zI v3), some (zI v4), some (zI v5)] [zI y1_0] M 0 0) => (r_icmp_eq (tgt := 53) dX6_holdsPair_41 (by decide) (fun h4 => (r_iconst dX6_holdsPair_53 (by decide) (r_goto (tgt := 58) dX6_holdsPair_54 (by decide) (J1 1 (by first | ((repeat' split) <;> omega) | simp_all | ((repeat' split) <;> simp_all)))))) (fun h5 => (r_iload (i := 4) dX6_holdsPair_44 rfl (r_if_eq (tgt := 57) dX6_holdsPair_46 (by decide) (fun h6 => (r_iconst dX6_holdsPair_57 (by decide) (J1 0 (by first | ((repeat' split) <;> omega) | simp_all | ((repeat' split) <;> simp_all))))) (fun h7 => (r_iload_n (i := 3) dX6_holdsPair_49 rfl rfl (r_if_ne (tgt := 57) dX6_holdsPair_50 (by decide) (fun h8 => (r_iconst dX6_holdsPair_57 (by decide) (J1 0 (by first | ((repeat' split) <;> omega) | simp_all | ((repeat' split) <;> simp_all))))) (fun h9 => (r_iconst dX6_holdsPair_53 (by decide) (r_goto (tgt := 58) dX6_holdsPair_54 (by decide) (J1 1 (by first | ((repeat' split) <;> omega) | simp_all | ((repeat' split) <;> simp_all)))))))))))))) (zJ1 (P := (fun (y1_0 : Int) => zGi B zy_X6_holdsPair 1 0 0 n0 K 58 [some (zR t), some (zI v1), some (zI v2), some (zI v3), some (zI v4), some (zI v5)] [zI y1_0] M 0 0)) (r_istore (i := 4) dX6_holdsPair_58 (Nat.le_of_ble_eq_true rfl) rfl (r_iinc (i := 5) dX6_holdsPair_60 rfl (c2 h2 h3) rfl (r_goto (tgt := 6) dX6_holdsPair_63 (by decide) (k2 h2 h3)))))))))))) (fun h10 => (r_aload_n (i := 0) dX6_holdsPair_20 rfl rfl (r_gs (r := (t + 1)) dX6_holdsPair_21 fl_X6_9 rfl h_t.1 rfl rfl h_t.2.1 (r_iload (i := 5) dX6_holdsPair_24 rfl (r_cal (n := 32) dX6_holdsPair_26 h_t.2.2 (c3 h2 h10) rfl (r_iload_n (i := 2) dX6_holdsPair_27 rfl rfl (r_icmp_ne (tgt := 33) dX6_holdsPair_28 (by decide) (fun h11 => (r_aload_n (i := 0) dX6_holdsPair_33 rfl rfl (r_gs (r := (t + 1)) dX6_holdsPair_34 fl_X6_9 rfl h_t.1 rfl rfl h_t.2.1 (r_iload (i := 5) dX6_holdsPair_37 rfl (r_cal (n := 32) dX6_holdsPair_39 h_t.2.2 (c3 h2 h10) rfl (r_iload_n (i := 1) dX6_holdsPair_40 rfl rfl ((fun (J2 : ∀ y2_0 : Int, y2_0 = (if (gi M (t + 1) v5.toNat) = v1 ∨ ((¬ v4 = 0) ∧ v3 = 0) then 1 else 0) → zGi B zy_X6_holdsPair 1 0 0 n0 K 58 [some (zR t), some (zI v1), some (zI v2), some (zI v3), some (zI v4), some (zI v5)] [zI y2_0] M 0 0) => (r_icmp_eq (tgt := 53) dX6_holdsPair_41 (by decide) (fun h12 => (r_iconst dX6_holdsPair_53 (by decide) (r_goto (tgt := 58) dX6_holdsPair_54 (by decide) (J2 1 (by first | ((repeat' split) <;> omega) | simp_all | ((repeat' split) <;> simp_all)))))) (fun h13 => (r_iload (i := 4) dX6_holdsPair_44 rfl (r_if_eq (tgt := 57) dX6_holdsPair_46 (by decide) (fun h14 => (r_iconst dX6_holdsPair_57 (by decide) (J2 0 (by first | ((repeat' split) <;> omega) | simp_all | ((repeat' split) <;> simp_all))))) (fun h15 => (r_iload_n (i := 3) dX6_holdsPair_49 rfl rfl (r_if_ne (tgt := 57) dX6_holdsPair_50 (by decide) (fun h16 => (r_iconst dX6_holdsPair_57 (by decide) (J2 0 (by first | ((repeat' split) <;> omega) | simp_all | ((repeat' split) <;> simp_all))))) (fun h17 => (r_iconst dX6_holdsPair_53 (by decide) (r_goto (tgt := 58) dX6_holdsPair_54 (by decide) (J2 1 (by first | ((repeat' split) <;> omega) | simp_all | ((repeat' split) <;> simp_all)))))))))))))) (zJ1 (P := (fun (y2_0 : Int) => zGi B zy_X6_holdsPair 1 0 0 n0 K 58 [some (zR t), some (zI v1), some (zI v2), some (zI v3), some (zI v4), some (zI v5)] [zI y2_0] M 0 0)) (r_istore (i := 4) dX6_holdsPair_58 (Nat.le_of_ble_eq_true rfl) rfl (r_iinc (i := 5) dX6_holdsPair_60 rfl (c4 h2 h10 h11) rfl (r_goto (tgt := 6) dX6_holdsPair_63 (by decide) (k3 h2 h10 h11)))))))))))) (fun h18 => (r_iconst dX6_holdsPair_31 (by decide) (r_reti dX6_holdsPair_32 rfl (by decide) (Or.inr rfl) (k4 h2 h10 h18))))))))))))))))))
end
section
/-! ===== Text ===== -/
theorem m_X6_put {B : zB} {K : Int → zM → Prop} {M : zM} {p1 : Int} {t : Nat} {s : List Int} (ht : zTx t) (hs : tT M t s) (ho : s.length ≤ 32) (hp : 0 ≤ p1 ∧ p1 < 65536)
    (k1 : s.length < 32 → ∀ M', zSm [t, t + 1] M M' → tT M' t (s ++ [p1]) → K 1 M') (k2 : s.length = 32 → K 0 M) : zCi B zy_X6_put 1 0 0 [zR t, zI p1] M K := by
  have e := hs.1
  refine e_X6_put (fun n0 => ?_)
  apply b_X6_put_0 ht
  case k1 =>
    intro h
    refine k1 (by omega) _ ((zSm.rf.st (by simp)).st (by simp)) ⟨?_, ?_⟩
    · rw [gi_si_eq, if_pos rfl, e]
      simp
    · have e2 : (gi M t 1).toNat = s.length := by omega
      rw [e2]
      exact (hs.2.app1).same (gi_si_ne (by omega))
  case k2 => intro h; exact k2 (by omega)
  all_goals intros; omega
theorem take32_app {s d : List Int} (h : s.length = 32) : (s ++ d).take 32 = s := by
  rw [List.take_append_of_le_length (by omega), List.take_of_length_le (by omega)]
theorem drop_cons' {r : List Int} {i : Nat} (h : i < r.length) : r.drop i = r.getD i 0 :: r.drop (i + 1) := by
  rw [List.drop_eq_getElem_cons h]
  simp [List.getD, h]
theorem getD_take {r : List Int} {i n : Nat} (h : i < n) : (r.take n).getD i 0 = r.getD i 0 := by
  simp only [List.getD, List.getElem?_take]
  rw [if_pos h]
theorem l_X6_putSome {B : zB} {n0 : Nat} {K : zM → Prop} {v2 v3 : Int} {t u : Nat} (ht : zTx t) (hu : zTx u) (hd : t ≠ u ∧ t + 1 ≠ u ∧ t ≠ u + 1) {r : List Int} (hr : okS r) : ∀ (n : Nat) (v4 : Int) (M : zM) (s : List Int), 0 ≤ v4 → r.length ≤ v4.toNat + n → tT M t s → s.length ≤ 32 → tT M u r →
    (∀ M', zSm [t, t + 1] M M' → tT M' t ((s ++ (r.take v3.toNat).drop v4.toNat).take 32) → K M') → zGv B zy_X6_putSome 2 0 0 n0 K 3 [some (zR t), some (zR u), some (zI v2), some (zI v3), some (zI v4)] [] M 0 0 := by
  intro n
  induction n with
  | zero =>
    intro v4 M s h0 hn hs hso hur k
    have e := hur.1
    have kk : r.length ≤ v4.toNat → K M := fun q => k M zSm.rf (by
      rw [List.drop_eq_nil_of_le (by rw [List.length_take]; omega), List.append_nil, List.take_of_length_le hso]; exact hs)
    apply b_X6_putSome_3 ht hu
    all_goals intros
    all_goals first | omega | (apply kk; omega)
  | succ n ih =>
    intro v4 M s h0 hn hs hso hur k
    have e := hur.1
    have hrl := hr.1
    have kk : r.length ≤ v4.toNat ∨ v3 ≤ v4 → K M := fun q => k M zSm.rf (by
      rw [List.drop_eq_nil_of_le (by rw [List.length_take]; omega), List.append_nil, List.take_of_length_le hso]; exact hs)
    apply b_X6_putSome_3 ht hu
    case k4 =>
      intro h1 h2 h3
      have hi : v4.toNat < r.length := by omega
      have ed : (r.take v3.toNat).drop v4.toNat = r.getD v4.toNat 0 :: (r.take v3.toNat).drop (v4.toNat + 1) := by
        rw [drop_cons' (by rw [List.length_take]; omega), getD_take (by omega)]
      have e2 : (v4 + 1).toNat = v4.toNat + 1 := by omega
      rw [hur.2.get hi]
      refine m_X6_put ht hs hso (hr.get hi) (fun hl M' hf hs' => b_X6_putSome_34 ht hu (by omega) ?_) (fun hl => b_X6_putSome_34 ht hu (by omega) ?_)
      · refine ih _ M' _ (by omega) (by omega) hs' (by rw [List.length_append, List.length_singleton]; omega) (hur.fr hf (by simp; omega) (by simp; omega)) (fun M2 hf2 hs2 => k M2 (hf.tr hf2) ?_)
        rw [ed]
        rw [e2, List.append_assoc] at hs2
        exact hs2
      · refine ih _ M _ (by omega) (by omega) hs hso hur (fun M2 hf2 hs2 => k M2 hf2 ?_)
        rw [take32_app hl] at hs2 ⊢
        exact hs2
    all_goals intros
    all_goals first | omega | (apply kk; omega)
/-- puts the characters of u, from one place to before another one, behind those of t -/
theorem m_X6_putSome {B : zB} {K : zM → Prop} {M : zM} {p2 p3 : Int} {t u : Nat} {s r : List Int} (ht : zTx t) (hu : zTx u) (hd : t ≠ u ∧ t + 1 ≠ u ∧ t ≠ u + 1) (hs : tT M t s) (hso : s.length ≤ 32) (hur : tT M u r) (hr : okS r) (h2 : 0 ≤ p2)
    (k : ∀ M', zSm [t, t + 1] M M' → tT M' t ((s ++ (r.take p3.toNat).drop p2.toNat).take 32) → K M') : zCv B zy_X6_putSome 2 0 0 [zR t, zR u, zI p2, zI p3] M K :=
  e_X6_putSome (fun _ => b_X6_putSome_0 ht hu (l_X6_putSome ht hu hd hr r.length p2 M s h2 (by omega) hs hso hur k))
theorem m_X6_become {B : zB} {K : zM → Prop} {M : zM} {t u : Nat} {r : List Int} (ht : zTx t) (hu : zTx u) (hd : t ≠ u ∧ t + 1 ≠ u ∧ t ≠ u + 1) (hur : tT M u r) (hr : okS r)
    (k : ∀ M', zSm [t, t + 1] M M' → tT M' t r → K M') : zCv B zy_X6_become 3 0 0 [zR t, zR u] M K := by
  refine e_X6_become (fun _ => b_X6_become_0 ht hu ?_)
  have hf : zSm [t, t + 1] M (si M t 1 0) := zSm.rf.st (by simp)
  have e : gi (si M t 1 0) u 1 = (r.length : Int) := by rw [gi_si_ne (fun q => hd.1 q.symm)]; exact hur.1
  have hrl := hr.1
  rw [e]
  refine m_X6_putSome (s := []) ht hu hd ⟨by rw [gi_si_eq, if_pos rfl]; rfl, zA.nil⟩ (by simp) (hur.fr hf (by simp; omega) (by simp; omega)) hr (by omega) (fun M' hf' hs' => b_X6_become_15 ht hu (k M' (hf.tr hf') ?_))
  simpa [List.take_of_length_le hrl] using hs'
theorem l_X6_holdsSign {B : zB} {n0 : Nat} {K : Int → zM → Prop} {M : zM} {v1 v2 : Int} {t : Nat} (ht : zTx t) {s : List Int} (hs : tT M t s) (hso : s.length ≤ 32) (k : K (if v2 ≤ cntL v1 s then 1 else 0) M) : ∀ (n : Nat) (v4 : Int), 0 ≤ v4 → v4 ≤ s.length → s.length ≤ v4.toNat + n →
    zGi B zy_X6_holdsSign 1 0 0 n0 K 5 [some (zR t), some (zI v1), some (zI v2), some (zI (cntL v1 (s.take v4.toNat))), some (zI v4)] [] M 0 0 := by
  intro n
  have e := hs.1
  induction n with
  | zero =>
    intro v4 h0 h1 hn
    apply b_X6_holdsSign_5 ht
    case k1 => intro h; rw [List.take_of_length_le (by omega)]; exact k
    all_goals intros; omega
  | succ n ih =>
    intro v4 h0 h1 hn
    have hb := cntL_bd (c := v1) (s := s) v4.toNat (by omega)
    apply b_X6_holdsSign_5 ht
    case k1 => intro h; rw [List.take_of_length_le (by omega)]; exact k
    case k2 =>
      intro h
      have h2 := ih (v4 + 1) (by omega) (by omega) (by omega)
      rw [toNat_succ h0, cntL_take (by omega), ← hs.2.get (by omega)] at h2
      exact h2
    all_goals intros; omega
theorem p_X6_holdsSign {B : zB} {K : Int → zM → Prop} {M : zM} {p1 p2 : Int} {t : Nat} (ht : zTx t) {s : List Int} (hs : tT M t s) (hso : s.length ≤ 32) (k : K (if p2 ≤ cntL p1 s then 1 else 0) M) : zCi B zy_X6_holdsSign 1 0 0 [zR t, zI p1, zI p2] M K :=
  e_X6_holdsSign (fun _ => b_X6_holdsSign_0 ht (l_X6_holdsSign ht hs hso k s.length 0 (by omega) (by omega) (by simp)))
theorem l_X6_holdsPair {B : zB} {n0 : Nat} {K : Int → zM → Prop} {M : zM} {v1 v2 v3 : Int} {t : Nat} (ht : zTx t) {s : List Int} (hs : tT M t s) (hso : s.length ≤ 32) (k : K (if prL v1 v2 (decide (v3 ≠ 0)) s = true then 1 else 0) M) : ∀ (n : Nat) (v4 v5 : Int), 0 ≤ v5 → v5 ≤ s.length → s.length ≤ v5.toNat + n →
    (prF v1 v2 (decide (v3 ≠ 0)) (s.take v5.toNat)).1 = false → ((prF v1 v2 (decide (v3 ≠ 0)) (s.take v5.toNat)).2 = true ↔ ¬ v4 = 0) →
    zGi B zy_X6_holdsPair 1 0 0 n0 K 6 [some (zR t), some (zI v1), some (zI v2), some (zI v3), some (zI v4), some (zI v5)] [] M 0 0 := by
  intro n
  have e := hs.1
  have kend : ∀ v5 : Int, s.length ≤ v5.toNat → (prF v1 v2 (decide (v3 ≠ 0)) (s.take v5.toNat)).1 = false → K 0 M := fun v5 h h2 => by
    rw [List.take_of_length_le h] at h2
    have : ¬ prL v1 v2 (decide (v3 ≠ 0)) s = true := by
      unfold prL; rw [h2]; decide
    rw [if_neg this] at k
    exact k
  induction n with
  | zero =>
    intro v4 v5 h0 h1 hn hp1 hp2
    apply b_X6_holdsPair_6 ht
    case k1 => intro h; exact kend v5 (by omega) hp1
    all_goals intros; omega
  | succ n ih =>
    intro v4 v5 h0 h1 hn hp1 hp2
    have step : v5 < (gi M t 1) → prF v1 v2 (decide (v3 ≠ 0)) (s.take (v5 + 1).toNat) = prS v1 v2 (decide (v3 ≠ 0)) (prF v1 v2 (decide (v3 ≠ 0)) (s.take v5.toNat)) (gi M (t + 1) v5.toNat) := fun h => by
      rw [toNat_succ h0, prF_take (by omega), hs.2.get (by omega)]
    have p2 : v5 < (gi M t 1) → (v4 = 0 ∨ ¬ gi M (t + 1) v5.toNat = v2) → zGi B zy_X6_holdsPair 1 0 0 n0 K 6 [some (zR t), some (zI v1), some (zI v2), some (zI v3), some (zI (if (gi M (t + 1) v5.toNat) = v1 ∨ ((¬ v4 = 0) ∧ v3 = 0) then 1 else 0)), some (zI (v5 + 1))] [] M 0 0 := fun h h3 => by
      refine ih _ (v5 + 1) (by omega) (by omega) (by omega) ?_ ?_
      · rw [step h]
        unfold prS
        rw [hp1]
        rcases h3 with h3 | h3
        · have : (prF v1 v2 (decide (v3 ≠ 0)) (s.take v5.toNat)).2 = false := by
            cases hq : (prF v1 v2 (decide (v3 ≠ 0)) (s.take v5.toNat)).2 with
            | false => rfl
            | true => exact absurd h3 (hp2.mp hq)
          rw [this]; simp
        · simp [h3]
      · rw [step h]
        unfold prS
        simp only [Bool.or_eq_true, Bool.and_eq_true, decide_eq_true_eq, hp2, Bool.not_eq_true', decide_eq_false_iff_not, Decidable.not_not, ne_eq]
        split <;> simp_all
    apply b_X6_holdsPair_6 ht
    case k1 => intro h; exact kend v5 (by omega) hp1
    case k2 => intro h h3; exact p2 h (Or.inl h3)
    case k3 => intro h h3 h4; exact p2 h (Or.inr h4)
    case k4 =>
      intro h h3 h4
      have h5 : prL v1 v2 (decide (v3 ≠ 0)) s = true := by
        refine prL_all (i := (v5 + 1).toNat) ?_ (by omega)
        rw [step h]
        unfold prS
        rw [hp1, hp2.mpr h3, h4]
        simp
      rw [if_pos h5] at k
      exact k
    all_goals intros; omega
theorem p_X6_holdsPair {B : zB} {K : Int → zM → Prop} {M : zM} {p1 p2 p3 : Int} {t : Nat} (ht : zTx t) {s : List Int} (hs : tT M t s) (hso : s.length ≤ 32) (k : K (if prL p1 p2 (decide (p3 ≠ 0)) s = true then 1 else 0) M) : zCi B zy_X6_holdsPair 1 0 0 [zR t, zI p1, zI p2, zI p3] M K :=
  e_X6_holdsPair (fun _ => b_X6_holdsPair_0 ht (l_X6_holdsPair ht hs hso k s.length 0 0 (by omega) (by omega) (by simp) rfl (by simp [prF])))
end
