section
-- ===== PART A: goes FIRST, ahead of the names: the tables' words, and 'selects' of the private methods out of them =====
/-- a private method of a class that the tables say can be made, by its rows of tables_1 -/
def lw_okq (q : MethodName × Nat) : Prop := (q.1.cls ≠ "java/lang/invoke/MethodHandle" ∧ q.1.cls ≠ "java/lang/invoke/VarHandle") ∧ Cond.instantiable q.1.cls q.2 ∈ tables_1 ∧ Cond.privateMethod q.1 ∈ tables_1 ∧ Cond.instanceMethod q.1 ∈ tables_1
theorem lw_p0 : lw_okq (⟨"HeadHill$Text", "takeNumber", "()V"⟩, 7) := ⟨⟨by decide +kernel, by decide +kernel⟩, List.mem_of_getElem? (i := 37) (by decide +kernel), List.mem_of_getElem? (i := 461) (by decide +kernel), List.mem_of_getElem? (i := 462) (by decide +kernel)⟩
theorem lw_p1 : lw_okq (⟨"HeadHill$Text", "takeWord", "()V"⟩, 7) := ⟨⟨by decide +kernel, by decide +kernel⟩, List.mem_of_getElem? (i := 37) (by decide +kernel), List.mem_of_getElem? (i := 468) (by decide +kernel), List.mem_of_getElem? (i := 469) (by decide +kernel)⟩
theorem lw_p2 : lw_okq (⟨"HeadHill$Text", "takeSign", "()V"⟩, 7) := ⟨⟨by decide +kernel, by decide +kernel⟩, List.mem_of_getElem? (i := 37) (by decide +kernel), List.mem_of_getElem? (i := 521) (by decide +kernel), List.mem_of_getElem? (i := 522) (by decide +kernel)⟩
theorem lw_p3 : lw_okq (⟨"HeadHill$Hill", "readClause", "(LHeadHill$Text;I)V"⟩, 8) := ⟨⟨by decide +kernel, by decide +kernel⟩, List.mem_of_getElem? (i := 399) (by decide +kernel), List.mem_of_getElem? (i := 525) (by decide +kernel), List.mem_of_getElem? (i := 526) (by decide +kernel)⟩
theorem lw_p4 : lw_okq (⟨"HeadHill$RuleReader", "takeOne", "()V"⟩, 11) := ⟨⟨by decide +kernel, by decide +kernel⟩, List.mem_of_getElem? (i := 31) (by decide +kernel), List.mem_of_getElem? (i := 568) (by decide +kernel), List.mem_of_getElem? (i := 569) (by decide +kernel)⟩
theorem lw_p5 : lw_okq (⟨"HeadHill$RuleReader", "takeRun", "()V"⟩, 11) := ⟨⟨by decide +kernel, by decide +kernel⟩, List.mem_of_getElem? (i := 31) (by decide +kernel), List.mem_of_getElem? (i := 572) (by decide +kernel), List.mem_of_getElem? (i := 573) (by decide +kernel)⟩
theorem lw_p6 : lw_okq (⟨"HeadHill$RuleReader", "takeValue", "(I)V"⟩, 11) := ⟨⟨by decide +kernel, by decide +kernel⟩, List.mem_of_getElem? (i := 31) (by decide +kernel), List.mem_of_getElem? (i := 578) (by decide +kernel), List.mem_of_getElem? (i := 579) (by decide +kernel)⟩
theorem lw_p7 : lw_okq (⟨"HeadHill$RuleReader", "countPart", "()V"⟩, 11) := ⟨⟨by decide +kernel, by decide +kernel⟩, List.mem_of_getElem? (i := 31) (by decide +kernel), List.mem_of_getElem? (i := 582) (by decide +kernel), List.mem_of_getElem? (i := 583) (by decide +kernel)⟩
theorem lw_p8 : lw_okq (⟨"HeadHill$RuleReader", "addStep", "(I)V"⟩, 11) := ⟨⟨by decide +kernel, by decide +kernel⟩, List.mem_of_getElem? (i := 31) (by decide +kernel), List.mem_of_getElem? (i := 586) (by decide +kernel), List.mem_of_getElem? (i := 587) (by decide +kernel)⟩
theorem lw_p9 : lw_okq (⟨"HeadHill$RuleReader", "takeFact", "()V"⟩, 11) := ⟨⟨by decide +kernel, by decide +kernel⟩, List.mem_of_getElem? (i := 31) (by decide +kernel), List.mem_of_getElem? (i := 590) (by decide +kernel), List.mem_of_getElem? (i := 591) (by decide +kernel)⟩
theorem lw_p10 : lw_okq (⟨"HeadHill$RuleReader", "pile", "(I)V"⟩, 11) := ⟨⟨by decide +kernel, by decide +kernel⟩, List.mem_of_getElem? (i := 31) (by decide +kernel), List.mem_of_getElem? (i := 595) (by decide +kernel), List.mem_of_getElem? (i := 596) (by decide +kernel)⟩
theorem lw_p11 : lw_okq (⟨"HeadHill$RuleReader", "goOn", "()V"⟩, 11) := ⟨⟨by decide +kernel, by decide +kernel⟩, List.mem_of_getElem? (i := 31) (by decide +kernel), List.mem_of_getElem? (i := 599) (by decide +kernel), List.mem_of_getElem? (i := 600) (by decide +kernel)⟩
theorem lw_p12 : lw_okq (⟨"HeadHill$RuleReader", "stepOfToken", "()I"⟩, 11) := ⟨⟨by decide +kernel, by decide +kernel⟩, List.mem_of_getElem? (i := 31) (by decide +kernel), List.mem_of_getElem? (i := 603) (by decide +kernel), List.mem_of_getElem? (i := 604) (by decide +kernel)⟩
theorem lw_p13 : lw_okq (⟨"HeadHill$RuleReader", "join", "(I)V"⟩, 11) := ⟨⟨by decide +kernel, by decide +kernel⟩, List.mem_of_getElem? (i := 31) (by decide +kernel), List.mem_of_getElem? (i := 613) (by decide +kernel), List.mem_of_getElem? (i := 614) (by decide +kernel)⟩
theorem lw_p14 : lw_okq (⟨"HeadHill$RuleReader", "release", "(I)V"⟩, 11) := ⟨⟨by decide +kernel, by decide +kernel⟩, List.mem_of_getElem? (i := 31) (by decide +kernel), List.mem_of_getElem? (i := 617) (by decide +kernel), List.mem_of_getElem? (i := 618) (by decide +kernel)⟩
theorem lw_p15 : lw_okq (⟨"HeadHill$RuleReader", "endSum", "()V"⟩, 11) := ⟨⟨by decide +kernel, by decide +kernel⟩, List.mem_of_getElem? (i := 31) (by decide +kernel), List.mem_of_getElem? (i := 621) (by decide +kernel), List.mem_of_getElem? (i := 622) (by decide +kernel)⟩
def lw_privs_1 : List (MethodName × Nat) := [(⟨"HeadHill$Text", "takeNumber", "()V"⟩, 7), (⟨"HeadHill$Text", "takeWord", "()V"⟩, 7), (⟨"HeadHill$Text", "takeSign", "()V"⟩, 7), (⟨"HeadHill$Hill", "readClause", "(LHeadHill$Text;I)V"⟩, 8), (⟨"HeadHill$RuleReader", "takeOne", "()V"⟩, 11), (⟨"HeadHill$RuleReader", "takeRun", "()V"⟩, 11), (⟨"HeadHill$RuleReader", "takeValue", "(I)V"⟩, 11), (⟨"HeadHill$RuleReader", "countPart", "()V"⟩, 11), (⟨"HeadHill$RuleReader", "addStep", "(I)V"⟩, 11), (⟨"HeadHill$RuleReader", "takeFact", "()V"⟩, 11), (⟨"HeadHill$RuleReader", "pile", "(I)V"⟩, 11), (⟨"HeadHill$RuleReader", "goOn", "()V"⟩, 11), (⟨"HeadHill$RuleReader", "stepOfToken", "()I"⟩, 11), (⟨"HeadHill$RuleReader", "join", "(I)V"⟩, 11), (⟨"HeadHill$RuleReader", "release", "(I)V"⟩, 11), (⟨"HeadHill$RuleReader", "endSum", "()V"⟩, 11)]
theorem lw_r1 : ∀ q ∈ lw_privs_1, lw_okq q := List.forall_mem_cons.mpr ⟨lw_p0, List.forall_mem_cons.mpr ⟨lw_p1, List.forall_mem_cons.mpr ⟨lw_p2, List.forall_mem_cons.mpr ⟨lw_p3, List.forall_mem_cons.mpr ⟨lw_p4, List.forall_mem_cons.mpr ⟨lw_p5, List.forall_mem_cons.mpr ⟨lw_p6, List.forall_mem_cons.mpr ⟨lw_p7, List.forall_mem_cons.mpr ⟨lw_p8, List.forall_mem_cons.mpr ⟨lw_p9, List.forall_mem_cons.mpr ⟨lw_p10, List.forall_mem_cons.mpr ⟨lw_p11, List.forall_mem_cons.mpr ⟨lw_p12, List.forall_mem_cons.mpr ⟨lw_p13, List.forall_mem_cons.mpr ⟨lw_p14, List.forall_mem_cons.mpr ⟨lw_p15, fun _ h => absurd h List.not_mem_nil⟩⟩⟩⟩⟩⟩⟩⟩⟩⟩⟩⟩⟩⟩⟩⟩
theorem lw_p16 : lw_okq (⟨"HeadHill$RuleReader", "closeBracket", "()V"⟩, 11) := ⟨⟨by decide +kernel, by decide +kernel⟩, List.mem_of_getElem? (i := 31) (by decide +kernel), List.mem_of_getElem? (i := 625) (by decide +kernel), List.mem_of_getElem? (i := 626) (by decide +kernel)⟩
theorem lw_p17 : lw_okq (⟨"HeadHill$RuleReader", "isClauseEnd", "()Z"⟩, 11) := ⟨⟨by decide +kernel, by decide +kernel⟩, List.mem_of_getElem? (i := 31) (by decide +kernel), List.mem_of_getElem? (i := 629) (by decide +kernel), List.mem_of_getElem? (i := 630) (by decide +kernel)⟩
theorem lw_p18 : lw_okq (⟨"HeadHill$RuleReader", "endClause", "()V"⟩, 11) := ⟨⟨by decide +kernel, by decide +kernel⟩, List.mem_of_getElem? (i := 31) (by decide +kernel), List.mem_of_getElem? (i := 633) (by decide +kernel), List.mem_of_getElem? (i := 634) (by decide +kernel)⟩
theorem lw_p19 : lw_okq (⟨"HeadHill$Town", "forgetOldest", "()V"⟩, 10) := ⟨⟨by decide +kernel, by decide +kernel⟩, List.mem_of_getElem? (i := 111) (by decide +kernel), List.mem_of_getElem? (i := 700) (by decide +kernel), List.mem_of_getElem? (i := 701) (by decide +kernel)⟩
theorem lw_p20 : lw_okq (⟨"HeadHill$Town", "keep", "(ILHeadHill$Moment;)V"⟩, 10) := ⟨⟨by decide +kernel, by decide +kernel⟩, List.mem_of_getElem? (i := 111) (by decide +kernel), List.mem_of_getElem? (i := 704) (by decide +kernel), List.mem_of_getElem? (i := 705) (by decide +kernel)⟩
theorem lw_p21 : lw_okq (⟨"HeadHill", "ruleInForce", "()LHeadHill$Rule;"⟩, 11) := ⟨⟨by decide +kernel, by decide +kernel⟩, List.mem_of_getElem? (i := 23) (by decide +kernel), List.mem_of_getElem? (i := 712) (by decide +kernel), List.mem_of_getElem? (i := 713) (by decide +kernel)⟩
theorem lw_p22 : lw_okq (⟨"HeadHill$Course", "bestBy", "(LHeadHill$Rule;LHeadHill$Hill;LHeadHill$Moment;I)I"⟩, 4) := ⟨⟨by decide +kernel, by decide +kernel⟩, List.mem_of_getElem? (i := 213) (by decide +kernel), List.mem_of_getElem? (i := 727) (by decide +kernel), List.mem_of_getElem? (i := 728) (by decide +kernel)⟩
theorem lw_p23 : lw_okq (⟨"HeadHill$Course", "tellRunner", "(LHeadHill$Hill;LHeadHill$Moment;I)V"⟩, 4) := ⟨⟨by decide +kernel, by decide +kernel⟩, List.mem_of_getElem? (i := 213) (by decide +kernel), List.mem_of_getElem? (i := 731) (by decide +kernel), List.mem_of_getElem? (i := 732) (by decide +kernel)⟩
theorem lw_p24 : lw_okq (⟨"HeadHill$Course", "tellWare", "(LHeadHill$Hill;LHeadHill$Moment;II)V"⟩, 4) := ⟨⟨by decide +kernel, by decide +kernel⟩, List.mem_of_getElem? (i := 213) (by decide +kernel), List.mem_of_getElem? (i := 746) (by decide +kernel), List.mem_of_getElem? (i := 747) (by decide +kernel)⟩
theorem lw_p25 : lw_okq (⟨"HeadHill$Rule", "work", "(II[J[J)J"⟩, 3) := ⟨⟨by decide +kernel, by decide +kernel⟩, List.mem_of_getElem? (i := 638) (by decide +kernel), List.mem_of_getElem? (i := 754) (by decide +kernel), List.mem_of_getElem? (i := 755) (by decide +kernel)⟩
theorem lw_p26 : lw_okq (⟨"HeadHill$Course", "firstTo", "(ILHeadHill$Hill;LHeadHill$Moment;)I"⟩, 4) := ⟨⟨by decide +kernel, by decide +kernel⟩, List.mem_of_getElem? (i := 213) (by decide +kernel), List.mem_of_getElem? (i := 761) (by decide +kernel), List.mem_of_getElem? (i := 762) (by decide +kernel)⟩
theorem lw_p27 : lw_okq (⟨"HeadHill$Course", "reward", "(LHeadHill$Hill;LHeadHill$Moment;)V"⟩, 4) := ⟨⟨by decide +kernel, by decide +kernel⟩, List.mem_of_getElem? (i := 213) (by decide +kernel), List.mem_of_getElem? (i := 769) (by decide +kernel), List.mem_of_getElem? (i := 770) (by decide +kernel)⟩
theorem lw_p28 : lw_okq (⟨"HeadHill$Course", "payRivals", "(IILHeadHill$Hill;LHeadHill$Moment;)V"⟩, 4) := ⟨⟨by decide +kernel, by decide +kernel⟩, List.mem_of_getElem? (i := 213) (by decide +kernel), List.mem_of_getElem? (i := 774) (by decide +kernel), List.mem_of_getElem? (i := 775) (by decide +kernel)⟩
theorem lw_p29 : lw_okq (⟨"HeadHill$Future", "reaches", "(IIII)Z"⟩, 5) := ⟨⟨by decide +kernel, by decide +kernel⟩, List.mem_of_getElem? (i := 237) (by decide +kernel), List.mem_of_getElem? (i := 848) (by decide +kernel), List.mem_of_getElem? (i := 849) (by decide +kernel)⟩
theorem lw_p30 : lw_okq (⟨"HeadHill$Choices", "tryRows", "(IIILHeadHill$Moment;)V"⟩, 11) := ⟨⟨by decide +kernel, by decide +kernel⟩, List.mem_of_getElem? (i := 264) (by decide +kernel), List.mem_of_getElem? (i := 874) (by decide +kernel), List.mem_of_getElem? (i := 875) (by decide +kernel)⟩
theorem lw_p31 : lw_okq (⟨"HeadHill$Choices", "weighRow", "(I)V"⟩, 11) := ⟨⟨by decide +kernel, by decide +kernel⟩, List.mem_of_getElem? (i := 264) (by decide +kernel), List.mem_of_getElem? (i := 878) (by decide +kernel), List.mem_of_getElem? (i := 879) (by decide +kernel)⟩
def lw_privs_2 : List (MethodName × Nat) := [(⟨"HeadHill$RuleReader", "closeBracket", "()V"⟩, 11), (⟨"HeadHill$RuleReader", "isClauseEnd", "()Z"⟩, 11), (⟨"HeadHill$RuleReader", "endClause", "()V"⟩, 11), (⟨"HeadHill$Town", "forgetOldest", "()V"⟩, 10), (⟨"HeadHill$Town", "keep", "(ILHeadHill$Moment;)V"⟩, 10), (⟨"HeadHill", "ruleInForce", "()LHeadHill$Rule;"⟩, 11), (⟨"HeadHill$Course", "bestBy", "(LHeadHill$Rule;LHeadHill$Hill;LHeadHill$Moment;I)I"⟩, 4), (⟨"HeadHill$Course", "tellRunner", "(LHeadHill$Hill;LHeadHill$Moment;I)V"⟩, 4), (⟨"HeadHill$Course", "tellWare", "(LHeadHill$Hill;LHeadHill$Moment;II)V"⟩, 4), (⟨"HeadHill$Rule", "work", "(II[J[J)J"⟩, 3), (⟨"HeadHill$Course", "firstTo", "(ILHeadHill$Hill;LHeadHill$Moment;)I"⟩, 4), (⟨"HeadHill$Course", "reward", "(LHeadHill$Hill;LHeadHill$Moment;)V"⟩, 4), (⟨"HeadHill$Course", "payRivals", "(IILHeadHill$Hill;LHeadHill$Moment;)V"⟩, 4), (⟨"HeadHill$Future", "reaches", "(IIII)Z"⟩, 5), (⟨"HeadHill$Choices", "tryRows", "(IIILHeadHill$Moment;)V"⟩, 11), (⟨"HeadHill$Choices", "weighRow", "(I)V"⟩, 11)]
theorem lw_r2 : ∀ q ∈ lw_privs_2, lw_okq q := List.forall_mem_cons.mpr ⟨lw_p16, List.forall_mem_cons.mpr ⟨lw_p17, List.forall_mem_cons.mpr ⟨lw_p18, List.forall_mem_cons.mpr ⟨lw_p19, List.forall_mem_cons.mpr ⟨lw_p20, List.forall_mem_cons.mpr ⟨lw_p21, List.forall_mem_cons.mpr ⟨lw_p22, List.forall_mem_cons.mpr ⟨lw_p23, List.forall_mem_cons.mpr ⟨lw_p24, List.forall_mem_cons.mpr ⟨lw_p25, List.forall_mem_cons.mpr ⟨lw_p26, List.forall_mem_cons.mpr ⟨lw_p27, List.forall_mem_cons.mpr ⟨lw_p28, List.forall_mem_cons.mpr ⟨lw_p29, List.forall_mem_cons.mpr ⟨lw_p30, List.forall_mem_cons.mpr ⟨lw_p31, fun _ h => absurd h List.not_mem_nil⟩⟩⟩⟩⟩⟩⟩⟩⟩⟩⟩⟩⟩⟩⟩⟩
theorem lw_p32 : lw_okq (⟨"HeadHill$Choices", "mayRunFor", "(II)Z"⟩, 11) := ⟨⟨by decide +kernel, by decide +kernel⟩, List.mem_of_getElem? (i := 264) (by decide +kernel), List.mem_of_getElem? (i := 883) (by decide +kernel), List.mem_of_getElem? (i := 884) (by decide +kernel)⟩
theorem lw_p33 : lw_okq (⟨"HeadHill$Choices", "weighTwos", "(II)V"⟩, 11) := ⟨⟨by decide +kernel, by decide +kernel⟩, List.mem_of_getElem? (i := 264) (by decide +kernel), List.mem_of_getElem? (i := 936) (by decide +kernel), List.mem_of_getElem? (i := 937) (by decide +kernel)⟩
theorem lw_p34 : lw_okq (⟨"HeadHill$Choices", "hasThen", "(I)I"⟩, 11) := ⟨⟨by decide +kernel, by decide +kernel⟩, List.mem_of_getElem? (i := 264) (by decide +kernel), List.mem_of_getElem? (i := 940) (by decide +kernel), List.mem_of_getElem? (i := 941) (by decide +kernel)⟩
theorem lw_p35 : lw_okq (⟨"HeadHill$Choices", "isRest", "(III)Z"⟩, 11) := ⟨⟨by decide +kernel, by decide +kernel⟩, List.mem_of_getElem? (i := 264) (by decide +kernel), List.mem_of_getElem? (i := 944) (by decide +kernel), List.mem_of_getElem? (i := 945) (by decide +kernel)⟩
theorem lw_p36 : lw_okq (⟨"HeadHill$Witness", "fits", "(LHeadHill$Town;LHeadHill$Rule;I)Z"⟩, 5) := ⟨⟨by decide +kernel, by decide +kernel⟩, List.mem_of_getElem? (i := 310) (by decide +kernel), List.mem_of_getElem? (i := 972) (by decide +kernel), List.mem_of_getElem? (i := 973) (by decide +kernel)⟩
theorem lw_p37 : lw_okq (⟨"HeadHill$Witness", "agrees", "(LHeadHill$Town;I)Z"⟩, 5) := ⟨⟨by decide +kernel, by decide +kernel⟩, List.mem_of_getElem? (i := 310) (by decide +kernel), List.mem_of_getElem? (i := 982) (by decide +kernel), List.mem_of_getElem? (i := 983) (by decide +kernel)⟩
theorem lw_p38 : lw_okq (⟨"HeadHill$Witness", "mostAlike", "(I)I"⟩, 5) := ⟨⟨by decide +kernel, by decide +kernel⟩, List.mem_of_getElem? (i := 310) (by decide +kernel), List.mem_of_getElem? (i := 995) (by decide +kernel), List.mem_of_getElem? (i := 996) (by decide +kernel)⟩
theorem lw_p39 : lw_okq (⟨"HeadHill$Future", "drawFall", "(I)V"⟩, 5) := ⟨⟨by decide +kernel, by decide +kernel⟩, List.mem_of_getElem? (i := 237) (by decide +kernel), List.mem_of_getElem? (i := 1011) (by decide +kernel), List.mem_of_getElem? (i := 1012) (by decide +kernel)⟩
theorem lw_p40 : lw_okq (⟨"HeadHill$Future", "draw", "()I"⟩, 5) := ⟨⟨by decide +kernel, by decide +kernel⟩, List.mem_of_getElem? (i := 237) (by decide +kernel), List.mem_of_getElem? (i := 1015) (by decide +kernel), List.mem_of_getElem? (i := 1016) (by decide +kernel)⟩
theorem lw_p41 : lw_okq (⟨"HeadHill$Future", "gain", "()I"⟩, 5) := ⟨⟨by decide +kernel, by decide +kernel⟩, List.mem_of_getElem? (i := 237) (by decide +kernel), List.mem_of_getElem? (i := 1023) (by decide +kernel), List.mem_of_getElem? (i := 1024) (by decide +kernel)⟩
theorem lw_p42 : lw_okq (⟨"HeadHill$Future", "greatestPurse", "()I"⟩, 5) := ⟨⟨by decide +kernel, by decide +kernel⟩, List.mem_of_getElem? (i := 237) (by decide +kernel), List.mem_of_getElem? (i := 1027) (by decide +kernel), List.mem_of_getElem? (i := 1028) (by decide +kernel)⟩
theorem lw_p43 : lw_okq (⟨"HeadHillModel", "put", "(I)V"⟩, 59) := ⟨⟨by decide +kernel, by decide +kernel⟩, List.mem_of_getElem? (i := 1059) (by decide +kernel), List.mem_of_getElem? (i := 1247) (by decide +kernel), List.mem_of_getElem? (i := 1248) (by decide +kernel)⟩
theorem lw_p44 : lw_okq (⟨"HeadHillModel", "readsAll", "()V"⟩, 59) := ⟨⟨by decide +kernel, by decide +kernel⟩, List.mem_of_getElem? (i := 1059) (by decide +kernel), List.mem_of_getElem? (i := 1259) (by decide +kernel), List.mem_of_getElem? (i := 1260) (by decide +kernel)⟩
theorem lw_p45 : lw_okq (⟨"HeadHillModel", "starts", "()V"⟩, 59) := ⟨⟨by decide +kernel, by decide +kernel⟩, List.mem_of_getElem? (i := 1059) (by decide +kernel), List.mem_of_getElem? (i := 1263) (by decide +kernel), List.mem_of_getElem? (i := 1264) (by decide +kernel)⟩
theorem lw_p46 : lw_okq (⟨"HeadHillModel", "hillClause", "(I)V"⟩, 59) := ⟨⟨by decide +kernel, by decide +kernel⟩, List.mem_of_getElem? (i := 1059) (by decide +kernel), List.mem_of_getElem? (i := 1267) (by decide +kernel), List.mem_of_getElem? (i := 1268) (by decide +kernel)⟩
theorem lw_p47 : lw_okq (⟨"HeadHillModel", "blanks", "()V"⟩, 59) := ⟨⟨by decide +kernel, by decide +kernel⟩, List.mem_of_getElem? (i := 1059) (by decide +kernel), List.mem_of_getElem? (i := 1271) (by decide +kernel), List.mem_of_getElem? (i := 1272) (by decide +kernel)⟩
def lw_privs_3 : List (MethodName × Nat) := [(⟨"HeadHill$Choices", "mayRunFor", "(II)Z"⟩, 11), (⟨"HeadHill$Choices", "weighTwos", "(II)V"⟩, 11), (⟨"HeadHill$Choices", "hasThen", "(I)I"⟩, 11), (⟨"HeadHill$Choices", "isRest", "(III)Z"⟩, 11), (⟨"HeadHill$Witness", "fits", "(LHeadHill$Town;LHeadHill$Rule;I)Z"⟩, 5), (⟨"HeadHill$Witness", "agrees", "(LHeadHill$Town;I)Z"⟩, 5), (⟨"HeadHill$Witness", "mostAlike", "(I)I"⟩, 5), (⟨"HeadHill$Future", "drawFall", "(I)V"⟩, 5), (⟨"HeadHill$Future", "draw", "()I"⟩, 5), (⟨"HeadHill$Future", "gain", "()I"⟩, 5), (⟨"HeadHill$Future", "greatestPurse", "()I"⟩, 5), (⟨"HeadHillModel", "put", "(I)V"⟩, 59), (⟨"HeadHillModel", "readsAll", "()V"⟩, 59), (⟨"HeadHillModel", "starts", "()V"⟩, 59), (⟨"HeadHillModel", "hillClause", "(I)V"⟩, 59), (⟨"HeadHillModel", "blanks", "()V"⟩, 59)]
theorem lw_r3 : ∀ q ∈ lw_privs_3, lw_okq q := List.forall_mem_cons.mpr ⟨lw_p32, List.forall_mem_cons.mpr ⟨lw_p33, List.forall_mem_cons.mpr ⟨lw_p34, List.forall_mem_cons.mpr ⟨lw_p35, List.forall_mem_cons.mpr ⟨lw_p36, List.forall_mem_cons.mpr ⟨lw_p37, List.forall_mem_cons.mpr ⟨lw_p38, List.forall_mem_cons.mpr ⟨lw_p39, List.forall_mem_cons.mpr ⟨lw_p40, List.forall_mem_cons.mpr ⟨lw_p41, List.forall_mem_cons.mpr ⟨lw_p42, List.forall_mem_cons.mpr ⟨lw_p43, List.forall_mem_cons.mpr ⟨lw_p44, List.forall_mem_cons.mpr ⟨lw_p45, List.forall_mem_cons.mpr ⟨lw_p46, List.forall_mem_cons.mpr ⟨lw_p47, fun _ h => absurd h List.not_mem_nil⟩⟩⟩⟩⟩⟩⟩⟩⟩⟩⟩⟩⟩⟩⟩⟩
theorem lw_p48 : lw_okq (⟨"HeadHillModel", "sign", "()I"⟩, 59) := ⟨⟨by decide +kernel, by decide +kernel⟩, List.mem_of_getElem? (i := 1059) (by decide +kernel), List.mem_of_getElem? (i := 1275) (by decide +kernel), List.mem_of_getElem? (i := 1276) (by decide +kernel)⟩
theorem lw_p49 : lw_okq (⟨"HeadHillModel", "stood", "(Ljava/lang/String;)Z"⟩, 59) := ⟨⟨by decide +kernel, by decide +kernel⟩, List.mem_of_getElem? (i := 1059) (by decide +kernel), List.mem_of_getElem? (i := 1285) (by decide +kernel), List.mem_of_getElem? (i := 1286) (by decide +kernel)⟩
theorem lw_p50 : lw_okq (⟨"HeadHillModel", "fails", "(II)V"⟩, 59) := ⟨⟨by decide +kernel, by decide +kernel⟩, List.mem_of_getElem? (i := 1059) (by decide +kernel), List.mem_of_getElem? (i := 1291) (by decide +kernel), List.mem_of_getElem? (i := 1292) (by decide +kernel)⟩
theorem lw_p51 : lw_okq (⟨"HeadHillModel", "isFull", "(II)Z"⟩, 59) := ⟨⟨by decide +kernel, by decide +kernel⟩, List.mem_of_getElem? (i := 1059) (by decide +kernel), List.mem_of_getElem? (i := 1295) (by decide +kernel), List.mem_of_getElem? (i := 1296) (by decide +kernel)⟩
theorem lw_p52 : lw_okq (⟨"HeadHillModel", "hillPart", "(I)V"⟩, 59) := ⟨⟨by decide +kernel, by decide +kernel⟩, List.mem_of_getElem? (i := 1059) (by decide +kernel), List.mem_of_getElem? (i := 1299) (by decide +kernel), List.mem_of_getElem? (i := 1300) (by decide +kernel)⟩
theorem lw_p53 : lw_okq (⟨"HeadHillModel", "amount", "(II)I"⟩, 59) := ⟨⟨by decide +kernel, by decide +kernel⟩, List.mem_of_getElem? (i := 1059) (by decide +kernel), List.mem_of_getElem? (i := 1303) (by decide +kernel), List.mem_of_getElem? (i := 1304) (by decide +kernel)⟩
theorem lw_p54 : lw_okq (⟨"HeadHillModel", "digits", "(I)I"⟩, 59) := ⟨⟨by decide +kernel, by decide +kernel⟩, List.mem_of_getElem? (i := 1059) (by decide +kernel), List.mem_of_getElem? (i := 1308) (by decide +kernel), List.mem_of_getElem? (i := 1309) (by decide +kernel)⟩
theorem lw_p55 : lw_okq (⟨"HeadHillModel", "isDigit", "()Z"⟩, 59) := ⟨⟨by decide +kernel, by decide +kernel⟩, List.mem_of_getElem? (i := 1059) (by decide +kernel), List.mem_of_getElem? (i := 1312) (by decide +kernel), List.mem_of_getElem? (i := 1313) (by decide +kernel)⟩
theorem lw_p56 : lw_okq (⟨"HeadHillModel", "goesOn", "()Z"⟩, 59) := ⟨⟨by decide +kernel, by decide +kernel⟩, List.mem_of_getElem? (i := 1059) (by decide +kernel), List.mem_of_getElem? (i := 1321) (by decide +kernel), List.mem_of_getElem? (i := 1322) (by decide +kernel)⟩
theorem lw_p57 : lw_okq (⟨"HeadHillModel", "begins", "()V"⟩, 59) := ⟨⟨by decide +kernel, by decide +kernel⟩, List.mem_of_getElem? (i := 1059) (by decide +kernel), List.mem_of_getElem? (i := 1328) (by decide +kernel), List.mem_of_getElem? (i := 1329) (by decide +kernel)⟩
theorem lw_p58 : lw_okq (⟨"HeadHillModel", "ruleClause", "(I)V"⟩, 59) := ⟨⟨by decide +kernel, by decide +kernel⟩, List.mem_of_getElem? (i := 1059) (by decide +kernel), List.mem_of_getElem? (i := 1336) (by decide +kernel), List.mem_of_getElem? (i := 1337) (by decide +kernel)⟩
theorem lw_p59 : lw_okq (⟨"HeadHillModel", "sum", "()V"⟩, 59) := ⟨⟨by decide +kernel, by decide +kernel⟩, List.mem_of_getElem? (i := 1059) (by decide +kernel), List.mem_of_getElem? (i := 1341) (by decide +kernel), List.mem_of_getElem? (i := 1342) (by decide +kernel)⟩
theorem lw_p60 : lw_okq (⟨"HeadHillModel", "term", "()V"⟩, 59) := ⟨⟨by decide +kernel, by decide +kernel⟩, List.mem_of_getElem? (i := 1059) (by decide +kernel), List.mem_of_getElem? (i := 1345) (by decide +kernel), List.mem_of_getElem? (i := 1346) (by decide +kernel)⟩
theorem lw_p61 : lw_okq (⟨"HeadHillModel", "value", "()V"⟩, 59) := ⟨⟨by decide +kernel, by decide +kernel⟩, List.mem_of_getElem? (i := 1059) (by decide +kernel), List.mem_of_getElem? (i := 1349) (by decide +kernel), List.mem_of_getElem? (i := 1350) (by decide +kernel)⟩
theorem lw_p62 : lw_okq (⟨"HeadHillModel", "isCounted", "(I)V"⟩, 59) := ⟨⟨by decide +kernel, by decide +kernel⟩, List.mem_of_getElem? (i := 1059) (by decide +kernel), List.mem_of_getElem? (i := 1353) (by decide +kernel), List.mem_of_getElem? (i := 1354) (by decide +kernel)⟩
theorem lw_p63 : lw_okq (⟨"HeadHillModel", "entry", "(II)V"⟩, 59) := ⟨⟨by decide +kernel, by decide +kernel⟩, List.mem_of_getElem? (i := 1059) (by decide +kernel), List.mem_of_getElem? (i := 1357) (by decide +kernel), List.mem_of_getElem? (i := 1358) (by decide +kernel)⟩
def lw_privs_4 : List (MethodName × Nat) := [(⟨"HeadHillModel", "sign", "()I"⟩, 59), (⟨"HeadHillModel", "stood", "(Ljava/lang/String;)Z"⟩, 59), (⟨"HeadHillModel", "fails", "(II)V"⟩, 59), (⟨"HeadHillModel", "isFull", "(II)Z"⟩, 59), (⟨"HeadHillModel", "hillPart", "(I)V"⟩, 59), (⟨"HeadHillModel", "amount", "(II)I"⟩, 59), (⟨"HeadHillModel", "digits", "(I)I"⟩, 59), (⟨"HeadHillModel", "isDigit", "()Z"⟩, 59), (⟨"HeadHillModel", "goesOn", "()Z"⟩, 59), (⟨"HeadHillModel", "begins", "()V"⟩, 59), (⟨"HeadHillModel", "ruleClause", "(I)V"⟩, 59), (⟨"HeadHillModel", "sum", "()V"⟩, 59), (⟨"HeadHillModel", "term", "()V"⟩, 59), (⟨"HeadHillModel", "value", "()V"⟩, 59), (⟨"HeadHillModel", "isCounted", "(I)V"⟩, 59), (⟨"HeadHillModel", "entry", "(II)V"⟩, 59)]
theorem lw_r4 : ∀ q ∈ lw_privs_4, lw_okq q := List.forall_mem_cons.mpr ⟨lw_p48, List.forall_mem_cons.mpr ⟨lw_p49, List.forall_mem_cons.mpr ⟨lw_p50, List.forall_mem_cons.mpr ⟨lw_p51, List.forall_mem_cons.mpr ⟨lw_p52, List.forall_mem_cons.mpr ⟨lw_p53, List.forall_mem_cons.mpr ⟨lw_p54, List.forall_mem_cons.mpr ⟨lw_p55, List.forall_mem_cons.mpr ⟨lw_p56, List.forall_mem_cons.mpr ⟨lw_p57, List.forall_mem_cons.mpr ⟨lw_p58, List.forall_mem_cons.mpr ⟨lw_p59, List.forall_mem_cons.mpr ⟨lw_p60, List.forall_mem_cons.mpr ⟨lw_p61, List.forall_mem_cons.mpr ⟨lw_p62, List.forall_mem_cons.mpr ⟨lw_p63, fun _ h => absurd h List.not_mem_nil⟩⟩⟩⟩⟩⟩⟩⟩⟩⟩⟩⟩⟩⟩⟩⟩
theorem lw_p64 : lw_okq (⟨"HeadHillModel", "takes", "(Ljava/lang/String;)Z"⟩, 59) := ⟨⟨by decide +kernel, by decide +kernel⟩, List.mem_of_getElem? (i := 1059) (by decide +kernel), List.mem_of_getElem? (i := 1375) (by decide +kernel), List.mem_of_getElem? (i := 1376) (by decide +kernel)⟩
theorem lw_p65 : lw_okq (⟨"HeadHillModel", "test", "()V"⟩, 59) := ⟨⟨by decide +kernel, by decide +kernel⟩, List.mem_of_getElem? (i := 1059) (by decide +kernel), List.mem_of_getElem? (i := 1379) (by decide +kernel), List.mem_of_getElem? (i := 1380) (by decide +kernel)⟩
theorem lw_p66 : lw_okq (⟨"HeadHillModel", "fact", "()Z"⟩, 59) := ⟨⟨by decide +kernel, by decide +kernel⟩, List.mem_of_getElem? (i := 1059) (by decide +kernel), List.mem_of_getElem? (i := 1383) (by decide +kernel), List.mem_of_getElem? (i := 1384) (by decide +kernel)⟩
theorem lw_p67 : lw_okq (⟨"HeadHillModel", "opens", "(I)V"⟩, 59) := ⟨⟨by decide +kernel, by decide +kernel⟩, List.mem_of_getElem? (i := 1059) (by decide +kernel), List.mem_of_getElem? (i := 1388) (by decide +kernel), List.mem_of_getElem? (i := 1389) (by decide +kernel)⟩
theorem lw_p68 : lw_okq (⟨"HeadHillModel", "compared", "()V"⟩, 59) := ⟨⟨by decide +kernel, by decide +kernel⟩, List.mem_of_getElem? (i := 1059) (by decide +kernel), List.mem_of_getElem? (i := 1392) (by decide +kernel), List.mem_of_getElem? (i := 1393) (by decide +kernel)⟩
theorem lw_p69 : lw_okq (⟨"HeadHillModel", "answers", "(I)V"⟩, 59) := ⟨⟨by decide +kernel, by decide +kernel⟩, List.mem_of_getElem? (i := 1059) (by decide +kernel), List.mem_of_getElem? (i := 1396) (by decide +kernel), List.mem_of_getElem? (i := 1397) (by decide +kernel)⟩
theorem lw_p70 : lw_okq (⟨"HeadHillModel", "top", "()I"⟩, 59) := ⟨⟨by decide +kernel, by decide +kernel⟩, List.mem_of_getElem? (i := 1059) (by decide +kernel), List.mem_of_getElem? (i := 1400) (by decide +kernel), List.mem_of_getElem? (i := 1401) (by decide +kernel)⟩
theorem lw_p71 : lw_okq (⟨"HeadHillModel", "isRunner", "(I)Z"⟩, 59) := ⟨⟨by decide +kernel, by decide +kernel⟩, List.mem_of_getElem? (i := 1059) (by decide +kernel), List.mem_of_getElem? (i := 1415) (by decide +kernel), List.mem_of_getElem? (i := 1416) (by decide +kernel)⟩
theorem lw_p72 : lw_okq (⟨"HeadHillModel", "isWare", "(I)Z"⟩, 59) := ⟨⟨by decide +kernel, by decide +kernel⟩, List.mem_of_getElem? (i := 1059) (by decide +kernel), List.mem_of_getElem? (i := 1424) (by decide +kernel), List.mem_of_getElem? (i := 1425) (by decide +kernel)⟩
theorem lw_p73 : lw_okq (⟨"HeadHillModel", "isThere", "(I)Z"⟩, 59) := ⟨⟨by decide +kernel, by decide +kernel⟩, List.mem_of_getElem? (i := 1059) (by decide +kernel), List.mem_of_getElem? (i := 1428) (by decide +kernel), List.mem_of_getElem? (i := 1429) (by decide +kernel)⟩
theorem lw_p74 : lw_okq (⟨"HeadHillModel", "movesAll", "(IZ)V"⟩, 59) := ⟨⟨by decide +kernel, by decide +kernel⟩, List.mem_of_getElem? (i := 1059) (by decide +kernel), List.mem_of_getElem? (i := 1436) (by decide +kernel), List.mem_of_getElem? (i := 1437) (by decide +kernel)⟩
theorem lw_p75 : lw_okq (⟨"HeadHillModel", "moves", "(I)I"⟩, 59) := ⟨⟨by decide +kernel, by decide +kernel⟩, List.mem_of_getElem? (i := 1059) (by decide +kernel), List.mem_of_getElem? (i := 1440) (by decide +kernel), List.mem_of_getElem? (i := 1441) (by decide +kernel)⟩
theorem lw_p76 : lw_okq (⟨"HeadHillModel", "movesRow", "([I)V"⟩, 59) := ⟨⟨by decide +kernel, by decide +kernel⟩, List.mem_of_getElem? (i := 1059) (by decide +kernel), List.mem_of_getElem? (i := 1444) (by decide +kernel), List.mem_of_getElem? (i := 1445) (by decide +kernel)⟩
theorem lw_p77 : lw_okq (⟨"HeadHillModel", "isHill", "()Z"⟩, 59) := ⟨⟨by decide +kernel, by decide +kernel⟩, List.mem_of_getElem? (i := 1059) (by decide +kernel), List.mem_of_getElem? (i := 1452) (by decide +kernel), List.mem_of_getElem? (i := 1453) (by decide +kernel)⟩
theorem lw_p78 : lw_okq (⟨"HeadHillModel", "keepsAct", "()V"⟩, 59) := ⟨⟨by decide +kernel, by decide +kernel⟩, List.mem_of_getElem? (i := 1059) (by decide +kernel), List.mem_of_getElem? (i := 1456) (by decide +kernel), List.mem_of_getElem? (i := 1457) (by decide +kernel)⟩
theorem lw_p79 : lw_okq (⟨"HeadHillModel", "goes", "()I"⟩, 59) := ⟨⟨by decide +kernel, by decide +kernel⟩, List.mem_of_getElem? (i := 1059) (by decide +kernel), List.mem_of_getElem? (i := 1460) (by decide +kernel), List.mem_of_getElem? (i := 1461) (by decide +kernel)⟩
def lw_privs_5 : List (MethodName × Nat) := [(⟨"HeadHillModel", "takes", "(Ljava/lang/String;)Z"⟩, 59), (⟨"HeadHillModel", "test", "()V"⟩, 59), (⟨"HeadHillModel", "fact", "()Z"⟩, 59), (⟨"HeadHillModel", "opens", "(I)V"⟩, 59), (⟨"HeadHillModel", "compared", "()V"⟩, 59), (⟨"HeadHillModel", "answers", "(I)V"⟩, 59), (⟨"HeadHillModel", "top", "()I"⟩, 59), (⟨"HeadHillModel", "isRunner", "(I)Z"⟩, 59), (⟨"HeadHillModel", "isWare", "(I)Z"⟩, 59), (⟨"HeadHillModel", "isThere", "(I)Z"⟩, 59), (⟨"HeadHillModel", "movesAll", "(IZ)V"⟩, 59), (⟨"HeadHillModel", "moves", "(I)I"⟩, 59), (⟨"HeadHillModel", "movesRow", "([I)V"⟩, 59), (⟨"HeadHillModel", "isHill", "()Z"⟩, 59), (⟨"HeadHillModel", "keepsAct", "()V"⟩, 59), (⟨"HeadHillModel", "goes", "()I"⟩, 59)]
theorem lw_r5 : ∀ q ∈ lw_privs_5, lw_okq q := List.forall_mem_cons.mpr ⟨lw_p64, List.forall_mem_cons.mpr ⟨lw_p65, List.forall_mem_cons.mpr ⟨lw_p66, List.forall_mem_cons.mpr ⟨lw_p67, List.forall_mem_cons.mpr ⟨lw_p68, List.forall_mem_cons.mpr ⟨lw_p69, List.forall_mem_cons.mpr ⟨lw_p70, List.forall_mem_cons.mpr ⟨lw_p71, List.forall_mem_cons.mpr ⟨lw_p72, List.forall_mem_cons.mpr ⟨lw_p73, List.forall_mem_cons.mpr ⟨lw_p74, List.forall_mem_cons.mpr ⟨lw_p75, List.forall_mem_cons.mpr ⟨lw_p76, List.forall_mem_cons.mpr ⟨lw_p77, List.forall_mem_cons.mpr ⟨lw_p78, List.forall_mem_cons.mpr ⟨lw_p79, fun _ h => absurd h List.not_mem_nil⟩⟩⟩⟩⟩⟩⟩⟩⟩⟩⟩⟩⟩⟩⟩⟩
theorem lw_p80 : lw_okq (⟨"HeadHillModel", "choice", "(I)I"⟩, 59) := ⟨⟨by decide +kernel, by decide +kernel⟩, List.mem_of_getElem? (i := 1059) (by decide +kernel), List.mem_of_getElem? (i := 1464) (by decide +kernel), List.mem_of_getElem? (i := 1465) (by decide +kernel)⟩
theorem lw_p81 : lw_okq (⟨"HeadHillModel", "likes", "(II)J"⟩, 59) := ⟨⟨by decide +kernel, by decide +kernel⟩, List.mem_of_getElem? (i := 1059) (by decide +kernel), List.mem_of_getElem? (i := 1468) (by decide +kernel), List.mem_of_getElem? (i := 1469) (by decide +kernel)⟩
theorem lw_p82 : lw_okq (⟨"HeadHillModel", "rivals", "(II)I"⟩, 59) := ⟨⟨by decide +kernel, by decide +kernel⟩, List.mem_of_getElem? (i := 1059) (by decide +kernel), List.mem_of_getElem? (i := 1472) (by decide +kernel), List.mem_of_getElem? (i := 1473) (by decide +kernel)⟩
theorem lw_p83 : lw_okq (⟨"HeadHillModel", "lead", "(I)I"⟩, 59) := ⟨⟨by decide +kernel, by decide +kernel⟩, List.mem_of_getElem? (i := 1059) (by decide +kernel), List.mem_of_getElem? (i := 1476) (by decide +kernel), List.mem_of_getElem? (i := 1477) (by decide +kernel)⟩
theorem lw_p84 : lw_okq (⟨"HeadHillModel", "wanted", "()J"⟩, 59) := ⟨⟨by decide +kernel, by decide +kernel⟩, List.mem_of_getElem? (i := 1059) (by decide +kernel), List.mem_of_getElem? (i := 1480) (by decide +kernel), List.mem_of_getElem? (i := 1481) (by decide +kernel)⟩
theorem lw_p85 : lw_okq (⟨"HeadHillModel", "answer", "(III)J"⟩, 59) := ⟨⟨by decide +kernel, by decide +kernel⟩, List.mem_of_getElem? (i := 1059) (by decide +kernel), List.mem_of_getElem? (i := 1484) (by decide +kernel), List.mem_of_getElem? (i := 1485) (by decide +kernel)⟩
theorem lw_p86 : lw_okq (⟨"HeadHillModel", "firstTo", "(I)I"⟩, 59) := ⟨⟨by decide +kernel, by decide +kernel⟩, List.mem_of_getElem? (i := 1059) (by decide +kernel), List.mem_of_getElem? (i := 1494) (by decide +kernel), List.mem_of_getElem? (i := 1495) (by decide +kernel)⟩
theorem lw_p87 : lw_okq (⟨"HeadHillModel", "isAhead", "(III)Z"⟩, 59) := ⟨⟨by decide +kernel, by decide +kernel⟩, List.mem_of_getElem? (i := 1059) (by decide +kernel), List.mem_of_getElem? (i := 1498) (by decide +kernel), List.mem_of_getElem? (i := 1499) (by decide +kernel)⟩
theorem lw_p88 : lw_okq (⟨"HeadHillModel", "pays", "(I)V"⟩, 59) := ⟨⟨by decide +kernel, by decide +kernel⟩, List.mem_of_getElem? (i := 1059) (by decide +kernel), List.mem_of_getElem? (i := 1502) (by decide +kernel), List.mem_of_getElem? (i := 1503) (by decide +kernel)⟩
theorem lw_p89 : lw_okq (⟨"HeadHillModel", "canLend", "(III)Z"⟩, 59) := ⟨⟨by decide +kernel, by decide +kernel⟩, List.mem_of_getElem? (i := 1059) (by decide +kernel), List.mem_of_getElem? (i := 1511) (by decide +kernel), List.mem_of_getElem? (i := 1512) (by decide +kernel)⟩
theorem lw_p90 : lw_okq (⟨"HeadHillModel", "keepsAll", "()V"⟩, 59) := ⟨⟨by decide +kernel, by decide +kernel⟩, List.mem_of_getElem? (i := 1059) (by decide +kernel), List.mem_of_getElem? (i := 1533) (by decide +kernel), List.mem_of_getElem? (i := 1534) (by decide +kernel)⟩
theorem lw_p91 : lw_okq (⟨"HeadHillModel", "carriesAll", "(IZ)V"⟩, 59) := ⟨⟨by decide +kernel, by decide +kernel⟩, List.mem_of_getElem? (i := 1059) (by decide +kernel), List.mem_of_getElem? (i := 1537) (by decide +kernel), List.mem_of_getElem? (i := 1538) (by decide +kernel)⟩
theorem lw_p92 : lw_okq (⟨"HeadHillModel", "carryRow", "([I)V"⟩, 59) := ⟨⟨by decide +kernel, by decide +kernel⟩, List.mem_of_getElem? (i := 1059) (by decide +kernel), List.mem_of_getElem? (i := 1541) (by decide +kernel), List.mem_of_getElem? (i := 1542) (by decide +kernel)⟩
theorem lw_p93 : lw_okq (⟨"HeadHillModel", "goFor", "(I)V"⟩, 59) := ⟨⟨by decide +kernel, by decide +kernel⟩, List.mem_of_getElem? (i := 1059) (by decide +kernel), List.mem_of_getElem? (i := 1545) (by decide +kernel), List.mem_of_getElem? (i := 1546) (by decide +kernel)⟩
theorem lw_p94 : lw_okq (⟨"HeadHillModel", "laysBack", "()V"⟩, 59) := ⟨⟨by decide +kernel, by decide +kernel⟩, List.mem_of_getElem? (i := 1059) (by decide +kernel), List.mem_of_getElem? (i := 1549) (by decide +kernel), List.mem_of_getElem? (i := 1550) (by decide +kernel)⟩
theorem lw_p95 : lw_okq (⟨"HeadHillModel", "firstGot", "(I)I"⟩, 59) := ⟨⟨by decide +kernel, by decide +kernel⟩, List.mem_of_getElem? (i := 1059) (by decide +kernel), List.mem_of_getElem? (i := 1557) (by decide +kernel), List.mem_of_getElem? (i := 1558) (by decide +kernel)⟩
def lw_privs_6 : List (MethodName × Nat) := [(⟨"HeadHillModel", "choice", "(I)I"⟩, 59), (⟨"HeadHillModel", "likes", "(II)J"⟩, 59), (⟨"HeadHillModel", "rivals", "(II)I"⟩, 59), (⟨"HeadHillModel", "lead", "(I)I"⟩, 59), (⟨"HeadHillModel", "wanted", "()J"⟩, 59), (⟨"HeadHillModel", "answer", "(III)J"⟩, 59), (⟨"HeadHillModel", "firstTo", "(I)I"⟩, 59), (⟨"HeadHillModel", "isAhead", "(III)Z"⟩, 59), (⟨"HeadHillModel", "pays", "(I)V"⟩, 59), (⟨"HeadHillModel", "canLend", "(III)Z"⟩, 59), (⟨"HeadHillModel", "keepsAll", "()V"⟩, 59), (⟨"HeadHillModel", "carriesAll", "(IZ)V"⟩, 59), (⟨"HeadHillModel", "carryRow", "([I)V"⟩, 59), (⟨"HeadHillModel", "goFor", "(I)V"⟩, 59), (⟨"HeadHillModel", "laysBack", "()V"⟩, 59), (⟨"HeadHillModel", "firstGot", "(I)I"⟩, 59)]
theorem lw_r6 : ∀ q ∈ lw_privs_6, lw_okq q := List.forall_mem_cons.mpr ⟨lw_p80, List.forall_mem_cons.mpr ⟨lw_p81, List.forall_mem_cons.mpr ⟨lw_p82, List.forall_mem_cons.mpr ⟨lw_p83, List.forall_mem_cons.mpr ⟨lw_p84, List.forall_mem_cons.mpr ⟨lw_p85, List.forall_mem_cons.mpr ⟨lw_p86, List.forall_mem_cons.mpr ⟨lw_p87, List.forall_mem_cons.mpr ⟨lw_p88, List.forall_mem_cons.mpr ⟨lw_p89, List.forall_mem_cons.mpr ⟨lw_p90, List.forall_mem_cons.mpr ⟨lw_p91, List.forall_mem_cons.mpr ⟨lw_p92, List.forall_mem_cons.mpr ⟨lw_p93, List.forall_mem_cons.mpr ⟨lw_p94, List.forall_mem_cons.mpr ⟨lw_p95, fun _ h => absurd h List.not_mem_nil⟩⟩⟩⟩⟩⟩⟩⟩⟩⟩⟩⟩⟩⟩⟩⟩
theorem lw_p96 : lw_okq (⟨"HeadHillModel", "wealthIn", "(II)I"⟩, 59) := ⟨⟨by decide +kernel, by decide +kernel⟩, List.mem_of_getElem? (i := 1059) (by decide +kernel), List.mem_of_getElem? (i := 1571) (by decide +kernel), List.mem_of_getElem? (i := 1572) (by decide +kernel)⟩
theorem lw_p97 : lw_okq (⟨"HeadHillModel", "wealthByRow", "(IIII)I"⟩, 59) := ⟨⟨by decide +kernel, by decide +kernel⟩, List.mem_of_getElem? (i := 1059) (by decide +kernel), List.mem_of_getElem? (i := 1584) (by decide +kernel), List.mem_of_getElem? (i := 1585) (by decide +kernel)⟩
theorem lw_p98 : lw_okq (⟨"HeadHillModel", "sumOf", "(I)I"⟩, 59) := ⟨⟨by decide +kernel, by decide +kernel⟩, List.mem_of_getElem? (i := 1059) (by decide +kernel), List.mem_of_getElem? (i := 1592) (by decide +kernel), List.mem_of_getElem? (i := 1593) (by decide +kernel)⟩
theorem lw_p99 : lw_okq (⟨"HeadHillModel", "laysRuns", "(II)V"⟩, 59) := ⟨⟨by decide +kernel, by decide +kernel⟩, List.mem_of_getElem? (i := 1059) (by decide +kernel), List.mem_of_getElem? (i := 1614) (by decide +kernel), List.mem_of_getElem? (i := 1615) (by decide +kernel)⟩
theorem lw_p100 : lw_okq (⟨"HeadHillModel", "mayRun", "(I)Z"⟩, 59) := ⟨⟨by decide +kernel, by decide +kernel⟩, List.mem_of_getElem? (i := 1059) (by decide +kernel), List.mem_of_getElem? (i := 1618) (by decide +kernel), List.mem_of_getElem? (i := 1619) (by decide +kernel)⟩
theorem lw_p101 : lw_okq (⟨"HeadHillModel", "isRest", "(I)Z"⟩, 59) := ⟨⟨by decide +kernel, by decide +kernel⟩, List.mem_of_getElem? (i := 1059) (by decide +kernel), List.mem_of_getElem? (i := 1622) (by decide +kernel), List.mem_of_getElem? (i := 1623) (by decide +kernel)⟩
theorem lw_p102 : lw_okq (⟨"HeadHillModel", "allWealth", "()I"⟩, 59) := ⟨⟨by decide +kernel, by decide +kernel⟩, List.mem_of_getElem? (i := 1059) (by decide +kernel), List.mem_of_getElem? (i := 1630) (by decide +kernel), List.mem_of_getElem? (i := 1631) (by decide +kernel)⟩
theorem lw_p103 : lw_okq (⟨"HeadHillModel", "couldRule", "(I)Z"⟩, 59) := ⟨⟨by decide +kernel, by decide +kernel⟩, List.mem_of_getElem? (i := 1059) (by decide +kernel), List.mem_of_getElem? (i := 1642) (by decide +kernel), List.mem_of_getElem? (i := 1643) (by decide +kernel)⟩
theorem lw_p104 : lw_okq (⟨"HeadHillModel", "mostAlike", "(II)I"⟩, 59) := ⟨⟨by decide +kernel, by decide +kernel⟩, List.mem_of_getElem? (i := 1059) (by decide +kernel), List.mem_of_getElem? (i := 1650) (by decide +kernel), List.mem_of_getElem? (i := 1651) (by decide +kernel)⟩
theorem lw_p105 : lw_okq (⟨"HeadHillModel", "draws", "(I)I"⟩, 59) := ⟨⟨by decide +kernel, by decide +kernel⟩, List.mem_of_getElem? (i := 1059) (by decide +kernel), List.mem_of_getElem? (i := 1663) (by decide +kernel), List.mem_of_getElem? (i := 1664) (by decide +kernel)⟩
theorem lw_p106 : lw_okq (⟨"HeadHillModel", "greatestPurse", "()I"⟩, 59) := ⟨⟨by decide +kernel, by decide +kernel⟩, List.mem_of_getElem? (i := 1059) (by decide +kernel), List.mem_of_getElem? (i := 1671) (by decide +kernel), List.mem_of_getElem? (i := 1672) (by decide +kernel)⟩
theorem lw_p107 : lw_okq (⟨"HeadHillModel", "allThere", "()I"⟩, 59) := ⟨⟨by decide +kernel, by decide +kernel⟩, List.mem_of_getElem? (i := 1059) (by decide +kernel), List.mem_of_getElem? (i := 1679) (by decide +kernel), List.mem_of_getElem? (i := 1680) (by decide +kernel)⟩
def lw_privs_7 : List (MethodName × Nat) := [(⟨"HeadHillModel", "wealthIn", "(II)I"⟩, 59), (⟨"HeadHillModel", "wealthByRow", "(IIII)I"⟩, 59), (⟨"HeadHillModel", "sumOf", "(I)I"⟩, 59), (⟨"HeadHillModel", "laysRuns", "(II)V"⟩, 59), (⟨"HeadHillModel", "mayRun", "(I)Z"⟩, 59), (⟨"HeadHillModel", "isRest", "(I)Z"⟩, 59), (⟨"HeadHillModel", "allWealth", "()I"⟩, 59), (⟨"HeadHillModel", "couldRule", "(I)Z"⟩, 59), (⟨"HeadHillModel", "mostAlike", "(II)I"⟩, 59), (⟨"HeadHillModel", "draws", "(I)I"⟩, 59), (⟨"HeadHillModel", "greatestPurse", "()I"⟩, 59), (⟨"HeadHillModel", "allThere", "()I"⟩, 59)]
theorem lw_r7 : ∀ q ∈ lw_privs_7, lw_okq q := List.forall_mem_cons.mpr ⟨lw_p96, List.forall_mem_cons.mpr ⟨lw_p97, List.forall_mem_cons.mpr ⟨lw_p98, List.forall_mem_cons.mpr ⟨lw_p99, List.forall_mem_cons.mpr ⟨lw_p100, List.forall_mem_cons.mpr ⟨lw_p101, List.forall_mem_cons.mpr ⟨lw_p102, List.forall_mem_cons.mpr ⟨lw_p103, List.forall_mem_cons.mpr ⟨lw_p104, List.forall_mem_cons.mpr ⟨lw_p105, List.forall_mem_cons.mpr ⟨lw_p106, List.forall_mem_cons.mpr ⟨lw_p107, fun _ h => absurd h List.not_mem_nil⟩⟩⟩⟩⟩⟩⟩⟩⟩⟩⟩⟩
def lw_privs : List (MethodName × Nat) := lw_privs_1 ++ (lw_privs_2 ++ (lw_privs_3 ++ (lw_privs_4 ++ (lw_privs_5 ++ (lw_privs_6 ++ (lw_privs_7))))))
def lw_tbl : List Cond := k2_sels lw_privs ++ tables_1
theorem lw_privs_ok : ∀ q ∈ lw_privs, lw_okq q := by
  show ∀ q ∈ lw_privs_1 ++ (lw_privs_2 ++ (lw_privs_3 ++ (lw_privs_4 ++ (lw_privs_5 ++ (lw_privs_6 ++ (lw_privs_7)))))), lw_okq q
  exact List.forall_mem_append.mpr ⟨lw_r1, List.forall_mem_append.mpr ⟨lw_r2, List.forall_mem_append.mpr ⟨lw_r3, List.forall_mem_append.mpr ⟨lw_r4, List.forall_mem_append.mpr ⟨lw_r5, List.forall_mem_append.mpr ⟨lw_r6, lw_r7⟩⟩⟩⟩⟩⟩
end
section
def RX0 : String := "HeadHill$Choices"
def TX0 : u_T := fun k => match k with
  | 0 => ("HeadHill$Choices", "course", "LHeadHill$Course;", true)
  | 1 => ("HeadHill$Choices", "first", "LHeadHill$Moment;", true)
  | 2 => ("HeadHill$Choices", "second", "LHeadHill$Moment;", true)
  | 3 => ("HeadHill$Choices", "third", "LHeadHill$Moment;", true)
  | 4 => ("HeadHill$Choices", "chosen", "[I", true)
  | 5 => ("HeadHill$Choices", "bestChosen", "[I", true)
  | 6 => ("HeadHill$Choices", "ones", "[[I", true)
  | 7 => ("HeadHill$Choices", "others", "[[I", true)
  | 8 => ("HeadHill$Choices", "best", "I", false)
  | 9 => ("HeadHill$Choices", "town", "LHeadHill$Town;", false)
  | _ => ("HeadHill$Choices", "rule", "LHeadHill$Rule;", false)
def tyX0 : Nat → FieldType := fun k => match k with
  | 0 => .object "HeadHill$Course"
  | 1 => .object "HeadHill$Moment"
  | 2 => .object "HeadHill$Moment"
  | 3 => .object "HeadHill$Moment"
  | 4 => .array .int
  | 5 => .array .int
  | 6 => .array (.array .int)
  | 7 => .array (.array .int)
  | 8 => .int
  | 9 => .object "HeadHill$Town"
  | _ => .object "HeadHill$Rule"
abbrev wsX00 : List Cond := u_ws RX0 TX0 11
theorem nmX0 : ∀ a, a < 11 → ∀ b, b < 11 → a ≠ b → (TX0 a).2.1 ≠ (TX0 b).2.1 := by decide +kernel
theorem tyX0_ok : ∀ k, k < 11 → parseFieldDescriptor (TX0 k).2.2.1 = some (tyX0 k) := by decide +kernel
abbrev cX0_init : ByteArray := prog_2_method_1_code
def yX0_init : MethodName := ⟨RX0, "<init>", "()V"⟩
abbrev cX0_begin : ByteArray := prog_2_method_2_code
def yX0_begin : MethodName := ⟨RX0, "begin", "(LHeadHill$Town;LHeadHill$Rule;)V"⟩
abbrev cX0_bestRow : ByteArray := prog_2_method_3_code
def yX0_bestRow : MethodName := ⟨RX0, "bestRow", "(III)I"⟩
abbrev cX0_tryRows : ByteArray := prog_2_method_4_code
def yX0_tryRows : MethodName := ⟨RX0, "tryRows", "(IIILHeadHill$Moment;)V"⟩
abbrev cX0_weighRow : ByteArray := prog_2_method_5_code
def yX0_weighRow : MethodName := ⟨RX0, "weighRow", "(I)V"⟩
abbrev cX0_mayRunFor : ByteArray := prog_2_method_6_code
def yX0_mayRunFor : MethodName := ⟨RX0, "mayRunFor", "(II)Z"⟩
abbrev cX0_restsOfTwo : ByteArray := prog_2_method_7_code
def yX0_restsOfTwo : MethodName := ⟨RX0, "restsOfTwo", "(III)I"⟩
abbrev cX0_weighTwos : ByteArray := prog_2_method_8_code
def yX0_weighTwos : MethodName := ⟨RX0, "weighTwos", "(II)V"⟩
abbrev cX0_hasThen : ByteArray := prog_2_method_9_code
def yX0_hasThen : MethodName := ⟨RX0, "hasThen", "(I)I"⟩
abbrev cX0_isRest : ByteArray := prog_2_method_10_code
def yX0_isRest : MethodName := ⟨RX0, "isRest", "(III)Z"⟩
def RX1 : String := "HeadHill$Course"
def TX1 : u_T := fun k => match k with
  | 0 => ("HeadHill$Course", "orders", "[I", true)
  | 1 => ("HeadHill$Course", "aims", "[I", true)
  | 2 => ("HeadHill$Course", "words", "[J", true)
  | _ => ("HeadHill$Course", "pile", "[J", true)
def tyX1 : Nat → FieldType := fun k => match k with
  | 0 => .array .int
  | 1 => .array .int
  | 2 => .array .long
  | _ => .array .long
abbrev wsX10 : List Cond := u_ws RX1 TX1 4
theorem nmX1 : ∀ a, a < 4 → ∀ b, b < 4 → a ≠ b → (TX1 a).2.1 ≠ (TX1 b).2.1 := by decide +kernel
theorem tyX1_ok : ∀ k, k < 4 → parseFieldDescriptor (TX1 k).2.2.1 = some (tyX1 k) := by decide +kernel
abbrev cX1_init : ByteArray := prog_3_method_1_code
def yX1_init : MethodName := ⟨RX1, "<init>", "()V"⟩
abbrev cX1_pass : ByteArray := prog_3_method_2_code
def yX1_pass : MethodName := ⟨RX1, "pass", "(LHeadHill$Hill;LHeadHill$Moment;LHeadHill$Rule;)I"⟩
abbrev cX1_mostWorth : ByteArray := prog_3_method_3_code
def yX1_mostWorth : MethodName := ⟨RX1, "mostWorth", "(LHeadHill$Hill;I)I"⟩
abbrev cX1_bestBy : ByteArray := prog_3_method_4_code
def yX1_bestBy : MethodName := ⟨RX1, "bestBy", "(LHeadHill$Rule;LHeadHill$Hill;LHeadHill$Moment;I)I"⟩
abbrev cX1_tellRunner : ByteArray := prog_3_method_5_code
def yX1_tellRunner : MethodName := ⟨RX1, "tellRunner", "(LHeadHill$Hill;LHeadHill$Moment;I)V"⟩
abbrev cX1_leadOf : ByteArray := prog_3_method_6_code
def yX1_leadOf : MethodName := ⟨RX1, "leadOf", "(LHeadHill$Hill;LHeadHill$Moment;I)I"⟩
abbrev cX1_tellWare : ByteArray := prog_3_method_7_code
def yX1_tellWare : MethodName := ⟨RX1, "tellWare", "(LHeadHill$Hill;LHeadHill$Moment;II)V"⟩
abbrev cX1_firstTo : ByteArray := prog_3_method_8_code
def yX1_firstTo : MethodName := ⟨RX1, "firstTo", "(ILHeadHill$Hill;LHeadHill$Moment;)I"⟩
abbrev cX1_reward : ByteArray := prog_3_method_9_code
def yX1_reward : MethodName := ⟨RX1, "reward", "(LHeadHill$Hill;LHeadHill$Moment;)V"⟩
abbrev cX1_payRivals : ByteArray := prog_3_method_10_code
def yX1_payRivals : MethodName := ⟨RX1, "payRivals", "(IILHeadHill$Hill;LHeadHill$Moment;)V"⟩
def RX2 : String := "HeadHill$Future"
def TX2 : u_T := fun k => match k with
  | 0 => ("HeadHill$Future", "course", "LHeadHill$Course;", true)
  | 1 => ("HeadHill$Future", "trial", "LHeadHill$Moment;", true)
  | 2 => ("HeadHill$Future", "town", "LHeadHill$Town;", false)
  | 3 => ("HeadHill$Future", "rule", "LHeadHill$Rule;", false)
  | _ => ("HeadHill$Future", "x", "I", false)
def tyX2 : Nat → FieldType := fun k => match k with
  | 0 => .object "HeadHill$Course"
  | 1 => .object "HeadHill$Moment"
  | 2 => .object "HeadHill$Town"
  | 3 => .object "HeadHill$Rule"
  | _ => .int
abbrev wsX20 : List Cond := u_ws RX2 TX2 5
theorem nmX2 : ∀ a, a < 5 → ∀ b, b < 5 → a ≠ b → (TX2 a).2.1 ≠ (TX2 b).2.1 := by decide +kernel
theorem tyX2_ok : ∀ k, k < 5 → parseFieldDescriptor (TX2 k).2.2.1 = some (tyX2 k) := by decide +kernel
abbrev cX2_init : ByteArray := prog_4_method_1_code
def yX2_init : MethodName := ⟨RX2, "<init>", "()V"⟩
abbrev cX2_begin : ByteArray := prog_4_method_2_code
def yX2_begin : MethodName := ⟨RX2, "begin", "(LHeadHill$Town;LHeadHill$Rule;)V"⟩
abbrev cX2_go : ByteArray := prog_4_method_3_code
def yX2_go : MethodName := ⟨RX2, "go", "(I)V"⟩
abbrev cX2_firstGot : ByteArray := prog_4_method_4_code
def yX2_firstGot : MethodName := ⟨RX2, "firstGot", "(IZ)I"⟩
abbrev cX2_fewestSeconds : ByteArray := prog_4_method_5_code
def yX2_fewestSeconds : MethodName := ⟨RX2, "fewestSeconds", "(III)I"⟩
abbrev cX2_reaches : ByteArray := prog_4_method_6_code
def yX2_reaches : MethodName := ⟨RX2, "reaches", "(IIII)Z"⟩
abbrev cX2_bestLender : ByteArray := prog_4_method_7_code
def yX2_bestLender : MethodName := ⟨RX2, "bestLender", "(IIZ)I"⟩
abbrev cX2_pursesThatGet : ByteArray := prog_4_method_8_code
def yX2_pursesThatGet : MethodName := ⟨RX2, "pursesThatGet", "(IIIZ)I"⟩
abbrev cX2_drawFalls : ByteArray := prog_4_method_9_code
def yX2_drawFalls : MethodName := ⟨RX2, "drawFalls", "(IIIZ)I"⟩
abbrev cX2_drawFall : ByteArray := prog_4_method_10_code
def yX2_drawFall : MethodName := ⟨RX2, "drawFall", "(I)V"⟩
abbrev cX2_draw : ByteArray := prog_4_method_11_code
def yX2_draw : MethodName := ⟨RX2, "draw", "()I"⟩
abbrev cX2_gain : ByteArray := prog_4_method_12_code
def yX2_gain : MethodName := ⟨RX2, "gain", "()I"⟩
abbrev cX2_greatestPurse : ByteArray := prog_4_method_13_code
def yX2_greatestPurse : MethodName := ⟨RX2, "greatestPurse", "()I"⟩
def RX3 : String := "HeadHill$Hill"
def TX3 : u_T := fun k => match k with
  | 0 => ("HeadHill$Hill", "feast", "I", false)
  | 1 => ("HeadHill$Hill", "runners", "I", false)
  | 2 => ("HeadHill$Hill", "wares", "I", false)
  | 3 => ("HeadHill$Hill", "speed", "[I", true)
  | 4 => ("HeadHill$Hill", "purse", "[I", true)
  | 5 => ("HeadHill$Hill", "far", "[I", true)
  | 6 => ("HeadHill$Hill", "worth", "[I", true)
  | _ => ("HeadHill$Hill", "every", "[I", true)
def tyX3 : Nat → FieldType := fun k => match k with
  | 0 => .int
  | 1 => .int
  | 2 => .int
  | 3 => .array .int
  | 4 => .array .int
  | 5 => .array .int
  | 6 => .array .int
  | _ => .array .int
abbrev wsX30 : List Cond := u_ws RX3 TX3 8
theorem nmX3 : ∀ a, a < 8 → ∀ b, b < 8 → a ≠ b → (TX3 a).2.1 ≠ (TX3 b).2.1 := by decide +kernel
theorem tyX3_ok : ∀ k, k < 8 → parseFieldDescriptor (TX3 k).2.2.1 = some (tyX3 k) := by decide +kernel
abbrev cX3_init : ByteArray := prog_5_method_1_code
def yX3_init : MethodName := ⟨RX3, "<init>", "()V"⟩
abbrev cX3_read : ByteArray := prog_5_method_2_code
def yX3_read : MethodName := ⟨RX3, "read", "(LHeadHill$Text;)Z"⟩
abbrev cX3_readClause : ByteArray := prog_5_method_3_code
def yX3_readClause : MethodName := ⟨RX3, "readClause", "(LHeadHill$Text;I)V"⟩
abbrev cX3_isThere : ByteArray := prog_5_method_4_code
def yX3_isThere : MethodName := ⟨RX3, "isThere", "(II)Z"⟩
abbrev cX3_daysTillFeast : ByteArray := prog_5_method_5_code
def yX3_daysTillFeast : MethodName := ⟨RX3, "daysTillFeast", "(I)I"⟩
def RX4 : String := "HeadHill$Moment"
def TX4 : u_T := fun k => match k with
  | 0 => ("HeadHill$Moment", "day", "I", false)
  | 1 => ("HeadHill$Moment", "speed", "[I", true)
  | 2 => ("HeadHill$Moment", "purse", "[I", true)
  | 3 => ("HeadHill$Moment", "wealth", "[I", true)
  | 4 => ("HeadHill$Moment", "far", "[I", true)
  | _ => ("HeadHill$Moment", "got", "[I", true)
def tyX4 : Nat → FieldType := fun k => match k with
  | 0 => .int
  | 1 => .array .int
  | 2 => .array .int
  | 3 => .array .int
  | 4 => .array .int
  | _ => .array .int
abbrev wsX40 : List Cond := u_ws RX4 TX4 6
theorem nmX4 : ∀ a, a < 6 → ∀ b, b < 6 → a ≠ b → (TX4 a).2.1 ≠ (TX4 b).2.1 := by decide +kernel
theorem tyX4_ok : ∀ k, k < 6 → parseFieldDescriptor (TX4 k).2.2.1 = some (tyX4 k) := by decide +kernel
abbrev cX4_init : ByteArray := prog_6_method_1_code
def yX4_init : MethodName := ⟨RX4, "<init>", "()V"⟩
abbrev cX4_begin : ByteArray := prog_6_method_2_code
def yX4_begin : MethodName := ⟨RX4, "begin", "(LHeadHill$Hill;)V"⟩
abbrev cX4_become : ByteArray := prog_6_method_3_code
def yX4_become : MethodName := ⟨RX4, "become", "(LHeadHill$Moment;)V"⟩
abbrev cX4_beats : ByteArray := prog_6_method_4_code
def yX4_beats : MethodName := ⟨RX4, "beats", "(III)Z"⟩
abbrev cX4_canLend : ByteArray := prog_6_method_5_code
def yX4_canLend : MethodName := ⟨RX4, "canLend", "(III)Z"⟩
abbrev cX4_give : ByteArray := prog_6_method_6_code
def yX4_give : MethodName := ⟨RX4, "give", "(III)V"⟩
def RX5 : String := "HeadHill$Purses"
def TX5 : u_T := fun k => match k with
  | _ => ("HeadHill$Purses", "mostRings", "[I", true)
def tyX5 : Nat → FieldType := fun k => match k with
  | _ => .array .int
abbrev wsX50 : List Cond := u_ws RX5 TX5 1
theorem nmX5 : ∀ a, a < 1 → ∀ b, b < 1 → a ≠ b → (TX5 a).2.1 ≠ (TX5 b).2.1 := by decide +kernel
theorem tyX5_ok : ∀ k, k < 1 → parseFieldDescriptor (TX5 k).2.2.1 = some (tyX5 k) := by decide +kernel
abbrev cX5_init : ByteArray := prog_7_method_1_code
def yX5_init : MethodName := ⟨RX5, "<init>", "()V"⟩
abbrev cX5_together : ByteArray := prog_7_method_2_code
def yX5_together : MethodName := ⟨RX5, "together", "([III)I"⟩
abbrev cX5_fewestGoes : ByteArray := prog_7_method_3_code
def yX5_fewestGoes : MethodName := ⟨RX5, "fewestGoes", "([II)I"⟩
abbrev cX5_countRings : ByteArray := prog_7_method_4_code
def yX5_countRings : MethodName := ⟨RX5, "countRings", "([II)I"⟩
abbrev cX5_greatestRing : ByteArray := prog_7_method_5_code
def yX5_greatestRing : MethodName := ⟨RX5, "greatestRing", "([II)I"⟩
abbrev cX5_share : ByteArray := prog_7_method_6_code
def yX5_share : MethodName := ⟨RX5, "share", "(II[II)I"⟩
def RX6 : String := "HeadHill$Rule"
def TX6 : u_T := fun k => match k with
  | 0 => ("HeadHill$Rule", "steps", "[I", true)
  | 1 => ("HeadHill$Rule", "bounds", "[I", true)
  | _ => ("HeadHill$Rule", "clauses", "I", true)
def tyX6 : Nat → FieldType := fun k => match k with
  | 0 => .array .int
  | 1 => .array .int
  | _ => .int
abbrev wsX60 : List Cond := u_ws RX6 TX6 3
theorem nmX6 : ∀ a, a < 3 → ∀ b, b < 3 → a ≠ b → (TX6 a).2.1 ≠ (TX6 b).2.1 := by decide +kernel
theorem tyX6_ok : ∀ k, k < 3 → parseFieldDescriptor (TX6 k).2.2.1 = some (tyX6 k) := by decide +kernel
abbrev cX6_init : ByteArray := prog_8_method_1_code
def yX6_init : MethodName := ⟨RX6, "<init>", "([I[II)V"⟩
abbrev cX6_stepOf : ByteArray := prog_8_method_2_code
def yX6_stepOf : MethodName := ⟨RX6, "stepOf", "(I)I"⟩
abbrev cX6_tightnessOf : ByteArray := prog_8_method_3_code
def yX6_tightnessOf : MethodName := ⟨RX6, "tightnessOf", "(I)I"⟩
abbrev cX6_sumBy : ByteArray := prog_8_method_4_code
def yX6_sumBy : MethodName := ⟨RX6, "sumBy", "([J[J)J"⟩
abbrev cX6_work : ByteArray := prog_8_method_5_code
def yX6_work : MethodName := ⟨RX6, "work", "(II[J[J)J"⟩
abbrev cX6_joined : ByteArray := prog_8_method_6_code
def yX6_joined : MethodName := ⟨RX6, "joined", "(IJJ)J"⟩
def RX7 : String := "HeadHill$RuleReader"
def TX7 : u_T := fun k => match k with
  | 0 => ("HeadHill$RuleReader", "text", "LHeadHill$Text;", true)
  | 1 => ("HeadHill$RuleReader", "steps", "[I", true)
  | 2 => ("HeadHill$RuleReader", "waiting", "[I", true)
  | 3 => ("HeadHill$RuleReader", "bounds", "[I", true)
  | 4 => ("HeadHill$RuleReader", "length", "I", false)
  | 5 => ("HeadHill$RuleReader", "piled", "I", false)
  | 6 => ("HeadHill$RuleReader", "depth", "I", false)
  | 7 => ("HeadHill$RuleReader", "brackets", "I", false)
  | 8 => ("HeadHill$RuleReader", "parts", "I", false)
  | 9 => ("HeadHill$RuleReader", "clauses", "I", false)
  | _ => ("HeadHill$RuleReader", "state", "I", false)
def tyX7 : Nat → FieldType := fun k => match k with
  | 0 => .object "HeadHill$Text"
  | 1 => .array .int
  | 2 => .array .int
  | 3 => .array .int
  | 4 => .int
  | 5 => .int
  | 6 => .int
  | 7 => .int
  | 8 => .int
  | 9 => .int
  | _ => .int
abbrev wsX70 : List Cond := u_ws RX7 TX7 11
theorem nmX7 : ∀ a, a < 11 → ∀ b, b < 11 → a ≠ b → (TX7 a).2.1 ≠ (TX7 b).2.1 := by decide +kernel
theorem tyX7_ok : ∀ k, k < 11 → parseFieldDescriptor (TX7 k).2.2.1 = some (tyX7 k) := by decide +kernel
abbrev cX7_init : ByteArray := prog_9_method_1_code
def yX7_init : MethodName := ⟨RX7, "<init>", "()V"⟩
abbrev cX7_read : ByteArray := prog_9_method_2_code
def yX7_read : MethodName := ⟨RX7, "read", "()LHeadHill$Rule;"⟩
abbrev cX7_takeOne : ByteArray := prog_9_method_3_code
def yX7_takeOne : MethodName := ⟨RX7, "takeOne", "()V"⟩
abbrev cX7_takeRun : ByteArray := prog_9_method_4_code
def yX7_takeRun : MethodName := ⟨RX7, "takeRun", "()V"⟩
abbrev cX7_takeValue : ByteArray := prog_9_method_5_code
def yX7_takeValue : MethodName := ⟨RX7, "takeValue", "(I)V"⟩
abbrev cX7_takeFact : ByteArray := prog_9_method_6_code
def yX7_takeFact : MethodName := ⟨RX7, "takeFact", "()V"⟩
abbrev cX7_goOn : ByteArray := prog_9_method_7_code
def yX7_goOn : MethodName := ⟨RX7, "goOn", "()V"⟩
abbrev cX7_stepOfToken : ByteArray := prog_9_method_8_code
def yX7_stepOfToken : MethodName := ⟨RX7, "stepOfToken", "()I"⟩
abbrev cX7_isClauseEnd : ByteArray := prog_9_method_9_code
def yX7_isClauseEnd : MethodName := ⟨RX7, "isClauseEnd", "()Z"⟩
abbrev cX7_endSum : ByteArray := prog_9_method_10_code
def yX7_endSum : MethodName := ⟨RX7, "endSum", "()V"⟩
abbrev cX7_endClause : ByteArray := prog_9_method_11_code
def yX7_endClause : MethodName := ⟨RX7, "endClause", "()V"⟩
abbrev cX7_closeBracket : ByteArray := prog_9_method_12_code
def yX7_closeBracket : MethodName := ⟨RX7, "closeBracket", "()V"⟩
abbrev cX7_join : ByteArray := prog_9_method_13_code
def yX7_join : MethodName := ⟨RX7, "join", "(I)V"⟩
abbrev cX7_release : ByteArray := prog_9_method_14_code
def yX7_release : MethodName := ⟨RX7, "release", "(I)V"⟩
abbrev cX7_pile : ByteArray := prog_9_method_15_code
def yX7_pile : MethodName := ⟨RX7, "pile", "(I)V"⟩
abbrev cX7_addStep : ByteArray := prog_9_method_16_code
def yX7_addStep : MethodName := ⟨RX7, "addStep", "(I)V"⟩
abbrev cX7_countPart : ByteArray := prog_9_method_17_code
def yX7_countPart : MethodName := ⟨RX7, "countPart", "()V"⟩
def RX8 : String := "HeadHill$Text"
def TX8 : u_T := fun k => match k with
  | 0 => ("HeadHill$Text", "bytes", "[B", true)
  | 1 => ("HeadHill$Text", "length", "I", false)
  | 2 => ("HeadHill$Text", "fault", "I", false)
  | 3 => ("HeadHill$Text", "at", "I", false)
  | 4 => ("HeadHill$Text", "kind", "I", false)
  | 5 => ("HeadHill$Text", "value", "I", false)
  | _ => ("HeadHill$Text", "place", "I", false)
def tyX8 : Nat → FieldType := fun k => match k with
  | 0 => .array .byte
  | 1 => .int
  | 2 => .int
  | 3 => .int
  | 4 => .int
  | 5 => .int
  | _ => .int
abbrev wsX80 : List Cond := u_ws RX8 TX8 7
theorem nmX8 : ∀ a, a < 7 → ∀ b, b < 7 → a ≠ b → (TX8 a).2.1 ≠ (TX8 b).2.1 := by decide +kernel
theorem tyX8_ok : ∀ k, k < 7 → parseFieldDescriptor (TX8 k).2.2.1 = some (tyX8 k) := by decide +kernel
abbrev cX8_init : ByteArray := prog_10_method_1_code
def yX8_init : MethodName := ⟨RX8, "<init>", "()V"⟩
abbrev cX8_append : ByteArray := prog_10_method_2_code
def yX8_append : MethodName := ⟨RX8, "append", "(I)V"⟩
abbrev cX8_start : ByteArray := prog_10_method_3_code
def yX8_start : MethodName := ⟨RX8, "start", "()V"⟩
abbrev cX8_refuse : ByteArray := prog_10_method_4_code
def yX8_refuse : MethodName := ⟨RX8, "refuse", "(I)V"⟩
abbrev cX8_isWord : ByteArray := prog_10_method_5_code
def yX8_isWord : MethodName := ⟨RX8, "isWord", "(I)Z"⟩
abbrev cX8_isSign : ByteArray := prog_10_method_6_code
def yX8_isSign : MethodName := ⟨RX8, "isSign", "(C)Z"⟩
abbrev cX8_next : ByteArray := prog_10_method_7_code
def yX8_next : MethodName := ⟨RX8, "next", "()V"⟩
abbrev cX8_takeNumber : ByteArray := prog_10_method_8_code
def yX8_takeNumber : MethodName := ⟨RX8, "takeNumber", "()V"⟩
abbrev cX8_takeWord : ByteArray := prog_10_method_9_code
def yX8_takeWord : MethodName := ⟨RX8, "takeWord", "()V"⟩
abbrev cX8_takeSign : ByteArray := prog_10_method_10_code
def yX8_takeSign : MethodName := ⟨RX8, "takeSign", "()V"⟩
abbrev cX8_number : ByteArray := prog_10_method_11_code
def yX8_number : MethodName := ⟨RX8, "number", "(II)I"⟩
abbrev cX8_isLetter : ByteArray := prog_10_method_12_code
def yX8_isLetter : MethodName := ⟨RX8, "isLetter", "(B)Z"⟩
abbrev cX8_isDigit : ByteArray := prog_10_method_13_code
def yX8_isDigit : MethodName := ⟨RX8, "isDigit", "(B)Z"⟩
def RX9 : String := "HeadHill$Town"
def TX9 : u_T := fun k => match k with
  | 0 => ("HeadHill$Town", "hill", "LHeadHill$Hill;", false)
  | 1 => ("HeadHill$Town", "force", "I", false)
  | 2 => ("HeadHill$Town", "x", "I", false)
  | 3 => ("HeadHill$Town", "now", "LHeadHill$Moment;", true)
  | 4 => ("HeadHill$Town", "before", "[LHeadHill$Moment;", true)
  | 5 => ("HeadHill$Town", "acts", "I", false)
  | 6 => ("HeadHill$Town", "noteDay", "[I", true)
  | 7 => ("HeadHill$Town", "noteWare", "[I", true)
  | 8 => ("HeadHill$Town", "noteRunner", "[I", true)
  | _ => ("HeadHill$Town", "notes", "I", false)
def tyX9 : Nat → FieldType := fun k => match k with
  | 0 => .object "HeadHill$Hill"
  | 1 => .int
  | 2 => .int
  | 3 => .object "HeadHill$Moment"
  | 4 => .array (.object "HeadHill$Moment")
  | 5 => .int
  | 6 => .array .int
  | 7 => .array .int
  | 8 => .array .int
  | _ => .int
abbrev wsX90 : List Cond := u_ws RX9 TX9 10
theorem nmX9 : ∀ a, a < 10 → ∀ b, b < 10 → a ≠ b → (TX9 a).2.1 ≠ (TX9 b).2.1 := by decide +kernel
theorem tyX9_ok : ∀ k, k < 10 → parseFieldDescriptor (TX9 k).2.2.1 = some (tyX9 k) := by decide +kernel
abbrev cX9_init : ByteArray := prog_11_method_1_code
def yX9_init : MethodName := ⟨RX9, "<init>", "()V"⟩
abbrev cX9_settleOn : ByteArray := prog_11_method_2_code
def yX9_settleOn : MethodName := ⟨RX9, "settleOn", "(LHeadHill$Hill;)V"⟩
abbrev cX9_hasRunner : ByteArray := prog_11_method_3_code
def yX9_hasRunner : MethodName := ⟨RX9, "hasRunner", "(I)Z"⟩
abbrev cX9_hasWare : ByteArray := prog_11_method_4_code
def yX9_hasWare : MethodName := ⟨RX9, "hasWare", "(I)Z"⟩
abbrev cX9_wealthOfAll : ByteArray := prog_11_method_5_code
def yX9_wealthOfAll : MethodName := ⟨RX9, "wealthOfAll", "()I"⟩
abbrev cX9_waresThere : ByteArray := prog_11_method_6_code
def yX9_waresThere : MethodName := ⟨RX9, "waresThere", "()I"⟩
abbrev cX9_writeDown : ByteArray := prog_11_method_7_code
def yX9_writeDown : MethodName := ⟨RX9, "writeDown", "(III)V"⟩
abbrev cX9_remember : ByteArray := prog_11_method_8_code
def yX9_remember : MethodName := ⟨RX9, "remember", "()V"⟩
abbrev cX9_forgetOldest : ByteArray := prog_11_method_9_code
def yX9_forgetOldest : MethodName := ⟨RX9, "forgetOldest", "()V"⟩
abbrev cX9_keep : ByteArray := prog_11_method_10_code
def yX9_keep : MethodName := ⟨RX9, "keep", "(ILHeadHill$Moment;)V"⟩
abbrev cX9_takeBack : ByteArray := prog_11_method_11_code
def yX9_takeBack : MethodName := ⟨RX9, "takeBack", "()Z"⟩
abbrev cX9_become : ByteArray := prog_11_method_12_code
def yX9_become : MethodName := ⟨RX9, "become", "(LHeadHill$Town;)V"⟩
def RX10 : String := "HeadHill$Witness"
def TX10 : u_T := fun k => match k with
  | 0 => ("HeadHill$Witness", "course", "LHeadHill$Course;", true)
  | 1 => ("HeadHill$Witness", "trial", "LHeadHill$Moment;", true)
  | 2 => ("HeadHill$Witness", "gots", "[[I", true)
  | 3 => ("HeadHill$Witness", "fitting", "I", false)
  | _ => ("HeadHill$Witness", "first", "I", false)
def tyX10 : Nat → FieldType := fun k => match k with
  | 0 => .object "HeadHill$Course"
  | 1 => .object "HeadHill$Moment"
  | 2 => .array (.array .int)
  | 3 => .int
  | _ => .int
abbrev wsX100 : List Cond := u_ws RX10 TX10 5
theorem nmX10 : ∀ a, a < 5 → ∀ b, b < 5 → a ≠ b → (TX10 a).2.1 ≠ (TX10 b).2.1 := by decide +kernel
theorem tyX10_ok : ∀ k, k < 5 → parseFieldDescriptor (TX10 k).2.2.1 = some (tyX10 k) := by decide +kernel
abbrev cX10_init : ByteArray := prog_12_method_1_code
def yX10_init : MethodName := ⟨RX10, "<init>", "()V"⟩
abbrev cX10_hear : ByteArray := prog_12_method_2_code
def yX10_hear : MethodName := ⟨RX10, "hear", "(LHeadHill$Town;[LHeadHill$Rule;II)V"⟩
abbrev cX10_fits : ByteArray := prog_12_method_3_code
def yX10_fits : MethodName := ⟨RX10, "fits", "(LHeadHill$Town;LHeadHill$Rule;I)Z"⟩
abbrev cX10_lastOf : ByteArray := prog_12_method_4_code
def yX10_lastOf : MethodName := ⟨RX10, "lastOf", "(LHeadHill$Town;I)I"⟩
abbrev cX10_agrees : ByteArray := prog_12_method_5_code
def yX10_agrees : MethodName := ⟨RX10, "agrees", "(LHeadHill$Town;I)Z"⟩
abbrev cX10_bestWare : ByteArray := prog_12_method_6_code
def yX10_bestWare : MethodName := ⟨RX10, "bestWare", "(IZ)I"⟩
abbrev cX10_mostAlike : ByteArray := prog_12_method_7_code
def yX10_mostAlike : MethodName := ⟨RX10, "mostAlike", "(I)I"⟩
def RX11 : String := "HeadHill"
def TX11 : u_T := fun k => match k with
  | 0 => ("HeadHill", "reader", "LHeadHill$RuleReader;", true)
  | 1 => ("HeadHill", "tape", "LHeadHill$Text;", true)
  | 2 => ("HeadHill", "rules", "[LHeadHill$Rule;", true)
  | 3 => ("HeadHill", "ruleCount", "I", false)
  | 4 => ("HeadHill", "town", "LHeadHill$Town;", true)
  | 5 => ("HeadHill", "images", "[LHeadHill$Town;", true)
  | 6 => ("HeadHill", "course", "LHeadHill$Course;", true)
  | 7 => ("HeadHill", "future", "LHeadHill$Future;", true)
  | 8 => ("HeadHill", "choices", "LHeadHill$Choices;", true)
  | 9 => ("HeadHill", "witness", "LHeadHill$Witness;", true)
  | _ => ("HeadHill", "purses", "LHeadHill$Purses;", true)
def tyX11 : Nat → FieldType := fun k => match k with
  | 0 => .object "HeadHill$RuleReader"
  | 1 => .object "HeadHill$Text"
  | 2 => .array (.object "HeadHill$Rule")
  | 3 => .int
  | 4 => .object "HeadHill$Town"
  | 5 => .array (.object "HeadHill$Town")
  | 6 => .object "HeadHill$Course"
  | 7 => .object "HeadHill$Future"
  | 8 => .object "HeadHill$Choices"
  | 9 => .object "HeadHill$Witness"
  | _ => .object "HeadHill$Purses"
abbrev wsX110 : List Cond := u_ws RX11 TX11 11
theorem nmX11 : ∀ a, a < 11 → ∀ b, b < 11 → a ≠ b → (TX11 a).2.1 ≠ (TX11 b).2.1 := by decide +kernel
theorem tyX11_ok : ∀ k, k < 11 → parseFieldDescriptor (TX11 k).2.2.1 = some (tyX11 k) := by decide +kernel
abbrev cX11_init : ByteArray := prog_1_method_1_code
def yX11_init : MethodName := ⟨RX11, "<init>", "()V"⟩
abbrev cX11_feed : ByteArray := prog_1_method_2_code
def yX11_feed : MethodName := ⟨RX11, "feed", "(IIIII)I"⟩
abbrev cX11_end : ByteArray := prog_1_method_3_code
def yX11_end : MethodName := ⟨RX11, "end", "(I)I"⟩
abbrev cX11_hill : ByteArray := prog_1_method_4_code
def yX11_hill : MethodName := ⟨RX11, "hill", "()I"⟩
abbrev cX11_rule : ByteArray := prog_1_method_5_code
def yX11_rule : MethodName := ⟨RX11, "rule", "()I"⟩
abbrev cX11_force : ByteArray := prog_1_method_6_code
def yX11_force : MethodName := ⟨RX11, "force", "(I)I"⟩
abbrev cX11_runner : ByteArray := prog_1_method_7_code
def yX11_runner : MethodName := ⟨RX11, "runner", "(II)I"⟩
abbrev cX11_ware : ByteArray := prog_1_method_8_code
def yX11_ware : MethodName := ⟨RX11, "ware", "(II)I"⟩
abbrev cX11_day : ByteArray := prog_1_method_9_code
def yX11_day : MethodName := ⟨RX11, "day", "()I"⟩
abbrev cX11_lend : ByteArray := prog_1_method_10_code
def yX11_lend : MethodName := ⟨RX11, "lend", "(III)I"⟩
abbrev cX11_fall : ByteArray := prog_1_method_11_code
def yX11_fall : MethodName := ⟨RX11, "fall", "(I)I"⟩
abbrev cX11_shift : ByteArray := prog_1_method_12_code
def yX11_shift : MethodName := ⟨RX11, "shift", "(II)I"⟩
abbrev cX11_train : ByteArray := prog_1_method_13_code
def yX11_train : MethodName := ⟨RX11, "train", "(II)I"⟩
abbrev cX11_undo : ByteArray := prog_1_method_14_code
def yX11_undo : MethodName := ⟨RX11, "undo", "()I"⟩
abbrev cX11_ahead : ByteArray := prog_1_method_15_code
def yX11_ahead : MethodName := ⟨RX11, "ahead", "(III)I"⟩
abbrev cX11_gets : ByteArray := prog_1_method_16_code
def yX11_gets : MethodName := ⟨RX11, "gets", "(II)I"⟩
abbrev cX11_rank : ByteArray := prog_1_method_17_code
def yX11_rank : MethodName := ⟨RX11, "rank", "(II)I"⟩
abbrev cX11_need : ByteArray := prog_1_method_18_code
def yX11_need : MethodName := ⟨RX11, "need", "(III)I"⟩
abbrev cX11_lender : ByteArray := prog_1_method_19_code
def yX11_lender : MethodName := ⟨RX11, "lender", "(III)I"⟩
abbrev cX11_row : ByteArray := prog_1_method_20_code
def yX11_row : MethodName := ⟨RX11, "row", "(III)I"⟩
abbrev cX11_settle : ByteArray := prog_1_method_21_code
def yX11_settle : MethodName := ⟨RX11, "settle", "()I"⟩
abbrev cX11_rings : ByteArray := prog_1_method_22_code
def yX11_rings : MethodName := ⟨RX11, "rings", "(I)I"⟩
abbrev cX11_had : ByteArray := prog_1_method_23_code
def yX11_had : MethodName := ⟨RX11, "had", "(IIII)I"⟩
abbrev cX11_rests : ByteArray := prog_1_method_24_code
def yX11_rests : MethodName := ⟨RX11, "rests", "(III)I"⟩
abbrev cX11_pence : ByteArray := prog_1_method_25_code
def yX11_pence : MethodName := ⟨RX11, "pence", "(II)I"⟩
abbrev cX11_note : ByteArray := prog_1_method_26_code
def yX11_note : MethodName := ⟨RX11, "note", "(III)I"⟩
abbrev cX11_ruled : ByteArray := prog_1_method_27_code
def yX11_ruled : MethodName := ⟨RX11, "ruled", "(I)I"⟩
abbrev cX11_look : ByteArray := prog_1_method_28_code
def yX11_look : MethodName := ⟨RX11, "look", "(II)I"⟩
abbrev cX11_seed : ByteArray := prog_1_method_29_code
def yX11_seed : MethodName := ⟨RX11, "seed", "(I)I"⟩
abbrev cX11_falls : ByteArray := prog_1_method_30_code
def yX11_falls : MethodName := ⟨RX11, "falls", "(IIII)I"⟩
abbrev cX11_count : ByteArray := prog_1_method_31_code
def yX11_count : MethodName := ⟨RX11, "count", "(I)I"⟩
abbrev cX11_image : ByteArray := prog_1_method_32_code
def yX11_image : MethodName := ⟨RX11, "image", "(I)I"⟩
abbrev cX11_back : ByteArray := prog_1_method_33_code
def yX11_back : MethodName := ⟨RX11, "back", "(I)I"⟩
abbrev cX11_ruleInForce : ByteArray := prog_1_method_34_code
def yX11_ruleInForce : MethodName := ⟨RX11, "ruleInForce", "()LHeadHill$Rule;"⟩
abbrev cX11_isWithin : ByteArray := prog_1_method_35_code
def yX11_isWithin : MethodName := ⟨RX11, "isWithin", "(III)Z"⟩
def RX12 : String := "HeadHillModel"
def TX12 : u_T := fun k => match k with
  | 0 => ("HeadHillModel", "thrown", "I", false)
  | 1 => ("HeadHillModel", "scalar", "[I", true)
  | 2 => ("HeadHillModel", "purse", "[I", true)
  | 3 => ("HeadHillModel", "wealth", "[I", true)
  | 4 => ("HeadHillModel", "speed", "[I", true)
  | 5 => ("HeadHillModel", "far", "[I", true)
  | 6 => ("HeadHillModel", "got", "[I", true)
  | 7 => ("HeadHillModel", "worth", "[I", true)
  | 8 => ("HeadHillModel", "every", "[I", true)
  | 9 => ("HeadHillModel", "noteDay", "[I", true)
  | 10 => ("HeadHillModel", "noteWare", "[I", true)
  | 11 => ("HeadHillModel", "noteWho", "[I", true)
  | 12 => ("HeadHillModel", "toldSpeed", "[I", true)
  | 13 => ("HeadHillModel", "toldPurse", "[I", true)
  | 14 => ("HeadHillModel", "toldFar", "[I", true)
  | 15 => ("HeadHillModel", "newScalar", "[I", true)
  | 16 => ("HeadHillModel", "newSpeed", "[I", true)
  | 17 => ("HeadHillModel", "newPurse", "[I", true)
  | 18 => ("HeadHillModel", "newFar", "[I", true)
  | 19 => ("HeadHillModel", "newWorth", "[I", true)
  | 20 => ("HeadHillModel", "newEvery", "[I", true)
  | 21 => ("HeadHillModel", "taped", "I", false)
  | 22 => ("HeadHillModel", "p", "I", false)
  | 23 => ("HeadHillModel", "fault", "I", false)
  | 24 => ("HeadHillModel", "slot", "I", false)
  | 25 => ("HeadHillModel", "rules", "I", false)
  | 26 => ("HeadHillModel", "entries", "I", false)
  | 27 => ("HeadHillModel", "deep", "I", false)
  | 28 => ("HeadHillModel", "counted", "I", false)
  | 29 => ("HeadHillModel", "opened", "I", false)
  | 30 => ("HeadHillModel", "words", "I", false)
  | 31 => ("HeadHillModel", "tape", "[B", true)
  | 32 => ("HeadHillModel", "sort", "[I", true)
  | 33 => ("HeadHillModel", "number", "[I", true)
  | 34 => ("HeadHillModel", "clauses", "[I", true)
  | 35 => ("HeadHillModel", "sumAt", "[I", true)
  | 36 => ("HeadHillModel", "testAt", "[I", true)
  | 37 => ("HeadHillModel", "endAt", "[I", true)
  | 38 => ("HeadHillModel", "open", "[I", true)
  | 39 => ("HeadHillModel", "asked", "[J", true)
  | 40 => ("HeadHillModel", "stack", "[J", true)
  | 41 => ("HeadHillModel", "runs", "[I", true)
  | 42 => ("HeadHillModel", "must", "[I", true)
  | 43 => ("HeadHillModel", "past", "[I", true)
  | 44 => ("HeadHillModel", "pastOf", "[I", true)
  | 45 => ("HeadHillModel", "pastMany", "I", false)
  | 46 => ("HeadHillModel", "pastAt", "I", false)
  | 47 => ("HeadHillModel", "takesBack", "Z", false)
  | 48 => ("HeadHillModel", "tried", "[I", true)
  | 49 => ("HeadHillModel", "bestRow", "[I", true)
  | 50 => ("HeadHillModel", "settled", "[I", true)
  | 51 => ("HeadHillModel", "firstHas", "[I", true)
  | 52 => ("HeadHillModel", "secondHas", "[I", true)
  | 53 => ("HeadHillModel", "lay", "[I", true)
  | 54 => ("HeadHillModel", "shows", "[I", true)
  | 55 => ("HeadHillModel", "images", "[I", true)
  | 56 => ("HeadHillModel", "isMade", "[Z", true)
  | 57 => ("HeadHillModel", "imageAt", "I", false)
  | _ => ("HeadHillModel", "goesBack", "Z", false)
def tyX12 : Nat → FieldType := fun k => match k with
  | 0 => .int
  | 1 => .array .int
  | 2 => .array .int
  | 3 => .array .int
  | 4 => .array .int
  | 5 => .array .int
  | 6 => .array .int
  | 7 => .array .int
  | 8 => .array .int
  | 9 => .array .int
  | 10 => .array .int
  | 11 => .array .int
  | 12 => .array .int
  | 13 => .array .int
  | 14 => .array .int
  | 15 => .array .int
  | 16 => .array .int
  | 17 => .array .int
  | 18 => .array .int
  | 19 => .array .int
  | 20 => .array .int
  | 21 => .int
  | 22 => .int
  | 23 => .int
  | 24 => .int
  | 25 => .int
  | 26 => .int
  | 27 => .int
  | 28 => .int
  | 29 => .int
  | 30 => .int
  | 31 => .array .byte
  | 32 => .array .int
  | 33 => .array .int
  | 34 => .array .int
  | 35 => .array .int
  | 36 => .array .int
  | 37 => .array .int
  | 38 => .array .int
  | 39 => .array .long
  | 40 => .array .long
  | 41 => .array .int
  | 42 => .array .int
  | 43 => .array .int
  | 44 => .array .int
  | 45 => .int
  | 46 => .int
  | 47 => .boolean
  | 48 => .array .int
  | 49 => .array .int
  | 50 => .array .int
  | 51 => .array .int
  | 52 => .array .int
  | 53 => .array .int
  | 54 => .array .int
  | 55 => .array .int
  | 56 => .array .boolean
  | 57 => .int
  | _ => .boolean
abbrev wsX120 : List Cond := u_ws RX12 TX12 59
theorem nmX12 : ∀ a, a < 59 → ∀ b, b < 59 → a ≠ b → (TX12 a).2.1 ≠ (TX12 b).2.1 := by decide +kernel
theorem tyX12_ok : ∀ k, k < 59 → parseFieldDescriptor (TX12 k).2.2.1 = some (tyX12 k) := by decide +kernel
abbrev cX12_init : ByteArray := prog_14_method_1_code
def yX12_init : MethodName := ⟨RX12, "<init>", "()V"⟩
abbrev cX12_in : ByteArray := prog_14_method_3_code
def yX12_in : MethodName := ⟨RX12, "in", "(JJJ)Z"⟩
abbrev cX12_bits : ByteArray := prog_14_method_4_code
def yX12_bits : MethodName := ⟨RX12, "bits", "(I)I"⟩
abbrev cX12_has : ByteArray := prog_14_method_5_code
def yX12_has : MethodName := ⟨RX12, "has", "(II)Z"⟩
abbrev cX12_isHill : ByteArray := prog_14_method_6_code
def yX12_isHill : MethodName := ⟨RX12, "isHill", "()Z"⟩
abbrev cX12_isRunner : ByteArray := prog_14_method_7_code
def yX12_isRunner : MethodName := ⟨RX12, "isRunner", "(I)Z"⟩
abbrev cX12_isWare : ByteArray := prog_14_method_8_code
def yX12_isWare : MethodName := ⟨RX12, "isWare", "(I)Z"⟩
abbrev cX12_feed : ByteArray := prog_14_method_9_code
def yX12_feed : MethodName := ⟨RX12, "feed", "(IIIII)I"⟩
abbrev cX12_put : ByteArray := prog_14_method_10_code
def yX12_put : MethodName := ⟨RX12, "put", "(I)V"⟩
abbrev cX12_end : ByteArray := prog_14_method_11_code
def yX12_end : MethodName := ⟨RX12, "end", "(I)I"⟩
abbrev cX12_wordOf : ByteArray := prog_14_method_12_code
def yX12_wordOf : MethodName := ⟨RX12, "wordOf", "(I)Ljava/lang/String;"⟩
abbrev cX12_fails : ByteArray := prog_14_method_13_code
def yX12_fails : MethodName := ⟨RX12, "fails", "(II)V"⟩
abbrev cX12_sign : ByteArray := prog_14_method_14_code
def yX12_sign : MethodName := ⟨RX12, "sign", "()I"⟩
abbrev cX12_blanks : ByteArray := prog_14_method_15_code
def yX12_blanks : MethodName := ⟨RX12, "blanks", "()V"⟩
abbrev cX12_isDigit : ByteArray := prog_14_method_16_code
def yX12_isDigit : MethodName := ⟨RX12, "isDigit", "()Z"⟩
abbrev cX12_stood : ByteArray := prog_14_method_17_code
def yX12_stood : MethodName := ⟨RX12, "stood", "(Ljava/lang/String;)Z"⟩
abbrev cX12_takes : ByteArray := prog_14_method_18_code
def yX12_takes : MethodName := ⟨RX12, "takes", "(Ljava/lang/String;)Z"⟩
abbrev cX12_entry : ByteArray := prog_14_method_19_code
def yX12_entry : MethodName := ⟨RX12, "entry", "(II)V"⟩
abbrev cX12_isCounted : ByteArray := prog_14_method_20_code
def yX12_isCounted : MethodName := ⟨RX12, "isCounted", "(I)V"⟩
abbrev cX12_digits : ByteArray := prog_14_method_21_code
def yX12_digits : MethodName := ⟨RX12, "digits", "(I)I"⟩
abbrev cX12_value : ByteArray := prog_14_method_22_code
def yX12_value : MethodName := ⟨RX12, "value", "()V"⟩
abbrev cX12_term : ByteArray := prog_14_method_23_code
def yX12_term : MethodName := ⟨RX12, "term", "()V"⟩
abbrev cX12_sum : ByteArray := prog_14_method_24_code
def yX12_sum : MethodName := ⟨RX12, "sum", "()V"⟩
abbrev cX12_compared : ByteArray := prog_14_method_25_code
def yX12_compared : MethodName := ⟨RX12, "compared", "()V"⟩
abbrev cX12_top : ByteArray := prog_14_method_26_code
def yX12_top : MethodName := ⟨RX12, "top", "()I"⟩
abbrev cX12_opens : ByteArray := prog_14_method_27_code
def yX12_opens : MethodName := ⟨RX12, "opens", "(I)V"⟩
abbrev cX12_answers : ByteArray := prog_14_method_28_code
def yX12_answers : MethodName := ⟨RX12, "answers", "(I)V"⟩
abbrev cX12_fact : ByteArray := prog_14_method_29_code
def yX12_fact : MethodName := ⟨RX12, "fact", "()Z"⟩
abbrev cX12_test : ByteArray := prog_14_method_30_code
def yX12_test : MethodName := ⟨RX12, "test", "()V"⟩
abbrev cX12_amount : ByteArray := prog_14_method_31_code
def yX12_amount : MethodName := ⟨RX12, "amount", "(II)I"⟩
abbrev cX12_hillWord : ByteArray := prog_14_method_32_code
def yX12_hillWord : MethodName := ⟨RX12, "hillWord", "(I)Ljava/lang/String;"⟩
abbrev cX12_hillPart : ByteArray := prog_14_method_33_code
def yX12_hillPart : MethodName := ⟨RX12, "hillPart", "(I)V"⟩
abbrev cX12_isFull : ByteArray := prog_14_method_34_code
def yX12_isFull : MethodName := ⟨RX12, "isFull", "(II)Z"⟩
abbrev cX12_hillClause : ByteArray := prog_14_method_35_code
def yX12_hillClause : MethodName := ⟨RX12, "hillClause", "(I)V"⟩
abbrev cX12_copies : ByteArray := prog_14_method_36_code
def yX12_copies : MethodName := ⟨RX12, "copies", "([I[I)V"⟩
abbrev cX12_goesOn : ByteArray := prog_14_method_37_code
def yX12_goesOn : MethodName := ⟨RX12, "goesOn", "()Z"⟩
abbrev cX12_starts : ByteArray := prog_14_method_38_code
def yX12_starts : MethodName := ⟨RX12, "starts", "()V"⟩
abbrev cX12_readsAll : ByteArray := prog_14_method_39_code
def yX12_readsAll : MethodName := ⟨RX12, "readsAll", "()V"⟩
abbrev cX12_begins : ByteArray := prog_14_method_40_code
def yX12_begins : MethodName := ⟨RX12, "begins", "()V"⟩
abbrev cX12_hill : ByteArray := prog_14_method_41_code
def yX12_hill : MethodName := ⟨RX12, "hill", "()I"⟩
abbrev cX12_ruleClause : ByteArray := prog_14_method_42_code
def yX12_ruleClause : MethodName := ⟨RX12, "ruleClause", "(I)V"⟩
abbrev cX12_rule : ByteArray := prog_14_method_43_code
def yX12_rule : MethodName := ⟨RX12, "rule", "()I"⟩
abbrev cX12_force : ByteArray := prog_14_method_44_code
def yX12_force : MethodName := ⟨RX12, "force", "(I)I"⟩
abbrev cX12_wanted : ByteArray := prog_14_method_45_code
def yX12_wanted : MethodName := ⟨RX12, "wanted", "()J"⟩
abbrev cX12_truth : ByteArray := prog_14_method_46_code
def yX12_truth : MethodName := ⟨RX12, "truth", "(Z)J"⟩
abbrev cX12_both : ByteArray := prog_14_method_47_code
def yX12_both : MethodName := ⟨RX12, "both", "(IJJ)J"⟩
abbrev cX12_answer : ByteArray := prog_14_method_48_code
def yX12_answer : MethodName := ⟨RX12, "answer", "(III)J"⟩
abbrev cX12_isThere : ByteArray := prog_14_method_49_code
def yX12_isThere : MethodName := ⟨RX12, "isThere", "(I)Z"⟩
abbrev cX12_runner : ByteArray := prog_14_method_50_code
def yX12_runner : MethodName := ⟨RX12, "runner", "(II)I"⟩
abbrev cX12_ware : ByteArray := prog_14_method_51_code
def yX12_ware : MethodName := ⟨RX12, "ware", "(II)I"⟩
abbrev cX12_isAhead : ByteArray := prog_14_method_52_code
def yX12_isAhead : MethodName := ⟨RX12, "isAhead", "(III)Z"⟩
abbrev cX12_allWealth : ByteArray := prog_14_method_53_code
def yX12_allWealth : MethodName := ⟨RX12, "allWealth", "()I"⟩
abbrev cX12_rivals : ByteArray := prog_14_method_54_code
def yX12_rivals : MethodName := ⟨RX12, "rivals", "(II)I"⟩
abbrev cX12_lead : ByteArray := prog_14_method_55_code
def yX12_lead : MethodName := ⟨RX12, "lead", "(I)I"⟩
abbrev cX12_likes : ByteArray := prog_14_method_56_code
def yX12_likes : MethodName := ⟨RX12, "likes", "(II)J"⟩
abbrev cX12_choice : ByteArray := prog_14_method_57_code
def yX12_choice : MethodName := ⟨RX12, "choice", "(I)I"⟩
abbrev cX12_firstTo : ByteArray := prog_14_method_58_code
def yX12_firstTo : MethodName := ⟨RX12, "firstTo", "(I)I"⟩
abbrev cX12_pays : ByteArray := prog_14_method_59_code
def yX12_pays : MethodName := ⟨RX12, "pays", "(I)V"⟩
abbrev cX12_goes : ByteArray := prog_14_method_60_code
def yX12_goes : MethodName := ⟨RX12, "goes", "()I"⟩
abbrev cX12_goFor : ByteArray := prog_14_method_61_code
def yX12_goFor : MethodName := ⟨RX12, "goFor", "(I)V"⟩
abbrev cX12_moves : ByteArray := prog_14_method_62_code
def yX12_moves : MethodName := ⟨RX12, "moves", "(I)I"⟩
abbrev cX12_movesRow : ByteArray := prog_14_method_63_code
def yX12_movesRow : MethodName := ⟨RX12, "movesRow", "([I)V"⟩
abbrev cX12_movesAll : ByteArray := prog_14_method_64_code
def yX12_movesAll : MethodName := ⟨RX12, "movesAll", "(IZ)V"⟩
abbrev cX12_keepsAct : ByteArray := prog_14_method_65_code
def yX12_keepsAct : MethodName := ⟨RX12, "keepsAct", "()V"⟩
abbrev cX12_undo : ByteArray := prog_14_method_66_code
def yX12_undo : MethodName := ⟨RX12, "undo", "()I"⟩
abbrev cX12_day : ByteArray := prog_14_method_67_code
def yX12_day : MethodName := ⟨RX12, "day", "()I"⟩
abbrev cX12_canLend : ByteArray := prog_14_method_68_code
def yX12_canLend : MethodName := ⟨RX12, "canLend", "(III)Z"⟩
abbrev cX12_lend : ByteArray := prog_14_method_69_code
def yX12_lend : MethodName := ⟨RX12, "lend", "(III)I"⟩
abbrev cX12_fall : ByteArray := prog_14_method_70_code
def yX12_fall : MethodName := ⟨RX12, "fall", "(I)I"⟩
abbrev cX12_shift : ByteArray := prog_14_method_71_code
def yX12_shift : MethodName := ⟨RX12, "shift", "(II)I"⟩
abbrev cX12_train : ByteArray := prog_14_method_72_code
def yX12_train : MethodName := ⟨RX12, "train", "(II)I"⟩
abbrev cX12_keepsAll : ByteArray := prog_14_method_73_code
def yX12_keepsAll : MethodName := ⟨RX12, "keepsAll", "()V"⟩
abbrev cX12_laysBack : ByteArray := prog_14_method_74_code
def yX12_laysBack : MethodName := ⟨RX12, "laysBack", "()V"⟩
abbrev cX12_ahead : ByteArray := prog_14_method_75_code
def yX12_ahead : MethodName := ⟨RX12, "ahead", "(III)I"⟩
abbrev cX12_firstGot : ByteArray := prog_14_method_76_code
def yX12_firstGot : MethodName := ⟨RX12, "firstGot", "(I)I"⟩
abbrev cX12_gets : ByteArray := prog_14_method_77_code
def yX12_gets : MethodName := ⟨RX12, "gets", "(II)I"⟩
abbrev cX12_rank : ByteArray := prog_14_method_78_code
def yX12_rank : MethodName := ⟨RX12, "rank", "(II)I"⟩
abbrev cX12_wealthIn : ByteArray := prog_14_method_79_code
def yX12_wealthIn : MethodName := ⟨RX12, "wealthIn", "(II)I"⟩
abbrev cX12_need : ByteArray := prog_14_method_80_code
def yX12_need : MethodName := ⟨RX12, "need", "(III)I"⟩
abbrev cX12_lender : ByteArray := prog_14_method_81_code
def yX12_lender : MethodName := ⟨RX12, "lender", "(III)I"⟩
abbrev cX12_wealthByRow : ByteArray := prog_14_method_82_code
def yX12_wealthByRow : MethodName := ⟨RX12, "wealthByRow", "(IIII)I"⟩
abbrev cX12_row : ByteArray := prog_14_method_83_code
def yX12_row : MethodName := ⟨RX12, "row", "(III)I"⟩
abbrev cX12_sumOf : ByteArray := prog_14_method_84_code
def yX12_sumOf : MethodName := ⟨RX12, "sumOf", "(I)I"⟩
abbrev cX12_settle : ByteArray := prog_14_method_85_code
def yX12_settle : MethodName := ⟨RX12, "settle", "()I"⟩
abbrev cX12_rings : ByteArray := prog_14_method_86_code
def yX12_rings : MethodName := ⟨RX12, "rings", "(I)I"⟩
abbrev cX12_had : ByteArray := prog_14_method_87_code
def yX12_had : MethodName := ⟨RX12, "had", "(IIII)I"⟩
abbrev cX12_mayRun : ByteArray := prog_14_method_88_code
def yX12_mayRun : MethodName := ⟨RX12, "mayRun", "(I)Z"⟩
abbrev cX12_laysRuns : ByteArray := prog_14_method_89_code
def yX12_laysRuns : MethodName := ⟨RX12, "laysRuns", "(II)V"⟩
abbrev cX12_isRest : ByteArray := prog_14_method_90_code
def yX12_isRest : MethodName := ⟨RX12, "isRest", "(I)Z"⟩
abbrev cX12_rests : ByteArray := prog_14_method_91_code
def yX12_rests : MethodName := ⟨RX12, "rests", "(III)I"⟩
abbrev cX12_pence : ByteArray := prog_14_method_92_code
def yX12_pence : MethodName := ⟨RX12, "pence", "(II)I"⟩
abbrev cX12_note : ByteArray := prog_14_method_93_code
def yX12_note : MethodName := ⟨RX12, "note", "(III)I"⟩
abbrev cX12_couldRule : ByteArray := prog_14_method_94_code
def yX12_couldRule : MethodName := ⟨RX12, "couldRule", "(I)Z"⟩
abbrev cX12_ruled : ByteArray := prog_14_method_95_code
def yX12_ruled : MethodName := ⟨RX12, "ruled", "(I)I"⟩
abbrev cX12_mostAlike : ByteArray := prog_14_method_96_code
def yX12_mostAlike : MethodName := ⟨RX12, "mostAlike", "(II)I"⟩
abbrev cX12_look : ByteArray := prog_14_method_97_code
def yX12_look : MethodName := ⟨RX12, "look", "(II)I"⟩
abbrev cX12_seed : ByteArray := prog_14_method_98_code
def yX12_seed : MethodName := ⟨RX12, "seed", "(I)I"⟩
abbrev cX12_draws : ByteArray := prog_14_method_99_code
def yX12_draws : MethodName := ⟨RX12, "draws", "(I)I"⟩
abbrev cX12_greatestPurse : ByteArray := prog_14_method_100_code
def yX12_greatestPurse : MethodName := ⟨RX12, "greatestPurse", "()I"⟩
abbrev cX12_falls : ByteArray := prog_14_method_101_code
def yX12_falls : MethodName := ⟨RX12, "falls", "(IIII)I"⟩
abbrev cX12_allThere : ByteArray := prog_14_method_102_code
def yX12_allThere : MethodName := ⟨RX12, "allThere", "()I"⟩
abbrev cX12_count : ByteArray := prog_14_method_103_code
def yX12_count : MethodName := ⟨RX12, "count", "(I)I"⟩
abbrev cX12_carryRow : ByteArray := prog_14_method_104_code
def yX12_carryRow : MethodName := ⟨RX12, "carryRow", "([I)V"⟩
abbrev cX12_carriesAll : ByteArray := prog_14_method_105_code
def yX12_carriesAll : MethodName := ⟨RX12, "carriesAll", "(IZ)V"⟩
abbrev cX12_image : ByteArray := prog_14_method_106_code
def yX12_image : MethodName := ⟨RX12, "image", "(I)I"⟩
abbrev cX12_back : ByteArray := prog_14_method_107_code
def yX12_back : MethodName := ⟨RX12, "back", "(I)I"⟩
def RJ6 : String := "java/lang/Integer"
abbrev cJ6_bitCount_0f7a4 : ByteArray := prog_16_method_49_code
def yJ6_bitCount_0f7a4 : MethodName := ⟨RJ6, "bitCount", "(I)I"⟩
def RJ9 : String := "java/lang/Math"
abbrev cJ9_max_7cf53 : ByteArray := prog_17_method_65_code
def yJ9_max_7cf53 : MethodName := ⟨RJ9, "max", "(II)I"⟩
abbrev cJ9_min_7cf53 : ByteArray := prog_17_method_69_code
def yJ9_min_7cf53 : MethodName := ⟨RJ9, "min", "(II)I"⟩
def RJ0 : String := "java/lang/String"
abbrev cJ0_length_8abf5 : ByteArray := prog_18_method_54_code
def yJ0_length_8abf5 : MethodName := ⟨RJ0, "length", "()I"⟩
abbrev cJ0_charAt_5068e : ByteArray := prog_18_method_56_code
def yJ0_charAt_5068e : MethodName := ⟨RJ0, "charAt", "(I)C"⟩
abbrev cJ0_coder_7d493 : ByteArray := prog_18_method_152_code
def yJ0_coder_7d493 : MethodName := ⟨RJ0, "coder", "()B"⟩
abbrev cJ0_isLatin1_aae02 : ByteArray := prog_18_method_154_code
def yJ0_isLatin1_aae02 : MethodName := ⟨RJ0, "isLatin1", "()Z"⟩
abbrev cJ0_checkIndex_df160 : ByteArray := prog_18_method_155_code
def yJ0_checkIndex_df160 : MethodName := ⟨RJ0, "checkIndex", "(II)V"⟩
def RJ1 : String := "java/lang/StringLatin1"
abbrev cJ1_charAt_3b067 : ByteArray := prog_19_method_2_code
def yJ1_charAt_3b067 : MethodName := ⟨RJ1, "charAt", "([BI)C"⟩
def RJ2 : String := "java/lang/StringUTF16"
abbrev cJ2_getChar_3b067 : ByteArray := prog_20_method_5_code
def yJ2_getChar_3b067 : MethodName := ⟨RJ2, "getChar", "([BI)C"⟩
abbrev cJ2_length_9d52b : ByteArray := prog_20_method_6_code
def yJ2_length_9d52b : MethodName := ⟨RJ2, "length", "([B)I"⟩
abbrev cJ2_charAt_3b067 : ByteArray := prog_20_method_83_code
def yJ2_charAt_3b067 : MethodName := ⟨RJ2, "charAt", "([BI)C"⟩
abbrev cJ2_checkIndex_2214a : ByteArray := prog_20_method_91_code
def yJ2_checkIndex_2214a : MethodName := ⟨RJ2, "checkIndex", "(I[B)V"⟩
def RJ10 : String := "java/lang/System"
def RJ7 : String := "java/util/Arrays"
abbrev cJ7_fill_53178 : ByteArray := prog_22_method_103_code
def yJ7_fill_53178 : MethodName := ⟨RJ7, "fill", "([II)V"⟩
abbrev cJ7_copyOf_59c91 : ByteArray := prog_22_method_123_code
def yJ7_copyOf_59c91 : MethodName := ⟨RJ7, "copyOf", "([II)[I"⟩
def RJ3 : String := "jdk/internal/util/Preconditions"
abbrev cJ3_checkIndex_8e157 : ByteArray := prog_23_method_11_code
def yJ3_checkIndex_8e157 : MethodName := ⟨RJ3, "checkIndex", "(IILjava/util/function/BiFunction;)I"⟩
end
section
/-! The abstract heap: cells by numbers 1, 2, ..; a shape (kind, length) and contents by cell and place. Kinds: 1 int[], 2 byte[], 3 boolean[], 4 long[], 5 Rule[], 6 Town[], 7 Moment[], 8 int[][], 10 + c an object of class c. -/
abbrev AH : Type := (Nat → Nat × Nat) × (Nat → Nat → Int32) × (Nat → Nat → Int64) × (Nat → Nat → Nat) × Nat × Nat
def hS (h : AH) (a : Nat) : Nat × Nat := h.1 a
def hI (h : AH) (a i : Nat) : Int32 := h.2.1 a i
def hL (h : AH) (a i : Nat) : Int64 := h.2.2.1 a i
def hR (h : AH) (a i : Nat) : Nat := h.2.2.2.1 a i
def hN (h : AH) : Nat := h.2.2.2.2.1
def hU (h : AH) : Nat := h.2.2.2.2.2
def up2 {α : Type} (f : Nat → Nat → α) (a i : Nat) (x : α) : Nat → Nat → α := fun b j => if b = a then (if j = i then x else f b j) else f b j
def up1 {α : Type} (f : Nat → α) (a : Nat) (g : α) : Nat → α := fun b => if b = a then g else f b
def sI (h : AH) (a i : Nat) (x : Int32) : AH := (h.1, up2 h.2.1 a i x, h.2.2)
def sL (h : AH) (a i : Nat) (x : Int64) : AH := (h.1, h.2.1, up2 h.2.2.1 a i x, h.2.2.2)
def sR (h : AH) (a i : Nat) (x : Nat) : AH := (h.1, h.2.1, h.2.2.1, up2 h.2.2.2.1 a i x, h.2.2.2.2)
/-- the ints of cell b, n of them from place t on, are those of cell a from place f on -/
def cpI (h : AH) (a f b t n : Nat) : AH := (h.1, up1 h.2.1 b (va_cpy (h.2.1 a) (h.2.1 b) f t n), h.2.2)
/-- a new cell of kind k and length n -/
def nC (h : AH) (k n : Nat) : AH := (up1 h.1 (hN h) (k, n), up1 h.2.1 (hN h) (fun _ => 0), up1 h.2.2.1 (hN h) (fun _ => 0), up1 h.2.2.2.1 (hN h) (fun _ => 0), hN h + 1, hU h + n)
/-- new int[n][k]: the outer one first, then the inner ones -/
def nM (h : AH) (n k : Nat) : AH := (fun b => if b = hN h then (8, n) else if hN h < b ∧ b ≤ hN h + n then (1, k) else h.1 b, fun b i => if hN h ≤ b ∧ b ≤ hN h + n then 0 else h.2.1 b i, fun b i => if hN h ≤ b ∧ b ≤ hN h + n then 0 else h.2.2.1 b i, fun b i => if b = hN h then (if i < n then hN h + 1 + i else 0) else if hN h < b ∧ b ≤ hN h + n then 0 else h.2.2.2.1 b i, hN h + 1 + n, hU h + n + n * k)
/-- the classes, in the order of the names; their fields' types -/
def cl13 : List vw_C := [(RX0, TX0, 11), (RX1, TX1, 4), (RX2, TX2, 5), (RX3, TX3, 8), (RX4, TX4, 6), (RX5, TX5, 1), (RX6, TX6, 3), (RX7, TX7, 11), (RX8, TX8, 7), (RX9, TX9, 10), (RX10, TX10, 5), (RX11, TX11, 11), (RX12, TX12, 59)]
def ty13 : List (Nat → FieldType) := [tyX0, tyX1, tyX2, tyX3, tyX4, tyX5, tyX6, tyX7, tyX8, tyX9, tyX10, tyX11, tyX12]
def fTy (c k : Nat) : FieldType := (ty13.getD c tyX0) k
def fN (c : Nat) : Nat := (cl13.getD c (RX0, TX0, 11)).2.2
/-- what a number of the abstract machine is in the machine's heap: 0 is null, k is the k-th cell behind B; a text by its number -/
def rfo (B r : Nat) : Option Nat := if r = 0 then none else some (B + r)
def cv (B : Nat) (adK : Nat → Nat) : Value → Value
  | .ref r => va_rf (rfo B r)
  | .retAddr k => .ref (adK k)
  | v => v
def fV (B : Nat) (h : AH) (a c k : Nat) : Value := match fTy c k with
  | .int => .int (hI h a k)
  | .boolean => .int (hI h a k)
  | _ => va_rf (rfo B (hR h a k))
def cellE (B : Nat) (cid : Nat → ClassId) (h : AH) (a : Nat) : va_E :=
  if (hS h a).1 = 1 then .inl (cid 1, (hS h a).2, .inl (hI h a)) else if (hS h a).1 = 2 then .inl (cid 2, (hS h a).2, .inl (hI h a)) else if (hS h a).1 = 3 then .inl (cid 3, (hS h a).2, .inl (hI h a)) else if (hS h a).1 = 4 then .inl (cid 4, (hS h a).2, .inr (.inl (hL h a)))
  else if (hS h a).1 < 10 then .inl (cid (hS h a).1, (hS h a).2, .inr (.inr (.inr (.inr (fun i => rfo B (hR h a i)))))) else .inr ((hS h a).1 - 10, (List.range (fN ((hS h a).1 - 10))).map (fV B h a ((hS h a).1 - 10)))
def wsOf (B : Nat) (cid : Nat → ClassId) (h : AH) : va_W := (List.range (hN h - 1)).map (fun j => (B + (j + 1), cellE B cid h (j + 1)))
def tysOf (cid : Nat → ClassId) : List (ClassId × FieldType) := [(cid 1, .int), (cid 2, .byte), (cid 3, .boolean), (cid 4, .long), (cid 5, .object RX6), (cid 6, .object RX9), (cid 7, .object RX4), (cid 8, .array .int)]
/-- cells that are there are those of numbers 1 .. hN - 1 -/
def wfH (h : AH) : Prop := 1 ≤ hN h ∧ ∀ a, (hS h a).1 ≠ 0 → 1 ≤ a ∧ a < hN h
def Rel (B : Nat) (D : va_G) (cid : Nat → ClassId) (h : AH) (H : Heap) : Prop := va_P D cl13 (wsOf B cid h) H ∧ wfH h
def AB (B : Nat) : Nat → Prop := fun q => B < q
theorem wsOf_at {B : Nat} {cid : Nat → ClassId} {h : AH} {a : Nat} (h1 : 1 ≤ a) (h2 : a < hN h) : (wsOf B cid h)[a - 1]? = some (B + a, cellE B cid h a) := by
  have e : a - 1 + 1 = a := by omega
  simp only [wsOf, List.getElem?_map]
  rw [List.getElem?_range (by omega)]
  simp [e]
theorem wsOf_of {B : Nat} {cid : Nat → ClassId} {h : AH} {k : Nat} {q : Nat × va_E} (hq : (wsOf B cid h)[k]? = some q) : k + 1 < hN h ∧ q = (B + (k + 1), cellE B cid h (k + 1)) := by
  simp only [wsOf, List.getElem?_map] at hq
  by_cases hk : k < hN h - 1
  · rw [List.getElem?_range hk] at hq
    simp at hq
    exact ⟨by omega, hq.symm⟩
  · rw [List.getElem?_eq_none (by simp; omega)] at hq
    simp at hq
theorem wsOf_len (B : Nat) (cid : Nat → ClassId) (h : AH) : (wsOf B cid h).length = hN h - 1 := by simp [wsOf]
theorem wsOf_D (B : Nat) (cid : Nat → ClassId) (h : AH) : va_D (AB B) (wsOf B cid h) := by
  refine ⟨fun i j p q hi hj e => ?_, fun k q hk => ?_⟩
  · have h1 := (wsOf_of hi).2
    have h2 := (wsOf_of hj).2
    rw [h1, h2] at e
    simp at e
    exact e
  · rw [(wsOf_of hk).2]
    show B < B + (k + 1)
    omega
theorem wsOf_set {B : Nat} {cid : Nat → ClassId} {h h' : AH} {a : Nat} {e : va_E} (h1 : 1 ≤ a) (hn : hN h' = hN h) (ho : ∀ b, b ≠ a → cellE B cid h' b = cellE B cid h b) (ha : cellE B cid h' a = e) : (wsOf B cid h).set (a - 1) (B + a, e) = wsOf B cid h' := by
  apply List.ext_getElem?
  intro k
  by_cases hk : k = a - 1
  · subst hk
    by_cases hl : a - 1 < (wsOf B cid h).length
    · rw [List.getElem?_set_self hl, wsOf_at h1 (by rw [wsOf_len] at hl; omega), ha]
    · rw [List.getElem?_eq_none (by simp; omega), List.getElem?_eq_none (by rw [wsOf_len] at *; omega)]
  · rw [List.getElem?_set_ne (Ne.symm hk)]
    by_cases hl : k + 1 < hN h
    · have e1 := wsOf_at (B := B) (cid := cid) (h := h) (a := k + 1) (by omega) hl
      have e2 := wsOf_at (B := B) (cid := cid) (h := h') (a := k + 1) (by omega) (by omega)
      simp only [Nat.add_sub_cancel] at e1 e2
      rw [e1, e2, ho (k + 1) (by omega)]
    · rw [List.getElem?_eq_none (by rw [wsOf_len]; omega), List.getElem?_eq_none (by rw [wsOf_len]; omega)]
theorem wsOf_push {B : Nat} {cid : Nat → ClassId} {h h' : AH} {e : va_E} (h1 : 1 ≤ hN h) (hn : hN h' = hN h + 1) (ho : ∀ b, b < hN h → cellE B cid h' b = cellE B cid h b) (ha : cellE B cid h' (hN h) = e) : wsOf B cid h ++ [(B + hN h, e)] = wsOf B cid h' := by
  apply List.ext_getElem?
  intro k
  by_cases hk : k + 1 < hN h
  · have e1 := wsOf_at (B := B) (cid := cid) (h := h) (a := k + 1) (by omega) hk
    have e2 := wsOf_at (B := B) (cid := cid) (h := h') (a := k + 1) (by omega) (by omega)
    simp only [Nat.add_sub_cancel] at e1 e2
    rw [List.getElem?_append_left (by rw [wsOf_len]; omega), e1, e2, ho (k + 1) hk]
  · rw [List.getElem?_append_right (by rw [wsOf_len]; omega), wsOf_len]
    by_cases hk2 : k + 1 = hN h
    · have e2 := wsOf_at (B := B) (cid := cid) (h := h') (a := k + 1) (by omega) (by omega)
      simp only [Nat.add_sub_cancel] at e2
      rw [e2, show k - (hN h - 1) = 0 by omega, ← ha, ← hk2]
      rfl
    · rw [List.getElem?_eq_none (by simp; omega), List.getElem?_eq_none (by rw [wsOf_len]; omega)]
/-! reading behind writing -/
theorem up2_self {α : Type} (f : Nat → Nat → α) (a i : Nat) (x : α) : up2 f a i x a i = x := by simp [up2]
theorem up2_cell {α : Type} (f : Nat → Nat → α) (a i b : Nat) (x : α) (h : b ≠ a) : up2 f a i x b = f b := by funext j; simp [up2, h]
theorem hI_sI_ne {h : AH} {a i b : Nat} {x : Int32} (e : b ≠ a) : hI (sI h a i x) b = hI h b := by funext j; simp [hI, sI, up2, e]
theorem hI_sI_same {h : AH} {a i : Nat} {x : Int32} : hI (sI h a i x) a = upd (hI h a) i x := by funext j; simp [hI, sI, up2, upd]
theorem hL_sL_ne {h : AH} {a i b : Nat} {x : Int64} (e : b ≠ a) : hL (sL h a i x) b = hL h b := by funext j; simp [hL, sL, up2, e]
theorem hL_sL_same {h : AH} {a i : Nat} {x : Int64} : hL (sL h a i x) a = vp_updL (hL h a) i x := by funext j; simp [hL, sL, up2, vp_updL]
theorem hR_sR_ne {h : AH} {a i b : Nat} {x : Nat} (e : b ≠ a) : hR (sR h a i x) b = hR h b := by funext j; simp [hR, sR, up2, e]
theorem fV_congr {B : Nat} {h h' : AH} {a : Nat} (c : Nat) (e1 : hI h' a = hI h a) (e2 : hR h' a = hR h a) : fV B h' a c = fV B h a c := by
  funext k
  simp only [fV, e1, e2]
theorem cellE_congr {B : Nat} {cid : Nat → ClassId} {h h' : AH} {a : Nat} (e0 : hS h' a = hS h a) (e1 : hI h' a = hI h a) (e2 : hL h' a = hL h a) (e3 : hR h' a = hR h a) : cellE B cid h' a = cellE B cid h a := by
  simp only [cellE, e0, e1, e2, e3, fV_congr _ e1 e3]
end
section
/-! One step of the machine under an abstract state. Fr: place, locals, operands. An unset local is .float 0; a text is .retAddr. -/
abbrev Fr : Type := Nat × List Value × List Value
def getL (L : List Value) (i : Nat) : Value := L.getD i (.float 0)
def isL2 : Value → Bool
  | .long _ => true
  | .double _ => true
  | _ => false
def clr (L : List Value) : Nat → List Value
  | 0 => L
  | j + 1 => cond (isL2 (L.getD j (.float 0))) (L.set j (.float 0)) L
def stL (L : List Value) (i : Nat) (v : Value) : List Value := (clr L i).set i v
def stL2 (L : List Value) (i : Nat) (v : Value) : List Value := ((clr L i).set i v).set (i + 1) (.float 0)
def lrel (B : Nat) (adK : Nat → Nat) (ls : Array Slot) (nL : Nat) (L : List Value) : Prop := ls.size = nL ∧ lv_wf ls ∧ ∀ (i : Nat) (v : Value), L[i]? = some v → v ≠ .float 0 → ls[i]? = some (.val (cv B adK v))
def ents (B : Nat) (adK : Nat → Nat) (L : List Value) : List (Nat × Value) := (List.range L.length).filterMap (fun i => if getL L i = .float 0 then none else some (i, cv B adK (getL L i)))
theorem getL_some {L : List Value} {i : Nat} {v : Value} (h : getL L i = v) (hv : v ≠ .float 0) : L[i]? = some v := by
  unfold getL at h
  rw [List.getD_eq_getElem?_getD] at h
  cases hx : L[i]? with
  | none => rw [hx] at h; simp at h; exact absurd h.symm hv
  | some w => rw [hx] at h; simp at h; rw [h]
theorem getL_of {L : List Value} {i : Nat} {v : Value} (h : L[i]? = some v) : getL L i = v := by
  unfold getL
  rw [List.getD_eq_getElem?_getD, h]; rfl
theorem ents_in {B : Nat} {adK : Nat → Nat} {L : List Value} {i : Nat} {v : Value} (h : L[i]? = some v) (hv : v ≠ .float 0) : (i, cv B adK v) ∈ ents B adK L := by
  have hi := (List.getElem?_eq_some_iff.mp h).1
  refine List.mem_filterMap.mpr ⟨i, List.mem_range.mpr hi, ?_⟩
  rw [getL_of h, if_neg hv]
theorem ents_has {B : Nat} {adK : Nat → Nat} {ls : Array Slot} {nL : Nat} {L : List Value} (h : lrel B adK ls nL L) : lv_has ls nL (ents B adK L) := by
  refine ⟨h.1, h.2.1, fun q hq => ?_⟩
  obtain ⟨i, hi, hq⟩ := List.mem_filterMap.mp hq
  by_cases hz : getL L i = .float 0
  · rw [if_pos hz] at hq; cases hq
  · rw [if_neg hz] at hq
    cases hq
    exact h.2.2 i _ (getL_some rfl hz) hz
theorem cv_cat (B : Nat) (adK : Nat → Nat) (v : Value) : (cv B adK v).category = v.category := by
  cases v with
  | ref r => simp only [cv, rfo]; split <;> rfl
  | _ => rfl
theorem clr_get {L : List Value} {i j : Nat} {w : Value} (hj : j ≠ i) (h : (clr L i)[j]? = some w) (hw : w ≠ .float 0) : L[j]? = some w ∧ ¬ (j + 1 = i ∧ w.category = 2) := by
  cases i with
  | zero => exact ⟨h, by omega⟩
  | succ k =>
    simp only [clr] at h
    by_cases hz : isL2 (L.getD k (.float 0)) = true
    · rw [hz] at h
      simp only [cond_true] at h
      by_cases hk : j = k
      · subst hk
        rw [List.getElem?_set] at h
        simp at h
        exact absurd h.2.symm hw
      · rw [List.getElem?_set_ne (Ne.symm hk)] at h
        exact ⟨h, by omega⟩
    · simp only [Bool.not_eq_true] at hz
      rw [hz] at h
      simp only [cond_false] at h
      refine ⟨h, fun q => ?_⟩
      have hk : j = k := by omega
      subst hk
      have e := getL_of h
      unfold getL at e
      rw [e] at hz
      cases w <;> simp [isL2, Value.category] at hz q
theorem lrel_st {B : Nat} {adK : Nat → Nat} {ls : Array Slot} {nL : Nat} {L : List Value} {i : Nat} {v v' : Value} (hv : cv B adK v = v') (h : lv_has ls nL ((i, v') :: (ents B adK L).filter (fun q => !(q.1 == i) && !(q.1 + 1 == i && q.2.category == 2)))) : lrel B adK ls nL (stL L i v) := by
  refine ⟨h.1, h.2.1, fun j w hj hw => ?_⟩
  unfold stL at hj
  by_cases e : j = i
  · subst e
    rw [List.getElem?_set] at hj
    simp at hj
    rw [← hj.2]
    exact h.2.2 (j, cv B adK v) (by rw [hv]; exact List.mem_cons_self)
  · rw [List.getElem?_set_ne (Ne.symm e)] at hj
    obtain ⟨h1, h2⟩ := clr_get e hj hw
    refine h.2.2 (j, cv B adK w) (List.mem_cons_of_mem _ (List.mem_filter.mpr ⟨ents_in h1 hw, ?_⟩))
    simp only [cv_cat, Bool.and_eq_true, Bool.not_eq_true', beq_eq_false_iff_ne, ne_eq, Bool.and_eq_false_iff]
    exact ⟨e, by by_cases q : j + 1 = i; exact Or.inr (fun z => h2 ⟨q, z⟩); exact Or.inl q⟩
theorem lrel_st2 {B : Nat} {adK : Nat → Nat} {ls : Array Slot} {nL : Nat} {L : List Value} {i : Nat} {v v' : Value} (hv : cv B adK v = v') (h : lv_has ls nL ((i, v') :: (ents B adK L).filter (fun q => !(q.1 == i) && (!(q.1 == i + 1) && !(q.1 + 1 == i && q.2.category == 2))))) : lrel B adK ls nL (stL2 L i v) := by
  refine ⟨h.1, h.2.1, fun j w hj hw => ?_⟩
  unfold stL2 at hj
  by_cases e1 : j = i + 1
  · subst e1
    rw [List.getElem?_set] at hj
    simp at hj
    exact absurd hj.2.symm hw
  · rw [List.getElem?_set_ne (Ne.symm e1)] at hj
    by_cases e : j = i
    · subst e
      rw [List.getElem?_set] at hj
      simp at hj
      rw [← hj.2]
      exact h.2.2 (j, cv B adK v) (by rw [hv]; exact List.mem_cons_self)
    · rw [List.getElem?_set_ne (Ne.symm e)] at hj
      obtain ⟨h1, h2⟩ := clr_get e hj hw
      refine h.2.2 (j, cv B adK w) (List.mem_cons_of_mem _ (List.mem_filter.mpr ⟨ents_in h1 hw, ?_⟩))
      simp only [cv_cat, Bool.and_eq_true, Bool.not_eq_true', beq_eq_false_iff_ne, ne_eq, Bool.and_eq_false_iff]
      exact ⟨e, e1, by by_cases q : j + 1 = i; exact Or.inr (fun z => h2 ⟨q, z⟩); exact Or.inl q⟩
/-- fewer locals are known -/
def killL (ks : List Nat) (L : List Value) : List Value := ks.foldl (fun L k => L.set k (.float 0)) L
theorem lrel_kill1 {B : Nat} {adK : Nat → Nat} {ls : Array Slot} {nL : Nat} {L : List Value} (k : Nat) (h : lrel B adK ls nL L) : lrel B adK ls nL (L.set k (.float 0)) := by
  refine ⟨h.1, h.2.1, fun j w hj hw => ?_⟩
  by_cases e : j = k
  · subst e
    rw [List.getElem?_set] at hj
    simp at hj
    exact absurd hj.2.symm hw
  · rw [List.getElem?_set_ne (Ne.symm e)] at hj
    exact h.2.2 j w hj hw
theorem lrel_kill {B : Nat} {adK : Nat → Nat} {ls : Array Slot} {nL : Nat} : ∀ (ks : List Nat) {L : List Value}, lrel B adK ls nL L → lrel B adK ls nL (killL ks L)
  | [], _, h => h
  | k :: ks, _, h => lrel_kill ks (lrel_kill1 k h)
/-- the words that stay, whatever is resolved; and those that need a word of their own -/
def lw_g : List Cond := lw_tbl.filter goodWord
theorem lw_g_in {w : Cond} (h : w ∈ lw_g) : w ∈ lw_tbl := (List.mem_filter.mp h).1
theorem lw_g_ok {w : Cond} (h : w ∈ lw_g) : goodWord w = true := (List.mem_filter.mp h).2
theorem lw_g_of {w : Cond} (h : w ∈ lw_tbl) (hg : goodWord w = true) : w ∈ lw_g := List.mem_filter.mpr ⟨h, hg⟩
def nestW : List (String × Nat × MethodName) := [("HeadHill", 9, ⟨"HeadHill$RuleReader", "<init>", "()V"⟩), ("HeadHill$RuleReader", 11, ⟨"HeadHill$Text", "<init>", "()V"⟩), ("HeadHill", 35, ⟨"HeadHill$Town", "<init>", "()V"⟩), ("HeadHill$Town", 24, ⟨"HeadHill$Moment", "<init>", "()V"⟩), ("HeadHill", 53, ⟨"HeadHill$Future", "<init>", "()V"⟩), ("HeadHill$Future", 20, ⟨"HeadHill$Moment", "<init>", "()V"⟩), ("HeadHill", 60, ⟨"HeadHill$Choices", "<init>", "()V"⟩), ("HeadHill$Choices", 20, ⟨"HeadHill$Moment", "<init>", "()V"⟩), ("HeadHill", 67, ⟨"HeadHill$Witness", "<init>", "()V"⟩), ("HeadHill$Witness", 20, ⟨"HeadHill$Moment", "<init>", "()V"⟩), ("HeadHill", 74, ⟨"HeadHill$Purses", "<init>", "()V"⟩), ("HeadHill", 90, ⟨"HeadHill$Hill", "<init>", "()V"⟩)]
def AOA (t : FieldType) (U : State) : Prop := (Cond.arrayOver (.array t)).before #[] U = true
theorem AOA_moved {t : FieldType} {u U : State} (hvm : u.vm.Alike U.vm) (h : AOA t u) : AOA t U := by
  obtain ⟨comp, c, k, h1, h2, h3, h4, h5⟩ := arrayOverA_spec h
  obtain ⟨k', hk', he⟩ := hvm.2.2 _ _ h3
  have hi : (U.vm.classes.findIdx? fun (x : Class) => match x.kind with | .array component _ => component == comp | _ => false) = some c := by
    have hb : ∀ vm : Vm, (vm.bare.classes.findIdx? fun (x : Class) => match x.kind with | .array component _ => component == comp | _ => false) = (vm.classes.findIdx? fun (x : Class) => match x.kind with | .array component _ => component == comp | _ => false) := fun vm => by
      simp only [Vm.bare, Array.findIdx?_map]
      rfl
    rw [← hb]
    first | rw [hvm.bare_eq] | rw [← hvm.bare_eq]
    rw [hb]
    exact h2
  have hkind : k'.kind = .array comp (.array t) := by rw [he]; exact h4
  have f1 : U.vm.findClass (FieldType.array t).toString = some comp := by rw [hvm.findClass]; exact h1
  have f2 : U.vm.findClass ("[" ++ (FieldType.array t).toString) = some c := by rw [hvm.findClass]; exact h5
  unfold AOA Cond.before Cond.holds
  simp only [Cond.value]
  rw [f1, Option.bind_some]
  refine (congrArg (fun o : Option Nat => (o.bind (fun c => (U.vm.classes[c]?).map fun (k : Class) => match k.kind with | .array _ ty => decide (ty = FieldType.array t) && decide (U.vm.findClass ("[" ++ (FieldType.array t).toString) = some c) | _ => false) == some true)) hi).trans ?_
  simp [hk', hkind, f2]
def Hard (U : State) : Prop := (∀ q ∈ nestW, va_Nw (.methodLinkNest q.1 q.2.1 q.2.2 "HeadHill") U) ∧ va_AO RX6 U ∧ va_AO RX9 U ∧ va_AO RX4 U ∧ AOA .int U ∧ va_Nw (.castable "[I" "java/lang/Cloneable") U
theorem Hard.warm {s U : State} (hW : s.WarmedH U.vm) (h : Hard s) : Hard U := ⟨fun q hq => va_Nw.warmM hW (h.1 q hq), h.2.1.moved hW.alike, h.2.2.1.moved hW.alike, h.2.2.2.1.moved hW.alike, AOA_moved hW.alike h.2.2.2.2.1, va_Nw.warmC hW h.2.2.2.2.2⟩
theorem Hard.same {s U : State} (hv : s.vm = U.vm) (h : Hard s) : Hard U := ⟨fun q hq => va_Nw.same rfl hv (h.1 q hq), h.2.1.moved (by rw [hv]; exact Vm.Alike.refl _), h.2.2.1.moved (by rw [hv]; exact Vm.Alike.refl _), h.2.2.2.1.moved (by rw [hv]; exact Vm.Alike.refl _), AOA_moved (by rw [hv]; exact Vm.Alike.refl _) h.2.2.2.2.1, va_Nw.same rfl hv h.2.2.2.2.2⟩
/-- the texts -/
def strs : List (String × Nat × String) := [("HeadHill$Text", 53, "runner ware speed purse far worth rivals time lead wealth feast day hill run if and or not "), ("HeadHillModel", 277, "hill"), ("HeadHillModel", 160, "runner"), ("HeadHillModel", 162, "ware"), ("HeadHillModel", 315, "run"), ("HeadHillModel", 164, "speed"), ("HeadHillModel", 165, "purse"), ("HeadHillModel", 166, "far"), ("HeadHillModel", 167, "worth"), ("HeadHillModel", 168, "rivals"), ("HeadHillModel", 170, "time"), ("HeadHillModel", 172, "lead"), ("HeadHillModel", 174, "wealth"), ("HeadHillModel", 175, "feast"), ("HeadHillModel", 177, "day"), ("HeadHillModel", 317, "if"), ("HeadHillModel", 259, "not"), ("HeadHillModel", 273, "and"), ("HeadHillModel", 275, "or")]
def strLen : List Nat := [91, 4, 6, 4, 3, 5, 5, 3, 5, 6, 4, 4, 6, 5, 3, 2, 3, 3, 2]
def strB : List (List Int32) := [[114, 117, 110, 110, 101, 114, 32, 119, 97, 114, 101, 32, 115, 112, 101, 101, 100, 32, 112, 117, 114, 115, 101, 32, 102, 97, 114, 32, 119, 111, 114, 116, 104, 32, 114, 105, 118, 97, 108, 115, 32, 116, 105, 109, 101, 32, 108, 101, 97, 100, 32, 119, 101, 97, 108, 116, 104, 32, 102, 101, 97, 115, 116, 32, 100, 97, 121, 32, 104, 105, 108, 108, 32, 114, 117, 110, 32, 105, 102, 32, 97, 110, 100, 32, 111, 114, 32, 110, 111, 116, 32], [104, 105, 108, 108], [114, 117, 110, 110, 101, 114], [119, 97, 114, 101], [114, 117, 110], [115, 112, 101, 101, 100], [112, 117, 114, 115, 101], [102, 97, 114], [119, 111, 114, 116, 104], [114, 105, 118, 97, 108, 115], [116, 105, 109, 101], [108, 101, 97, 100], [119, 101, 97, 108, 116, 104], [102, 101, 97, 115, 116], [100, 97, 121], [105, 102], [110, 111, 116], [97, 110, 100], [111, 114]]
def Str (adK adV : Nat → Nat) (B : Nat) (U : State) : Prop := vk_S 19 strLen strB adK adV (AB B) U U.heap ∧ (∀ (i : Nat) (q : String × Nat × String), strs[i]? = some q → vk_R q.1 q.2.1 q.2.2 (adK i) U) ∧ va_Z "java/lang/String" "COMPACT_STRINGS" "Z" (.int 1) (AB B) U U.heap ∧ va_Zq "jdk/internal/util/Preconditions" "SIOOBE_FORMATTER" "Ljava/util/function/BiFunction;" (AB B) U U.heap ∧ Hard U
abbrev CX : Type := (Program × Launch × Env × Room × State × MethodId × Array Value × List Frame × Method × Code × (State → Prop)) × (Nat × va_G × (Nat → Nat) × (Nat → Nat) × (Nat → Nat)) × (Nat × Nat × Nat × Nat × Nat)
abbrev MX : Type := String × ByteArray × String × Nat × Option (Nat × (Nat → Int32))
def Ctx (X : CX) (M : MX) : Prop := match X, M with
  | ((p, l, e, R, s, m, args, below, meth, c, Qm), (B, D, cid, adK, adV), (nL, n0, u0, E1, E2)), (own, cc, mname, dep, scr) =>
    p.tables.exec = Jvm.exec ∧ c.code = cc ∧ c.maxLocals = nL ∧ s.vm.findClass own = some m.cls ∧ (∀ w ∈ lw_g, w.before args s = true) ∧ va_K D cl13 (tysOf cid) s ∧ Str adK adV B s ∧ (s.heap.size = B + n0 ∧ 1 ≤ n0) ∧ meth.name = mname ∧ (dep ≤ R.frames ∧ 64 * dep ≤ R.locals ∧ E1 - n0 ≤ R.cells ∧ E2 - u0 ≤ R.slots) ∧ (∀ (L : Nat) (xs : Nat → Int32), scr = some (L, xs) → va_X (adK 19) L xs s s.heap ∧ adK 19 ≤ B)
def Wst (X : CX) (f : Fr) (h : AH) : Prop := match X with
  | ((p, l, e, R, s, m, args, below, meth, c, Qm), (B, D, cid, adK, adV), (nL, n0, u0, E1, E2)) =>
    ∀ (H : Heap) (locs : List Loc) (ls : Array Slot), Rel B D cid h H → va_S (AB B) s.heap H locs → lrel B adK ls nL f.2.1 → (n0 ≤ hN h ∧ u0 ≤ hU h ∧ hN h ≤ E1 ∧ hU h ≤ E2) → W p l e R s m args below meth c H locs (hN h - n0) (hU h - u0) Qm (F0 m f.1 ls (f.2.2.map (cv B adK)))
theorem Wst.kill {X : CX} (ks : List Nat) {pc : Nat} {L st : List Value} {h : AH} (k : Wst X (pc, killL ks L, st) h) : Wst X (pc, L, st) h := by
  obtain ⟨⟨p, l, e, R, s, m, args, below, meth, c, Qm⟩, ⟨B, D, cid, adK, adV⟩, ⟨nL, n0, u0, E1, E2⟩⟩ := X
  exact fun H locs ls r1 r2 r3 r4 => k H locs ls r1 r2 (lrel_kill ks r3) r4
theorem st_iadd {X : CX} {M : MX} (C : Ctx X M) {pc : Nat} {L st : List Value} {h : AH} {x y : Int32} (hd : decode M.2.1 pc = .ok (.iadd, 1)) (k : Wst X (pc + 1, L, .int (x + y) :: st) h) : Wst X (pc, L, .int y :: .int x :: st) h := by
  obtain ⟨⟨p, l, e, R, s, m, args, below, meth, c, Qm⟩, ⟨B, D, cid, adK, adV⟩, ⟨nL, n0, u0, E1, E2⟩⟩ := X
  obtain ⟨own, cc, mname, dep, scr⟩ := M
  obtain ⟨hx, hb, hml, hown, hts, hK, hstr, hsz, hnm, hroom, hscr⟩ := C
  exact fun H locs ls r1 r2 r3 r4 => lv_iadd hx hb hd (k H locs ls r1 r2 r3 r4)
theorem st_isub {X : CX} {M : MX} (C : Ctx X M) {pc : Nat} {L st : List Value} {h : AH} {x y : Int32} (hd : decode M.2.1 pc = .ok (.isub, 1)) (k : Wst X (pc + 1, L, .int (x - y) :: st) h) : Wst X (pc, L, .int y :: .int x :: st) h := by
  obtain ⟨⟨p, l, e, R, s, m, args, below, meth, c, Qm⟩, ⟨B, D, cid, adK, adV⟩, ⟨nL, n0, u0, E1, E2⟩⟩ := X
  obtain ⟨own, cc, mname, dep, scr⟩ := M
  obtain ⟨hx, hb, hml, hown, hts, hK, hstr, hsz, hnm, hroom, hscr⟩ := C
  exact fun H locs ls r1 r2 r3 r4 => lv_isub hx hb hd (k H locs ls r1 r2 r3 r4)
theorem st_imul {X : CX} {M : MX} (C : Ctx X M) {pc : Nat} {L st : List Value} {h : AH} {x y : Int32} (hd : decode M.2.1 pc = .ok (.imul, 1)) (k : Wst X (pc + 1, L, .int (x * y) :: st) h) : Wst X (pc, L, .int y :: .int x :: st) h := by
  obtain ⟨⟨p, l, e, R, s, m, args, below, meth, c, Qm⟩, ⟨B, D, cid, adK, adV⟩, ⟨nL, n0, u0, E1, E2⟩⟩ := X
  obtain ⟨own, cc, mname, dep, scr⟩ := M
  obtain ⟨hx, hb, hml, hown, hts, hK, hstr, hsz, hnm, hroom, hscr⟩ := C
  exact fun H locs ls r1 r2 r3 r4 => lv_imul hx hb hd (k H locs ls r1 r2 r3 r4)
theorem st_iand {X : CX} {M : MX} (C : Ctx X M) {pc : Nat} {L st : List Value} {h : AH} {x y : Int32} (hd : decode M.2.1 pc = .ok (.iand, 1)) (k : Wst X (pc + 1, L, .int (x &&& y) :: st) h) : Wst X (pc, L, .int y :: .int x :: st) h := by
  obtain ⟨⟨p, l, e, R, s, m, args, below, meth, c, Qm⟩, ⟨B, D, cid, adK, adV⟩, ⟨nL, n0, u0, E1, E2⟩⟩ := X
  obtain ⟨own, cc, mname, dep, scr⟩ := M
  obtain ⟨hx, hb, hml, hown, hts, hK, hstr, hsz, hnm, hroom, hscr⟩ := C
  exact fun H locs ls r1 r2 r3 r4 => lv_iand hx hb hd (k H locs ls r1 r2 r3 r4)
theorem st_ior {X : CX} {M : MX} (C : Ctx X M) {pc : Nat} {L st : List Value} {h : AH} {x y : Int32} (hd : decode M.2.1 pc = .ok (.ior, 1)) (k : Wst X (pc + 1, L, .int (x ||| y) :: st) h) : Wst X (pc, L, .int y :: .int x :: st) h := by
  obtain ⟨⟨p, l, e, R, s, m, args, below, meth, c, Qm⟩, ⟨B, D, cid, adK, adV⟩, ⟨nL, n0, u0, E1, E2⟩⟩ := X
  obtain ⟨own, cc, mname, dep, scr⟩ := M
  obtain ⟨hx, hb, hml, hown, hts, hK, hstr, hsz, hnm, hroom, hscr⟩ := C
  exact fun H locs ls r1 r2 r3 r4 => lv_ior hx hb hd (k H locs ls r1 r2 r3 r4)
theorem st_ixor {X : CX} {M : MX} (C : Ctx X M) {pc : Nat} {L st : List Value} {h : AH} {x y : Int32} (hd : decode M.2.1 pc = .ok (.ixor, 1)) (k : Wst X (pc + 1, L, .int (x ^^^ y) :: st) h) : Wst X (pc, L, .int y :: .int x :: st) h := by
  obtain ⟨⟨p, l, e, R, s, m, args, below, meth, c, Qm⟩, ⟨B, D, cid, adK, adV⟩, ⟨nL, n0, u0, E1, E2⟩⟩ := X
  obtain ⟨own, cc, mname, dep, scr⟩ := M
  obtain ⟨hx, hb, hml, hown, hts, hK, hstr, hsz, hnm, hroom, hscr⟩ := C
  exact fun H locs ls r1 r2 r3 r4 => lv_ixor hx hb hd (k H locs ls r1 r2 r3 r4)
theorem st_ishl {X : CX} {M : MX} (C : Ctx X M) {pc : Nat} {L st : List Value} {h : AH} {x y : Int32} (hd : decode M.2.1 pc = .ok (.ishl, 1)) (k : Wst X (pc + 1, L, .int (x <<< (y &&& 31)) :: st) h) : Wst X (pc, L, .int y :: .int x :: st) h := by
  obtain ⟨⟨p, l, e, R, s, m, args, below, meth, c, Qm⟩, ⟨B, D, cid, adK, adV⟩, ⟨nL, n0, u0, E1, E2⟩⟩ := X
  obtain ⟨own, cc, mname, dep, scr⟩ := M
  obtain ⟨hx, hb, hml, hown, hts, hK, hstr, hsz, hnm, hroom, hscr⟩ := C
  exact fun H locs ls r1 r2 r3 r4 => lv_ishl hx hb hd (k H locs ls r1 r2 r3 r4)
theorem st_ishr {X : CX} {M : MX} (C : Ctx X M) {pc : Nat} {L st : List Value} {h : AH} {x y : Int32} (hd : decode M.2.1 pc = .ok (.ishr, 1)) (k : Wst X (pc + 1, L, .int (x >>> (y &&& 31)) :: st) h) : Wst X (pc, L, .int y :: .int x :: st) h := by
  obtain ⟨⟨p, l, e, R, s, m, args, below, meth, c, Qm⟩, ⟨B, D, cid, adK, adV⟩, ⟨nL, n0, u0, E1, E2⟩⟩ := X
  obtain ⟨own, cc, mname, dep, scr⟩ := M
  obtain ⟨hx, hb, hml, hown, hts, hK, hstr, hsz, hnm, hroom, hscr⟩ := C
  exact fun H locs ls r1 r2 r3 r4 => lv_ishr hx hb hd (k H locs ls r1 r2 r3 r4)
theorem st_idiv {X : CX} {M : MX} (C : Ctx X M) {pc : Nat} {L st : List Value} {h : AH} {x y : Int32} (hd : decode M.2.1 pc = .ok (.idiv, 1)) (hne : ¬ y = 0) (k : Wst X (pc + 1, L, .int (x / y) :: st) h) : Wst X (pc, L, .int y :: .int x :: st) h := by
  obtain ⟨⟨p, l, e, R, s, m, args, below, meth, c, Qm⟩, ⟨B, D, cid, adK, adV⟩, ⟨nL, n0, u0, E1, E2⟩⟩ := X
  obtain ⟨own, cc, mname, dep, scr⟩ := M
  obtain ⟨hx, hb, hml, hown, hts, hK, hstr, hsz, hnm, hroom, hscr⟩ := C
  exact fun H locs ls r1 r2 r3 r4 => lv_idiv hx hb hd hne (k H locs ls r1 r2 r3 r4)
theorem st_irem {X : CX} {M : MX} (C : Ctx X M) {pc : Nat} {L st : List Value} {h : AH} {x y : Int32} (hd : decode M.2.1 pc = .ok (.irem, 1)) (hne : ¬ y = 0) (k : Wst X (pc + 1, L, .int (x - x / y * y) :: st) h) : Wst X (pc, L, .int y :: .int x :: st) h := by
  obtain ⟨⟨p, l, e, R, s, m, args, below, meth, c, Qm⟩, ⟨B, D, cid, adK, adV⟩, ⟨nL, n0, u0, E1, E2⟩⟩ := X
  obtain ⟨own, cc, mname, dep, scr⟩ := M
  obtain ⟨hx, hb, hml, hown, hts, hK, hstr, hsz, hnm, hroom, hscr⟩ := C
  exact fun H locs ls r1 r2 r3 r4 => lv_irem hx hb hd hne (k H locs ls r1 r2 r3 r4)
theorem st_iushr {X : CX} {M : MX} (C : Ctx X M) {pc : Nat} {L st : List Value} {h : AH} {x y : Int32} (hd : decode M.2.1 pc = .ok (.iushr, 1)) (k : Wst X (pc + 1, L, .int ((x.toUInt32 >>> (y.toUInt32 &&& Int32.toUInt32 31)).toInt32) :: st) h) : Wst X (pc, L, .int y :: .int x :: st) h := by
  obtain ⟨⟨p, l, e, R, s, m, args, below, meth, c, Qm⟩, ⟨B, D, cid, adK, adV⟩, ⟨nL, n0, u0, E1, E2⟩⟩ := X
  obtain ⟨own, cc, mname, dep, scr⟩ := M
  obtain ⟨hx, hb, hml, hown, hts, hK, hstr, hsz, hnm, hroom, hscr⟩ := C
  exact fun H locs ls r1 r2 r3 r4 => lv_iushr hx hb hd rfl (k H locs ls r1 r2 r3 r4)
theorem st_ladd {X : CX} {M : MX} (C : Ctx X M) {pc : Nat} {L st : List Value} {h : AH} {x y : Int64} (hd : decode M.2.1 pc = .ok (.ladd, 1)) (k : Wst X (pc + 1, L, .long (x + y) :: st) h) : Wst X (pc, L, .long y :: .long x :: st) h := by
  obtain ⟨⟨p, l, e, R, s, m, args, below, meth, c, Qm⟩, ⟨B, D, cid, adK, adV⟩, ⟨nL, n0, u0, E1, E2⟩⟩ := X
  obtain ⟨own, cc, mname, dep, scr⟩ := M
  obtain ⟨hx, hb, hml, hown, hts, hK, hstr, hsz, hnm, hroom, hscr⟩ := C
  exact fun H locs ls r1 r2 r3 r4 => lv_ladd hx hb hd (k H locs ls r1 r2 r3 r4)
theorem st_lsub {X : CX} {M : MX} (C : Ctx X M) {pc : Nat} {L st : List Value} {h : AH} {x y : Int64} (hd : decode M.2.1 pc = .ok (.lsub, 1)) (k : Wst X (pc + 1, L, .long (x - y) :: st) h) : Wst X (pc, L, .long y :: .long x :: st) h := by
  obtain ⟨⟨p, l, e, R, s, m, args, below, meth, c, Qm⟩, ⟨B, D, cid, adK, adV⟩, ⟨nL, n0, u0, E1, E2⟩⟩ := X
  obtain ⟨own, cc, mname, dep, scr⟩ := M
  obtain ⟨hx, hb, hml, hown, hts, hK, hstr, hsz, hnm, hroom, hscr⟩ := C
  exact fun H locs ls r1 r2 r3 r4 => lv_lsub hx hb hd (k H locs ls r1 r2 r3 r4)
theorem st_lmul {X : CX} {M : MX} (C : Ctx X M) {pc : Nat} {L st : List Value} {h : AH} {x y : Int64} (hd : decode M.2.1 pc = .ok (.lmul, 1)) (k : Wst X (pc + 1, L, .long (x * y) :: st) h) : Wst X (pc, L, .long y :: .long x :: st) h := by
  obtain ⟨⟨p, l, e, R, s, m, args, below, meth, c, Qm⟩, ⟨B, D, cid, adK, adV⟩, ⟨nL, n0, u0, E1, E2⟩⟩ := X
  obtain ⟨own, cc, mname, dep, scr⟩ := M
  obtain ⟨hx, hb, hml, hown, hts, hK, hstr, hsz, hnm, hroom, hscr⟩ := C
  exact fun H locs ls r1 r2 r3 r4 => lv_lmul hx hb hd (k H locs ls r1 r2 r3 r4)
theorem st_land {X : CX} {M : MX} (C : Ctx X M) {pc : Nat} {L st : List Value} {h : AH} {x y : Int64} (hd : decode M.2.1 pc = .ok (.land, 1)) (k : Wst X (pc + 1, L, .long (x &&& y) :: st) h) : Wst X (pc, L, .long y :: .long x :: st) h := by
  obtain ⟨⟨p, l, e, R, s, m, args, below, meth, c, Qm⟩, ⟨B, D, cid, adK, adV⟩, ⟨nL, n0, u0, E1, E2⟩⟩ := X
  obtain ⟨own, cc, mname, dep, scr⟩ := M
  obtain ⟨hx, hb, hml, hown, hts, hK, hstr, hsz, hnm, hroom, hscr⟩ := C
  exact fun H locs ls r1 r2 r3 r4 => lv_land hx hb hd (k H locs ls r1 r2 r3 r4)
theorem st_lor {X : CX} {M : MX} (C : Ctx X M) {pc : Nat} {L st : List Value} {h : AH} {x y : Int64} (hd : decode M.2.1 pc = .ok (.lor, 1)) (k : Wst X (pc + 1, L, .long (x ||| y) :: st) h) : Wst X (pc, L, .long y :: .long x :: st) h := by
  obtain ⟨⟨p, l, e, R, s, m, args, below, meth, c, Qm⟩, ⟨B, D, cid, adK, adV⟩, ⟨nL, n0, u0, E1, E2⟩⟩ := X
  obtain ⟨own, cc, mname, dep, scr⟩ := M
  obtain ⟨hx, hb, hml, hown, hts, hK, hstr, hsz, hnm, hroom, hscr⟩ := C
  exact fun H locs ls r1 r2 r3 r4 => lv_lor hx hb hd (k H locs ls r1 r2 r3 r4)
theorem st_ldiv {X : CX} {M : MX} (C : Ctx X M) {pc : Nat} {L st : List Value} {h : AH} {x y : Int64} (hd : decode M.2.1 pc = .ok (.ldiv, 1)) (hne : ¬ y = 0) (k : Wst X (pc + 1, L, .long (x / y) :: st) h) : Wst X (pc, L, .long y :: .long x :: st) h := by
  obtain ⟨⟨p, l, e, R, s, m, args, below, meth, c, Qm⟩, ⟨B, D, cid, adK, adV⟩, ⟨nL, n0, u0, E1, E2⟩⟩ := X
  obtain ⟨own, cc, mname, dep, scr⟩ := M
  obtain ⟨hx, hb, hml, hown, hts, hK, hstr, hsz, hnm, hroom, hscr⟩ := C
  exact fun H locs ls r1 r2 r3 r4 => lv_ldiv hx hb hd hne (k H locs ls r1 r2 r3 r4)
theorem st_lrem {X : CX} {M : MX} (C : Ctx X M) {pc : Nat} {L st : List Value} {h : AH} {x y : Int64} (hd : decode M.2.1 pc = .ok (.lrem, 1)) (hne : ¬ y = 0) (k : Wst X (pc + 1, L, .long (x - x / y * y) :: st) h) : Wst X (pc, L, .long y :: .long x :: st) h := by
  obtain ⟨⟨p, l, e, R, s, m, args, below, meth, c, Qm⟩, ⟨B, D, cid, adK, adV⟩, ⟨nL, n0, u0, E1, E2⟩⟩ := X
  obtain ⟨own, cc, mname, dep, scr⟩ := M
  obtain ⟨hx, hb, hml, hown, hts, hK, hstr, hsz, hnm, hroom, hscr⟩ := C
  exact fun H locs ls r1 r2 r3 r4 => lv_lrem hx hb hd hne (k H locs ls r1 r2 r3 r4)
theorem st_i2l {X : CX} {M : MX} (C : Ctx X M) {pc : Nat} {L st : List Value} {h : AH} {x : Int32} (hd : decode M.2.1 pc = .ok (.i2l, 1)) (k : Wst X (pc + 1, L, .long x.toInt64 :: st) h) : Wst X (pc, L, .int x :: st) h := by
  obtain ⟨⟨p, l, e, R, s, m, args, below, meth, c, Qm⟩, ⟨B, D, cid, adK, adV⟩, ⟨nL, n0, u0, E1, E2⟩⟩ := X
  obtain ⟨own, cc, mname, dep, scr⟩ := M
  obtain ⟨hx, hb, hml, hown, hts, hK, hstr, hsz, hnm, hroom, hscr⟩ := C
  exact fun H locs ls r1 r2 r3 r4 => lv_i2l hx hb hd rfl (k H locs ls r1 r2 r3 r4)
theorem st_l2i {X : CX} {M : MX} (C : Ctx X M) {pc : Nat} {L st : List Value} {h : AH} {x : Int64} (hd : decode M.2.1 pc = .ok (.l2i, 1)) (k : Wst X (pc + 1, L, .int x.toInt32 :: st) h) : Wst X (pc, L, .long x :: st) h := by
  obtain ⟨⟨p, l, e, R, s, m, args, below, meth, c, Qm⟩, ⟨B, D, cid, adK, adV⟩, ⟨nL, n0, u0, E1, E2⟩⟩ := X
  obtain ⟨own, cc, mname, dep, scr⟩ := M
  obtain ⟨hx, hb, hml, hown, hts, hK, hstr, hsz, hnm, hroom, hscr⟩ := C
  exact fun H locs ls r1 r2 r3 r4 => lv_l2i hx hb hd rfl (k H locs ls r1 r2 r3 r4)
theorem st_i2b {X : CX} {M : MX} (C : Ctx X M) {pc : Nat} {L st : List Value} {h : AH} {x : Int32} (hd : decode M.2.1 pc = .ok (.i2b, 1)) (k : Wst X (pc + 1, L, .int x.toInt8.toInt32 :: st) h) : Wst X (pc, L, .int x :: st) h := by
  obtain ⟨⟨p, l, e, R, s, m, args, below, meth, c, Qm⟩, ⟨B, D, cid, adK, adV⟩, ⟨nL, n0, u0, E1, E2⟩⟩ := X
  obtain ⟨own, cc, mname, dep, scr⟩ := M
  obtain ⟨hx, hb, hml, hown, hts, hK, hstr, hsz, hnm, hroom, hscr⟩ := C
  exact fun H locs ls r1 r2 r3 r4 => lv_i2b hx hb hd rfl (k H locs ls r1 r2 r3 r4)
theorem st_iconst {X : CX} {M : MX} (C : Ctx X M) {pc : Nat} {L st : List Value} {h : AH} {n : Int} {v : Int32} (hd : decode M.2.1 pc = .ok (.iconst n, 1)) (hv : Int32.ofInt n = v) (k : Wst X (pc + 1, L, .int v :: st) h) : Wst X (pc, L, st) h := by
  obtain ⟨⟨p, l, e, R, s, m, args, below, meth, c, Qm⟩, ⟨B, D, cid, adK, adV⟩, ⟨nL, n0, u0, E1, E2⟩⟩ := X
  obtain ⟨own, cc, mname, dep, scr⟩ := M
  obtain ⟨hx, hb, hml, hown, hts, hK, hstr, hsz, hnm, hroom, hscr⟩ := C
  exact fun H locs ls r1 r2 r3 r4 => lv_iconst hx hb hd hv (k H locs ls r1 r2 r3 r4)
theorem st_bipush {X : CX} {M : MX} (C : Ctx X M) {pc : Nat} {L st : List Value} {h : AH} {n : Int} {v : Int32} (hd : decode M.2.1 pc = .ok (.bipush n, 2)) (hv : (Int8.ofInt n).toInt32 = v) (k : Wst X (pc + 2, L, .int v :: st) h) : Wst X (pc, L, st) h := by
  obtain ⟨⟨p, l, e, R, s, m, args, below, meth, c, Qm⟩, ⟨B, D, cid, adK, adV⟩, ⟨nL, n0, u0, E1, E2⟩⟩ := X
  obtain ⟨own, cc, mname, dep, scr⟩ := M
  obtain ⟨hx, hb, hml, hown, hts, hK, hstr, hsz, hnm, hroom, hscr⟩ := C
  exact fun H locs ls r1 r2 r3 r4 => lv_bipush hx hb hd hv (k H locs ls r1 r2 r3 r4)
theorem st_sipush {X : CX} {M : MX} (C : Ctx X M) {pc : Nat} {L st : List Value} {h : AH} {n : Int} {v : Int32} (hd : decode M.2.1 pc = .ok (.sipush n, 3)) (hv : (Int16.ofInt n).toInt32 = v) (k : Wst X (pc + 3, L, .int v :: st) h) : Wst X (pc, L, st) h := by
  obtain ⟨⟨p, l, e, R, s, m, args, below, meth, c, Qm⟩, ⟨B, D, cid, adK, adV⟩, ⟨nL, n0, u0, E1, E2⟩⟩ := X
  obtain ⟨own, cc, mname, dep, scr⟩ := M
  obtain ⟨hx, hb, hml, hown, hts, hK, hstr, hsz, hnm, hroom, hscr⟩ := C
  exact fun H locs ls r1 r2 r3 r4 => lv_sipush hx hb hd hv (k H locs ls r1 r2 r3 r4)
theorem st_lconst {X : CX} {M : MX} (C : Ctx X M) {pc : Nat} {L st : List Value} {h : AH} {n : Fin 2} {v : Int64} (hd : decode M.2.1 pc = .ok (.lconst n, 1)) (hv : Int64.ofNat (n : Nat) = v) (k : Wst X (pc + 1, L, .long v :: st) h) : Wst X (pc, L, st) h := by
  obtain ⟨⟨p, l, e, R, s, m, args, below, meth, c, Qm⟩, ⟨B, D, cid, adK, adV⟩, ⟨nL, n0, u0, E1, E2⟩⟩ := X
  obtain ⟨own, cc, mname, dep, scr⟩ := M
  obtain ⟨hx, hb, hml, hown, hts, hK, hstr, hsz, hnm, hroom, hscr⟩ := C
  exact fun H locs ls r1 r2 r3 r4 => lv_lconst hx hb hd hv (k H locs ls r1 r2 r3 r4)
theorem st_aconst {X : CX} {M : MX} (C : Ctx X M) {pc : Nat} {L st : List Value} {h : AH} (hd : decode M.2.1 pc = .ok (.aconst_null, 1)) (k : Wst X (pc + 1, L, .ref 0 :: st) h) : Wst X (pc, L, st) h := by
  obtain ⟨⟨p, l, e, R, s, m, args, below, meth, c, Qm⟩, ⟨B, D, cid, adK, adV⟩, ⟨nL, n0, u0, E1, E2⟩⟩ := X
  obtain ⟨own, cc, mname, dep, scr⟩ := M
  obtain ⟨hx, hb, hml, hown, hts, hK, hstr, hsz, hnm, hroom, hscr⟩ := C
  exact fun H locs ls r1 r2 r3 r4 => lv_null hx hb hd (k H locs ls r1 r2 r3 r4)
theorem st_dup {X : CX} {M : MX} (C : Ctx X M) {pc : Nat} {L st : List Value} {h : AH} {v : Value} (hd : decode M.2.1 pc = .ok (.dup, 1)) (hv : v.category = 1) (k : Wst X (pc + 1, L, v :: v :: st) h) : Wst X (pc, L, v :: st) h := by
  obtain ⟨⟨p, l, e, R, s, m, args, below, meth, c, Qm⟩, ⟨B, D, cid, adK, adV⟩, ⟨nL, n0, u0, E1, E2⟩⟩ := X
  obtain ⟨own, cc, mname, dep, scr⟩ := M
  obtain ⟨hx, hb, hml, hown, hts, hK, hstr, hsz, hnm, hroom, hscr⟩ := C
  exact fun H locs ls r1 r2 r3 r4 => lv_dup hx hb hd (by rw [cv_cat]; exact hv) (k H locs ls r1 r2 r3 r4)
theorem st_pop {X : CX} {M : MX} (C : Ctx X M) {pc : Nat} {L st : List Value} {h : AH} {v : Value} (hd : decode M.2.1 pc = .ok (.pop, 1)) (hv : v.category = 1) (k : Wst X (pc + 1, L, st) h) : Wst X (pc, L, v :: st) h := by
  obtain ⟨⟨p, l, e, R, s, m, args, below, meth, c, Qm⟩, ⟨B, D, cid, adK, adV⟩, ⟨nL, n0, u0, E1, E2⟩⟩ := X
  obtain ⟨own, cc, mname, dep, scr⟩ := M
  obtain ⟨hx, hb, hml, hown, hts, hK, hstr, hsz, hnm, hroom, hscr⟩ := C
  exact fun H locs ls r1 r2 r3 r4 => lv_pop hx hb hd (by rw [cv_cat]; exact hv) (k H locs ls r1 r2 r3 r4)
theorem st_dup2 {X : CX} {M : MX} (C : Ctx X M) {pc : Nat} {L st : List Value} {h : AH} {v w : Value} (hd : decode M.2.1 pc = .ok (.dup2, 1)) (hv : v.category = 1) (hw : w.category = 1) (k : Wst X (pc + 1, L, v :: w :: v :: w :: st) h) : Wst X (pc, L, v :: w :: st) h := by
  obtain ⟨⟨p, l, e, R, s, m, args, below, meth, c, Qm⟩, ⟨B, D, cid, adK, adV⟩, ⟨nL, n0, u0, E1, E2⟩⟩ := X
  obtain ⟨own, cc, mname, dep, scr⟩ := M
  obtain ⟨hx, hb, hml, hown, hts, hK, hstr, hsz, hnm, hroom, hscr⟩ := C
  exact fun H locs ls r1 r2 r3 r4 => lv_dup2_11 hx hb hd (by rw [cv_cat]; exact hv) (by rw [cv_cat]; exact hw) (k H locs ls r1 r2 r3 r4)
theorem st_lcmp {X : CX} {M : MX} (C : Ctx X M) {pc : Nat} {L st : List Value} {h : AH} {x y : Int64} (hd : decode M.2.1 pc = .ok (.lcmp, 1)) (k : Wst X (pc + 1, L, .int (lg_cmp x y) :: st) h) : Wst X (pc, L, .long y :: .long x :: st) h := by
  obtain ⟨⟨p, l, e, R, s, m, args, below, meth, c, Qm⟩, ⟨B, D, cid, adK, adV⟩, ⟨nL, n0, u0, E1, E2⟩⟩ := X
  obtain ⟨own, cc, mname, dep, scr⟩ := M
  obtain ⟨hx, hb, hml, hown, hts, hK, hstr, hsz, hnm, hroom, hscr⟩ := C
  exact fun H locs ls r1 r2 r3 r4 => W.lcmp hx hb hd (k H locs ls r1 r2 r3 r4)
theorem st_iload_n {X : CX} {M : MX} (C : Ctx X M) {pc : Nat} {L st : List Value} {h : AH} {i : Fin 4} {x : Int32} (hd : decode M.2.1 pc = .ok (.iload_n i, 1)) (hl : getL L i = .int x) (k : Wst X (pc + 1, L, .int x :: st) h) : Wst X (pc, L, st) h := by
  obtain ⟨⟨p, l, e, R, s, m, args, below, meth, c, Qm⟩, ⟨B, D, cid, adK, adV⟩, ⟨nL, n0, u0, E1, E2⟩⟩ := X
  obtain ⟨own, cc, mname, dep, scr⟩ := M
  obtain ⟨hx, hb, hml, hown, hts, hK, hstr, hsz, hnm, hroom, hscr⟩ := C
  exact fun H locs ls r1 r2 r3 r4 => lv_iload_n hx hb hd rfl (r3.2.2 _ _ (getL_some hl (by simp)) (by simp)) (k H locs ls r1 r2 r3 r4)
theorem st_iload {X : CX} {M : MX} (C : Ctx X M) {pc : Nat} {L st : List Value} {h : AH} {i : Nat} {x : Int32} (hd : decode M.2.1 pc = .ok (.iload i, 2)) (hl : getL L i = .int x) (k : Wst X (pc + 2, L, .int x :: st) h) : Wst X (pc, L, st) h := by
  obtain ⟨⟨p, l, e, R, s, m, args, below, meth, c, Qm⟩, ⟨B, D, cid, adK, adV⟩, ⟨nL, n0, u0, E1, E2⟩⟩ := X
  obtain ⟨own, cc, mname, dep, scr⟩ := M
  obtain ⟨hx, hb, hml, hown, hts, hK, hstr, hsz, hnm, hroom, hscr⟩ := C
  exact fun H locs ls r1 r2 r3 r4 => lv_iload hx hb hd (r3.2.2 _ _ (getL_some hl (by simp)) (by simp)) (k H locs ls r1 r2 r3 r4)
theorem st_lload_n {X : CX} {M : MX} (C : Ctx X M) {pc : Nat} {L st : List Value} {h : AH} {i : Fin 4} {x : Int64} (hd : decode M.2.1 pc = .ok (.lload_n i, 1)) (hl : getL L i = .long x) (k : Wst X (pc + 1, L, .long x :: st) h) : Wst X (pc, L, st) h := by
  obtain ⟨⟨p, l, e, R, s, m, args, below, meth, c, Qm⟩, ⟨B, D, cid, adK, adV⟩, ⟨nL, n0, u0, E1, E2⟩⟩ := X
  obtain ⟨own, cc, mname, dep, scr⟩ := M
  obtain ⟨hx, hb, hml, hown, hts, hK, hstr, hsz, hnm, hroom, hscr⟩ := C
  exact fun H locs ls r1 r2 r3 r4 => lv_lload_n hx hb hd rfl (r3.2.2 _ _ (getL_some hl (by simp)) (by simp)) (k H locs ls r1 r2 r3 r4)
theorem st_lload {X : CX} {M : MX} (C : Ctx X M) {pc : Nat} {L st : List Value} {h : AH} {i : Nat} {x : Int64} (hd : decode M.2.1 pc = .ok (.lload i, 2)) (hl : getL L i = .long x) (k : Wst X (pc + 2, L, .long x :: st) h) : Wst X (pc, L, st) h := by
  obtain ⟨⟨p, l, e, R, s, m, args, below, meth, c, Qm⟩, ⟨B, D, cid, adK, adV⟩, ⟨nL, n0, u0, E1, E2⟩⟩ := X
  obtain ⟨own, cc, mname, dep, scr⟩ := M
  obtain ⟨hx, hb, hml, hown, hts, hK, hstr, hsz, hnm, hroom, hscr⟩ := C
  exact fun H locs ls r1 r2 r3 r4 => lv_lload hx hb hd (r3.2.2 _ _ (getL_some hl (by simp)) (by simp)) (k H locs ls r1 r2 r3 r4)
theorem cv_ref (B : Nat) (adK : Nat → Nat) (r : Nat) : cv B adK (.ref r) = .null ∧ r = 0 ∨ cv B adK (.ref r) = .ref (B + r) ∧ r ≠ 0 := by
  by_cases e : r = 0
  · exact Or.inl ⟨by simp [cv, rfo, e, va_rf], e⟩
  · exact Or.inr ⟨by simp [cv, rfo, e, va_rf], e⟩
theorem st_aload_n {X : CX} {M : MX} (C : Ctx X M) {pc : Nat} {L st : List Value} {h : AH} {i : Fin 4} {r : Nat} (hd : decode M.2.1 pc = .ok (.aload_n i, 1)) (hl : getL L i = .ref r) (k : Wst X (pc + 1, L, .ref r :: st) h) : Wst X (pc, L, st) h := by
  obtain ⟨⟨p, l, e, R, s, m, args, below, meth, c, Qm⟩, ⟨B, D, cid, adK, adV⟩, ⟨nL, n0, u0, E1, E2⟩⟩ := X
  obtain ⟨own, cc, mname, dep, scr⟩ := M
  obtain ⟨hx, hb, hml, hown, hts, hK, hstr, hsz, hnm, hroom, hscr⟩ := C
  intro H locs ls r1 r2 r3 r4
  have k := k H locs ls r1 r2 r3 r4
  have hv := r3.2.2 _ _ (getL_some hl (by simp)) (by simp)
  simp only [List.map_cons] at k
  rcases cv_ref B adK r with ⟨e, -⟩ | ⟨e, -⟩
  · rw [e] at hv k
    exact lv_aload_nN hx hb hd rfl hv k
  · rw [e] at hv k
    exact lv_aload_n hx hb hd rfl hv k
theorem st_aload {X : CX} {M : MX} (C : Ctx X M) {pc : Nat} {L st : List Value} {h : AH} {i : Nat} {r : Nat} (hd : decode M.2.1 pc = .ok (.aload i, 2)) (hl : getL L i = .ref r) (k : Wst X (pc + 2, L, .ref r :: st) h) : Wst X (pc, L, st) h := by
  obtain ⟨⟨p, l, e, R, s, m, args, below, meth, c, Qm⟩, ⟨B, D, cid, adK, adV⟩, ⟨nL, n0, u0, E1, E2⟩⟩ := X
  obtain ⟨own, cc, mname, dep, scr⟩ := M
  obtain ⟨hx, hb, hml, hown, hts, hK, hstr, hsz, hnm, hroom, hscr⟩ := C
  intro H locs ls r1 r2 r3 r4
  have k := k H locs ls r1 r2 r3 r4
  have hv := r3.2.2 _ _ (getL_some hl (by simp)) (by simp)
  simp only [List.map_cons] at k
  rcases cv_ref B adK r with ⟨e, -⟩ | ⟨e, -⟩
  · rw [e] at hv k
    exact lv_aloadN hx hb hd hv k
  · rw [e] at hv k
    exact lv_aload hx hb hd hv k
theorem st_aload_nT {X : CX} {M : MX} (C : Ctx X M) {pc : Nat} {L st : List Value} {h : AH} {i : Fin 4} {r : Nat} (hd : decode M.2.1 pc = .ok (.aload_n i, 1)) (hl : getL L i = .retAddr r) (k : Wst X (pc + 1, L, .retAddr r :: st) h) : Wst X (pc, L, st) h := by
  obtain ⟨⟨p, l, e, R, s, m, args, below, meth, c, Qm⟩, ⟨B, D, cid, adK, adV⟩, ⟨nL, n0, u0, E1, E2⟩⟩ := X
  obtain ⟨own, cc, mname, dep, scr⟩ := M
  obtain ⟨hx, hb, hml, hown, hts, hK, hstr, hsz, hnm, hroom, hscr⟩ := C
  exact fun H locs ls r1 r2 r3 r4 => lv_aload_n hx hb hd rfl (r3.2.2 _ _ (getL_some hl (by simp)) (by simp)) (k H locs ls r1 r2 r3 r4)
theorem st_istore_n {X : CX} {M : MX} (C : Ctx X M) {pc : Nat} {L st : List Value} {h : AH} {i : Fin 4} {x : Int32} (hd : decode M.2.1 pc = .ok (.istore_n i, 1)) (hi : (i : Nat) < X.2.2.1) (k : Wst X (pc + 1, stL L i (.int x), st) h) : Wst X (pc, L, .int x :: st) h := by
  obtain ⟨⟨p, l, e, R, s, m, args, below, meth, c, Qm⟩, ⟨B, D, cid, adK, adV⟩, ⟨nL, n0, u0, E1, E2⟩⟩ := X
  obtain ⟨own, cc, mname, dep, scr⟩ := M
  obtain ⟨hx, hb, hml, hown, hts, hK, hstr, hsz, hnm, hroom, hscr⟩ := C
  exact fun H locs ls r1 r2 r3 r4 => lv_istore_n hx hb hd rfl (ents_has r3) hi rfl (fun ls' hl => k H locs ls' r1 r2 (lrel_st rfl hl) r4)
theorem st_istore {X : CX} {M : MX} (C : Ctx X M) {pc : Nat} {L st : List Value} {h : AH} {i : Nat} {x : Int32} (hd : decode M.2.1 pc = .ok (.istore i, 2)) (hi : i < X.2.2.1) (k : Wst X (pc + 2, stL L i (.int x), st) h) : Wst X (pc, L, .int x :: st) h := by
  obtain ⟨⟨p, l, e, R, s, m, args, below, meth, c, Qm⟩, ⟨B, D, cid, adK, adV⟩, ⟨nL, n0, u0, E1, E2⟩⟩ := X
  obtain ⟨own, cc, mname, dep, scr⟩ := M
  obtain ⟨hx, hb, hml, hown, hts, hK, hstr, hsz, hnm, hroom, hscr⟩ := C
  exact fun H locs ls r1 r2 r3 r4 => lv_istore hx hb hd (ents_has r3) hi rfl (fun ls' hl => k H locs ls' r1 r2 (lrel_st rfl hl) r4)
theorem st_lstore_n {X : CX} {M : MX} (C : Ctx X M) {pc : Nat} {L st : List Value} {h : AH} {i : Fin 4} {x : Int64} (hd : decode M.2.1 pc = .ok (.lstore_n i, 1)) (hi : (i : Nat) + 1 < X.2.2.1) (k : Wst X (pc + 1, stL2 L i (.long x), st) h) : Wst X (pc, L, .long x :: st) h := by
  obtain ⟨⟨p, l, e, R, s, m, args, below, meth, c, Qm⟩, ⟨B, D, cid, adK, adV⟩, ⟨nL, n0, u0, E1, E2⟩⟩ := X
  obtain ⟨own, cc, mname, dep, scr⟩ := M
  obtain ⟨hx, hb, hml, hown, hts, hK, hstr, hsz, hnm, hroom, hscr⟩ := C
  exact fun H locs ls r1 r2 r3 r4 => lv_lstore_n hx hb hd rfl (ents_has r3) hi rfl (fun ls' hl => k H locs ls' r1 r2 (lrel_st2 rfl hl) r4)
theorem st_lstore {X : CX} {M : MX} (C : Ctx X M) {pc : Nat} {L st : List Value} {h : AH} {i : Nat} {x : Int64} (hd : decode M.2.1 pc = .ok (.lstore i, 2)) (hi : i + 1 < X.2.2.1) (k : Wst X (pc + 2, stL2 L i (.long x), st) h) : Wst X (pc, L, .long x :: st) h := by
  obtain ⟨⟨p, l, e, R, s, m, args, below, meth, c, Qm⟩, ⟨B, D, cid, adK, adV⟩, ⟨nL, n0, u0, E1, E2⟩⟩ := X
  obtain ⟨own, cc, mname, dep, scr⟩ := M
  obtain ⟨hx, hb, hml, hown, hts, hK, hstr, hsz, hnm, hroom, hscr⟩ := C
  exact fun H locs ls r1 r2 r3 r4 => lv_lstore hx hb hd (ents_has r3) hi rfl (fun ls' hl => k H locs ls' r1 r2 (lrel_st2 rfl hl) r4)
theorem st_astore_n {X : CX} {M : MX} (C : Ctx X M) {pc : Nat} {L st : List Value} {h : AH} {i : Fin 4} {r : Nat} (hd : decode M.2.1 pc = .ok (.astore_n i, 1)) (hi : (i : Nat) < X.2.2.1) (k : Wst X (pc + 1, stL L i (.ref r), st) h) : Wst X (pc, L, .ref r :: st) h := by
  obtain ⟨⟨p, l, e, R, s, m, args, below, meth, c, Qm⟩, ⟨B, D, cid, adK, adV⟩, ⟨nL, n0, u0, E1, E2⟩⟩ := X
  obtain ⟨own, cc, mname, dep, scr⟩ := M
  obtain ⟨hx, hb, hml, hown, hts, hK, hstr, hsz, hnm, hroom, hscr⟩ := C
  intro H locs ls r1 r2 r3 r4
  simp only [List.map_cons]
  rcases cv_ref B adK r with ⟨e, -⟩ | ⟨e, -⟩
  · rw [e]
    exact lv_astore_nN hx hb hd rfl (ents_has r3) hi rfl (fun ls' hl => k H locs ls' r1 r2 (lrel_st e hl) r4)
  · rw [e]
    exact lv_astore_n hx hb hd rfl (ents_has r3) hi rfl (fun ls' hl => k H locs ls' r1 r2 (lrel_st e hl) r4)
theorem st_astore {X : CX} {M : MX} (C : Ctx X M) {pc : Nat} {L st : List Value} {h : AH} {i : Nat} {r : Nat} (hd : decode M.2.1 pc = .ok (.astore i, 2)) (hi : i < X.2.2.1) (k : Wst X (pc + 2, stL L i (.ref r), st) h) : Wst X (pc, L, .ref r :: st) h := by
  obtain ⟨⟨p, l, e, R, s, m, args, below, meth, c, Qm⟩, ⟨B, D, cid, adK, adV⟩, ⟨nL, n0, u0, E1, E2⟩⟩ := X
  obtain ⟨own, cc, mname, dep, scr⟩ := M
  obtain ⟨hx, hb, hml, hown, hts, hK, hstr, hsz, hnm, hroom, hscr⟩ := C
  intro H locs ls r1 r2 r3 r4
  simp only [List.map_cons]
  rcases cv_ref B adK r with ⟨e, -⟩ | ⟨e, -⟩
  · rw [e]
    exact lv_astoreN hx hb hd (ents_has r3) hi rfl (fun ls' hl => k H locs ls' r1 r2 (lrel_st e hl) r4)
  · rw [e]
    exact lv_astore hx hb hd (ents_has r3) hi rfl (fun ls' hl => k H locs ls' r1 r2 (lrel_st e hl) r4)
theorem st_iinc {X : CX} {M : MX} (C : Ctx X M) {pc : Nat} {L st : List Value} {h : AH} {i : Nat} {n : Int} {x v : Int32} (hd : decode M.2.1 pc = .ok (.iinc i n, 3)) (hi : i < X.2.2.1) (hv : Int32.ofInt n = v) (hl : getL L i = .int x) (k : Wst X (pc + 3, stL L i (.int (x + v)), st) h) : Wst X (pc, L, st) h := by
  obtain ⟨⟨p, l, e, R, s, m, args, below, meth, c, Qm⟩, ⟨B, D, cid, adK, adV⟩, ⟨nL, n0, u0, E1, E2⟩⟩ := X
  obtain ⟨own, cc, mname, dep, scr⟩ := M
  obtain ⟨hx, hb, hml, hown, hts, hK, hstr, hsz, hnm, hroom, hscr⟩ := C
  intro H locs ls r1 r2 r3 r4
  obtain ⟨j, hj⟩ := List.getElem?_of_mem (ents_in (B := B) (adK := adK) (getL_some hl (by simp)) (by simp))
  exact lv_iinc hx hb hd (ents_has r3) hj (by rw [hv]) hi rfl (fun ls' hl => k H locs ls' r1 r2 (lrel_st rfl hl) r4)
theorem st_if_eq {X : CX} {M : MX} (C : Ctx X M) {pc : Nat} {L st : List Value} {h : AH} {x : Int32} {off : Int} {tgt : Nat} (hd : decode M.2.1 pc = .ok (.ifCond .eq off, 3)) (ht : (pc : Int) + off = (tgt : Int)) (kt : x = 0 → Wst X (tgt, L, st) h) (kf : ¬ x = 0 → Wst X (pc + 3, L, st) h) : Wst X (pc, L, .int x :: st) h := by
  obtain ⟨⟨p, l, e, R, s, m, args, below, meth, c, Qm⟩, ⟨B, D, cid, adK, adV⟩, ⟨nL, n0, u0, E1, E2⟩⟩ := X
  obtain ⟨own, cc, mname, dep, scr⟩ := M
  obtain ⟨hx, hb, hml, hown, hts, hK, hstr, hsz, hnm, hroom, hscr⟩ := C
  exact fun H locs ls r1 r2 r3 r4 => lv_if_eq hx hb hd ht (fun q => kt q H locs ls r1 r2 r3 r4) (fun q => kf q H locs ls r1 r2 r3 r4)
theorem st_if_ne {X : CX} {M : MX} (C : Ctx X M) {pc : Nat} {L st : List Value} {h : AH} {x : Int32} {off : Int} {tgt : Nat} (hd : decode M.2.1 pc = .ok (.ifCond .ne off, 3)) (ht : (pc : Int) + off = (tgt : Int)) (kt : ¬ x = 0 → Wst X (tgt, L, st) h) (kf : x = 0 → Wst X (pc + 3, L, st) h) : Wst X (pc, L, .int x :: st) h := by
  obtain ⟨⟨p, l, e, R, s, m, args, below, meth, c, Qm⟩, ⟨B, D, cid, adK, adV⟩, ⟨nL, n0, u0, E1, E2⟩⟩ := X
  obtain ⟨own, cc, mname, dep, scr⟩ := M
  obtain ⟨hx, hb, hml, hown, hts, hK, hstr, hsz, hnm, hroom, hscr⟩ := C
  exact fun H locs ls r1 r2 r3 r4 => lv_if_ne hx hb hd ht (fun q => kt q H locs ls r1 r2 r3 r4) (fun q => kf q H locs ls r1 r2 r3 r4)
theorem st_if_lt {X : CX} {M : MX} (C : Ctx X M) {pc : Nat} {L st : List Value} {h : AH} {x : Int32} {off : Int} {tgt : Nat} (hd : decode M.2.1 pc = .ok (.ifCond .lt off, 3)) (ht : (pc : Int) + off = (tgt : Int)) (kt : x < 0 → Wst X (tgt, L, st) h) (kf : ¬ x < 0 → Wst X (pc + 3, L, st) h) : Wst X (pc, L, .int x :: st) h := by
  obtain ⟨⟨p, l, e, R, s, m, args, below, meth, c, Qm⟩, ⟨B, D, cid, adK, adV⟩, ⟨nL, n0, u0, E1, E2⟩⟩ := X
  obtain ⟨own, cc, mname, dep, scr⟩ := M
  obtain ⟨hx, hb, hml, hown, hts, hK, hstr, hsz, hnm, hroom, hscr⟩ := C
  exact fun H locs ls r1 r2 r3 r4 => lv_if_lt hx hb hd ht (fun q => kt q H locs ls r1 r2 r3 r4) (fun q => kf q H locs ls r1 r2 r3 r4)
theorem st_if_ge {X : CX} {M : MX} (C : Ctx X M) {pc : Nat} {L st : List Value} {h : AH} {x : Int32} {off : Int} {tgt : Nat} (hd : decode M.2.1 pc = .ok (.ifCond .ge off, 3)) (ht : (pc : Int) + off = (tgt : Int)) (kt : 0 ≤ x → Wst X (tgt, L, st) h) (kf : ¬ 0 ≤ x → Wst X (pc + 3, L, st) h) : Wst X (pc, L, .int x :: st) h := by
  obtain ⟨⟨p, l, e, R, s, m, args, below, meth, c, Qm⟩, ⟨B, D, cid, adK, adV⟩, ⟨nL, n0, u0, E1, E2⟩⟩ := X
  obtain ⟨own, cc, mname, dep, scr⟩ := M
  obtain ⟨hx, hb, hml, hown, hts, hK, hstr, hsz, hnm, hroom, hscr⟩ := C
  exact fun H locs ls r1 r2 r3 r4 => lv_if_ge hx hb hd ht (fun q => kt q H locs ls r1 r2 r3 r4) (fun q => kf q H locs ls r1 r2 r3 r4)
theorem st_if_gt {X : CX} {M : MX} (C : Ctx X M) {pc : Nat} {L st : List Value} {h : AH} {x : Int32} {off : Int} {tgt : Nat} (hd : decode M.2.1 pc = .ok (.ifCond .gt off, 3)) (ht : (pc : Int) + off = (tgt : Int)) (kt : 0 < x → Wst X (tgt, L, st) h) (kf : ¬ 0 < x → Wst X (pc + 3, L, st) h) : Wst X (pc, L, .int x :: st) h := by
  obtain ⟨⟨p, l, e, R, s, m, args, below, meth, c, Qm⟩, ⟨B, D, cid, adK, adV⟩, ⟨nL, n0, u0, E1, E2⟩⟩ := X
  obtain ⟨own, cc, mname, dep, scr⟩ := M
  obtain ⟨hx, hb, hml, hown, hts, hK, hstr, hsz, hnm, hroom, hscr⟩ := C
  exact fun H locs ls r1 r2 r3 r4 => lv_if_gt hx hb hd ht (fun q => kt q H locs ls r1 r2 r3 r4) (fun q => kf q H locs ls r1 r2 r3 r4)
theorem st_if_le {X : CX} {M : MX} (C : Ctx X M) {pc : Nat} {L st : List Value} {h : AH} {x : Int32} {off : Int} {tgt : Nat} (hd : decode M.2.1 pc = .ok (.ifCond .le off, 3)) (ht : (pc : Int) + off = (tgt : Int)) (kt : x ≤ 0 → Wst X (tgt, L, st) h) (kf : ¬ x ≤ 0 → Wst X (pc + 3, L, st) h) : Wst X (pc, L, .int x :: st) h := by
  obtain ⟨⟨p, l, e, R, s, m, args, below, meth, c, Qm⟩, ⟨B, D, cid, adK, adV⟩, ⟨nL, n0, u0, E1, E2⟩⟩ := X
  obtain ⟨own, cc, mname, dep, scr⟩ := M
  obtain ⟨hx, hb, hml, hown, hts, hK, hstr, hsz, hnm, hroom, hscr⟩ := C
  exact fun H locs ls r1 r2 r3 r4 => lv_if_le hx hb hd ht (fun q => kt q H locs ls r1 r2 r3 r4) (fun q => kf q H locs ls r1 r2 r3 r4)
theorem st_icmp_eq {X : CX} {M : MX} (C : Ctx X M) {pc : Nat} {L st : List Value} {h : AH} {x y : Int32} {off : Int} {tgt : Nat} (hd : decode M.2.1 pc = .ok (.if_icmp .eq off, 3)) (ht : (pc : Int) + off = (tgt : Int)) (kt : x = y → Wst X (tgt, L, st) h) (kf : ¬ x = y → Wst X (pc + 3, L, st) h) : Wst X (pc, L, .int y :: .int x :: st) h := by
  obtain ⟨⟨p, l, e, R, s, m, args, below, meth, c, Qm⟩, ⟨B, D, cid, adK, adV⟩, ⟨nL, n0, u0, E1, E2⟩⟩ := X
  obtain ⟨own, cc, mname, dep, scr⟩ := M
  obtain ⟨hx, hb, hml, hown, hts, hK, hstr, hsz, hnm, hroom, hscr⟩ := C
  exact fun H locs ls r1 r2 r3 r4 => lv_icmp_eq hx hb hd ht (fun q => kt q H locs ls r1 r2 r3 r4) (fun q => kf q H locs ls r1 r2 r3 r4)
theorem st_icmp_ne {X : CX} {M : MX} (C : Ctx X M) {pc : Nat} {L st : List Value} {h : AH} {x y : Int32} {off : Int} {tgt : Nat} (hd : decode M.2.1 pc = .ok (.if_icmp .ne off, 3)) (ht : (pc : Int) + off = (tgt : Int)) (kt : ¬ x = y → Wst X (tgt, L, st) h) (kf : x = y → Wst X (pc + 3, L, st) h) : Wst X (pc, L, .int y :: .int x :: st) h := by
  obtain ⟨⟨p, l, e, R, s, m, args, below, meth, c, Qm⟩, ⟨B, D, cid, adK, adV⟩, ⟨nL, n0, u0, E1, E2⟩⟩ := X
  obtain ⟨own, cc, mname, dep, scr⟩ := M
  obtain ⟨hx, hb, hml, hown, hts, hK, hstr, hsz, hnm, hroom, hscr⟩ := C
  exact fun H locs ls r1 r2 r3 r4 => lv_icmp_ne hx hb hd ht (fun q => kt q H locs ls r1 r2 r3 r4) (fun q => kf q H locs ls r1 r2 r3 r4)
theorem st_icmp_lt {X : CX} {M : MX} (C : Ctx X M) {pc : Nat} {L st : List Value} {h : AH} {x y : Int32} {off : Int} {tgt : Nat} (hd : decode M.2.1 pc = .ok (.if_icmp .lt off, 3)) (ht : (pc : Int) + off = (tgt : Int)) (kt : x < y → Wst X (tgt, L, st) h) (kf : ¬ x < y → Wst X (pc + 3, L, st) h) : Wst X (pc, L, .int y :: .int x :: st) h := by
  obtain ⟨⟨p, l, e, R, s, m, args, below, meth, c, Qm⟩, ⟨B, D, cid, adK, adV⟩, ⟨nL, n0, u0, E1, E2⟩⟩ := X
  obtain ⟨own, cc, mname, dep, scr⟩ := M
  obtain ⟨hx, hb, hml, hown, hts, hK, hstr, hsz, hnm, hroom, hscr⟩ := C
  exact fun H locs ls r1 r2 r3 r4 => lv_icmp_lt hx hb hd ht (fun q => kt q H locs ls r1 r2 r3 r4) (fun q => kf q H locs ls r1 r2 r3 r4)
theorem st_icmp_ge {X : CX} {M : MX} (C : Ctx X M) {pc : Nat} {L st : List Value} {h : AH} {x y : Int32} {off : Int} {tgt : Nat} (hd : decode M.2.1 pc = .ok (.if_icmp .ge off, 3)) (ht : (pc : Int) + off = (tgt : Int)) (kt : y ≤ x → Wst X (tgt, L, st) h) (kf : ¬ y ≤ x → Wst X (pc + 3, L, st) h) : Wst X (pc, L, .int y :: .int x :: st) h := by
  obtain ⟨⟨p, l, e, R, s, m, args, below, meth, c, Qm⟩, ⟨B, D, cid, adK, adV⟩, ⟨nL, n0, u0, E1, E2⟩⟩ := X
  obtain ⟨own, cc, mname, dep, scr⟩ := M
  obtain ⟨hx, hb, hml, hown, hts, hK, hstr, hsz, hnm, hroom, hscr⟩ := C
  exact fun H locs ls r1 r2 r3 r4 => lv_icmp_ge hx hb hd ht (fun q => kt q H locs ls r1 r2 r3 r4) (fun q => kf q H locs ls r1 r2 r3 r4)
theorem st_icmp_gt {X : CX} {M : MX} (C : Ctx X M) {pc : Nat} {L st : List Value} {h : AH} {x y : Int32} {off : Int} {tgt : Nat} (hd : decode M.2.1 pc = .ok (.if_icmp .gt off, 3)) (ht : (pc : Int) + off = (tgt : Int)) (kt : y < x → Wst X (tgt, L, st) h) (kf : ¬ y < x → Wst X (pc + 3, L, st) h) : Wst X (pc, L, .int y :: .int x :: st) h := by
  obtain ⟨⟨p, l, e, R, s, m, args, below, meth, c, Qm⟩, ⟨B, D, cid, adK, adV⟩, ⟨nL, n0, u0, E1, E2⟩⟩ := X
  obtain ⟨own, cc, mname, dep, scr⟩ := M
  obtain ⟨hx, hb, hml, hown, hts, hK, hstr, hsz, hnm, hroom, hscr⟩ := C
  exact fun H locs ls r1 r2 r3 r4 => lv_icmp_gt hx hb hd ht (fun q => kt q H locs ls r1 r2 r3 r4) (fun q => kf q H locs ls r1 r2 r3 r4)
theorem st_icmp_le {X : CX} {M : MX} (C : Ctx X M) {pc : Nat} {L st : List Value} {h : AH} {x y : Int32} {off : Int} {tgt : Nat} (hd : decode M.2.1 pc = .ok (.if_icmp .le off, 3)) (ht : (pc : Int) + off = (tgt : Int)) (kt : x ≤ y → Wst X (tgt, L, st) h) (kf : ¬ x ≤ y → Wst X (pc + 3, L, st) h) : Wst X (pc, L, .int y :: .int x :: st) h := by
  obtain ⟨⟨p, l, e, R, s, m, args, below, meth, c, Qm⟩, ⟨B, D, cid, adK, adV⟩, ⟨nL, n0, u0, E1, E2⟩⟩ := X
  obtain ⟨own, cc, mname, dep, scr⟩ := M
  obtain ⟨hx, hb, hml, hown, hts, hK, hstr, hsz, hnm, hroom, hscr⟩ := C
  exact fun H locs ls r1 r2 r3 r4 => lv_icmp_le hx hb hd ht (fun q => kt q H locs ls r1 r2 r3 r4) (fun q => kf q H locs ls r1 r2 r3 r4)
theorem st_goto {X : CX} {M : MX} (C : Ctx X M) {pc : Nat} {L st : List Value} {h : AH} {off : Int} {tgt : Nat} (hd : decode M.2.1 pc = .ok (.goto off, 3)) (ht : (pc : Int) + off = (tgt : Int)) (k : Wst X (tgt, L, st) h) : Wst X (pc, L, st) h := by
  obtain ⟨⟨p, l, e, R, s, m, args, below, meth, c, Qm⟩, ⟨B, D, cid, adK, adV⟩, ⟨nL, n0, u0, E1, E2⟩⟩ := X
  obtain ⟨own, cc, mname, dep, scr⟩ := M
  obtain ⟨hx, hb, hml, hown, hts, hK, hstr, hsz, hnm, hroom, hscr⟩ := C
  exact fun H locs ls r1 r2 r3 r4 => lv_goto hx hb hd ht (k H locs ls r1 r2 r3 r4)
theorem st_ifnull {X : CX} {M : MX} (C : Ctx X M) {pc : Nat} {L st : List Value} {h : AH} {r : Nat} {off : Int} {tgt : Nat} (hd : decode M.2.1 pc = .ok (.ifnull off, 3)) (ht : (pc : Int) + off = (tgt : Int)) (kt : r = 0 → Wst X (tgt, L, st) h) (kf : ¬ r = 0 → Wst X (pc + 3, L, st) h) : Wst X (pc, L, .ref r :: st) h := by
  obtain ⟨⟨p, l, e, R, s, m, args, below, meth, c, Qm⟩, ⟨B, D, cid, adK, adV⟩, ⟨nL, n0, u0, E1, E2⟩⟩ := X
  obtain ⟨own, cc, mname, dep, scr⟩ := M
  obtain ⟨hx, hb, hml, hown, hts, hK, hstr, hsz, hnm, hroom, hscr⟩ := C
  intro H locs ls r1 r2 r3 r4
  simp only [List.map_cons]
  rcases cv_ref B adK r with ⟨e, z⟩ | ⟨e, z⟩
  · rw [e]; exact lv_ifnullN hx hb hd ht (kt z H locs ls r1 r2 r3 r4)
  · rw [e]; exact lv_ifnull hx hb hd (kf z H locs ls r1 r2 r3 r4)
theorem st_ifnonnull {X : CX} {M : MX} (C : Ctx X M) {pc : Nat} {L st : List Value} {h : AH} {r : Nat} {off : Int} {tgt : Nat} (hd : decode M.2.1 pc = .ok (.ifnonnull off, 3)) (ht : (pc : Int) + off = (tgt : Int)) (kt : ¬ r = 0 → Wst X (tgt, L, st) h) (kf : r = 0 → Wst X (pc + 3, L, st) h) : Wst X (pc, L, .ref r :: st) h := by
  obtain ⟨⟨p, l, e, R, s, m, args, below, meth, c, Qm⟩, ⟨B, D, cid, adK, adV⟩, ⟨nL, n0, u0, E1, E2⟩⟩ := X
  obtain ⟨own, cc, mname, dep, scr⟩ := M
  obtain ⟨hx, hb, hml, hown, hts, hK, hstr, hsz, hnm, hroom, hscr⟩ := C
  intro H locs ls r1 r2 r3 r4
  simp only [List.map_cons]
  rcases cv_ref B adK r with ⟨e, z⟩ | ⟨e, z⟩
  · rw [e]; exact lv_ifnonnullN hx hb hd (kf z H locs ls r1 r2 r3 r4)
  · rw [e]; exact lv_ifnonnull hx hb hd ht (kt z H locs ls r1 r2 r3 r4)
theorem st_ldc {X : CX} {M : MX} (C : Ctx X M) {pc : Nat} {L st : List Value} {h : AH} {i : Nat} {v : Int32} (hd : decode M.2.1 pc = .ok (.ldc i, 2)) (hw : Cond.constant M.1 i v ∈ lw_g) (k : Wst X (pc + 2, L, .int v :: st) h) : Wst X (pc, L, st) h := by
  obtain ⟨⟨p, l, e, R, s, m, args, below, meth, c, Qm⟩, ⟨B, D, cid, adK, adV⟩, ⟨nL, n0, u0, E1, E2⟩⟩ := X
  obtain ⟨own, cc, mname, dep, scr⟩ := M
  obtain ⟨hx, hb, hml, hown, hts, hK, hstr, hsz, hnm, hroom, hscr⟩ := C
  exact fun H locs ls r1 r2 r3 r4 => lv_ldc hx hb hown (hts _ hw) hd (k H locs ls r1 r2 r3 r4)
theorem st_ldcw {X : CX} {M : MX} (C : Ctx X M) {pc : Nat} {L st : List Value} {h : AH} {i : Nat} {v : Int32} (hd : decode M.2.1 pc = .ok (.ldc_w i, 3)) (hw : Cond.constant M.1 i v ∈ lw_g) (k : Wst X (pc + 3, L, .int v :: st) h) : Wst X (pc, L, st) h := by
  obtain ⟨⟨p, l, e, R, s, m, args, below, meth, c, Qm⟩, ⟨B, D, cid, adK, adV⟩, ⟨nL, n0, u0, E1, E2⟩⟩ := X
  obtain ⟨own, cc, mname, dep, scr⟩ := M
  obtain ⟨hx, hb, hml, hown, hts, hK, hstr, hsz, hnm, hroom, hscr⟩ := C
  exact fun H locs ls r1 r2 r3 r4 => lv_ldcw hx hb hown (hts _ hw) hd (k H locs ls r1 r2 r3 r4)
theorem st_ldc2 {X : CX} {M : MX} (C : Ctx X M) {pc : Nat} {L st : List Value} {h : AH} {i : Nat} {v : Int64} (hd : decode M.2.1 pc = .ok (.ldc2_w i, 3)) (hw : Cond.constantLong M.1 i v ∈ lw_g) (k : Wst X (pc + 3, L, .long v :: st) h) : Wst X (pc, L, st) h := by
  obtain ⟨⟨p, l, e, R, s, m, args, below, meth, c, Qm⟩, ⟨B, D, cid, adK, adV⟩, ⟨nL, n0, u0, E1, E2⟩⟩ := X
  obtain ⟨own, cc, mname, dep, scr⟩ := M
  obtain ⟨hx, hb, hml, hown, hts, hK, hstr, hsz, hnm, hroom, hscr⟩ := C
  exact fun H locs ls r1 r2 r3 r4 => lv_ldc2 hx hb hown (hts _ hw) hd (k H locs ls r1 r2 r3 r4)
theorem st_ldcS {X : CX} {M : MX} (C : Ctx X M) {pc : Nat} {L st : List Value} {h : AH} {i j : Nat} {tx : String} (hd : decode M.2.1 pc = .ok (.ldc i, 2)) (hw : strs[j]? = some (M.1, i, tx)) (k : Wst X (pc + 2, L, .retAddr j :: st) h) : Wst X (pc, L, st) h := by
  obtain ⟨⟨p, l, e, R, s, m, args, below, meth, c, Qm⟩, ⟨B, D, cid, adK, adV⟩, ⟨nL, n0, u0, E1, E2⟩⟩ := X
  obtain ⟨own, cc, mname, dep, scr⟩ := M
  obtain ⟨hx, hb, hml, hown, hts, hK, hstr, hsz, hnm, hroom, hscr⟩ := C
  exact fun H locs ls r1 r2 r3 r4 => va_ldcS hx hb hown (hstr.2.1 _ _ hw) hd (k H locs ls r1 r2 r3 r4)
theorem st_ldcwS {X : CX} {M : MX} (C : Ctx X M) {pc : Nat} {L st : List Value} {h : AH} {i j : Nat} {tx : String} (hd : decode M.2.1 pc = .ok (.ldc_w i, 3)) (hw : strs[j]? = some (M.1, i, tx)) (k : Wst X (pc + 3, L, .retAddr j :: st) h) : Wst X (pc, L, st) h := by
  obtain ⟨⟨p, l, e, R, s, m, args, below, meth, c, Qm⟩, ⟨B, D, cid, adK, adV⟩, ⟨nL, n0, u0, E1, E2⟩⟩ := X
  obtain ⟨own, cc, mname, dep, scr⟩ := M
  obtain ⟨hx, hb, hml, hown, hts, hK, hstr, hsz, hnm, hroom, hscr⟩ := C
  intro H locs ls r1 r2 r3 r4 T hT Xs
  obtain ⟨t, a1, b1⟩ := k H locs ls r1 r2 r3 r4 T hT Xs
  have hZ := hstr.2.1 _ _ hw
  exact ⟨t, Xs.ldcStringW hx hown (text := tx) (a := adK j) hZ.1 hZ.2 (g := F0 m pc ls (st.map (cv B adK))) rfl (by rw [hb]; exact hd) t a1, b1⟩
end
section
/-! what the classes' tables say -/
def clOk (c : Nat) (q : vw_C) : Prop := (∀ w ∈ u_ws q.1 q.2.1 q.2.2, w ∈ lw_g) ∧ (∀ a, a < q.2.2 → ∀ b, b < q.2.2 → a ≠ b → (q.2.1 a).2.1 ≠ (q.2.1 b).2.1) ∧ (∀ k, k < q.2.2 → parseFieldDescriptor (q.2.1 k).2.2.1 = some (fTy c k)) ∧ fN c = q.2.2 ∧ (Cond.instantiable q.1 q.2.2 ∈ lw_g ∧ Cond.initialized q.1 ∈ lw_g)
theorem clIn0 : ∀ w ∈ u_ws RX0 TX0 11, w ∈ lw_g := by decide +kernel
theorem clOk0 : clOk 0 (RX0, TX0, 11) := ⟨clIn0, nmX0, tyX0_ok, rfl, by decide +kernel, by decide +kernel⟩
theorem clIn1 : ∀ w ∈ u_ws RX1 TX1 4, w ∈ lw_g := by decide +kernel
theorem clOk1 : clOk 1 (RX1, TX1, 4) := ⟨clIn1, nmX1, tyX1_ok, rfl, by decide +kernel, by decide +kernel⟩
theorem clIn2 : ∀ w ∈ u_ws RX2 TX2 5, w ∈ lw_g := by decide +kernel
theorem clOk2 : clOk 2 (RX2, TX2, 5) := ⟨clIn2, nmX2, tyX2_ok, rfl, by decide +kernel, by decide +kernel⟩
theorem clIn3 : ∀ w ∈ u_ws RX3 TX3 8, w ∈ lw_g := by decide +kernel
theorem clOk3 : clOk 3 (RX3, TX3, 8) := ⟨clIn3, nmX3, tyX3_ok, rfl, by decide +kernel, by decide +kernel⟩
theorem clIn4 : ∀ w ∈ u_ws RX4 TX4 6, w ∈ lw_g := by decide +kernel
theorem clOk4 : clOk 4 (RX4, TX4, 6) := ⟨clIn4, nmX4, tyX4_ok, rfl, by decide +kernel, by decide +kernel⟩
theorem clIn5 : ∀ w ∈ u_ws RX5 TX5 1, w ∈ lw_g := by decide +kernel
theorem clOk5 : clOk 5 (RX5, TX5, 1) := ⟨clIn5, nmX5, tyX5_ok, rfl, by decide +kernel, by decide +kernel⟩
theorem clIn6 : ∀ w ∈ u_ws RX6 TX6 3, w ∈ lw_g := by decide +kernel
theorem clOk6 : clOk 6 (RX6, TX6, 3) := ⟨clIn6, nmX6, tyX6_ok, rfl, by decide +kernel, by decide +kernel⟩
theorem clIn7 : ∀ w ∈ u_ws RX7 TX7 11, w ∈ lw_g := by decide +kernel
theorem clOk7 : clOk 7 (RX7, TX7, 11) := ⟨clIn7, nmX7, tyX7_ok, rfl, by decide +kernel, by decide +kernel⟩
theorem clIn8 : ∀ w ∈ u_ws RX8 TX8 7, w ∈ lw_g := by decide +kernel
theorem clOk8 : clOk 8 (RX8, TX8, 7) := ⟨clIn8, nmX8, tyX8_ok, rfl, by decide +kernel, by decide +kernel⟩
theorem clIn9 : ∀ w ∈ u_ws RX9 TX9 10, w ∈ lw_g := by decide +kernel
theorem clOk9 : clOk 9 (RX9, TX9, 10) := ⟨clIn9, nmX9, tyX9_ok, rfl, by decide +kernel, by decide +kernel⟩
theorem clIn10 : ∀ w ∈ u_ws RX10 TX10 5, w ∈ lw_g := by decide +kernel
theorem clOk10 : clOk 10 (RX10, TX10, 5) := ⟨clIn10, nmX10, tyX10_ok, rfl, by decide +kernel, by decide +kernel⟩
theorem clIn11 : ∀ w ∈ u_ws RX11 TX11 11, w ∈ lw_g := by decide +kernel
theorem clOk11 : clOk 11 (RX11, TX11, 11) := ⟨clIn11, nmX11, tyX11_ok, rfl, by decide +kernel, by decide +kernel⟩
theorem clIn12 : ∀ w ∈ u_ws RX12 TX12 59, w ∈ lw_g := by decide +kernel
theorem clOk12 : clOk 12 (RX12, TX12, 59) := ⟨clIn12, nmX12, tyX12_ok, rfl, by decide +kernel, by decide +kernel⟩
theorem cl_ok {c : Nat} {q : vw_C} (h : cl13[c]? = some q) : clOk c q := by
  match c, h with
  | 0, h => cases h; exact clOk0
  | 1, h => cases h; exact clOk1
  | 2, h => cases h; exact clOk2
  | 3, h => cases h; exact clOk3
  | 4, h => cases h; exact clOk4
  | 5, h => cases h; exact clOk5
  | 6, h => cases h; exact clOk6
  | 7, h => cases h; exact clOk7
  | 8, h => cases h; exact clOk8
  | 9, h => cases h; exact clOk9
  | 10, h => cases h; exact clOk10
  | 11, h => cases h; exact clOk11
  | 12, h => cases h; exact clOk12
  | n + 13, h => simp [cl13] at h
/-! cells by their kinds -/
theorem cellE_obj {B : Nat} {cid : Nat → ClassId} {h : AH} {a c : Nat} (hs : (hS h a).1 = 10 + c) : cellE B cid h a = .inr (c, (List.range (fN c)).map (fV B h a c)) := by
  have e : 10 + c - 10 = c := by omega
  simp only [cellE, hs, e]
  rw [if_neg (by omega), if_neg (by omega), if_neg (by omega), if_neg (by omega), if_neg (by omega)]
theorem cellE_1 {B : Nat} {cid : Nat → ClassId} {h : AH} {a : Nat} (hs : (hS h a).1 = 1) : cellE B cid h a = .inl (cid 1, (hS h a).2, .inl (hI h a)) := by simp [cellE, hs]
theorem cellE_2 {B : Nat} {cid : Nat → ClassId} {h : AH} {a : Nat} (hs : (hS h a).1 = 2) : cellE B cid h a = .inl (cid 2, (hS h a).2, .inl (hI h a)) := by simp [cellE, hs]
theorem cellE_3 {B : Nat} {cid : Nat → ClassId} {h : AH} {a : Nat} (hs : (hS h a).1 = 3) : cellE B cid h a = .inl (cid 3, (hS h a).2, .inl (hI h a)) := by simp [cellE, hs]
theorem cellE_4 {B : Nat} {cid : Nat → ClassId} {h : AH} {a : Nat} (hs : (hS h a).1 = 4) : cellE B cid h a = .inl (cid 4, (hS h a).2, .inr (.inl (hL h a))) := by simp [cellE, hs]
theorem cellE_q {B : Nat} {cid : Nat → ClassId} {h : AH} {a k : Nat} (hs : (hS h a).1 = k) (h1 : 5 ≤ k) (h2 : k < 10) : cellE B cid h a = .inl (cid k, (hS h a).2, .inr (.inr (.inr (.inr (fun i => rfo B (hR h a i)))))) := by
  simp only [cellE, hs]
  rw [if_neg (by omega), if_neg (by omega), if_neg (by omega), if_neg (by omega), if_pos h2]
theorem rel_at {B : Nat} {D : va_G} {cid : Nat → ClassId} {h : AH} {H : Heap} {a : Nat} (r : Rel B D cid h H) (hs : (hS h a).1 ≠ 0) : (1 ≤ a ∧ a < hN h) ∧ (wsOf B cid h)[a - 1]? = some (B + a, cellE B cid h a) := ⟨r.2.2 a hs, wsOf_at (r.2.2 a hs).1 (r.2.2 a hs).2⟩
theorem cv_pos {B : Nat} {adK : Nat → Nat} {a : Nat} (h : 1 ≤ a) : cv B adK (.ref a) = .ref (B + a) := by
  have : a ≠ 0 := by omega
  simp [cv, rfo, va_rf, this]
theorem fV_at {B : Nat} {h : AH} {a c k n : Nat} (hk : k < n) : ((List.range n).map (fV B h a c))[k]? = some (fV B h a c k) := by
  rw [List.getElem?_map, List.getElem?_range hk]; rfl
theorem fV_set {B : Nat} {h h' : AH} {a c k n : Nat} {v : Value} (ho : ∀ j, j ≠ k → fV B h' a c j = fV B h a c j) (hv : fV B h' a c k = v) : ((List.range n).map (fV B h a c)).set k v = (List.range n).map (fV B h' a c) := by
  apply List.ext_getElem?
  intro j
  by_cases e : j = k
  · subst e
    by_cases hl : j < n
    · rw [List.getElem?_set_self (by simpa using hl), fV_at hl, hv]
    · rw [List.getElem?_eq_none (by simp; omega), List.getElem?_eq_none (by simp; omega)]
  · rw [List.getElem?_set_ne (Ne.symm e)]
    by_cases hl : j < n
    · rw [fV_at hl, fV_at hl, ho j e]
    · rw [List.getElem?_eq_none (by simp; omega), List.getElem?_eq_none (by simp; omega)]
def refTy : FieldType → Bool
  | .object _ => true
  | .array _ => true
  | _ => false
theorem fV_int {B : Nat} {h : AH} {a c k : Nat} (ht : fTy c k = .int ∨ fTy c k = .boolean) : fV B h a c k = .int (hI h a k) := by
  unfold fV
  rcases ht with ht | ht <;> rw [ht]
theorem fV_ref {B : Nat} {h : AH} {a c k : Nat} (ht : refTy (fTy c k) = true) : fV B h a c k = va_rf (rfo B (hR h a k)) := by
  unfold fV
  cases hq : fTy c k <;> rw [hq] at ht <;> simp [refTy] at ht <;> rfl
theorem hI_sI_o {h : AH} {a i j : Nat} {x : Int32} (e : j ≠ i) : hI (sI h a i x) a j = hI h a j := by simp [hI, sI, up2, e]
theorem hI_sI_s {h : AH} {a i : Nat} {x : Int32} : hI (sI h a i x) a i = x := by simp [hI, sI, up2]
theorem hR_sR_o {h : AH} {a i j : Nat} {x : Nat} (e : j ≠ i) : hR (sR h a i x) a j = hR h a j := by simp [hR, sR, up2, e]
theorem hR_sR_s {h : AH} {a i : Nat} {x : Nat} : hR (sR h a i x) a i = x := by simp [hR, sR, up2]
theorem wf_sI {h : AH} {a i : Nat} {x : Int32} (w : wfH h) : wfH (sI h a i x) := w
theorem cellE_sI_ne {B : Nat} {cid : Nat → ClassId} {h : AH} {a i b : Nat} {x : Int32} (e : b ≠ a) : cellE B cid (sI h a i x) b = cellE B cid h b := cellE_congr rfl (hI_sI_ne e) rfl rfl
theorem cellE_sL_ne {B : Nat} {cid : Nat → ClassId} {h : AH} {a i b : Nat} {x : Int64} (e : b ≠ a) : cellE B cid (sL h a i x) b = cellE B cid h b := cellE_congr rfl rfl (hL_sL_ne e) rfl
theorem cellE_sR_ne {B : Nat} {cid : Nat → ClassId} {h : AH} {a i b : Nat} {x : Nat} (e : b ≠ a) : cellE B cid (sR h a i x) b = cellE B cid h b := cellE_congr rfl rfl rfl (hR_sR_ne e)
theorem fV_sI_o {B : Nat} {h : AH} {a i c j : Nat} {x : Int32} (e : j ≠ i) : fV B (sI h a i x) a c j = fV B h a c j := by
  unfold fV
  rw [hI_sI_o e]; rfl
theorem fV_sR_o {B : Nat} {h : AH} {a i c j : Nat} {x : Nat} (e : j ≠ i) : fV B (sR h a i x) a c j = fV B h a c j := by
  unfold fV
  rw [hR_sR_o e]; rfl
theorem st_getI {X : CX} {M : MX} (C : Ctx X M) {pc : Nat} {L st : List Value} {h : AH} {a ci k i : Nat} {q : vw_C} (hd : decode M.2.1 pc = .ok (.getfield i, 3)) (hq : cl13[ci]? = some q) (hk : k < q.2.2) (hw : Cond.fieldLink M.1 i (q.2.1 k).1 (q.2.1 k).2.1 (q.2.1 k).2.2.1 ∈ lw_g) (ht : fTy ci k = .int ∨ fTy ci k = .boolean) (hs : (hS h a).1 = 10 + ci) (kk : Wst X (pc + 3, L, .int (hI h a k) :: st) h) : Wst X (pc, L, .ref a :: st) h := by
  obtain ⟨⟨p, l, e, R, s, m, args, below, meth, c, Qm⟩, ⟨B, D, cid, adK, adV⟩, ⟨nL, n0, u0, E1, E2⟩⟩ := X
  obtain ⟨own, cc, mname, dep, scr⟩ := M
  obtain ⟨hx, hb, hml, hown, hts, hK, hstr, hsz, hnm, hroom, hscr⟩ := C
  intro H locs ls r1 r2 r3 r4
  obtain ⟨hin, hn1, hty, hfn, -⟩ := cl_ok hq
  obtain ⟨ha, hat⟩ := rel_at r1 (by omega : (hS h a).1 ≠ 0)
  rw [cellE_obj hs, hfn] at hat
  simp only [List.map_cons, cv_pos ha.1]
  exact va_get hx hb hts hin hown hK r1.1 (a - 1) hat hq k hk (hts _ hw) (fun x h => h) (by rw [fV_at hk, fV_int ht]; rfl) hd (kk H locs ls r1 r2 r3 r4)
theorem st_getR {X : CX} {M : MX} (C : Ctx X M) {pc : Nat} {L st : List Value} {h : AH} {a ci k i : Nat} {q : vw_C} (hd : decode M.2.1 pc = .ok (.getfield i, 3)) (hq : cl13[ci]? = some q) (hk : k < q.2.2) (hw : Cond.fieldLink M.1 i (q.2.1 k).1 (q.2.1 k).2.1 (q.2.1 k).2.2.1 ∈ lw_g) (ht : refTy (fTy ci k) = true) (hs : (hS h a).1 = 10 + ci) (kk : Wst X (pc + 3, L, .ref (hR h a k) :: st) h) : Wst X (pc, L, .ref a :: st) h := by
  obtain ⟨⟨p, l, e, R, s, m, args, below, meth, c, Qm⟩, ⟨B, D, cid, adK, adV⟩, ⟨nL, n0, u0, E1, E2⟩⟩ := X
  obtain ⟨own, cc, mname, dep, scr⟩ := M
  obtain ⟨hx, hb, hml, hown, hts, hK, hstr, hsz, hnm, hroom, hscr⟩ := C
  intro H locs ls r1 r2 r3 r4
  obtain ⟨hin, hn1, hty, hfn, -⟩ := cl_ok hq
  obtain ⟨ha, hat⟩ := rel_at r1 (by omega : (hS h a).1 ≠ 0)
  rw [cellE_obj hs, hfn] at hat
  simp only [List.map_cons, cv_pos ha.1]
  exact va_get hx hb hts hin hown hK r1.1 (a - 1) hat hq k hk (hts _ hw) (fun x h => h) (by rw [fV_at hk, fV_ref ht]; rfl) hd (kk H locs ls r1 r2 r3 r4)
theorem rel_putI {B : Nat} {D : va_G} {cid : Nat → ClassId} {h : AH} {H1 : Heap} {a ci k n : Nat} {x : Int32} (w : wfH h) (ha : 1 ≤ a) (hs : (hS h a).1 = 10 + ci) (hfn : fN ci = n) (ht : fTy ci k = .int ∨ fTy ci k = .boolean) (g : va_P D cl13 ((wsOf B cid h).set (a - 1) (B + a, .inr (ci, ((List.range n).map (fV B h a ci)).set k (.int x)))) H1) : Rel B D cid (sI h a k x) H1 := by
  refine ⟨?_, w⟩
  rw [fV_set (h' := sI h a k x) (fun j hj => fV_sI_o hj) (by rw [fV_int ht, hI_sI_s])] at g
  rw [wsOf_set (B := B) (cid := cid) (h := h) (h' := sI h a k x) ha rfl (fun b hb => cellE_sI_ne hb) (by rw [cellE_obj (c := ci) (show (hS (sI h a k x) a).1 = 10 + ci from hs), hfn])] at g
  exact g
theorem rel_putR {B : Nat} {D : va_G} {cid : Nat → ClassId} {h : AH} {H1 : Heap} {a ci k n : Nat} {x : Nat} (w : wfH h) (ha : 1 ≤ a) (hs : (hS h a).1 = 10 + ci) (hfn : fN ci = n) (ht : refTy (fTy ci k) = true) (g : va_P D cl13 ((wsOf B cid h).set (a - 1) (B + a, .inr (ci, ((List.range n).map (fV B h a ci)).set k (va_rf (rfo B x))))) H1) : Rel B D cid (sR h a k x) H1 := by
  refine ⟨?_, w⟩
  rw [fV_set (h' := sR h a k x) (fun j hj => fV_sR_o hj) (by rw [fV_ref ht, hR_sR_s])] at g
  rw [wsOf_set (B := B) (cid := cid) (h := h) (h' := sR h a k x) ha rfl (fun b hb => cellE_sR_ne hb) (by rw [cellE_obj (c := ci) (show (hS (sR h a k x) a).1 = 10 + ci from hs), hfn])] at g
  exact g
theorem nar_ok {ty : FieldType} {x : Int32} (ht : ty = .int ∨ ty = .boolean ∧ (x = 0 ∨ x = 1)) : narrow ty (.int x) = .int x ∧ fits ty (.int x) = true := by
  rcases ht with rfl | ⟨rfl, rfl | rfl⟩ <;> exact ⟨rfl, rfl⟩
theorem nar_ref {ty : FieldType} {r : Option Nat} (ht : refTy ty = true) : narrow ty (va_rf r) = va_rf r ∧ fits ty (va_rf r) = true := by
  cases r <;> cases ty <;> simp [refTy] at ht <;> exact ⟨rfl, rfl⟩
theorem st_putI {X : CX} {M : MX} (C : Ctx X M) {pc : Nat} {L st : List Value} {h : AH} {a ci k i : Nat} {x : Int32} {q : vw_C} (hd : decode M.2.1 pc = .ok (.putfield i, 3)) (hq : cl13[ci]? = some q) (hk : k < q.2.2) (hw : Cond.fieldLink M.1 i (q.2.1 k).1 (q.2.1 k).2.1 (q.2.1 k).2.2.1 ∈ lw_g) (hf : (q.2.1 k).2.2.2 = false) (ht : fTy ci k = .int ∨ fTy ci k = .boolean ∧ (x = 0 ∨ x = 1)) (hs : (hS h a).1 = 10 + ci) (kk : Wst X (pc + 3, L, st) (sI h a k x)) : Wst X (pc, L, .int x :: .ref a :: st) h := by
  obtain ⟨⟨p, l, e, R, s, m, args, below, meth, c, Qm⟩, ⟨B, D, cid, adK, adV⟩, ⟨nL, n0, u0, E1, E2⟩⟩ := X
  obtain ⟨own, cc, mname, dep, scr⟩ := M
  obtain ⟨hx, hb, hml, hown, hts, hK, hstr, hsz, hnm, hroom, hscr⟩ := C
  intro H locs ls r1 r2 r3 r4
  obtain ⟨hin, hn1, hty, hfn, -⟩ := cl_ok hq
  obtain ⟨ha, hat⟩ := rel_at r1 (by omega : (hS h a).1 ≠ 0)
  rw [cellE_obj hs, hfn] at hat
  simp only [List.map_cons, cv_pos ha.1]
  exact va_put hx hb hts hin (fTy ci) hty hn1 hown hK r1.1 (wsOf_D B cid h) r2 (a - 1) hat hq k hk (hts _ hw) (fun x h => h) hf (hty k hk) (nar_ok ht).1 (nar_ok ht).2 (by simpa using hk) hd
    (fun H1 locs1 g1 g2 g3 => kk H1 locs1 ls (rel_putI r1.2 ha.1 hs hfn (ht.imp id And.left) g1) g3 r3 r4)
theorem st_putR {X : CX} {M : MX} (C : Ctx X M) {pc : Nat} {L st : List Value} {h : AH} {a ci k i x : Nat} {q : vw_C} (hd : decode M.2.1 pc = .ok (.putfield i, 3)) (hq : cl13[ci]? = some q) (hk : k < q.2.2) (hw : Cond.fieldLink M.1 i (q.2.1 k).1 (q.2.1 k).2.1 (q.2.1 k).2.2.1 ∈ lw_g) (hf : (q.2.1 k).2.2.2 = false) (ht : refTy (fTy ci k) = true) (hs : (hS h a).1 = 10 + ci) (kk : Wst X (pc + 3, L, st) (sR h a k x)) : Wst X (pc, L, .ref x :: .ref a :: st) h := by
  obtain ⟨⟨p, l, e, R, s, m, args, below, meth, c, Qm⟩, ⟨B, D, cid, adK, adV⟩, ⟨nL, n0, u0, E1, E2⟩⟩ := X
  obtain ⟨own, cc, mname, dep, scr⟩ := M
  obtain ⟨hx, hb, hml, hown, hts, hK, hstr, hsz, hnm, hroom, hscr⟩ := C
  intro H locs ls r1 r2 r3 r4
  obtain ⟨hin, hn1, hty, hfn, -⟩ := cl_ok hq
  obtain ⟨ha, hat⟩ := rel_at r1 (by omega : (hS h a).1 ≠ 0)
  rw [cellE_obj hs, hfn] at hat
  simp only [List.map_cons, cv_pos ha.1]
  exact va_put (v := va_rf (rfo B x)) hx hb hts hin (fTy ci) hty hn1 hown hK r1.1 (wsOf_D B cid h) r2 (a - 1) hat hq k hk (hts _ hw) (fun x h => h) hf (hty k hk) (nar_ref ht).1 (nar_ref ht).2 (by simpa using hk) hd
    (fun H1 locs1 g1 g2 g3 => kk H1 locs1 ls (rel_putR r1.2 ha.1 hs hfn ht g1) g3 r3 r4)
theorem st_putRF {X : CX} {M : MX} (C : Ctx X M) {pc : Nat} {L st : List Value} {h : AH} {a ci k i x : Nat} {q : vw_C} (hd : decode M.2.1 pc = .ok (.putfield i, 3)) (hq : cl13[ci]? = some q) (hk : k < q.2.2) (hw : Cond.fieldLink M.1 i (q.2.1 k).1 (q.2.1 k).2.1 (q.2.1 k).2.2.1 ∈ lw_g) (hf : (q.2.1 k).2.2.2 = true) (hi : M.2.2.1 = "<init>") (ho : (q.2.1 k).1 = M.1) (ht : refTy (fTy ci k) = true) (hs : (hS h a).1 = 10 + ci) (kk : Wst X (pc + 3, L, st) (sR h a k x)) : Wst X (pc, L, .ref x :: .ref a :: st) h := by
  obtain ⟨⟨p, l, e, R, s, m, args, below, meth, c, Qm⟩, ⟨B, D, cid, adK, adV⟩, ⟨nL, n0, u0, E1, E2⟩⟩ := X
  obtain ⟨own, cc, mname, dep, scr⟩ := M
  obtain ⟨hx, hb, hml, hown, hts, hK, hstr, hsz, hnm, hroom, hscr⟩ := C
  intro H locs ls r1 r2 r3 r4
  obtain ⟨hin, hn1, hty, hfn, -⟩ := cl_ok hq
  obtain ⟨ha, hat⟩ := rel_at r1 (by omega : (hS h a).1 ≠ 0)
  rw [cellE_obj hs, hfn] at hat
  simp only [List.map_cons, cv_pos ha.1]
  exact va_putF (v := va_rf (rfo B x)) hx hb hts hin (fTy ci) hty hn1 hown hK r1.1 (wsOf_D B cid h) r2 (a - 1) hat hq k hk (hts _ hw) (fun x h => h) hf (hnm.trans hi) ho (hty k hk) (nar_ref ht).1 (nar_ref ht).2 (by simpa using hk) hd
    (fun H1 locs1 g1 g2 g3 => kk H1 locs1 ls (rel_putR r1.2 ha.1 hs hfn ht g1) g3 r3 r4)
theorem st_putIF {X : CX} {M : MX} (C : Ctx X M) {pc : Nat} {L st : List Value} {h : AH} {a ci k i : Nat} {x : Int32} {q : vw_C} (hd : decode M.2.1 pc = .ok (.putfield i, 3)) (hq : cl13[ci]? = some q) (hk : k < q.2.2) (hw : Cond.fieldLink M.1 i (q.2.1 k).1 (q.2.1 k).2.1 (q.2.1 k).2.2.1 ∈ lw_g) (hf : (q.2.1 k).2.2.2 = true) (hi : M.2.2.1 = "<init>") (ho : (q.2.1 k).1 = M.1) (ht : fTy ci k = .int ∨ fTy ci k = .boolean ∧ (x = 0 ∨ x = 1)) (hs : (hS h a).1 = 10 + ci) (kk : Wst X (pc + 3, L, st) (sI h a k x)) : Wst X (pc, L, .int x :: .ref a :: st) h := by
  obtain ⟨⟨p, l, e, R, s, m, args, below, meth, c, Qm⟩, ⟨B, D, cid, adK, adV⟩, ⟨nL, n0, u0, E1, E2⟩⟩ := X
  obtain ⟨own, cc, mname, dep, scr⟩ := M
  obtain ⟨hx, hb, hml, hown, hts, hK, hstr, hsz, hnm, hroom, hscr⟩ := C
  intro H locs ls r1 r2 r3 r4
  obtain ⟨hin, hn1, hty, hfn, -⟩ := cl_ok hq
  obtain ⟨ha, hat⟩ := rel_at r1 (by omega : (hS h a).1 ≠ 0)
  rw [cellE_obj hs, hfn] at hat
  simp only [List.map_cons, cv_pos ha.1]
  exact va_putF hx hb hts hin (fTy ci) hty hn1 hown hK r1.1 (wsOf_D B cid h) r2 (a - 1) hat hq k hk (hts _ hw) (fun x h => h) hf (hnm.trans hi) ho (hty k hk) (nar_ok ht).1 (nar_ok ht).2 (by simpa using hk) hd
    (fun H1 locs1 g1 g2 g3 => kk H1 locs1 ls (rel_putI r1.2 ha.1 hs hfn (ht.imp id And.left) g1) g3 r3 r4)
theorem st_iald {X : CX} {M : MX} (C : Ctx X M) {pc : Nat} {L st : List Value} {h : AH} {a : Nat} {i : Int32} (hd : decode M.2.1 pc = .ok (.iaload, 1)) (hs : (hS h a).1 = 1) (hi : vp_in i (hS h a).2) (kk : Wst X (pc + 1, L, .int (hI h a i.toNatClampNeg) :: st) h) : Wst X (pc, L, .int i :: .ref a :: st) h := by
  obtain ⟨⟨p, l, e, R, s, m, args, below, meth, c, Qm⟩, ⟨B, D, cid, adK, adV⟩, ⟨nL, n0, u0, E1, E2⟩⟩ := X
  obtain ⟨own, cc, mname, dep, scr⟩ := M
  obtain ⟨hx, hb, hml, hown, hts, hK, hstr, hsz, hnm, hroom, hscr⟩ := C
  intro H locs ls r1 r2 r3 r4
  obtain ⟨ha, hat⟩ := rel_at r1 (by omega : (hS h a).1 ≠ 0)
  rw [cellE_1 hs] at hat
  simp only [List.map_cons, cv_pos ha.1]
  exact va_iald hx hb hK r1.1 (a - 1) 0 hat rfl hi hd (kk H locs ls r1 r2 r3 r4)
theorem st_bald {X : CX} {M : MX} (C : Ctx X M) {pc : Nat} {L st : List Value} {h : AH} {a : Nat} {i : Int32} (hd : decode M.2.1 pc = .ok (.baload, 1)) (hs : (hS h a).1 = 2) (hi : vp_in i (hS h a).2) (kk : Wst X (pc + 1, L, .int (hI h a i.toNatClampNeg) :: st) h) : Wst X (pc, L, .int i :: .ref a :: st) h := by
  obtain ⟨⟨p, l, e, R, s, m, args, below, meth, c, Qm⟩, ⟨B, D, cid, adK, adV⟩, ⟨nL, n0, u0, E1, E2⟩⟩ := X
  obtain ⟨own, cc, mname, dep, scr⟩ := M
  obtain ⟨hx, hb, hml, hown, hts, hK, hstr, hsz, hnm, hroom, hscr⟩ := C
  intro H locs ls r1 r2 r3 r4
  obtain ⟨ha, hat⟩ := rel_at r1 (by omega : (hS h a).1 ≠ 0)
  rw [cellE_2 hs] at hat
  simp only [List.map_cons, cv_pos ha.1]
  exact va_bald hx hb hK r1.1 (a - 1) 1 hat rfl hi hd (kk H locs ls r1 r2 r3 r4)
theorem st_zald {X : CX} {M : MX} (C : Ctx X M) {pc : Nat} {L st : List Value} {h : AH} {a : Nat} {i : Int32} (hd : decode M.2.1 pc = .ok (.baload, 1)) (hs : (hS h a).1 = 3) (hi : vp_in i (hS h a).2) (kk : Wst X (pc + 1, L, .int (hI h a i.toNatClampNeg) :: st) h) : Wst X (pc, L, .int i :: .ref a :: st) h := by
  obtain ⟨⟨p, l, e, R, s, m, args, below, meth, c, Qm⟩, ⟨B, D, cid, adK, adV⟩, ⟨nL, n0, u0, E1, E2⟩⟩ := X
  obtain ⟨own, cc, mname, dep, scr⟩ := M
  obtain ⟨hx, hb, hml, hown, hts, hK, hstr, hsz, hnm, hroom, hscr⟩ := C
  intro H locs ls r1 r2 r3 r4
  obtain ⟨ha, hat⟩ := rel_at r1 (by omega : (hS h a).1 ≠ 0)
  rw [cellE_3 hs] at hat
  simp only [List.map_cons, cv_pos ha.1]
  exact va_zald hx hb hK r1.1 (a - 1) 2 hat rfl hi hd (kk H locs ls r1 r2 r3 r4)
theorem st_lald {X : CX} {M : MX} (C : Ctx X M) {pc : Nat} {L st : List Value} {h : AH} {a : Nat} {i : Int32} (hd : decode M.2.1 pc = .ok (.laload, 1)) (hs : (hS h a).1 = 4) (hi : vp_in i (hS h a).2) (kk : Wst X (pc + 1, L, .long (hL h a i.toNatClampNeg) :: st) h) : Wst X (pc, L, .int i :: .ref a :: st) h := by
  obtain ⟨⟨p, l, e, R, s, m, args, below, meth, c, Qm⟩, ⟨B, D, cid, adK, adV⟩, ⟨nL, n0, u0, E1, E2⟩⟩ := X
  obtain ⟨own, cc, mname, dep, scr⟩ := M
  obtain ⟨hx, hb, hml, hown, hts, hK, hstr, hsz, hnm, hroom, hscr⟩ := C
  intro H locs ls r1 r2 r3 r4
  obtain ⟨ha, hat⟩ := rel_at r1 (by omega : (hS h a).1 ≠ 0)
  rw [cellE_4 hs] at hat
  simp only [List.map_cons, cv_pos ha.1]
  exact va_lald hx hb hK r1.1 (a - 1) 3 hat rfl hi hd (kk H locs ls r1 r2 r3 r4)
theorem st_iast {X : CX} {M : MX} (C : Ctx X M) {pc : Nat} {L st : List Value} {h : AH} {a : Nat} {i : Int32} {x : Int32} (hd : decode M.2.1 pc = .ok (.iastore, 1)) (hs : (hS h a).1 = 1) (hi : vp_in i (hS h a).2) (kk : Wst X (pc + 1, L, st) (sI h a i.toNatClampNeg (x))) : Wst X (pc, L, .int x :: .int i :: .ref a :: st) h := by
  obtain ⟨⟨p, l, e, R, s, m, args, below, meth, c, Qm⟩, ⟨B, D, cid, adK, adV⟩, ⟨nL, n0, u0, E1, E2⟩⟩ := X
  obtain ⟨own, cc, mname, dep, scr⟩ := M
  obtain ⟨hx, hb, hml, hown, hts, hK, hstr, hsz, hnm, hroom, hscr⟩ := C
  intro H locs ls r1 r2 r3 r4
  obtain ⟨ha, hat⟩ := rel_at r1 (by omega : (hS h a).1 ≠ 0)
  rw [cellE_1 hs] at hat
  simp only [List.map_cons, cv_pos ha.1]
  refine va_iast hx hb hK r1.1 (wsOf_D B cid h) r2 (a - 1) 0 hat rfl hi hd (fun H1 locs1 g1 g2 g3 => kk H1 locs1 ls ⟨?_, r1.2⟩ g3 r3 r4)
  rw [wsOf_set (B := B) (cid := cid) (h := h) (h' := sI h a i.toNatClampNeg (x)) ha.1 rfl (fun b hb => cellE_sI_ne hb) (by rw [cellE_1 (show (hS (sI h a i.toNatClampNeg (x)) a).1 = 1 from hs), hI_sI_same]; rfl)] at g1
  exact g1
theorem st_bast {X : CX} {M : MX} (C : Ctx X M) {pc : Nat} {L st : List Value} {h : AH} {a : Nat} {i : Int32} {x : Int32} (hd : decode M.2.1 pc = .ok (.bastore, 1)) (hs : (hS h a).1 = 2) (hi : vp_in i (hS h a).2) (kk : Wst X (pc + 1, L, st) (sI h a i.toNatClampNeg (vp_nar .byte x))) : Wst X (pc, L, .int x :: .int i :: .ref a :: st) h := by
  obtain ⟨⟨p, l, e, R, s, m, args, below, meth, c, Qm⟩, ⟨B, D, cid, adK, adV⟩, ⟨nL, n0, u0, E1, E2⟩⟩ := X
  obtain ⟨own, cc, mname, dep, scr⟩ := M
  obtain ⟨hx, hb, hml, hown, hts, hK, hstr, hsz, hnm, hroom, hscr⟩ := C
  intro H locs ls r1 r2 r3 r4
  obtain ⟨ha, hat⟩ := rel_at r1 (by omega : (hS h a).1 ≠ 0)
  rw [cellE_2 hs] at hat
  simp only [List.map_cons, cv_pos ha.1]
  refine va_bast hx hb hK r1.1 (wsOf_D B cid h) r2 (a - 1) 1 hat rfl hi hd (fun H1 locs1 g1 g2 g3 => kk H1 locs1 ls ⟨?_, r1.2⟩ g3 r3 r4)
  rw [wsOf_set (B := B) (cid := cid) (h := h) (h' := sI h a i.toNatClampNeg (vp_nar .byte x)) ha.1 rfl (fun b hb => cellE_sI_ne hb) (by rw [cellE_2 (show (hS (sI h a i.toNatClampNeg (vp_nar .byte x)) a).1 = 2 from hs), hI_sI_same]; rfl)] at g1
  exact g1
theorem st_zast {X : CX} {M : MX} (C : Ctx X M) {pc : Nat} {L st : List Value} {h : AH} {a : Nat} {i : Int32} {x : Int32} (hd : decode M.2.1 pc = .ok (.bastore, 1)) (hs : (hS h a).1 = 3) (hi : vp_in i (hS h a).2) (kk : Wst X (pc + 1, L, st) (sI h a i.toNatClampNeg (vp_nar .boolean x))) : Wst X (pc, L, .int x :: .int i :: .ref a :: st) h := by
  obtain ⟨⟨p, l, e, R, s, m, args, below, meth, c, Qm⟩, ⟨B, D, cid, adK, adV⟩, ⟨nL, n0, u0, E1, E2⟩⟩ := X
  obtain ⟨own, cc, mname, dep, scr⟩ := M
  obtain ⟨hx, hb, hml, hown, hts, hK, hstr, hsz, hnm, hroom, hscr⟩ := C
  intro H locs ls r1 r2 r3 r4
  obtain ⟨ha, hat⟩ := rel_at r1 (by omega : (hS h a).1 ≠ 0)
  rw [cellE_3 hs] at hat
  simp only [List.map_cons, cv_pos ha.1]
  refine va_zast hx hb hK r1.1 (wsOf_D B cid h) r2 (a - 1) 2 hat rfl hi hd (fun H1 locs1 g1 g2 g3 => kk H1 locs1 ls ⟨?_, r1.2⟩ g3 r3 r4)
  rw [wsOf_set (B := B) (cid := cid) (h := h) (h' := sI h a i.toNatClampNeg (vp_nar .boolean x)) ha.1 rfl (fun b hb => cellE_sI_ne hb) (by rw [cellE_3 (show (hS (sI h a i.toNatClampNeg (vp_nar .boolean x)) a).1 = 3 from hs), hI_sI_same]; rfl)] at g1
  exact g1
theorem st_last {X : CX} {M : MX} (C : Ctx X M) {pc : Nat} {L st : List Value} {h : AH} {a : Nat} {i : Int32} {x : Int64} (hd : decode M.2.1 pc = .ok (.lastore, 1)) (hs : (hS h a).1 = 4) (hi : vp_in i (hS h a).2) (kk : Wst X (pc + 1, L, st) (sL h a i.toNatClampNeg (x))) : Wst X (pc, L, .long x :: .int i :: .ref a :: st) h := by
  obtain ⟨⟨p, l, e, R, s, m, args, below, meth, c, Qm⟩, ⟨B, D, cid, adK, adV⟩, ⟨nL, n0, u0, E1, E2⟩⟩ := X
  obtain ⟨own, cc, mname, dep, scr⟩ := M
  obtain ⟨hx, hb, hml, hown, hts, hK, hstr, hsz, hnm, hroom, hscr⟩ := C
  intro H locs ls r1 r2 r3 r4
  obtain ⟨ha, hat⟩ := rel_at r1 (by omega : (hS h a).1 ≠ 0)
  rw [cellE_4 hs] at hat
  simp only [List.map_cons, cv_pos ha.1]
  refine va_last hx hb hK r1.1 (wsOf_D B cid h) r2 (a - 1) 3 hat rfl hi hd (fun H1 locs1 g1 g2 g3 => kk H1 locs1 ls ⟨?_, r1.2⟩ g3 r3 r4)
  rw [wsOf_set (B := B) (cid := cid) (h := h) (h' := sL h a i.toNatClampNeg (x)) ha.1 rfl (fun b hb => cellE_sL_ne hb) (by rw [cellE_4 (show (hS (sL h a i.toNatClampNeg (x)) a).1 = 4 from hs), hL_sL_same]; rfl)] at g1
  exact g1
/-- the component type of an array of references, by its kind -/
def qTy (k : Nat) : FieldType := if k = 5 then .object RX6 else if k = 6 then .object RX9 else if k = 7 then .object RX4 else .array .int
theorem tys_q {cid : Nat → ClassId} {k : Nat} (h1 : 5 ≤ k) (h2 : k ≤ 8) : (tysOf cid)[k - 1]? = some (cid k, qTy k) := by
  rcases (by omega : k = 5 ∨ k = 6 ∨ k = 7 ∨ k = 8) with rfl | rfl | rfl | rfl <;> rfl
theorem qTy_ref {k : Nat} (h1 : 5 ≤ k) (h2 : k ≤ 8) : (qTy k).isReference = true := by
  rcases (by omega : k = 5 ∨ k = 6 ∨ k = 7 ∨ k = 8) with rfl | rfl | rfl | rfl <;> rfl
theorem st_aald {X : CX} {M : MX} (C : Ctx X M) {pc : Nat} {L st : List Value} {h : AH} {a k : Nat} {i : Int32} (hd : decode M.2.1 pc = .ok (.aaload, 1)) (hs : (hS h a).1 = k) (h1 : 5 ≤ k) (h2 : k ≤ 8) (hi : vp_in i (hS h a).2) (kk : Wst X (pc + 1, L, .ref (hR h a i.toNatClampNeg) :: st) h) : Wst X (pc, L, .int i :: .ref a :: st) h := by
  obtain ⟨⟨p, l, e, R, s, m, args, below, meth, c, Qm⟩, ⟨B, D, cid, adK, adV⟩, ⟨nL, n0, u0, E1, E2⟩⟩ := X
  obtain ⟨own, cc, mname, dep, scr⟩ := M
  obtain ⟨hx, hb, hml, hown, hts, hK, hstr, hsz, hnm, hroom, hscr⟩ := C
  intro H locs ls r1 r2 r3 r4
  obtain ⟨ha, hat⟩ := rel_at r1 (by omega : (hS h a).1 ≠ 0)
  rw [cellE_q hs h1 (by omega)] at hat
  simp only [List.map_cons, cv_pos ha.1]
  have hlt : i.toNatClampNeg < (hS h a).2 := Nat.not_le.mp fun q => hi (Or.inr q)
  exact W.aald (v := va_rf (rfo B (hR h a i.toNatClampNeg))) (ty := qTy k) hx hb (r1.1 (a - 1) _ hat) ((hK.2 (k - 1) _ (tys_q h1 h2)).1 (hS h a).2 (fun j => va_rf (rfo B (hR h a j)))) (qTy_ref h1 h2) (fun q => by cases q) (by show ¬ (i < 0 ∨ (arrV _ _ _).slots.size ≤ _); rw [arrV_size]; exact hi) (by show (arrV _ _ _).slots[_]? = _; rw [arrV_read _ _ hlt]) rfl rfl hd (kk H locs ls r1 r2 r3 r4)
/-- the class of the objects of an array of references, by its kind -/
def qCl (k : Nat) : Nat := if k = 5 then 6 else if k = 6 then 9 else 4
theorem up_rfo {B : Nat} {h : AH} {a i v : Nat} (hv : 1 ≤ v) : (fun j => rfo B (hR (sR h a i v) a j)) = va_up (fun j => rfo B (hR h a j)) i (some (B + v)) := by
  funext j
  by_cases e : j = i
  · subst e
    have : v ≠ 0 := by omega
    simp [va_up, hR_sR_s, rfo, this]
  · simp [va_up, e, hR_sR_o e]
theorem st_aast {X : CX} {M : MX} (C : Ctx X M) {pc : Nat} {L st : List Value} {h : AH} {a k v : Nat} {i : Int32} (hd : decode M.2.1 pc = .ok (.aastore, 1)) (hs : (hS h a).1 = k) (h1 : 5 ≤ k) (h2 : k ≤ 7) (hi : vp_in i (hS h a).2) (hv : (hS h v).1 = 10 + qCl k) (kk : Wst X (pc + 1, L, st) (sR h a i.toNatClampNeg v)) : Wst X (pc, L, .ref v :: .int i :: .ref a :: st) h := by
  obtain ⟨⟨p, l, e, R, s, m, args, below, meth, c, Qm⟩, ⟨B, D, cid, adK, adV⟩, ⟨nL, n0, u0, E1, E2⟩⟩ := X
  obtain ⟨own, cc, mname, dep, scr⟩ := M
  obtain ⟨hx, hb, hml, hown, hts, hK, hstr, hsz, hnm, hroom, hscr⟩ := C
  intro H locs ls r1 r2 r3 r4
  obtain ⟨ha, hat⟩ := rel_at r1 (by omega : (hS h a).1 ≠ 0)
  obtain ⟨hva, hvt⟩ := rel_at r1 (by omega : (hS h v).1 ≠ 0)
  rw [cellE_q hs h1 (by omega)] at hat
  rw [cellE_obj hv] at hvt
  simp only [List.map_cons, cv_pos ha.1, cv_pos hva.1]
  have key : ∀ (H1 : Heap) (locs1 : List Loc), va_P D cl13 ((wsOf B cid h).set (a - 1) (B + a, .inl (cid k, (hS h a).2, .inr (.inr (.inr (.inr (va_up (fun j => rfo B (hR h a j)) i.toNatClampNeg (some (B + v)))))))) ) H1 → va_S (AB B) s.heap H1 locs1 → W p l e R s m args below meth c H1 locs1 (hN h - n0) (hU h - u0) Qm (F0 m (pc + 1) ls (st.map (cv B adK))) := fun H1 locs1 g1 g3 => by
    refine kk H1 locs1 ls ⟨?_, r1.2⟩ g3 r3 r4
    rw [← up_rfo hva.1, wsOf_set (B := B) (cid := cid) (h := h) (h' := sR h a i.toNatClampNeg v) ha.1 rfl (fun b hb => cellE_sR_ne hb) (by rw [cellE_q (k := k) (show (hS (sR h a i.toNatClampNeg v) a).1 = k from hs) h1 (by omega)]; rfl)] at g1
    exact g1
  rcases (by omega : k = 5 ∨ k = 6 ∨ k = 7) with rfl | rfl | rfl
  · exact va_astq (r := (RX6, TX6, 3)) hx hb hK r1.1 (wsOf_D B cid h) r2 (a - 1) 4 (v - 1) 6 hat rfl hvt rfl hi hd (fun H1 locs1 g1 g2 g3 => key H1 locs1 g1 g3)
  · exact va_astq (r := (RX9, TX9, 10)) hx hb hK r1.1 (wsOf_D B cid h) r2 (a - 1) 5 (v - 1) 9 hat rfl hvt rfl hi hd (fun H1 locs1 g1 g2 g3 => key H1 locs1 g1 g3)
  · exact va_astq (r := (RX4, TX4, 6)) hx hb hK r1.1 (wsOf_D B cid h) r2 (a - 1) 6 (v - 1) 4 hat rfl hvt rfl hi hd (fun H1 locs1 g1 g2 g3 => key H1 locs1 g1 g3)
theorem st_alen {X : CX} {M : MX} (C : Ctx X M) {pc : Nat} {L st : List Value} {h : AH} {a k : Nat} (hd : decode M.2.1 pc = .ok (.arraylength, 1)) (hs : (hS h a).1 = k) (h1 : 1 ≤ k) (h2 : k ≤ 8) (kk : Wst X (pc + 1, L, .int (Int32.ofNat (hS h a).2) :: st) h) : Wst X (pc, L, .ref a :: st) h := by
  obtain ⟨⟨p, l, e, R, s, m, args, below, meth, c, Qm⟩, ⟨B, D, cid, adK, adV⟩, ⟨nL, n0, u0, E1, E2⟩⟩ := X
  obtain ⟨own, cc, mname, dep, scr⟩ := M
  obtain ⟨hx, hb, hml, hown, hts, hK, hstr, hsz, hnm, hroom, hscr⟩ := C
  intro H locs ls r1 r2 r3 r4
  obtain ⟨ha, hat⟩ := rel_at r1 (by omega : (hS h a).1 ≠ 0)
  simp only [List.map_cons, cv_pos ha.1]
  rcases (by omega : k = 1 ∨ k = 2 ∨ k = 3 ∨ k = 4 ∨ 5 ≤ k) with rfl | rfl | rfl | rfl | h5
  · rw [cellE_1 hs] at hat
    exact va_alen hx hb hK r1.1 (a - 1) 0 hat rfl rfl hd (kk H locs ls r1 r2 r3 r4)
  · rw [cellE_2 hs] at hat
    exact va_alen hx hb hK r1.1 (a - 1) 1 hat rfl rfl hd (kk H locs ls r1 r2 r3 r4)
  · rw [cellE_3 hs] at hat
    exact va_alen hx hb hK r1.1 (a - 1) 2 hat rfl rfl hd (kk H locs ls r1 r2 r3 r4)
  · rw [cellE_4 hs] at hat
    exact va_alen hx hb hK r1.1 (a - 1) 3 hat rfl rfl hd (kk H locs ls r1 r2 r3 r4)
  · rw [cellE_q hs h5 (by omega)] at hat
    exact va_alen hx hb hK r1.1 (a - 1) (k - 1) hat (tys_q h5 h2) rfl hd (kk H locs ls r1 r2 r3 r4)
/-- the law's script -/
theorem st_slen {X : CX} {M : MX} (C : Ctx X M) {pc : Nat} {L st : List Value} {h : AH} {n : Nat} {xs : Nat → Int32} (hd : decode M.2.1 pc = .ok (.arraylength, 1)) (hs : M.2.2.2.2 = some (n, xs)) (kk : Wst X (pc + 1, L, .int (Int32.ofNat n) :: st) h) : Wst X (pc, L, .retAddr 19 :: st) h := by
  obtain ⟨⟨p, l, e, R, s, m, args, below, meth, c, Qm⟩, ⟨B, D, cid, adK, adV⟩, ⟨nL, n0, u0, E1, E2⟩⟩ := X
  obtain ⟨own, cc, mname, dep, scr⟩ := M
  obtain ⟨hx, hb, hml, hown, hts, hK, hstr, hsz, hnm, hroom, hscr⟩ := C
  intro H locs ls r1 r2 r3 r4
  obtain ⟨g1, g2⟩ := hscr n xs hs
  exact va_slen hx hb g1 (by omega) (by simp only [AB]; omega) r2 hd (kk H locs ls r1 r2 r3 r4)
theorem st_sald {X : CX} {M : MX} (C : Ctx X M) {pc : Nat} {L st : List Value} {h : AH} {n : Nat} {xs : Nat → Int32} {i : Int32} (hd : decode M.2.1 pc = .ok (.iaload, 1)) (hs : M.2.2.2.2 = some (n, xs)) (hi : vp_in i n) (kk : Wst X (pc + 1, L, .int (xs i.toNatClampNeg) :: st) h) : Wst X (pc, L, .int i :: .retAddr 19 :: st) h := by
  obtain ⟨⟨p, l, e, R, s, m, args, below, meth, c, Qm⟩, ⟨B, D, cid, adK, adV⟩, ⟨nL, n0, u0, E1, E2⟩⟩ := X
  obtain ⟨own, cc, mname, dep, scr⟩ := M
  obtain ⟨hx, hb, hml, hown, hts, hK, hstr, hsz, hnm, hroom, hscr⟩ := C
  intro H locs ls r1 r2 r3 r4
  obtain ⟨g1, g2⟩ := hscr n xs hs
  exact va_sld hx hb g1 (by omega) (by simp only [AB]; omega) r2 hi hd (kk H locs ls r1 r2 r3 r4)
end
section
/-! new cells -/
theorem W_sized {p : Program} {l : Launch} {e : Env} {R : Room} {s : State} {m : MethodId} {args : Array Value} {below : List Frame} {meth : Method} {c : Code} {H : Heap} {locs : List Loc} {cells slots : Nat} {Q : State → Prop} {g : JFrame} (k : H.size ≤ s.heap.size + cells → W p l e R s m args below meth c H locs cells slots Q g) : W p l e R s m args below meth c H locs cells slots Q g := fun T hT X => k (by rw [← hT]; exact X.heapSize) T hT X
theorem rel_size {B : Nat} {D : va_G} {cid : Nat → ClassId} {h : AH} {H H0 : Heap} {locs : List Loc} {n0 : Nat} (r : Rel B D cid h H) (hS : va_S (AB B) H0 H locs) (h0 : H0.size = B + n0) (h1 : 1 ≤ n0) : B + hN h ≤ H.size := by
  have := r.2.1
  by_cases e : hN h = 1
  · have := hS.1
    omega
  · have := (r.1 (hN h - 1 - 1) _ (wsOf_at (by omega) (by omega))).lt
    simp only at this
    omega
theorem new_q {B : Nat} {D : va_G} {cid : Nat → ClassId} {h : AH} {H1 : Heap} {q : Nat} {e : va_E} (h1 : 1 ≤ hN h) (hP : va_P D cl13 (wsOf B cid h ++ [(q, e)]) H1) (hD : va_D (AB B) (wsOf B cid h ++ [(q, e)])) (hsz : H1.size ≤ B + hN h + 1) : q = B + hN h := by
  have hl := wsOf_len B cid h
  have hat : (wsOf B cid h ++ [(q, e)])[hN h - 1]? = some (q, e) := by
    rw [List.getElem?_append_right (by omega), hl, Nat.sub_self]; rfl
  have q1 : q < H1.size := (hP _ _ hat).lt
  have q2 : B < q := hD.2 _ _ hat
  by_cases hz : q - B < hN h
  · have h2 : (wsOf B cid h ++ [(q, e)])[q - B - 1]? = some (B + (q - B), cellE B cid h (q - B)) := by
      rw [List.getElem?_append_left (by omega)]
      exact wsOf_at (by omega) hz
    have := hD.1 _ _ _ _ hat h2 (by simp only; omega)
    omega
  · omega
theorem hN_nC (h : AH) (k n : Nat) : hN (nC h k n) = hN h + 1 := rfl
theorem hU_nC (h : AH) (k n : Nat) : hU (nC h k n) = hU h + n := rfl
theorem hS_nC_new (h : AH) (k n : Nat) : hS (nC h k n) (hN h) = (k, n) := by simp [hS, nC, up1]
theorem hS_nC_old (h : AH) (k n : Nat) {a : Nat} (e : a ≠ hN h) : hS (nC h k n) a = hS h a := by simp [hS, nC, up1, e]
theorem hI_nC_new (h : AH) (k n : Nat) : hI (nC h k n) (hN h) = fun _ => 0 := by funext j; simp [hI, nC, up1]
theorem hI_nC_old (h : AH) (k n : Nat) {a : Nat} (e : a ≠ hN h) : hI (nC h k n) a = hI h a := by funext j; simp [hI, nC, up1, e]
theorem hL_nC_new (h : AH) (k n : Nat) : hL (nC h k n) (hN h) = fun _ => 0 := by funext j; simp [hL, nC, up1]
theorem hL_nC_old (h : AH) (k n : Nat) {a : Nat} (e : a ≠ hN h) : hL (nC h k n) a = hL h a := by funext j; simp [hL, nC, up1, e]
theorem hR_nC_new (h : AH) (k n : Nat) : hR (nC h k n) (hN h) = fun _ => 0 := by funext j; simp [hR, nC, up1]
theorem hR_nC_old (h : AH) (k n : Nat) {a : Nat} (e : a ≠ hN h) : hR (nC h k n) a = hR h a := by funext j; simp [hR, nC, up1, e]
theorem wf_nC {h : AH} {k n : Nat} (w : wfH h) : wfH (nC h k n) := by
  refine ⟨by rw [hN_nC]; omega, fun a ha => ?_⟩
  rw [hN_nC]
  have := w.1
  by_cases e : a = hN h
  · omega
  · rw [hS_nC_old h k n e] at ha
    have := w.2 a ha
    omega
theorem cellE_nC_old {B : Nat} {cid : Nat → ClassId} {h : AH} {k n b : Nat} (e : b < hN h) : cellE B cid (nC h k n) b = cellE B cid h b := cellE_congr (hS_nC_old h k n (by omega)) (hI_nC_old h k n (by omega)) (hL_nC_old h k n (by omega)) (hR_nC_old h k n (by omega))
theorem rel_new {B : Nat} {D : va_G} {cid : Nat → ClassId} {h : AH} {H1 : Heap} {k n q : Nat} {e : va_E} (w : wfH h) (he : cellE B cid (nC h k n) (hN h) = e) (hq : q = B + hN h) (hP : va_P D cl13 (wsOf B cid h ++ [(q, e)]) H1) : Rel B D cid (nC h k n) H1 := by
  refine ⟨?_, wf_nC w⟩
  rw [hq, wsOf_push (B := B) (cid := cid) (h := h) (h' := nC h k n) w.1 rfl (fun b hb => cellE_nC_old hb) he] at hP
  exact hP
theorem cid_of {cid : Nat → ClassId} {D : va_G} {s : State} {cA : ClassId} {ty : FieldType} {t : Nat} (hK : va_K D cl13 (tysOf cid) s) (ht : (tysOf cid)[t]? = some (cid (t + 1), ty)) (hp : refTy ty = false) (h8 : va_K D cl13 (tysOf cid ++ [(cA, ty)]) s) : cA = cid (t + 1) := by
  have h1 := (hK.2 t _ ht).2
  have h2 := (h8.2 8 (cA, ty) rfl).2
  cases ty <;> simp [refTy] at hp <;> exact Option.some.inj (h2.symm.trans h1)
theorem cid_ofO {cid : Nat → ClassId} {D : va_G} {s : State} {cA : ClassId} {C : String} {t : Nat} (hK : va_K D cl13 (tysOf cid) s) (ht : (tysOf cid)[t]? = some (cid (t + 1), .object C)) (h8 : va_K D cl13 (tysOf cid ++ [(cA, .object C)]) s) : cA = cid (t + 1) := by
  obtain ⟨-, -, -, -, -, h1⟩ := (hK.2 t _ ht).2
  obtain ⟨-, -, -, -, -, h2⟩ := (h8.2 8 (cA, .object C) rfl).2
  exact Option.some.inj (h2.symm.trans h1)
theorem st_new_int {X : CX} {M : MX} (C : Ctx X M) {pc : Nat} {L st : List Value} {h : AH} {n : Int32} (hd : decode M.2.1 pc = .ok (.newarray .int, 2)) (hn : ¬ n < 0) (hb1 : n.toNatClampNeg ≤ 65536) (g1 : hN h + 1 ≤ X.2.2.2.2.2.1) (g2 : hU h + n.toNatClampNeg ≤ X.2.2.2.2.2.2) (kk : Wst X (pc + 2, L, .ref (hN h) :: st) (nC h 1 n.toNatClampNeg)) : Wst X (pc, L, .int n :: st) h := by
  obtain ⟨⟨p, l, e, R, s, m, args, below, meth, c, Qm⟩, ⟨B, D, cid, adK, adV⟩, ⟨nL, n0, u0, E1, E2⟩⟩ := X
  obtain ⟨own, cc, mname, dep, scr⟩ := M
  obtain ⟨hx, hb, hml, hown, hts, hK, hstr, hsz, hnm, hroom, hscr⟩ := C
  intro H locs ls r1 r2 r3 r4
  simp only at g1 g2
  have e1 : hN (nC h 1 n.toNatClampNeg) - n0 = hN h - n0 + 1 := by rw [hN_nC]; omega
  have e2 : hU (nC h 1 n.toNatClampNeg) - u0 = hU h - u0 + n.toNatClampNeg := by rw [hU_nC]; omega
  refine va_newa (atype := .int) (ty := .int) (N' := n.toNatClampNeg) (a0 := (n.toNatClampNeg, .inl (fun _ => 0))) hx hb (show (Cond.arrayClass (newarray.typeOf .int)).before args s = true from hts (.arrayClass .int) (by decide +kernel)) rfl hK r1.1 (wsOf_D B cid h) r2 (fun q hq => by simp only [AB]; omega) (fun cA => vp_cell_i cA n.toNatClampNeg (fun _ => 0)) hn rfl (by simp only [componentBytes]; omega) (by omega) (by omega) hd (fun q cA H1 k1 k2 k3 k4 => W_sized (fun hz => ?_))
  have hq : q = B + hN h := new_q r1.2.1 k2 k3 (by omega)
  have hc : cA = cid 1 := cid_of (t := 0) hK rfl rfl k1
  subst hc
  have kk := kk H1 locs ls (rel_new r1.2 (by rw [cellE_1 (by rw [hS_nC_new]), hS_nC_new, hI_nC_new]) hq k2) k4 r3 (by rw [hN_nC, hU_nC]; omega)
  rw [e1, e2] at kk
  simp only [List.map_cons, cv_pos r1.2.1] at kk
  rw [hq]
  exact kk
theorem st_new_byte {X : CX} {M : MX} (C : Ctx X M) {pc : Nat} {L st : List Value} {h : AH} {n : Int32} (hd : decode M.2.1 pc = .ok (.newarray .byte, 2)) (hn : ¬ n < 0) (hb1 : n.toNatClampNeg ≤ 65536) (g1 : hN h + 1 ≤ X.2.2.2.2.2.1) (g2 : hU h + n.toNatClampNeg ≤ X.2.2.2.2.2.2) (kk : Wst X (pc + 2, L, .ref (hN h) :: st) (nC h 2 n.toNatClampNeg)) : Wst X (pc, L, .int n :: st) h := by
  obtain ⟨⟨p, l, e, R, s, m, args, below, meth, c, Qm⟩, ⟨B, D, cid, adK, adV⟩, ⟨nL, n0, u0, E1, E2⟩⟩ := X
  obtain ⟨own, cc, mname, dep, scr⟩ := M
  obtain ⟨hx, hb, hml, hown, hts, hK, hstr, hsz, hnm, hroom, hscr⟩ := C
  intro H locs ls r1 r2 r3 r4
  simp only at g1 g2
  have e1 : hN (nC h 2 n.toNatClampNeg) - n0 = hN h - n0 + 1 := by rw [hN_nC]; omega
  have e2 : hU (nC h 2 n.toNatClampNeg) - u0 = hU h - u0 + n.toNatClampNeg := by rw [hU_nC]; omega
  refine va_newa (atype := .byte) (ty := .byte) (N' := n.toNatClampNeg) (a0 := (n.toNatClampNeg, .inl (fun _ => 0))) hx hb (show (Cond.arrayClass (newarray.typeOf .byte)).before args s = true from hts (.arrayClass .byte) (by decide +kernel)) rfl hK r1.1 (wsOf_D B cid h) r2 (fun q hq => by simp only [AB]; omega) (fun cA => vp_cell_i cA n.toNatClampNeg (fun _ => 0)) hn rfl (by simp only [componentBytes]; omega) (by omega) (by omega) hd (fun q cA H1 k1 k2 k3 k4 => W_sized (fun hz => ?_))
  have hq : q = B + hN h := new_q r1.2.1 k2 k3 (by omega)
  have hc : cA = cid 2 := cid_of (t := 1) hK rfl rfl k1
  subst hc
  have kk := kk H1 locs ls (rel_new r1.2 (by rw [cellE_2 (by rw [hS_nC_new]), hS_nC_new, hI_nC_new]) hq k2) k4 r3 (by rw [hN_nC, hU_nC]; omega)
  rw [e1, e2] at kk
  simp only [List.map_cons, cv_pos r1.2.1] at kk
  rw [hq]
  exact kk
theorem st_new_bool {X : CX} {M : MX} (C : Ctx X M) {pc : Nat} {L st : List Value} {h : AH} {n : Int32} (hd : decode M.2.1 pc = .ok (.newarray .boolean, 2)) (hn : ¬ n < 0) (hb1 : n.toNatClampNeg ≤ 65536) (g1 : hN h + 1 ≤ X.2.2.2.2.2.1) (g2 : hU h + n.toNatClampNeg ≤ X.2.2.2.2.2.2) (kk : Wst X (pc + 2, L, .ref (hN h) :: st) (nC h 3 n.toNatClampNeg)) : Wst X (pc, L, .int n :: st) h := by
  obtain ⟨⟨p, l, e, R, s, m, args, below, meth, c, Qm⟩, ⟨B, D, cid, adK, adV⟩, ⟨nL, n0, u0, E1, E2⟩⟩ := X
  obtain ⟨own, cc, mname, dep, scr⟩ := M
  obtain ⟨hx, hb, hml, hown, hts, hK, hstr, hsz, hnm, hroom, hscr⟩ := C
  intro H locs ls r1 r2 r3 r4
  simp only at g1 g2
  have e1 : hN (nC h 3 n.toNatClampNeg) - n0 = hN h - n0 + 1 := by rw [hN_nC]; omega
  have e2 : hU (nC h 3 n.toNatClampNeg) - u0 = hU h - u0 + n.toNatClampNeg := by rw [hU_nC]; omega
  refine va_newa (atype := .boolean) (ty := .boolean) (N' := n.toNatClampNeg) (a0 := (n.toNatClampNeg, .inl (fun _ => 0))) hx hb (show (Cond.arrayClass (newarray.typeOf .boolean)).before args s = true from hts (.arrayClass .boolean) (by decide +kernel)) rfl hK r1.1 (wsOf_D B cid h) r2 (fun q hq => by simp only [AB]; omega) (fun cA => vp_cell_i cA n.toNatClampNeg (fun _ => 0)) hn rfl (by simp only [componentBytes]; omega) (by omega) (by omega) hd (fun q cA H1 k1 k2 k3 k4 => W_sized (fun hz => ?_))
  have hq : q = B + hN h := new_q r1.2.1 k2 k3 (by omega)
  have hc : cA = cid 3 := cid_of (t := 2) hK rfl rfl k1
  subst hc
  have kk := kk H1 locs ls (rel_new r1.2 (by rw [cellE_3 (by rw [hS_nC_new]), hS_nC_new, hI_nC_new]) hq k2) k4 r3 (by rw [hN_nC, hU_nC]; omega)
  rw [e1, e2] at kk
  simp only [List.map_cons, cv_pos r1.2.1] at kk
  rw [hq]
  exact kk
theorem st_new_long {X : CX} {M : MX} (C : Ctx X M) {pc : Nat} {L st : List Value} {h : AH} {n : Int32} (hd : decode M.2.1 pc = .ok (.newarray .long, 2)) (hn : ¬ n < 0) (hb1 : n.toNatClampNeg ≤ 65536) (g1 : hN h + 1 ≤ X.2.2.2.2.2.1) (g2 : hU h + n.toNatClampNeg ≤ X.2.2.2.2.2.2) (kk : Wst X (pc + 2, L, .ref (hN h) :: st) (nC h 4 n.toNatClampNeg)) : Wst X (pc, L, .int n :: st) h := by
  obtain ⟨⟨p, l, e, R, s, m, args, below, meth, c, Qm⟩, ⟨B, D, cid, adK, adV⟩, ⟨nL, n0, u0, E1, E2⟩⟩ := X
  obtain ⟨own, cc, mname, dep, scr⟩ := M
  obtain ⟨hx, hb, hml, hown, hts, hK, hstr, hsz, hnm, hroom, hscr⟩ := C
  intro H locs ls r1 r2 r3 r4
  simp only at g1 g2
  have e1 : hN (nC h 4 n.toNatClampNeg) - n0 = hN h - n0 + 1 := by rw [hN_nC]; omega
  have e2 : hU (nC h 4 n.toNatClampNeg) - u0 = hU h - u0 + n.toNatClampNeg := by rw [hU_nC]; omega
  refine va_newa (atype := .long) (ty := .long) (N' := n.toNatClampNeg) (a0 := (n.toNatClampNeg, .inr (.inl (fun _ => 0)))) hx hb (show (Cond.arrayClass (newarray.typeOf .long)).before args s = true from hts (.arrayClass .long) (by decide +kernel)) rfl hK r1.1 (wsOf_D B cid h) r2 (fun q hq => by simp only [AB]; omega) (fun cA => vp_cell_l cA n.toNatClampNeg (fun _ => 0)) hn rfl (by simp only [componentBytes]; omega) (by omega) (by omega) hd (fun q cA H1 k1 k2 k3 k4 => W_sized (fun hz => ?_))
  have hq : q = B + hN h := new_q r1.2.1 k2 k3 (by omega)
  have hc : cA = cid 4 := cid_of (t := 3) hK rfl rfl k1
  subst hc
  have kk := kk H1 locs ls (rel_new r1.2 (by rw [cellE_4 (by rw [hS_nC_new]), hS_nC_new, hL_nC_new]) hq k2) k4 r3 (by rw [hN_nC, hU_nC]; omega)
  rw [e1, e2] at kk
  simp only [List.map_cons, cv_pos r1.2.1] at kk
  rw [hq]
  exact kk
theorem st_newq_Rule {X : CX} {M : MX} (C : Ctx X M) {pc : Nat} {L st : List Value} {h : AH} {n : Int32} {i : Nat} (hd : decode M.2.1 pc = .ok (.anewarray i, 3)) (hw : Cond.classLink M.1 i RX6 ∈ lw_g) (hn : ¬ n < 0) (hb1 : n.toNatClampNeg ≤ 65536) (g1 : hN h + 1 ≤ X.2.2.2.2.2.1) (g2 : hU h + n.toNatClampNeg ≤ X.2.2.2.2.2.2) (kk : Wst X (pc + 3, L, .ref (hN h) :: st) (nC h 5 n.toNatClampNeg)) : Wst X (pc, L, .int n :: st) h := by
  obtain ⟨⟨p, l, e, R, s, m, args, below, meth, c, Qm⟩, ⟨B, D, cid, adK, adV⟩, ⟨nL, n0, u0, E1, E2⟩⟩ := X
  obtain ⟨own, cc, mname, dep, scr⟩ := M
  obtain ⟨hx, hb, hml, hown, hts, hK, hstr, hsz, hnm, hroom, hscr⟩ := C
  intro H locs ls r1 r2 r3 r4
  simp only at g1 g2
  have e1 : hN (nC h 5 n.toNatClampNeg) - n0 = hN h - n0 + 1 := by rw [hN_nC]; omega
  have e2 : hU (nC h 5 n.toNatClampNeg) - u0 = hU h - u0 + n.toNatClampNeg := by rw [hU_nC]; omega
  refine va_newq (C := RX6) hx hb hown (hts _ hw) hstr.2.2.2.2.2.1 hK r1.1 (wsOf_D B cid h) r2 (fun q hq => by simp only [AB]; omega) hn rfl (by omega) (by omega) (by omega) hd (fun q cA H1 k1 k2 k3 k4 => W_sized (fun hz => ?_))
  have hq : q = B + hN h := new_q r1.2.1 k2 k3 (by omega)
  have hc : cA = cid 5 := cid_ofO (t := 4) hK rfl k1
  subst hc
  have kk := kk H1 locs ls (rel_new r1.2 (by rw [cellE_q (k := 5) (by rw [hS_nC_new]) (by omega) (by omega), hS_nC_new, hR_nC_new]; rfl) hq k2) k4 r3 (by rw [hN_nC, hU_nC]; omega)
  rw [e1, e2] at kk
  simp only [List.map_cons, cv_pos r1.2.1] at kk
  rw [hq]
  exact kk
theorem st_newq_Town {X : CX} {M : MX} (C : Ctx X M) {pc : Nat} {L st : List Value} {h : AH} {n : Int32} {i : Nat} (hd : decode M.2.1 pc = .ok (.anewarray i, 3)) (hw : Cond.classLink M.1 i RX9 ∈ lw_g) (hn : ¬ n < 0) (hb1 : n.toNatClampNeg ≤ 65536) (g1 : hN h + 1 ≤ X.2.2.2.2.2.1) (g2 : hU h + n.toNatClampNeg ≤ X.2.2.2.2.2.2) (kk : Wst X (pc + 3, L, .ref (hN h) :: st) (nC h 6 n.toNatClampNeg)) : Wst X (pc, L, .int n :: st) h := by
  obtain ⟨⟨p, l, e, R, s, m, args, below, meth, c, Qm⟩, ⟨B, D, cid, adK, adV⟩, ⟨nL, n0, u0, E1, E2⟩⟩ := X
  obtain ⟨own, cc, mname, dep, scr⟩ := M
  obtain ⟨hx, hb, hml, hown, hts, hK, hstr, hsz, hnm, hroom, hscr⟩ := C
  intro H locs ls r1 r2 r3 r4
  simp only at g1 g2
  have e1 : hN (nC h 6 n.toNatClampNeg) - n0 = hN h - n0 + 1 := by rw [hN_nC]; omega
  have e2 : hU (nC h 6 n.toNatClampNeg) - u0 = hU h - u0 + n.toNatClampNeg := by rw [hU_nC]; omega
  refine va_newq (C := RX9) hx hb hown (hts _ hw) hstr.2.2.2.2.2.2.1 hK r1.1 (wsOf_D B cid h) r2 (fun q hq => by simp only [AB]; omega) hn rfl (by omega) (by omega) (by omega) hd (fun q cA H1 k1 k2 k3 k4 => W_sized (fun hz => ?_))
  have hq : q = B + hN h := new_q r1.2.1 k2 k3 (by omega)
  have hc : cA = cid 6 := cid_ofO (t := 5) hK rfl k1
  subst hc
  have kk := kk H1 locs ls (rel_new r1.2 (by rw [cellE_q (k := 6) (by rw [hS_nC_new]) (by omega) (by omega), hS_nC_new, hR_nC_new]; rfl) hq k2) k4 r3 (by rw [hN_nC, hU_nC]; omega)
  rw [e1, e2] at kk
  simp only [List.map_cons, cv_pos r1.2.1] at kk
  rw [hq]
  exact kk
theorem st_newq_Moment {X : CX} {M : MX} (C : Ctx X M) {pc : Nat} {L st : List Value} {h : AH} {n : Int32} {i : Nat} (hd : decode M.2.1 pc = .ok (.anewarray i, 3)) (hw : Cond.classLink M.1 i RX4 ∈ lw_g) (hn : ¬ n < 0) (hb1 : n.toNatClampNeg ≤ 65536) (g1 : hN h + 1 ≤ X.2.2.2.2.2.1) (g2 : hU h + n.toNatClampNeg ≤ X.2.2.2.2.2.2) (kk : Wst X (pc + 3, L, .ref (hN h) :: st) (nC h 7 n.toNatClampNeg)) : Wst X (pc, L, .int n :: st) h := by
  obtain ⟨⟨p, l, e, R, s, m, args, below, meth, c, Qm⟩, ⟨B, D, cid, adK, adV⟩, ⟨nL, n0, u0, E1, E2⟩⟩ := X
  obtain ⟨own, cc, mname, dep, scr⟩ := M
  obtain ⟨hx, hb, hml, hown, hts, hK, hstr, hsz, hnm, hroom, hscr⟩ := C
  intro H locs ls r1 r2 r3 r4
  simp only at g1 g2
  have e1 : hN (nC h 7 n.toNatClampNeg) - n0 = hN h - n0 + 1 := by rw [hN_nC]; omega
  have e2 : hU (nC h 7 n.toNatClampNeg) - u0 = hU h - u0 + n.toNatClampNeg := by rw [hU_nC]; omega
  refine va_newq (C := RX4) hx hb hown (hts _ hw) hstr.2.2.2.2.2.2.2.1 hK r1.1 (wsOf_D B cid h) r2 (fun q hq => by simp only [AB]; omega) hn rfl (by omega) (by omega) (by omega) hd (fun q cA H1 k1 k2 k3 k4 => W_sized (fun hz => ?_))
  have hq : q = B + hN h := new_q r1.2.1 k2 k3 (by omega)
  have hc : cA = cid 7 := cid_ofO (t := 6) hK rfl k1
  subst hc
  have kk := kk H1 locs ls (rel_new r1.2 (by rw [cellE_q (k := 7) (by rw [hS_nC_new]) (by omega) (by omega), hS_nC_new, hR_nC_new]; rfl) hq k2) k4 r3 (by rw [hN_nC, hU_nC]; omega)
  rw [e1, e2] at kk
  simp only [List.map_cons, cv_pos r1.2.1] at kk
  rw [hq]
  exact kk
theorem fV_new {B : Nat} {h : AH} {k n c j : Nat} (hp : fTy c j = .int ∨ fTy c j = .boolean ∨ refTy (fTy c j) = true) : defaultValue (fTy c j) = fV B (nC h k n) (hN h) c j := by
  rcases hp with hp | hp | hp
  · rw [fV_int (Or.inl hp), hp, hI_nC_new]; rfl
  · rw [fV_int (Or.inr hp), hp, hI_nC_new]; rfl
  · rw [fV_ref hp, hR_nC_new]
    cases hq : fTy c j <;> rw [hq] at hp <;> simp [refTy] at hp <;> rfl
theorem fTy_kind : ∀ c, c < 13 → ∀ k, k < fN c → fTy c k = .int ∨ fTy c k = .boolean ∨ refTy (fTy c k) = true := by decide +kernel
theorem st_new {X : CX} {M : MX} (C : Ctx X M) {pc : Nat} {L st : List Value} {h : AH} {i ci : Nat} {q : vw_C} (hd : decode M.2.1 pc = .ok (.new i, 3)) (hq : cl13[ci]? = some q) (hw : Cond.classLink M.1 i q.1 ∈ lw_g) (g1 : hN h + 1 ≤ X.2.2.2.2.2.1) (g2 : hU h + q.2.2 ≤ X.2.2.2.2.2.2) (kk : Wst X (pc + 3, L, .ref (hN h) :: st) (nC h (10 + ci) q.2.2)) : Wst X (pc, L, st) h := by
  obtain ⟨⟨p, l, e, R, s, m, args, below, meth, c, Qm⟩, ⟨B, D, cid, adK, adV⟩, ⟨nL, n0, u0, E1, E2⟩⟩ := X
  obtain ⟨own, cc, mname, dep, scr⟩ := M
  obtain ⟨hx, hb, hml, hown, hts, hK, hstr, hsz, hnm, hroom, hscr⟩ := C
  intro H locs ls r1 r2 r3 r4
  simp only at g1 g2
  obtain ⟨hin, hn1, hty, hfn, hinst, hini⟩ := cl_ok hq
  have hc13 : ci < 13 := (List.getElem?_eq_some_iff.mp hq).1
  have e1 : hN (nC h (10 + ci) q.2.2) - n0 = hN h - n0 + 1 := by rw [hN_nC]; omega
  have e2 : hU (nC h (10 + ci) q.2.2) - u0 = hU h - u0 + q.2.2 := by rw [hU_nC]; omega
  refine va_new (c0 := c) (ci := ci) (fs := (List.range q.2.2).map (fV B (nC h (10 + ci) q.2.2) (hN h) ci)) hx hb hts hin (fTy ci) hty hown (hts _ hw) (hts _ hinst) (hts _ hini) hK r1.1 (wsOf_D B cid h) r2 (fun q hq => by simp only [AB]; omega) hq (fun j hj => ?_) (by omega) (by omega) hd (fun a H1 k2 k3 k4 => W_sized (fun hz => ?_))
  · simp only [vp_V, List.getD_eq_getElem?_getD]
    rw [fV_at hj]
    exact fV_new (fTy_kind ci hc13 j (by rw [hfn]; exact hj))
  · have ha : a = B + hN h := new_q r1.2.1 k2 k3 (by omega)
    have kk := kk H1 locs ls (rel_new r1.2 (by rw [cellE_obj (c := ci) (by rw [hS_nC_new]), hfn]) ha k2) k4 r3 (by rw [hN_nC, hU_nC]; omega)
    rw [e1, e2] at kk
    simp only [List.map_cons, cv_pos r1.2.1] at kk
    rw [ha]
    exact kk
theorem vr_outer (c : ClassId) (N h0 : Nat) : ∀ i : Nat, Jvm.Free.Multi.outerC c N h0 i = arrV c N (fun j => va_rf (if j < i then some (h0 + 1 + j) else none))
  | 0 => by
    show ({ cls := c, slots := Array.replicate N .null, vm := .none } : Cell) = _
    rw [arrV_new]
    refine congrArg (arrV c N) (funext fun j => ?_)
    simp [va_rf]
  | i + 1 => by
    show (Jvm.Free.Multi.outerC c N h0 i).setSlot i (.ref (h0 + 1 + i)) = _
    rw [vr_outer c N h0 i, arrV_store]
    refine congrArg (arrV c N) (funext fun j => ?_)
    by_cases e : j = i
    · subst e
      simp [updV, va_rf]
    · by_cases h : j < i
      · simp [updV, e, h, Nat.lt_succ_of_lt h]
      · simp [updV, e, h, show ¬ j < i + 1 by omega]
theorem hS_nM_old (h : AH) (n k : Nat) {a : Nat} (e : a < hN h) : hS (nM h n k) a = hS h a := by
  simp only [hS, nM]
  rw [if_neg (by omega), if_neg (by omega)]
theorem hI_nM_old (h : AH) (n k : Nat) {a : Nat} (e : a < hN h) : hI (nM h n k) a = hI h a := by
  funext j
  simp only [hI, nM]
  rw [if_neg (by omega)]
theorem hL_nM_old (h : AH) (n k : Nat) {a : Nat} (e : a < hN h) : hL (nM h n k) a = hL h a := by
  funext j
  simp only [hL, nM]
  rw [if_neg (by omega)]
theorem hR_nM_old (h : AH) (n k : Nat) {a : Nat} (e : a < hN h) : hR (nM h n k) a = hR h a := by
  funext j
  simp only [hR, nM]
  rw [if_neg (by omega), if_neg (by omega)]
theorem hS_nM_out (h : AH) (n k : Nat) : hS (nM h n k) (hN h) = (8, n) := by simp [hS, nM]
theorem hS_nM_in (h : AH) (n k : Nat) {i : Nat} (e : i < n) : hS (nM h n k) (hN h + 1 + i) = (1, k) := by
  simp only [hS, nM]
  rw [if_neg (by omega), if_pos (by omega)]
theorem hI_nM_in (h : AH) (n k : Nat) {i : Nat} (e : i < n) : hI (nM h n k) (hN h + 1 + i) = fun _ => 0 := by
  funext j
  simp only [hI, nM]
  rw [if_pos (by omega)]
theorem hR_nM_out (h : AH) (n k : Nat) (i : Nat) : hR (nM h n k) (hN h) i = if i < n then hN h + 1 + i else 0 := by simp [hR, nM]
theorem hN_nM (h : AH) (n k : Nat) : hN (nM h n k) = hN h + 1 + n := rfl
theorem hU_nM (h : AH) (n k : Nat) : hU (nM h n k) = hU h + n + n * k := rfl
theorem wf_nM {h : AH} {n k : Nat} (w : wfH h) : wfH (nM h n k) := by
  refine ⟨by rw [hN_nM]; omega, fun a ha => ?_⟩
  rw [hN_nM]
  have := w.1
  by_cases e : a < hN h
  · rw [hS_nM_old h n k e] at ha
    have := w.2 a ha
    omega
  · by_cases e2 : a ≤ hN h + n
    · omega
    · have : hS (nM h n k) a = hS h a := by
        simp only [hS, nM]
        rw [if_neg (by omega), if_neg (by omega)]
      rw [this] at ha
      have := w.2 a ha
      omega
theorem st_mna {X : CX} {M : MX} (C : Ctx X M) {pc : Nat} {L st : List Value} {h : AH} {n k : Int32} {i : Nat} (hd : decode M.2.1 pc = .ok (.multianewarray i 2, 4)) (hw : Cond.classLink M.1 i "[[I" ∈ lw_g) (hn : ¬ n < 0) (hk : ¬ k < 0) (hb1 : n.toNatClampNeg ≤ 65536) (hb2 : k.toNatClampNeg ≤ 65536) (g1 : hN h + 1 + n.toNatClampNeg ≤ X.2.2.2.2.2.1) (g2 : hU h + n.toNatClampNeg + n.toNatClampNeg * k.toNatClampNeg ≤ X.2.2.2.2.2.2) (kk : Wst X (pc + 4, L, .ref (hN h) :: st) (nM h n.toNatClampNeg k.toNatClampNeg)) : Wst X (pc, L, .int k :: .int n :: st) h := by
  obtain ⟨⟨p, l, e, R, s, m, args, below, meth, c, Qm⟩, ⟨B, D, cid, adK, adV⟩, ⟨nL, n0, u0, E1, E2⟩⟩ := X
  obtain ⟨own, cc, mname, dep, scr⟩ := M
  obtain ⟨hx, hb, hml, hown, hts, hK, hstr, hsz, hnm, hroom, hscr⟩ := C
  intro H locs ls r1 r2 r3 r4
  simp only at g1 g2
  refine W_sized (fun hz => ?_)
  have hlo := rel_size r1 r2 hsz.1 hsz.2
  have hH : H.size = B + hN h := by omega
  have e1 : hN (nM h n.toNatClampNeg k.toNatClampNeg) - n0 = hN h - n0 + 1 + n.toNatClampNeg := by rw [hN_nM]; omega
  have e2 : hU (nM h n.toNatClampNeg k.toNatClampNeg) - u0 = hU h - u0 + n.toNatClampNeg + n.toNatClampNeg * k.toNatClampNeg := by rw [hU_nM]; omega
  intro T hT Xs
  obtain ⟨vm₁, cA, comp, -, fA, fC, hO, -, X', step⟩ := Xs.multianewarray2F (ty := .int) hx hown (hts _ hw) hstr.2.2.2.2.2.2.2.2.1 (hts (.arrayClass .int) (by decide +kernel)) (g := F0 m pc ls (.int k :: .int n :: st.map (cv B adK))) rfl (by rw [hb]; exact hd) rfl hn hk (by omega) (by simp only [componentBytes]; omega) (by omega) rfl rfl (by omega) (by omega)
  have c8 : cA = cid 8 := Option.some.inj (fA.symm.trans (hK.2 7 (cid 8, .array .int) rfl).2)
  have c1 : comp = cid 1 := Option.some.inj (fC.symm.trans (hK.2 0 (cid 1, .int) rfl).2)
  subst c8; subst c1
  generalize hF : Jvm.Free.Multi.fill (T.setVm vm₁) (cid 8) (cid 1) n.toNatClampNeg k.toNatClampNeg (defaultValue .int) n.toNatClampNeg = F at X' step
  have hTh : (T.setVm vm₁).heap = H := hT
  obtain ⟨f1, f2, -, -⟩ := Jvm.Free.Multi.fill_facts (T.setVm vm₁) (cid 8) (cid 1) n.toNatClampNeg k.toNatClampNeg (defaultValue .int) n.toNatClampNeg
  rw [hF, hTh] at f1 f2
  have hold : ∀ x : Nat, x < H.size → F.heap[x]? = H[x]? := fun x hx => by
    have := Jvm.Free.Multi.fill_old (T.setVm vm₁) (cid 8) (cid 1) n.toNatClampNeg k.toNatClampNeg (defaultValue .int) (a := x) (by rw [hTh]; exact hx) n.toNatClampNeg
    rw [hF, hTh] at this
    exact this
  have hrow : ∀ j : Nat, j < n.toNatClampNeg → F.heap[H.size + 1 + j]? = some (vp_cell (cid 1) (k.toNatClampNeg, .inl (fun _ => 0))) := fun j hj => by
    have := Jvm.Free.Multi.fill_inner (T.setVm vm₁) (cid 8) (cid 1) n.toNatClampNeg k.toNatClampNeg (defaultValue .int) n.toNatClampNeg j hj
    rw [hF, hTh] at this
    rw [this]
    exact congrArg some (arrV_new (cid 1) k.toNatClampNeg (defaultValue .int))
  rw [vr_outer] at f2
  have hrel : Rel B D cid (nM h n.toNatClampNeg k.toNatClampNeg) F.heap := by
    refine ⟨fun j q hq => ?_, wf_nM r1.2⟩
    obtain ⟨h1, rfl⟩ := wsOf_of hq
    rw [hN_nM] at h1
    by_cases ho : j + 1 < hN h
    · rw [cellE_congr (hS_nM_old h _ _ ho) (hI_nM_old h _ _ ho) (hL_nM_old h _ _ ho) (hR_nM_old h _ _ ho)]
      have hat := wsOf_at (B := B) (cid := cid) (h := h) (a := j + 1) (by omega) ho
      have h9 := r1.1 _ _ hat
      exact h9.kept (hold _ h9.lt)
    · by_cases hi : j + 1 = hN h
      · rw [hi, cellE_q (k := 8) (by rw [hS_nM_out]) (by omega) (by omega), hS_nM_out]
        show F.heap[B + hN h]? = some (arrV (cid 8) n.toNatClampNeg (fun j => va_rf (rfo B (hR (nM h n.toNatClampNeg k.toNatClampNeg) (hN h) j))))
        rw [← hH, f2, hH]
        refine congrArg some (congrArg (arrV (cid 8) n.toNatClampNeg) (funext fun j => ?_))
        rw [hR_nM_out]
        by_cases hj : j < n.toNatClampNeg
        · rw [if_pos hj, if_pos hj]
          simp only [rfo]
          rw [if_neg (by omega), show B + hN h + 1 + j = B + (hN h + 1 + j) by omega]
        · rw [if_neg hj, if_neg hj]; rfl
      · obtain ⟨i2, hi2⟩ : ∃ i2, j + 1 = hN h + 1 + i2 := ⟨j - hN h, by omega⟩
        have hlt : i2 < n.toNatClampNeg := by omega
        rw [hi2, cellE_1 (by rw [hS_nM_in h _ _ hlt]), hS_nM_in h _ _ hlt, hI_nM_in h _ _ hlt]
        have := hrow i2 hlt
        rw [hH] at this
        show F.heap[B + (hN h + 1 + i2)]? = _
        rw [show B + (hN h + 1 + i2) = B + hN h + 1 + i2 by omega, this]
  have kk := kk F.heap locs ls hrel ⟨by rw [f1]; have := r2.1; omega, fun x h1 h2 => (hold x (by omega)).trans (r2.2.1 x h1 h2), r2.2.2⟩ r3 (by rw [hN_nM, hU_nM]; omega)
  rw [e1, e2] at kk
  simp only [List.map_cons, cv_pos r1.2.1] at kk
  obtain ⟨t, a1, b1⟩ := kk F rfl X'
  refine ⟨t, step t ?_, b1⟩
  rw [show T.heap.size = B + hN h by rw [hT]; exact hH]
  exact a1
end
section
/-! natives and the like -/
theorem cat_len (B : Nat) (adK : Nat → Nat) : ∀ (st : List Value) {n : Nat}, st.length ≤ n → ((st.map (cv B adK)).map fun v => v.category).sum ≤ 2 * n
  | [], _, _ => by simp
  | v :: st, n, h => by
    cases n with
    | zero => simp at h
    | succ n =>
      have h1 := cat_len B adK st (n := n) (by simpa using h)
      simp only [List.map_cons, List.sum_cons]
      rcases lv_cat (cv B adK v) with e | e <;> omega
theorem st_objInit {X : CX} {M : MX} (C : Ctx X M) {pc : Nat} {L st : List Value} {h : AH} {i a : Nat} (hd : decode M.2.1 pc = .ok (.invokespecial i, 3)) (hw : Cond.methodLink M.1 i objectInit ∈ lw_g) (ha : 1 ≤ a) (hl : st.length ≤ 4) (hdep : 1 ≤ M.2.2.2.1) (kk : Wst X (pc + 3, L, st) h) : Wst X (pc, L, .ref a :: st) h := by
  obtain ⟨⟨p, l, e, R, s, m, args, below, meth, c, Qm⟩, ⟨B, D, cid, adK, adV⟩, ⟨nL, n0, u0, E1, E2⟩⟩ := X
  obtain ⟨own, cc, mname, dep, scr⟩ := M
  obtain ⟨hx, hb, hml, hown, hts, hK, hstr, hsz, hnm, hroom, hscr⟩ := C
  intro H locs ls r1 r2 r3 r4
  simp only [List.map_cons, cv_pos ha]
  have hcl := cat_len B adK st hl
  have hdep : 1 ≤ dep := hdep
  exact W.objInit hx hb hown (hts _ hw) (hts (.instanceMethod objectInit) (by decide +kernel)) (hts (.code objectInit ⟨#[0xb1]⟩ 1 none) (by decide +kernel)) rfl (r3.1.trans hml.symm) rfl hd (by omega) (by show 2 * 0 + _ + 12 ≤ _; omega) (kk H locs ls r1 r2 r3 r4)
theorem hI_cpI_same {h : AH} {a f b t n : Nat} : hI (cpI h a f b t n) b = va_cpy (hI h a) (hI h b) f t n := by funext j; simp [hI, cpI, up1]; rfl
theorem hI_cpI_ne {h : AH} {a f b t n x : Nat} (e : x ≠ b) : hI (cpI h a f b t n) x = hI h x := by funext j; simp [hI, cpI, up1, e]
theorem st_copy {X : CX} {M : MX} (C : Ctx X M) {pc : Nat} {L st : List Value} {h : AH} {i a b : Nat} {sp dp n : Int32} (hd : decode M.2.1 pc = .ok (.invokestatic i, 3)) (hw : Cond.methodLink M.1 i arraycopyName ∈ lw_g) (hs : (hS h a).1 = 1) (ht : (hS h b).1 = 1) (h1 : ¬ sp < 0) (h2 : ¬ dp < 0) (h3 : ¬ n < 0) (h4 : sp.toNatClampNeg + n.toNatClampNeg ≤ (hS h a).2) (h5 : dp.toNatClampNeg + n.toNatClampNeg ≤ (hS h b).2) (hl : st.length ≤ 4) (hdep : 1 ≤ M.2.2.2.1) (kk : Wst X (pc + 3, L, st) (cpI h a sp.toNatClampNeg b dp.toNatClampNeg n.toNatClampNeg)) : Wst X (pc, L, .int n :: .int dp :: .ref b :: .int sp :: .ref a :: st) h := by
  obtain ⟨⟨p, l, e, R, s, m, args, below, meth, c, Qm⟩, ⟨B, D, cid, adK, adV⟩, ⟨nL, n0, u0, E1, E2⟩⟩ := X
  obtain ⟨own, cc, mname, dep, scr⟩ := M
  obtain ⟨hx, hb, hml, hown, hts, hK, hstr, hsz, hnm, hroom, hscr⟩ := C
  intro H locs ls r1 r2 r3 r4
  obtain ⟨ha, hat⟩ := rel_at r1 (by omega : (hS h a).1 ≠ 0)
  obtain ⟨hb0, hbt⟩ := rel_at r1 (by omega : (hS h b).1 ≠ 0)
  rw [cellE_1 hs] at hat
  rw [cellE_1 ht] at hbt
  simp only [List.map_cons, cv_pos ha.1, cv_pos hb0.1]
  have hcl := cat_len B adK st hl
  have hdep : 1 ≤ dep := hdep
  refine va_copyi (ty := .int) hx hb (hml.trans r3.1.symm) hown (hts _ hw) (hts (.native arraycopyName) (by decide +kernel)) (hts (.static arraycopyName) (by decide +kernel)) (hts (.initialized "java/lang/System") (by decide +kernel)) hK r1.1 (wsOf_D B cid h) r2 (a - 1) (b - 1) 0 0 hat hbt rfl rfl rfl h1 h2 h3 h4 h5 (fun _ _ => rfl) (by omega) (by show _ + (7 + 11) ≤ _; omega) hd (fun H1 locs1 g1 g2 g3 => kk H1 locs1 ls ⟨?_, r1.2⟩ g3 r3 r4)
  rw [wsOf_set (B := B) (cid := cid) (h := h) (h' := cpI h a sp.toNatClampNeg b dp.toNatClampNeg n.toNatClampNeg) hb0.1 rfl (fun x hx => cellE_congr rfl (hI_cpI_ne hx) rfl rfl) (by rw [cellE_1 (show (hS (cpI h a sp.toNatClampNeg b dp.toNatClampNeg n.toNatClampNeg) b).1 = 1 from ht), hI_cpI_same]; rfl)] at g1
  exact g1
theorem st_max {X : CX} {M : MX} (C : Ctx X M) {pc : Nat} {L st : List Value} {h : AH} {i : Nat} {x y : Int32} (hd : decode M.2.1 pc = .ok (.invokestatic i, 3)) (hw : Cond.methodLink M.1 i Lib.Math.max.name ∈ lw_g) (hl : st.length ≤ 4) (hdep : 1 ≤ M.2.2.2.1) (kk : Wst X (pc + 3, L, .int (if x < y then y else x) :: st) h) : Wst X (pc, L, .int y :: .int x :: st) h := by
  obtain ⟨⟨p, l, e, R, s, m, args, below, meth, c, Qm⟩, ⟨B, D, cid, adK, adV⟩, ⟨nL, n0, u0, E1, E2⟩⟩ := X
  obtain ⟨own, cc, mname, dep, scr⟩ := M
  obtain ⟨hx, hb, hml, hown, hts, hK, hstr, hsz, hnm, hroom, hscr⟩ := C
  intro H locs ls r1 r2 r3 r4
  have hcl := cat_len B adK st hl
  have hdep : 1 ≤ dep := hdep
  exact va_mmax hx hb (hml.trans r3.1.symm) hown (hts _ hw) (hts (.static Lib.Math.max.name) (by decide +kernel)) (hts (.initialized "java/lang/Math") (by decide +kernel)) (hts (.code Lib.Math.max.name Lib.Math.max.code 2 (some .int)) (by decide +kernel)) (by omega) (by omega) (by omega) (by omega) hd (kk H locs ls r1 r2 r3 r4)
theorem st_min {X : CX} {M : MX} (C : Ctx X M) {pc : Nat} {L st : List Value} {h : AH} {i : Nat} {x y : Int32} (hd : decode M.2.1 pc = .ok (.invokestatic i, 3)) (hw : Cond.methodLink M.1 i Lib.Math.min.name ∈ lw_g) (hl : st.length ≤ 4) (hdep : 1 ≤ M.2.2.2.1) (kk : Wst X (pc + 3, L, .int (if y < x then y else x) :: st) h) : Wst X (pc, L, .int y :: .int x :: st) h := by
  obtain ⟨⟨p, l, e, R, s, m, args, below, meth, c, Qm⟩, ⟨B, D, cid, adK, adV⟩, ⟨nL, n0, u0, E1, E2⟩⟩ := X
  obtain ⟨own, cc, mname, dep, scr⟩ := M
  obtain ⟨hx, hb, hml, hown, hts, hK, hstr, hsz, hnm, hroom, hscr⟩ := C
  intro H locs ls r1 r2 r3 r4
  have hcl := cat_len B adK st hl
  have hdep : 1 ≤ dep := hdep
  exact va_mmin hx hb (hml.trans r3.1.symm) hown (hts _ hw) (hts (.static Lib.Math.min.name) (by decide +kernel)) (hts (.initialized "java/lang/Math") (by decide +kernel)) (hts (.code Lib.Math.min.name Lib.Math.min.code 2 (some .int)) (by decide +kernel)) (by omega) (by omega) (by omega) (by omega) hd (kk H locs ls r1 r2 r3 r4)
/-! a copy of an array, by clone -/
def nD (h : AH) (a : Nat) : AH := (up1 h.1 (hN h) (1, (hS h a).2), up1 h.2.1 (hN h) (hI h a), up1 h.2.2.1 (hN h) (fun _ => 0), up1 h.2.2.2.1 (hN h) (fun _ => 0), hN h + 1, hU h + (hS h a).2)
theorem hS_nD_new (h : AH) (a : Nat) : hS (nD h a) (hN h) = (1, (hS h a).2) := by simp [hS, nD, up1]
theorem hS_nD_old (h : AH) (a : Nat) {b : Nat} (e : b ≠ hN h) : hS (nD h a) b = hS h b := by simp [hS, nD, up1, e]
theorem hI_nD_new (h : AH) (a : Nat) : hI (nD h a) (hN h) = hI h a := by funext j; simp [hI, nD, up1]
theorem hI_nD_old (h : AH) (a : Nat) {b : Nat} (e : b ≠ hN h) : hI (nD h a) b = hI h b := by funext j; simp [hI, nD, up1, e]
theorem hL_nD_old (h : AH) (a : Nat) {b : Nat} (e : b ≠ hN h) : hL (nD h a) b = hL h b := by funext j; simp [hL, nD, up1, e]
theorem hR_nD_old (h : AH) (a : Nat) {b : Nat} (e : b ≠ hN h) : hR (nD h a) b = hR h b := by funext j; simp [hR, nD, up1, e]
theorem wf_nD {h : AH} {a : Nat} (w : wfH h) : wfH (nD h a) := by
  refine ⟨by show 1 ≤ hN h + 1; omega, fun b hb => ?_⟩
  show 1 ≤ b ∧ b < hN h + 1
  have := w.1
  by_cases e : b = hN h
  · omega
  · rw [hS_nD_old h a e] at hb
    have := w.2 b hb
    omega
theorem st_clone {X : CX} {M : MX} (C : Ctx X M) {pc : Nat} {L st : List Value} {h : AH} {i a : Nat} (hd : decode M.2.1 pc = .ok (.invokevirtual i, 3)) (hw : Cond.methodLink M.1 i ⟨"[I", "clone", "()Ljava/lang/Object;"⟩ ∈ lw_g) (hs : (hS h a).1 = 1) (hl : st.length ≤ 4) (hdep : 1 ≤ M.2.2.2.1) (g1 : hN h + 1 ≤ X.2.2.2.2.2.1) (g2 : hU h + (hS h a).2 ≤ X.2.2.2.2.2.2) (kk : Wst X (pc + 3, L, .ref (hN h) :: st) (nD h a)) : Wst X (pc, L, .ref a :: st) h := by
  obtain ⟨⟨p, l, e, R, s, m, args, below, meth, c, Qm⟩, ⟨B, D, cid, adK, adV⟩, ⟨nL, n0, u0, E1, E2⟩⟩ := X
  obtain ⟨own, cc, mname, dep, scr⟩ := M
  obtain ⟨hx, hb, hml, hown, hts, hK, hstr, hsz, hnm, hroom, hscr⟩ := C
  intro H locs ls r1 r2 r3 r4
  simp only at g1 g2
  obtain ⟨ha, hat⟩ := rel_at r1 (by omega : (hS h a).1 ≠ 0)
  rw [cellE_1 hs] at hat
  simp only [List.map_cons, cv_pos ha.1]
  have hcl := cat_len B adK st hl
  have hdep : 1 ≤ dep := hdep
  have e1 : hN (nD h a) - n0 = hN h - n0 + 1 := by show hN h + 1 - n0 = _; omega
  have e2 : hU (nD h a) - u0 = hU h - u0 + (hS h a).2 := by show hU h + (hS h a).2 - u0 = _; omega
  refine va_clone (ad := "[I") hx hb (hml.trans r3.1.symm) hown (hts _ hw) (hts (.sameMethod "[I" "java/lang/Object" "clone" "()Ljava/lang/Object;") (by decide +kernel)) (hts (.native ⟨"java/lang/Object", "clone", "()Ljava/lang/Object;"⟩) (by decide +kernel)) (hts (.instanceMethod ⟨"java/lang/Object", "clone", "()Ljava/lang/Object;"⟩) (by decide +kernel)) (hts (.selects "[I" ⟨"[I", "clone", "()Ljava/lang/Object;"⟩ ⟨"java/lang/Object", "clone", "()Ljava/lang/Object;"⟩) (by decide +kernel)) hstr.2.2.2.2.2.2.2.2.2 hK r1.1 (wsOf_D B cid h) r2 (fun q hq => by simp only [AB]; omega) (a - 1) 0 hat rfl (hK.2 0 (cid 1, .int) rfl).2 (fun j v hv => ?_) (by omega) (by omega) (by omega) (by show _ + (hS h a).2 ≤ _; omega) hd (fun q H1 k1 k2 k3 k4 => W_sized (fun hz => ?_))
  · simp only [vp_cell, arrV] at hv
    obtain ⟨hj, he⟩ := Array.getElem?_eq_some_iff.mp hv
    simp only [Array.getElem_ofFn] at he
    rw [← he]; rfl
  · have hq : q = B + hN h := new_q r1.2.1 k2 k3 (by omega)
    have hrel : Rel B D cid (nD h a) H1 := by
      refine ⟨?_, wf_nD r1.2⟩
      rw [hq, wsOf_push (B := B) (cid := cid) (h := h) (h' := nD h a) r1.2.1 rfl (fun b hb => cellE_congr (hS_nD_old h a (by omega)) (hI_nD_old h a (by omega)) (hL_nD_old h a (by omega)) (hR_nD_old h a (by omega))) (by rw [cellE_1 (by rw [hS_nD_new]), hS_nD_new, hI_nD_new])] at k2
      exact k2
    have kk := kk H1 locs ls hrel k4 r3 (by show _ ≤ hN h + 1 ∧ _ ≤ hU h + _ ∧ hN h + 1 ≤ _ ∧ hU h + _ ≤ _; omega)
    rw [e1, e2] at kk
    simp only [List.map_cons, cv_pos r1.2.1] at kk
    rw [hq]
    exact kk
theorem st_castI {X : CX} {M : MX} (C : Ctx X M) {pc : Nat} {L st : List Value} {h : AH} {i a : Nat} (hd : decode M.2.1 pc = .ok (.checkcast i, 3)) (hw : Cond.classLink M.1 i "[I" ∈ lw_g) (hs : (hS h a).1 = 1) (kk : Wst X (pc + 3, L, .ref a :: st) h) : Wst X (pc, L, .ref a :: st) h := by
  obtain ⟨⟨p, l, e, R, s, m, args, below, meth, c, Qm⟩, ⟨B, D, cid, adK, adV⟩, ⟨nL, n0, u0, E1, E2⟩⟩ := X
  obtain ⟨own, cc, mname, dep, scr⟩ := M
  obtain ⟨hx, hb, hml, hown, hts, hK, hstr, hsz, hnm, hroom, hscr⟩ := C
  intro H locs ls r1 r2 r3 r4
  obtain ⟨ha, hat⟩ := rel_at r1 (by omega : (hS h a).1 ≠ 0)
  rw [cellE_1 hs] at hat
  have kk := kk H locs ls r1 r2 r3 r4
  simp only [List.map_cons, cv_pos ha.1] at kk ⊢
  exact va_castA hx hb hown (hts _ hw) r1.1 (a - 1) hat (hK.2 0 (cid 1, .int) rfl).2 hd kk
/-! switches -/
def swK (x : Int32) (K : Nat → Prop) (d : Nat) : List (Int32 × Nat) → Prop
  | [] => K d
  | q :: r => (x = q.1 → K q.2) ∧ (¬ x = q.1 → swK x K d r)
theorem swK_spec {x : Int32} {K : Nat → Prop} {d : Nat} : ∀ {l : List (Int32 × Nat)}, swK x K d l → (∃ (j : Nat) (q : Int32 × Nat), l[j]? = some q ∧ x = q.1 ∧ K q.2) ∨ ((∀ q ∈ l, x ≠ q.1) ∧ K d)
  | [], h => Or.inr ⟨fun q hq => absurd hq List.not_mem_nil, h⟩
  | q :: r, h => by
    by_cases e : x = q.1
    · exact Or.inl ⟨0, q, rfl, e, h.1 e⟩
    · rcases swK_spec (h.2 e) with ⟨j, q2, h1, h2, h3⟩ | ⟨h1, h2⟩
      · exact Or.inl ⟨j + 1, q2, h1, h2, h3⟩
      · refine Or.inr ⟨fun q2 hq => ?_, h2⟩
        rcases List.mem_cons.mp hq with rfl | hq
        · exact e
        · exact h1 q2 hq
theorem st_table {X : CX} {M : MX} (C : Ctx X M) {pc : Nat} {L st : List Value} {h : AH} {x : Int32} {dflt lo hi : Int} {offs : Array Int} {len dt : Nat} {sw : List (Int32 × Nat)} (hd : decode M.2.1 pc = .ok (.tableswitch dflt lo hi offs, len)) (ht : (pc : Int) + dflt = (dt : Int)) (hh : hi + 1 = lo + offs.size) (hw : sw.map (fun q => (q.1.toInt, (q.2 : Int))) = (List.range offs.size).map (fun (j : Nat) => (lo + (j : Int), (pc : Int) + offs.getD j 0))) (kk : swK x (fun t => Wst X (t, L, st) h) dt sw) : Wst X (pc, L, .int x :: st) h := by
  obtain ⟨⟨p, l, e, R, s, m, args, below, meth, c, Qm⟩, ⟨B, D, cid, adK, adV⟩, ⟨nL, n0, u0, E1, E2⟩⟩ := X
  obtain ⟨own, cc, mname, dep, scr⟩ := M
  obtain ⟨hx, hb, hml, hown, hts, hK, hstr, hsz, hnm, hroom, hscr⟩ := C
  have hlen : sw.length = offs.size := by
    have := congrArg List.length hw
    simpa using this
  have hat : ∀ (j : Nat) (q : Int32 × Nat), sw[j]? = some q → j < offs.size ∧ q.1.toInt = lo + (j : Int) ∧ (q.2 : Int) = (pc : Int) + offs.getD j 0 := fun j q hq => by
    have hj : j < sw.length := (List.getElem?_eq_some_iff.mp hq).1
    have h1 := congrArg (fun z => z[j]?) hw
    simp only [List.getElem?_map, hq, List.getElem?_range (show j < offs.size by omega), Option.map_some, Option.some.injEq, Prod.mk.injEq] at h1
    exact ⟨by omega, h1.1, h1.2⟩
  intro H locs ls r1 r2 r3 r4
  rcases swK_spec kk with ⟨j, q, h1, h2, h3⟩ | ⟨h1, h2⟩
  · obtain ⟨hj, e1, e2⟩ := hat j q h1
    rw [← h2] at e1
    exact lv_tableIn (off := offs.getD j 0) hx hb hd (by omega) (by omega) (by rw [show (x.toInt - lo).toNat = j by omega]; simp [Array.getD, hj]) e2.symm (h3 H locs ls r1 r2 r3 r4)
  · refine lv_tableOut hx hb hd ?_ ht (h2 H locs ls r1 r2 r3 r4)
    by_cases h4 : x.toInt < lo
    · exact Or.inl h4
    · refine Or.inr (Int.not_le.mp fun h5 => ?_)
      have hj : (x.toInt - lo).toNat < sw.length := by omega
      have hq := List.getElem?_eq_getElem hj
      have h6 := hat _ _ hq
      exact h1 _ (List.mem_of_getElem? hq) (Int32.toInt_inj.mp (by rw [h6.2.1]; omega))
theorem look_off {x : Int32} {K : Nat → Prop} {d pc : Nat} {dflt : Int} (ht : (pc : Int) + dflt = (d : Int)) : ∀ {l : List (Int32 × Nat)}, swK x K d l → ∃ t : Nat, K t ∧ (pc : Int) + Op.lookupswitch.offset (l.map (fun q => (q.1.toInt, (q.2 : Int) - pc))) dflt x.toInt = (t : Int)
  | [], h => ⟨d, h, ht⟩
  | q :: r, h => by
    by_cases e : x = q.1
    · refine ⟨q.2, h.1 e, ?_⟩
      subst e
      simp [Op.lookupswitch.offset]
      omega
    · obtain ⟨t, h1, h2⟩ := look_off ht (h.2 e)
      refine ⟨t, h1, ?_⟩
      rw [List.map_cons, lv_osw e rfl]
      exact h2
theorem st_look {X : CX} {M : MX} (C : Ctx X M) {pc : Nat} {L st : List Value} {h : AH} {x : Int32} {dflt : Int} {ps : Array (Int × Int)} {len dt : Nat} {sw : List (Int32 × Nat)} (hd : decode M.2.1 pc = .ok (.lookupswitch dflt ps, len)) (ht : (pc : Int) + dflt = (dt : Int)) (hp : (ps.toList.zip (ps.toList.drop 1)).all (fun (a, next) => a.1 < next.1) = true) (hw : sw.map (fun q => (q.1.toInt, (q.2 : Int) - pc)) = ps.toList) (kk : swK x (fun t => Wst X (t, L, st) h) dt sw) : Wst X (pc, L, .int x :: st) h := by
  obtain ⟨⟨p, l, e, R, s, m, args, below, meth, c, Qm⟩, ⟨B, D, cid, adK, adV⟩, ⟨nL, n0, u0, E1, E2⟩⟩ := X
  obtain ⟨own, cc, mname, dep, scr⟩ := M
  obtain ⟨hx, hb, hml, hown, hts, hK, hstr, hsz, hnm, hroom, hscr⟩ := C
  intro H locs ls r1 r2 r3 r4
  obtain ⟨t, h1, h2⟩ := look_off ht kk
  rw [hw] at h2
  exact lv_lookup hx hb hd hp rfl h2 (h1 H locs ls r1 r2 r3 r4)
/-! methods and contracts -/
abbrev MT : Type := MethodName × ByteArray × Nat × Option FieldType × Nat × Nat × Nat
/-- what the tables say of a method: name, code, locals, answer, its class's number, kind (0 static, 1 virtual, 2 constructor, 3 constructor of a nest mate), parameters -/
def mOk (q : MT) : Prop := plainName q.1.cls = true ∧ Cond.code q.1 q.2.1 q.2.2.1 q.2.2.2.1 ∈ lw_g ∧ Cond.initialized q.1.cls ∈ lw_g ∧ (q.1.cls ≠ "java/lang/invoke/MethodHandle" ∧ q.1.cls ≠ "java/lang/invoke/VarHandle" ∧ (parseMethodDescriptor q.1.desc).map (fun d => d.parameters.length) = some q.2.2.2.2.2.2) ∧ q.2.2.1 + 19 ≤ 64 ∧ (q.2.2.2.2.2.1 = 0 → Cond.static q.1 ∈ lw_g) ∧ (q.2.2.2.2.2.1 ≠ 0 → Cond.instanceMethod q.1 ∈ lw_g) ∧ (q.2.2.2.2.2.1 = 1 → Cond.selects q.1.cls q.1 q.1 ∈ lw_g) ∧ (2 ≤ q.2.2.2.2.2.1 → q.1.name = "<init>" ∧ q.2.2.2.1 = none)
def wsY (q : MT) : List Cond := Cond.code q.1 q.2.1 q.2.2.1 q.2.2.2.1 :: lw_g
theorem wsY_good {q : MT} (hq : mOk q) : GoodIn lw_g (wsY q) := fun w hw => by
  rcases List.mem_cons.mp hw with rfl | hw
  · exact ⟨hq.2.1, good_of_word (lw_g_ok hq.2.1)⟩
  · exact ⟨hw, good_of_word (lw_g_ok hw)⟩
def rmOf (d n u : Nat) : Room := { frames := d, cells := n, slots := u, locals := 64 * d }
def Pin (B : Nat) (D : va_G) (cid adK adV : Nat → Nat) (h : AH) (U : State) : Prop := U.heap.size = B + hN h ∧ Rel B D cid h U.heap ∧ va_K D cl13 (tysOf cid) U ∧ Str adK adV B U
def Qout (B : Nat) (D : va_G) (cid adK : Nat → Nat) (E1 E2 : Nat) (Q : Option Value → AH → Prop) : Array Value → State → Outcome → State → Prop := fun _ st oc t => (∃ (r : Option Value) (h' : AH), oc = .returned (r.map (cv B adK)) ∧ Q r h' ∧ Rel B D cid h' t.heap ∧ hN h' = E1 ∧ hU h' = E2) ∧ va_F (AB B) st t
/-- a method's contract over the abstract heap: from arguments as and heap h it returns, with Q of its answer and the heap then; the heap has then E1 cells and E2 slots -/
def CallsM (d : Nat) (q : MT) (as : List Value) (h : AH) (E1 E2 : Nat) (Q : Option Value → AH → Prop) : Prop := hN h ≤ E1 ∧ hU h ≤ E2 ∧ ∀ (l : Launch) (B : Nat) (D : va_G) (cid adK adV : Nat → Nat), Met l q.1 (wsY q) (rmOf d (E1 - hN h) (E2 - hU h)) (va_Pc (as.map (cv B adK)) (Pin B D cid adK adV h)) (Qout B D cid adK E1 E2 Q) (E1 - hN h) (E2 - hU h) (AB B)
theorem CallsM.mono {d : Nat} {q : MT} {as : List Value} {h : AH} {E1 E2 : Nat} {Q Q' : Option Value → AH → Prop} (k : CallsM d q as h E1 E2 Q) (hq : ∀ r h', Q r h' → Q' r h') : CallsM d q as h E1 E2 Q' := by
  refine ⟨k.1, k.2.1, fun l B D cid adK adV => ?_⟩
  have := k.2.2 l B D cid adK adV
  intro p e ha hc hk s m args below hf h1 h2 h3
  obtain ⟨t, o, a1, a2, a3, ⟨⟨⟨r, h', b1, b2, b3⟩, b4⟩, a5⟩⟩ := this p e ha hc hk s m args below hf h1 h2 h3
  exact ⟨t, o, a1, a2, a3, ⟨⟨r, h', b1, hq r h' b2, b3⟩, b4⟩, a5⟩
theorem Str.warm {adK adV : Nat → Nat} {B : Nat} {s U : State} (hW : s.WarmedH U.vm) (hk : ∀ a : Nat, a < s.heap.size → ¬ AB B a → U.heap[a]? = s.heap[a]?) (h : Str adK adV B s) : Str adK adV B U :=
  ⟨(vk_S.moved hW.alike h.1).kept hk, fun i q hq => (h.2.1 i q hq).warm hW, (va_Z.moved hW.alike h.2.2.1).kept hk, (va_Zq.moved hW.alike h.2.2.2.1).kept hk, Hard.warm hW h.2.2.2.2⟩
theorem Str.same {adK adV : Nat → Nat} {B : Nat} {s U : State} (hv : s.vm = U.vm) (hh : s.heap = U.heap) (h : Str adK adV B s) : Str adK adV B U :=
  ⟨hh ▸ vk_S.moved (by rw [hv]; exact Vm.Alike.refl _) h.1, fun i q hq => (h.2.1 i q hq).same hv.symm, hh ▸ va_Z.moved (by rw [hv]; exact Vm.Alike.refl _) h.2.2.1, hh ▸ va_Zq.moved (by rw [hv]; exact Vm.Alike.refl _) h.2.2.2.1, Hard.same hv h.2.2.2.2⟩
theorem Pin_blind (B : Nat) (D : va_G) (cid adK adV : Nat → Nat) (h : AH) (av : List Value) : FrameBlind (va_Pc av (Pin B D cid adK adV h)) := fun a U g mk q => by
  obtain ⟨q1, q2, q3, q4, q5⟩ := q
  exact ⟨q1, q2, q3, va_K.moved (u := U) (U := U.calling g mk a) (Vm.Alike.refl U.vm) q4, Str.same (s := U) (U := U.calling g mk a) rfl rfl q5⟩
/-- behind a call -/
theorem st_run {p : Program} {l : Launch} {e : Env} {R : Room} {s : State} {m : MethodId} {args : Array Value} {below : List Frame} {meth : Method} {c : Code} {H : Heap} {locs : List Loc} {cells slots mc ms : Nat} {Qm : State → Prop} {pc : Nat} {ls : Array Slot} {st0 rest : List Value} {a : Array Value} {B : Nat} {D : va_G} {cid adK : Nat → Nat} {E1 E2 : Nat} {Q : Option Value → AH → Prop}
    (hr : va_Run p l e R s m args below meth c H locs cells slots mc ms (F0 m pc ls st0) rest (Qout B D cid adK E1 E2 Q a) (AB B)) (hS : va_S (AB B) s.heap H locs)
    (kk : ∀ (r : Option Value) (h' : AH) (H1 : Heap) (locs1 : List Loc), Q r h' → Rel B D cid h' H1 → hN h' = E1 → hU h' = E2 → va_S (AB B) s.heap H1 locs1 → W p l e R s m args below meth c H1 locs1 (cells + mc) (slots + ms) Qm (F0 m (pc + 3) ls ((r.map (cv B adK)).toList ++ rest))) : W p l e R s m args below meth c H locs cells slots Qm (F0 m pc ls st0) := by
  intro T hT X
  obtain ⟨v, st₀, t, T', L, h0, X', hL, e1, e2, ⟨⟨r, h', hv, hq, hrel, g1, g2⟩, hz, hk⟩, st⟩ := hr T hT X
  cases hv
  rw [h0] at hz hk
  obtain ⟨t2, a1, b1⟩ := kk r h' T'.heap (locs ++ L) hq (by rw [e1]; exact hrel) g1 g2
    ⟨Nat.le_trans hS.1 (by rw [e1]; exact hz), fun q h1 h2 => by rw [e1, hk q (Nat.lt_of_lt_of_le h1 hS.1) h2]; exact hS.2.1 q h1 h2, fun q hq => by
      rcases List.mem_append.mp hq with h | h
      · exact hS.2.2 q h
      · exact hL q h⟩ T' rfl X'
  exact ⟨t2, st t2 a1, b1⟩
theorem st_callV {X : CX} {M : MX} (C : Ctx X M) {pc : Nat} {L st : List Value} {h : AH} {i d a F1 F2 : Nat} {q : MT} {qc : vw_C} {as : List Value} (hd : decode M.2.1 pc = .ok (.invokevirtual i, 3)) (hkd : q.2.2.2.2.2.1 = 1) (hw : Cond.methodLink M.1 i q.1 ∈ lw_g) (hcl : cl13[q.2.2.2.2.1]? = some qc) (hcn : qc.1 = q.1.cls) (hs : (hS h a).1 = 10 + q.2.2.2.2.1) (hn : as.length = q.2.2.2.2.2.2) (hok : mOk q) (hl : st.length ≤ 4) (hdep : M.2.2.2.1 = d + 1) (g1 : F1 ≤ X.2.2.2.2.2.1) (g2 : F2 ≤ X.2.2.2.2.2.2) (hc : CallsM d q (.ref a :: as) h F1 F2 (fun r h' => Wst X (pc + 3, L, r.toList ++ st) h')) : Wst X (pc, L, as.reverse ++ .ref a :: st) h := by
  obtain ⟨⟨p, l, e, R, s, m, args, below, meth, c, Qm⟩, ⟨B, D, cid, adK, adV⟩, ⟨nL, n0, u0, E1, E2⟩⟩ := X
  obtain ⟨own, cc, mname, dep, scr⟩ := M
  obtain ⟨hx, hb, hml, hown, hts, hK, hstr, hsz, hnm, hroom, hscr⟩ := C
  intro H locs ls r1 r2 r3 r4
  refine W_sized (fun hz => ?_)
  have hlo := rel_size r1 r2 hsz.1 hsz.2
  have hH : H.size = B + hN h := by omega
  obtain ⟨c1, c2, hM⟩ := hc
  have hcl0 := cat_len B adK st hl
  have hdep : dep = d + 1 := hdep
  have g1 : F1 ≤ E1 := g1
  have g2 : F2 ≤ E2 := g2
  have hpin : ∀ U : State, U.heap = H → s.WarmedH U.vm → Pin B D cid adK adV h U := fun U hU hW => ⟨by rw [hU]; exact hH, by rw [hU]; exact r1, va_K.moved hW.alike hK, Str.warm hW (fun a q1 q2 => by rw [hU]; exact r2.2.1 a q1 q2) hstr⟩
  obtain ⟨ha, hat⟩ := rel_at r1 (by omega : (hS h a).1 ≠ 0)
  rw [cellE_obj hs] at hat
  simp only [List.map_append, List.map_reverse, List.map_cons, cv_pos ha.1]
  have hM := hM l B D cid adK adV
  simp only [List.map_cons, cv_pos ha.1] at hM
  obtain ⟨o1, o2, o3, o4, o5, o6, o7, o8, o9⟩ := hok
  have hT : GoodIn lw_g (wsV own i q.1.cls q.1 (wsY q)) := fun w hw2 => by
    rcases List.mem_append.mp hw2 with h9 | h9
    · simp only [List.mem_cons, List.not_mem_nil, or_false] at h9
      rcases h9 with rfl | rfl | rfl | rfl
      · exact ⟨hw, good_of_word (lw_g_ok hw)⟩
      · exact ⟨o7 (by omega), good_of_word (lw_g_ok (o7 (by omega)))⟩
      · exact ⟨o8 hkd, good_of_word (lw_g_ok (o8 hkd))⟩
      · exact ⟨o3, good_of_word (lw_g_ok o3)⟩
    · exact wsY_good ⟨o1, o2, o3, o4, o5, o6, o7, o8, o9⟩ w h9
  refine st_run (va_runV (As := as.map (cv B adK)) (rest := st.map (cv B adK)) ⟨hx, hb, hml, hown, hts⟩ hM (cwV q.2.2.2.2.2.2 hts hT rfl rfl rfl ⟨rfl, o4⟩ ⟨by simp only [rmOf]; omega, by simp only [rmOf]; omega⟩) ⟨Pin_blind B D cid adK adV h _, by have h9 := va_recv hK r1.1 hcl hat; rw [hcn] at h9; exact h9, fun U hU hW => ⟨rfl, hpin U hU hW⟩⟩ rfl (by simpa using hn) r3.1 (by simp) (lv_room hcl0) hd ⟨by omega, by omega⟩) r2 (fun r h' H1 locs1 q1 q2 q3 q4 q5 => ?_)
  have k := q1 H1 locs1 ls q2 q5 r3 (by rw [q3, q4]; omega)
  rw [q3, q4] at k
  rw [show hN h - n0 + (F1 - hN h) = F1 - n0 by omega, show hU h - u0 + (F2 - hU h) = F2 - u0 by omega]
  simp only [List.map_append] at k
  cases r <;> exact k
theorem st_callS {X : CX} {M : MX} (C : Ctx X M) {pc : Nat} {L st : List Value} {h : AH} {i d F1 F2 : Nat} {q : MT} {as : List Value} (hd : decode M.2.1 pc = .ok (.invokestatic i, 3)) (hkd : q.2.2.2.2.2.1 = 0) (hw : Cond.methodLink M.1 i q.1 ∈ lw_g) (hn : as.length = q.2.2.2.2.2.2) (hok : mOk q) (hl : st.length ≤ 4) (hdep : M.2.2.2.1 = d + 1) (g1 : F1 ≤ X.2.2.2.2.2.1) (g2 : F2 ≤ X.2.2.2.2.2.2) (hc : CallsM d q as h F1 F2 (fun r h' => Wst X (pc + 3, L, r.toList ++ st) h')) : Wst X (pc, L, as.reverse ++ st) h := by
  obtain ⟨⟨p, l, e, R, s, m, args, below, meth, c, Qm⟩, ⟨B, D, cid, adK, adV⟩, ⟨nL, n0, u0, E1, E2⟩⟩ := X
  obtain ⟨own, cc, mname, dep, scr⟩ := M
  obtain ⟨hx, hb, hml, hown, hts, hK, hstr, hsz, hnm, hroom, hscr⟩ := C
  intro H locs ls r1 r2 r3 r4
  refine W_sized (fun hz => ?_)
  have hlo := rel_size r1 r2 hsz.1 hsz.2
  have hH : H.size = B + hN h := by omega
  obtain ⟨c1, c2, hM⟩ := hc
  have hcl := cat_len B adK st hl
  have hdep : dep = d + 1 := hdep
  have g1 : F1 ≤ E1 := g1
  have g2 : F2 ≤ E2 := g2
  have hpin : ∀ U : State, U.heap = H → s.WarmedH U.vm → Pin B D cid adK adV h U := fun U hU hW => ⟨by rw [hU]; exact hH, by rw [hU]; exact r1, va_K.moved hW.alike hK, Str.warm hW (fun a q1 q2 => by rw [hU]; exact r2.2.1 a q1 q2) hstr⟩
  simp only [List.map_append, List.map_reverse]
  have hM := hM l B D cid adK adV
  obtain ⟨o1, o2, o3, o4, o5, o6, o7, o8, o9⟩ := hok
  have hT : GoodIn lw_g (va_wsS own i q.1 (wsY q)) := fun w hw2 => by
    rcases List.mem_append.mp hw2 with h9 | h9
    · simp only [List.mem_cons, List.not_mem_nil, or_false] at h9
      rcases h9 with rfl | rfl | rfl
      · exact ⟨hw, good_of_word (lw_g_ok hw)⟩
      · exact ⟨o6 hkd, good_of_word (lw_g_ok (o6 hkd))⟩
      · exact ⟨o3, good_of_word (lw_g_ok o3)⟩
    · exact wsY_good ⟨o1, o2, o3, o4, o5, o6, o7, o8, o9⟩ w h9
  refine st_run (va_runS (As := as.map (cv B adK)) (rest := st.map (cv B adK)) ⟨hx, hb, hml, hown, hts⟩ hM (va_cwS q.2.2.2.2.2.2 hts hT rfl rfl rfl o4 ⟨by simp only [rmOf]; omega, by simp only [rmOf]; omega⟩) ⟨Pin_blind B D cid adK adV h _, fun U hU hW => ⟨rfl, hpin U hU hW⟩⟩ rfl (by simpa using hn) r3.1 rfl (lv_room hcl) hd ⟨by omega, by omega⟩) r2 (fun r h' H1 locs1 q1 q2 q3 q4 q5 => ?_)
  have k := q1 H1 locs1 ls q2 q5 r3 (by rw [q3, q4]; omega)
  rw [q3, q4] at k
  rw [show hN h - n0 + (F1 - hN h) = F1 - n0 by omega, show hU h - u0 + (F2 - hU h) = F2 - u0 by omega]
  simp only [List.map_append] at k
  cases r <;> exact k
theorem st_callI {X : CX} {M : MX} (C : Ctx X M) {pc : Nat} {L st : List Value} {h : AH} {i d a F1 F2 : Nat} {q : MT} {as : List Value} (hd : decode M.2.1 pc = .ok (.invokespecial i, 3)) (hkd : q.2.2.2.2.2.1 = 2) (hw : Cond.methodLink M.1 i q.1 ∈ lw_g) (ha : 1 ≤ a) (hn : as.length = q.2.2.2.2.2.2) (hok : mOk q) (hl : st.length ≤ 4) (hdep : M.2.2.2.1 = d + 1) (g1 : F1 ≤ X.2.2.2.2.2.1) (g2 : F2 ≤ X.2.2.2.2.2.2) (hc : CallsM d q (.ref a :: as) h F1 F2 (fun r h' => Wst X (pc + 3, L, r.toList ++ st) h')) : Wst X (pc, L, as.reverse ++ .ref a :: st) h := by
  obtain ⟨⟨p, l, e, R, s, m, args, below, meth, c, Qm⟩, ⟨B, D, cid, adK, adV⟩, ⟨nL, n0, u0, E1, E2⟩⟩ := X
  obtain ⟨own, cc, mname, dep, scr⟩ := M
  obtain ⟨hx, hb, hml, hown, hts, hK, hstr, hsz, hnm, hroom, hscr⟩ := C
  intro H locs ls r1 r2 r3 r4
  refine W_sized (fun hz => ?_)
  have hlo := rel_size r1 r2 hsz.1 hsz.2
  have hH : H.size = B + hN h := by omega
  obtain ⟨c1, c2, hM⟩ := hc
  have hcl := cat_len B adK st hl
  have hdep : dep = d + 1 := hdep
  have g1 : F1 ≤ E1 := g1
  have g2 : F2 ≤ E2 := g2
  have hpin : ∀ U : State, U.heap = H → s.WarmedH U.vm → Pin B D cid adK adV h U := fun U hU hW => ⟨by rw [hU]; exact hH, by rw [hU]; exact r1, va_K.moved hW.alike hK, Str.warm hW (fun a q1 q2 => by rw [hU]; exact r2.2.1 a q1 q2) hstr⟩
  simp only [List.map_append, List.map_reverse, List.map_cons, cv_pos ha]
  have hM := hM l B D cid adK adV
  simp only [List.map_cons, cv_pos ha] at hM
  have hG := wsY_good hok
  obtain ⟨o1, o2, o3, o4, o5, o6, o7, o8, o9⟩ := hok
  have o9 := o9 (by omega)
  refine st_run (va_runI (As := as.map (cv B adK)) (rest := st.map (cv B adK)) ⟨hx, hb, hml, hown, hts⟩ hM (cwI q.2.2.2.2.2.2 hts hG (by unfold wsY; rw [o9.2]) rfl rfl (hts _ o3) (hts _ hw) (hts _ (o7 (by omega))) o9.1 o4 ⟨by simp only [rmOf]; omega, by simp only [rmOf]; omega⟩) ⟨Pin_blind B D cid adK adV h _, fun U hU hW => ⟨rfl, hpin U hU hW⟩⟩ rfl (by simpa using hn) r3.1 (by simp) (lv_room hcl) hd ⟨by omega, by omega⟩) r2 (fun r h' H1 locs1 q1 q2 q3 q4 q5 => ?_)
  have k := q1 H1 locs1 ls q2 q5 r3 (by rw [q3, q4]; omega)
  rw [q3, q4] at k
  rw [show hN h - n0 + (F1 - hN h) = F1 - n0 by omega, show hU h - u0 + (F2 - hU h) = F2 - u0 by omega]
  simp only [List.map_append] at k
  cases r <;> exact k
theorem st_callN {X : CX} {M : MX} (C : Ctx X M) {pc : Nat} {L st : List Value} {h : AH} {i d a F1 F2 : Nat} {q : MT} {as : List Value} (hd : decode M.2.1 pc = .ok (.invokespecial i, 3)) (hkd : q.2.2.2.2.2.1 = 3) (hw : (M.1, i, q.1) ∈ nestW) (ha : 1 ≤ a) (hn : as.length = q.2.2.2.2.2.2) (hok : mOk q) (hl : st.length ≤ 4) (hdep : M.2.2.2.1 = d + 1) (g1 : F1 ≤ X.2.2.2.2.2.1) (g2 : F2 ≤ X.2.2.2.2.2.2) (hc : CallsM d q (.ref a :: as) h F1 F2 (fun r h' => Wst X (pc + 3, L, r.toList ++ st) h')) : Wst X (pc, L, as.reverse ++ .ref a :: st) h := by
  obtain ⟨⟨p, l, e, R, s, m, args, below, meth, c, Qm⟩, ⟨B, D, cid, adK, adV⟩, ⟨nL, n0, u0, E1, E2⟩⟩ := X
  obtain ⟨own, cc, mname, dep, scr⟩ := M
  obtain ⟨hx, hb, hml, hown, hts, hK, hstr, hsz, hnm, hroom, hscr⟩ := C
  intro H locs ls r1 r2 r3 r4
  refine W_sized (fun hz => ?_)
  have hlo := rel_size r1 r2 hsz.1 hsz.2
  have hH : H.size = B + hN h := by omega
  obtain ⟨c1, c2, hM⟩ := hc
  have hcl := cat_len B adK st hl
  have hdep : dep = d + 1 := hdep
  have g1 : F1 ≤ E1 := g1
  have g2 : F2 ≤ E2 := g2
  have hpin : ∀ U : State, U.heap = H → s.WarmedH U.vm → Pin B D cid adK adV h U := fun U hU hW => ⟨by rw [hU]; exact hH, by rw [hU]; exact r1, va_K.moved hW.alike hK, Str.warm hW (fun a q1 q2 => by rw [hU]; exact r2.2.1 a q1 q2) hstr⟩
  simp only [List.map_append, List.map_reverse, List.map_cons, cv_pos ha]
  have hM := hM l B D cid adK adV
  simp only [List.map_cons, cv_pos ha] at hM
  have hG := wsY_good hok
  obtain ⟨o1, o2, o3, o4, o5, o6, o7, o8, o9⟩ := hok
  have o9 := o9 (by omega)
  refine st_run (va_runIN (As := as.map (cv B adK)) (rest := st.map (cv B adK)) ⟨hx, hb, hml, hown, hts⟩ hM ⟨va_cnB q.2.2.2.2.2.2 hts hG (by unfold wsY; rw [o9.2]) rfl rfl (hstr.2.2.2.2.1 _ hw) (hts _ o3) o4 ⟨by simp only [rmOf]; omega, by simp only [rmOf]; omega⟩, o9.1, hts _ (o7 (by omega))⟩ ⟨Pin_blind B D cid adK adV h _, fun U hU hW => ⟨rfl, hpin U hU hW⟩⟩ rfl (by simpa using hn) r3.1 (by simp) (lv_room hcl) hd ⟨by omega, by omega⟩) r2 (fun r h' H1 locs1 q1 q2 q3 q4 q5 => ?_)
  have k := q1 H1 locs1 ls q2 q5 r3 (by rw [q3, q4]; omega)
  rw [q3, q4] at k
  rw [show hN h - n0 + (F1 - hN h) = F1 - n0 by omega, show hU h - u0 + (F2 - hU h) = F2 - u0 by omega]
  simp only [List.map_append] at k
  cases r <;> exact k
end
section
def tblC (c : Nat) : List Cond := match c with
  | 0 => k2_sels lw_privs
  | 1 => tables_1_1
  | 2 => tables_1_2
  | 3 => tables_1_3
  | 4 => tables_1_4
  | 5 => tables_1_5
  | 6 => tables_1_6
  | 7 => tables_1_7
  | _ => tables_1_8
theorem tblC_in {c : Nat} {w : Cond} (h : w ∈ tblC c) : w ∈ lw_tbl := by
  unfold tblC at h
  unfold lw_tbl tables_1
  simp only [List.mem_append]
  split at h
  · exact Or.inl h
  · exact Or.inr (Or.inl h)
  · exact Or.inr (Or.inr (Or.inl h))
  · exact Or.inr (Or.inr (Or.inr (Or.inl h)))
  · exact Or.inr (Or.inr (Or.inr (Or.inr (Or.inl h))))
  · exact Or.inr (Or.inr (Or.inr (Or.inr (Or.inr (Or.inl h)))))
  · exact Or.inr (Or.inr (Or.inr (Or.inr (Or.inr (Or.inr (Or.inl h))))))
  · exact Or.inr (Or.inr (Or.inr (Or.inr (Or.inr (Or.inr (Or.inr (Or.inl h)))))))
  · exact Or.inr (Or.inr (Or.inr (Or.inr (Or.inr (Or.inr (Or.inr (Or.inr (h))))))))
def inA (a : Nat × Nat) (w : Cond) : Bool := decide ((tblC a.1)[a.2]? = some w) && goodWord w
theorem inA_ok {a : Nat × Nat} {w : Cond} (h : inA a w = true) : w ∈ lw_g := by
  simp only [inA, Bool.and_eq_true, decide_eq_true_eq] at h
  exact lw_g_of (tblC_in (List.mem_of_getElem? h.1)) h.2
/-! the methods, in a row; what the tables say of them -/
def mtl_0 : List MT := [(yX0_init, cX0_init, 1, none, 0, 3, 0), (yX0_begin, cX0_begin, 3, none, 0, 1, 2), (yX0_bestRow, cX0_bestRow, 4, (some .int), 0, 1, 3), (yX0_tryRows, cX0_tryRows, 7, none, 0, 1, 4), (yX0_weighRow, cX0_weighRow, 2, none, 0, 1, 1), (yX0_mayRunFor, cX0_mayRunFor, 3, (some .boolean), 0, 1, 2), (yX0_restsOfTwo, cX0_restsOfTwo, 8, (some .int), 0, 1, 3), (yX0_weighTwos, cX0_weighTwos, 5, none, 0, 1, 2), (yX0_hasThen, cX0_hasThen, 2, (some .int), 0, 1, 1), (yX0_isRest, cX0_isRest, 5, (some .boolean), 0, 1, 3), (yX1_init, cX1_init, 1, none, 1, 2, 0), (yX1_pass, cX1_pass, 6, (some .int), 1, 1, 3), (yX1_mostWorth, cX1_mostWorth, 4, (some .int), 1, 0, 2), (yX1_bestBy, cX1_bestBy, 11, (some .int), 1, 1, 4), (yX1_tellRunner, cX1_tellRunner, 4, none, 1, 1, 3), (yX1_leadOf, cX1_leadOf, 5, (some .int), 1, 0, 3), (yX1_tellWare, cX1_tellWare, 7, none, 1, 1, 4), (yX1_firstTo, cX1_firstTo, 6, (some .int), 1, 1, 3), (yX1_reward, cX1_reward, 5, none, 1, 1, 2), (yX1_payRivals, cX1_payRivals, 6, none, 1, 1, 4)]
def mtl_1 : List MT := [(yX2_init, cX2_init, 1, none, 2, 3, 0), (yX2_begin, cX2_begin, 3, none, 2, 1, 2), (yX2_go, cX2_go, 3, none, 2, 1, 1), (yX2_firstGot, cX2_firstGot, 6, (some .int), 2, 1, 2), (yX2_fewestSeconds, cX2_fewestSeconds, 6, (some .int), 2, 1, 3), (yX2_reaches, cX2_reaches, 7, (some .boolean), 2, 1, 4), (yX2_bestLender, cX2_bestLender, 7, (some .int), 2, 1, 3), (yX2_pursesThatGet, cX2_pursesThatGet, 7, (some .int), 2, 1, 4), (yX2_drawFalls, cX2_drawFalls, 9, (some .int), 2, 1, 4), (yX2_drawFall, cX2_drawFall, 3, none, 2, 1, 1), (yX2_draw, cX2_draw, 1, (some .int), 2, 1, 0), (yX2_gain, cX2_gain, 3, (some .int), 2, 1, 0), (yX2_greatestPurse, cX2_greatestPurse, 3, (some .int), 2, 1, 0), (yX3_init, cX3_init, 1, none, 3, 3, 0), (yX3_read, cX3_read, 4, (some .boolean), 3, 1, 1), (yX3_readClause, cX3_readClause, 5, none, 3, 1, 2), (yX3_isThere, cX3_isThere, 3, (some .boolean), 3, 1, 2), (yX3_daysTillFeast, cX3_daysTillFeast, 2, (some .int), 3, 1, 1), (yX4_init, cX4_init, 1, none, 4, 3, 0), (yX4_begin, cX4_begin, 2, none, 4, 1, 1)]
def mtl_2 : List MT := [(yX4_become, cX4_become, 2, none, 4, 1, 1), (yX4_beats, cX4_beats, 6, (some .boolean), 4, 1, 3), (yX4_canLend, cX4_canLend, 4, (some .boolean), 4, 1, 3), (yX4_give, cX4_give, 4, none, 4, 1, 3), (yX5_init, cX5_init, 1, none, 5, 3, 0), (yX5_together, cX5_together, 5, (some .int), 5, 0, 3), (yX5_fewestGoes, cX5_fewestGoes, 7, (some .int), 5, 1, 2), (yX5_countRings, cX5_countRings, 5, (some .int), 5, 1, 2), (yX5_greatestRing, cX5_greatestRing, 5, (some .int), 5, 1, 2), (yX5_share, cX5_share, 11, (some .int), 5, 1, 4), (yX6_init, cX6_init, 4, none, 6, 2, 3), (yX6_stepOf, cX6_stepOf, 1, (some .int), 6, 0, 1), (yX6_tightnessOf, cX6_tightnessOf, 1, (some .int), 6, 0, 1), (yX6_sumBy, cX6_sumBy, 6, (some .long), 6, 1, 2), (yX6_work, cX6_work, 8, (some .long), 6, 1, 4), (yX6_joined, cX6_joined, 5, (some .long), 6, 0, 3), (yX7_init, cX7_init, 1, none, 7, 3, 0), (yX7_read, cX7_read, 2, (some (.object "HeadHill$Rule")), 7, 1, 0), (yX7_takeOne, cX7_takeOne, 1, none, 7, 1, 0), (yX7_takeRun, cX7_takeRun, 1, none, 7, 1, 0)]
def mtl_3 : List MT := [(yX7_takeValue, cX7_takeValue, 4, none, 7, 1, 1), (yX7_takeFact, cX7_takeFact, 1, none, 7, 1, 0), (yX7_goOn, cX7_goOn, 4, none, 7, 1, 0), (yX7_stepOfToken, cX7_stepOfToken, 1, (some .int), 7, 1, 0), (yX7_isClauseEnd, cX7_isClauseEnd, 1, (some .boolean), 7, 1, 0), (yX7_endSum, cX7_endSum, 1, none, 7, 1, 0), (yX7_endClause, cX7_endClause, 1, none, 7, 1, 0), (yX7_closeBracket, cX7_closeBracket, 1, none, 7, 1, 0), (yX7_join, cX7_join, 2, none, 7, 1, 1), (yX7_release, cX7_release, 2, none, 7, 1, 1), (yX7_pile, cX7_pile, 2, none, 7, 1, 1), (yX7_addStep, cX7_addStep, 2, none, 7, 1, 1), (yX7_countPart, cX7_countPart, 1, none, 7, 1, 0), (yX8_init, cX8_init, 1, none, 8, 3, 0), (yX8_append, cX8_append, 3, none, 8, 1, 1), (yX8_start, cX8_start, 1, none, 8, 1, 0), (yX8_refuse, cX8_refuse, 2, none, 8, 1, 1), (yX8_isWord, cX8_isWord, 2, (some .boolean), 8, 1, 1), (yX8_isSign, cX8_isSign, 2, (some .boolean), 8, 1, 1), (yX8_next, cX8_next, 1, none, 8, 1, 0)]
def mtl_4 : List MT := [(yX8_takeNumber, cX8_takeNumber, 1, none, 8, 1, 0), (yX8_takeWord, cX8_takeWord, 6, none, 8, 1, 0), (yX8_takeSign, cX8_takeSign, 1, none, 8, 1, 0), (yX8_number, cX8_number, 4, (some .int), 8, 1, 2), (yX8_isLetter, cX8_isLetter, 1, (some .boolean), 8, 0, 1), (yX8_isDigit, cX8_isDigit, 1, (some .boolean), 8, 0, 1), (yX9_init, cX9_init, 1, none, 9, 3, 0), (yX9_settleOn, cX9_settleOn, 2, none, 9, 1, 1), (yX9_hasRunner, cX9_hasRunner, 2, (some .boolean), 9, 1, 1), (yX9_hasWare, cX9_hasWare, 2, (some .boolean), 9, 1, 1), (yX9_wealthOfAll, cX9_wealthOfAll, 3, (some .int), 9, 1, 0), (yX9_waresThere, cX9_waresThere, 3, (some .int), 9, 1, 0), (yX9_writeDown, cX9_writeDown, 4, none, 9, 1, 3), (yX9_remember, cX9_remember, 1, none, 9, 1, 0), (yX9_forgetOldest, cX9_forgetOldest, 3, none, 9, 1, 0), (yX9_keep, cX9_keep, 3, none, 9, 1, 2), (yX9_takeBack, cX9_takeBack, 1, (some .boolean), 9, 1, 0), (yX9_become, cX9_become, 3, none, 9, 1, 1), (yX10_init, cX10_init, 1, none, 10, 3, 0), (yX10_hear, cX10_hear, 6, none, 10, 1, 4)]
def mtl_5 : List MT := [(yX10_fits, cX10_fits, 6, (some .boolean), 10, 1, 3), (yX10_lastOf, cX10_lastOf, 4, (some .int), 10, 0, 2), (yX10_agrees, cX10_agrees, 4, (some .boolean), 10, 1, 2), (yX10_bestWare, cX10_bestWare, 7, (some .int), 10, 1, 2), (yX10_mostAlike, cX10_mostAlike, 6, (some .int), 10, 1, 1), (yX11_init, cX11_init, 1, none, 11, 2, 0), (yX11_feed, cX11_feed, 6, (some .int), 11, 1, 5), (yX11_end, cX11_end, 2, (some .int), 11, 1, 1), (yX11_hill, cX11_hill, 3, (some .int), 11, 1, 0), (yX11_rule, cX11_rule, 2, (some .int), 11, 1, 0), (yX11_force, cX11_force, 3, (some .int), 11, 1, 1), (yX11_runner, cX11_runner, 3, (some .int), 11, 1, 2), (yX11_ware, cX11_ware, 3, (some .int), 11, 1, 2), (yX11_day, cX11_day, 1, (some .int), 11, 1, 0), (yX11_lend, cX11_lend, 4, (some .int), 11, 1, 3), (yX11_fall, cX11_fall, 3, (some .int), 11, 1, 1), (yX11_shift, cX11_shift, 4, (some .int), 11, 1, 2), (yX11_train, cX11_train, 4, (some .int), 11, 1, 2), (yX11_undo, cX11_undo, 1, (some .int), 11, 1, 0), (yX11_ahead, cX11_ahead, 5, (some .int), 11, 1, 3)]
def mtl_6 : List MT := [(yX11_gets, cX11_gets, 3, (some .int), 11, 1, 2), (yX11_rank, cX11_rank, 5, (some .int), 11, 1, 2), (yX11_need, cX11_need, 4, (some .int), 11, 1, 3), (yX11_lender, cX11_lender, 4, (some .int), 11, 1, 3), (yX11_row, cX11_row, 4, (some .int), 11, 1, 3), (yX11_settle, cX11_settle, 1, (some .int), 11, 1, 0), (yX11_rings, cX11_rings, 3, (some .int), 11, 1, 1), (yX11_had, cX11_had, 6, (some .int), 11, 1, 4), (yX11_rests, cX11_rests, 5, (some .int), 11, 1, 3), (yX11_pence, cX11_pence, 3, (some .int), 11, 1, 2), (yX11_note, cX11_note, 5, (some .int), 11, 1, 3), (yX11_ruled, cX11_ruled, 2, (some .int), 11, 1, 1), (yX11_look, cX11_look, 3, (some .int), 11, 1, 2), (yX11_seed, cX11_seed, 3, (some .int), 11, 1, 1), (yX11_falls, cX11_falls, 6, (some .int), 11, 1, 4), (yX11_count, cX11_count, 2, (some .int), 11, 1, 1), (yX11_image, cX11_image, 2, (some .int), 11, 1, 1), (yX11_back, cX11_back, 2, (some .int), 11, 1, 1), (yX11_ruleInForce, cX11_ruleInForce, 1, (some (.object "HeadHill$Rule")), 11, 1, 0), (yX11_isWithin, cX11_isWithin, 3, (some .boolean), 11, 0, 3)]
def mtl_7 : List MT := [(yX12_init, cX12_init, 1, none, 12, 2, 0), (yX12_in, cX12_in, 6, (some .boolean), 12, 0, 3), (yX12_bits, cX12_bits, 3, (some .int), 12, 0, 1), (yX12_has, cX12_has, 2, (some .boolean), 12, 0, 2), (yX12_isHill, cX12_isHill, 1, (some .boolean), 12, 1, 0), (yX12_isRunner, cX12_isRunner, 2, (some .boolean), 12, 1, 1), (yX12_isWare, cX12_isWare, 2, (some .boolean), 12, 1, 1), (yX12_feed, cX12_feed, 6, (some .int), 12, 1, 5), (yX12_put, cX12_put, 3, none, 12, 1, 1), (yX12_end, cX12_end, 2, (some .int), 12, 1, 1), (yX12_wordOf, cX12_wordOf, 1, (some (.object "java/lang/String")), 12, 0, 1), (yX12_fails, cX12_fails, 3, none, 12, 1, 2), (yX12_sign, cX12_sign, 1, (some .int), 12, 1, 0), (yX12_blanks, cX12_blanks, 1, none, 12, 1, 0), (yX12_isDigit, cX12_isDigit, 1, (some .boolean), 12, 1, 0), (yX12_stood, cX12_stood, 5, (some .boolean), 12, 1, 1), (yX12_takes, cX12_takes, 3, (some .boolean), 12, 1, 1), (yX12_entry, cX12_entry, 3, none, 12, 1, 2), (yX12_isCounted, cX12_isCounted, 2, none, 12, 1, 1), (yX12_digits, cX12_digits, 4, (some .int), 12, 1, 1)]
def mtl_8 : List MT := [(yX12_value, cX12_value, 3, none, 12, 1, 0), (yX12_term, cX12_term, 2, none, 12, 1, 0), (yX12_sum, cX12_sum, 2, none, 12, 1, 0), (yX12_compared, cX12_compared, 3, none, 12, 1, 0), (yX12_top, cX12_top, 1, (some .int), 12, 1, 0), (yX12_opens, cX12_opens, 2, none, 12, 1, 1), (yX12_answers, cX12_answers, 2, none, 12, 1, 1), (yX12_fact, cX12_fact, 1, (some .boolean), 12, 1, 0), (yX12_test, cX12_test, 5, none, 12, 1, 0), (yX12_amount, cX12_amount, 5, (some .int), 12, 1, 2), (yX12_hillWord, cX12_hillWord, 1, (some (.object "java/lang/String")), 12, 0, 1), (yX12_hillPart, cX12_hillPart, 3, none, 12, 1, 1), (yX12_isFull, cX12_isFull, 3, (some .boolean), 12, 1, 2), (yX12_hillClause, cX12_hillClause, 4, none, 12, 1, 1), (yX12_copies, cX12_copies, 3, none, 12, 0, 2), (yX12_goesOn, cX12_goesOn, 2, (some .boolean), 12, 1, 0), (yX12_starts, cX12_starts, 1, none, 12, 1, 0), (yX12_readsAll, cX12_readsAll, 3, none, 12, 1, 0), (yX12_begins, cX12_begins, 2, none, 12, 1, 0), (yX12_hill, cX12_hill, 2, (some .int), 12, 1, 0)]
def mtl_9 : List MT := [(yX12_ruleClause, cX12_ruleClause, 4, none, 12, 1, 1), (yX12_rule, cX12_rule, 3, (some .int), 12, 1, 0), (yX12_force, cX12_force, 3, (some .int), 12, 1, 1), (yX12_wanted, cX12_wanted, 3, (some .long), 12, 1, 0), (yX12_truth, cX12_truth, 1, (some .long), 12, 0, 1), (yX12_both, cX12_both, 5, (some .long), 12, 0, 3), (yX12_answer, cX12_answer, 8, (some .long), 12, 1, 3), (yX12_isThere, cX12_isThere, 2, (some .boolean), 12, 1, 1), (yX12_runner, cX12_runner, 3, (some .int), 12, 1, 2), (yX12_ware, cX12_ware, 3, (some .int), 12, 1, 2), (yX12_isAhead, cX12_isAhead, 6, (some .boolean), 12, 1, 3), (yX12_allWealth, cX12_allWealth, 3, (some .int), 12, 1, 0), (yX12_rivals, cX12_rivals, 5, (some .int), 12, 1, 2), (yX12_lead, cX12_lead, 4, (some .int), 12, 1, 1), (yX12_likes, cX12_likes, 3, (some .long), 12, 1, 2), (yX12_choice, cX12_choice, 8, (some .int), 12, 1, 1), (yX12_firstTo, cX12_firstTo, 4, (some .int), 12, 1, 1), (yX12_pays, cX12_pays, 4, none, 12, 1, 1), (yX12_goes, cX12_goes, 4, (some .int), 12, 1, 0), (yX12_goFor, cX12_goFor, 3, none, 12, 1, 1)]
def mtl_10 : List MT := [(yX12_moves, cX12_moves, 3, (some .int), 12, 1, 1), (yX12_movesRow, cX12_movesRow, 3, none, 12, 1, 1), (yX12_movesAll, cX12_movesAll, 3, none, 12, 1, 2), (yX12_keepsAct, cX12_keepsAct, 2, none, 12, 1, 0), (yX12_undo, cX12_undo, 1, (some .int), 12, 1, 0), (yX12_day, cX12_day, 1, (some .int), 12, 1, 0), (yX12_canLend, cX12_canLend, 4, (some .boolean), 12, 1, 3), (yX12_lend, cX12_lend, 4, (some .int), 12, 1, 3), (yX12_fall, cX12_fall, 3, (some .int), 12, 1, 1), (yX12_shift, cX12_shift, 4, (some .int), 12, 1, 2), (yX12_train, cX12_train, 4, (some .int), 12, 1, 2), (yX12_keepsAll, cX12_keepsAll, 1, none, 12, 1, 0), (yX12_laysBack, cX12_laysBack, 1, none, 12, 1, 0), (yX12_ahead, cX12_ahead, 6, (some .int), 12, 1, 3), (yX12_firstGot, cX12_firstGot, 3, (some .int), 12, 1, 1), (yX12_gets, cX12_gets, 6, (some .int), 12, 1, 2), (yX12_rank, cX12_rank, 5, (some .int), 12, 1, 2), (yX12_wealthIn, cX12_wealthIn, 4, (some .int), 12, 1, 2), (yX12_need, cX12_need, 6, (some .int), 12, 1, 3), (yX12_lender, cX12_lender, 8, (some .int), 12, 1, 3)]
def mtl_11 : List MT := [(yX12_wealthByRow, cX12_wealthByRow, 8, (some .int), 12, 1, 4), (yX12_row, cX12_row, 8, (some .int), 12, 1, 3), (yX12_sumOf, cX12_sumOf, 4, (some .int), 12, 1, 1), (yX12_settle, cX12_settle, 6, (some .int), 12, 1, 0), (yX12_rings, cX12_rings, 5, (some .int), 12, 1, 1), (yX12_had, cX12_had, 9, (some .int), 12, 1, 4), (yX12_mayRun, cX12_mayRun, 2, (some .boolean), 12, 1, 1), (yX12_laysRuns, cX12_laysRuns, 6, none, 12, 1, 2), (yX12_isRest, cX12_isRest, 3, (some .boolean), 12, 1, 1), (yX12_rests, cX12_rests, 7, (some .int), 12, 1, 3), (yX12_pence, cX12_pence, 8, (some .int), 12, 1, 2), (yX12_note, cX12_note, 5, (some .int), 12, 1, 3), (yX12_couldRule, cX12_couldRule, 4, (some .boolean), 12, 1, 1), (yX12_ruled, cX12_ruled, 5, (some .int), 12, 1, 1), (yX12_mostAlike, cX12_mostAlike, 7, (some .int), 12, 1, 2), (yX12_look, cX12_look, 6, (some .int), 12, 1, 2), (yX12_seed, cX12_seed, 3, (some .int), 12, 1, 1), (yX12_draws, cX12_draws, 2, (some .int), 12, 1, 1), (yX12_greatestPurse, cX12_greatestPurse, 3, (some .int), 12, 1, 0), (yX12_falls, cX12_falls, 11, (some .int), 12, 1, 4)]
def mtl_12 : List MT := [(yX12_allThere, cX12_allThere, 3, (some .int), 12, 1, 0), (yX12_count, cX12_count, 2, (some .int), 12, 1, 1), (yX12_carryRow, cX12_carryRow, 3, none, 12, 1, 1), (yX12_carriesAll, cX12_carriesAll, 3, none, 12, 1, 2), (yX12_image, cX12_image, 2, (some .int), 12, 1, 1), (yX12_back, cX12_back, 2, (some .int), 12, 1, 1), (yJ7_fill_53178, cJ7_fill_53178, 4, none, 99, 0, 2), (yJ7_copyOf_59c91, cJ7_copyOf_59c91, 3, (some (.array .int)), 99, 0, 2), (yJ6_bitCount_0f7a4, cJ6_bitCount_0f7a4, 1, (some .int), 99, 0, 1), (yJ0_length_8abf5, cJ0_length_8abf5, 1, (some .int), 99, 1, 0), (yJ0_charAt_5068e, cJ0_charAt_5068e, 2, (some .char), 99, 1, 1), (yJ0_coder_7d493, cJ0_coder_7d493, 1, (some .byte), 99, 1, 0), (yJ0_isLatin1_aae02, cJ0_isLatin1_aae02, 1, (some .boolean), 99, 1, 0), (yJ1_charAt_3b067, cJ1_charAt_3b067, 2, (some .char), 99, 0, 2), (yJ0_checkIndex_df160, cJ0_checkIndex_df160, 2, none, 99, 0, 2), (yJ3_checkIndex_8e157, cJ3_checkIndex_8e157, 3, (some .int), 99, 0, 3)]
def mtl : List MT := mtl_0 ++ mtl_1 ++ mtl_2 ++ mtl_3 ++ mtl_4 ++ mtl_5 ++ mtl_6 ++ mtl_7 ++ mtl_8 ++ mtl_9 ++ mtl_10 ++ mtl_11 ++ mtl_12
def mOkB (q : MT) (a : List (Nat × Nat)) : Bool := plainName q.1.cls && inA (a.getD 0 (0, 0)) (Cond.code q.1 q.2.1 q.2.2.1 q.2.2.2.1) && inA (a.getD 1 (0, 0)) (Cond.initialized q.1.cls) && decide (q.1.cls ≠ "java/lang/invoke/MethodHandle" ∧ q.1.cls ≠ "java/lang/invoke/VarHandle" ∧ (parseMethodDescriptor q.1.desc).map (fun d => d.parameters.length) = some q.2.2.2.2.2.2) && decide (q.2.2.1 + 19 ≤ 64) && (decide (q.2.2.2.2.2.1 ≠ 0) || inA (a.getD 2 (0, 0)) (Cond.static q.1)) && (decide (q.2.2.2.2.2.1 = 0) || inA (a.getD 2 (0, 0)) (Cond.instanceMethod q.1)) && (decide (q.2.2.2.2.2.1 ≠ 1) || inA (a.getD 3 (0, 0)) (Cond.selects q.1.cls q.1 q.1)) && (decide (¬ 2 ≤ q.2.2.2.2.2.1) || (decide (q.1.name = "<init>") && decide (q.2.2.2.1 = none)))
theorem mOk_of {q : MT} {a : List (Nat × Nat)} (h : mOkB q a = true) : mOk q := by
  simp only [mOkB, Bool.and_eq_true, Bool.or_eq_true, decide_eq_true_eq] at h
  obtain ⟨⟨⟨⟨⟨⟨⟨⟨h1, h2⟩, h3⟩, h4⟩, h5⟩, h6⟩, h7⟩, h8⟩, h9⟩ := h
  exact ⟨h1, inA_ok h2, inA_ok h3, h4, h5, fun e => h6.elim (fun z => absurd e z) inA_ok, fun e => h7.elim (fun z => absurd z e) inA_ok, fun e => h8.elim (fun z => absurd e z) inA_ok, fun e => h9.elim (fun z => absurd e z) id⟩
theorem mOk_all : ∀ (l : List MT) (as : List (List (Nat × Nat))), (l.zip as).all (fun z => mOkB z.1 z.2) = true → l.length ≤ as.length → ∀ q ∈ l, mOk q
  | [], _, _, _, q, hq => absurd hq List.not_mem_nil
  | x :: l, [], _, h, q, hq => absurd h (by simp)
  | x :: l, a :: as, h, hl, q, hq => by
    simp only [List.zip_cons_cons, List.all_cons, Bool.and_eq_true] at h
    rcases List.mem_cons.mp hq with rfl | hq
    · exact mOk_of h.1
    · exact mOk_all l as h.2 (by simpa using hl) q hq
theorem mtl_0_ok : ∀ q ∈ mtl_0, mOk q := mOk_all _ [[(2, 27), (1, 9), (2, 26)], [(4, 148), (1, 9), (4, 146), (4, 147)], [(4, 152), (1, 9), (4, 150), (4, 151)], [(4, 156), (1, 9), (4, 155), (0, 30)], [(4, 160), (1, 9), (4, 159), (0, 31)], [(4, 165), (1, 9), (4, 164), (0, 32)], [(4, 214), (1, 9), (4, 212), (4, 213)], [(4, 218), (1, 9), (4, 217), (0, 33)], [(4, 222), (1, 9), (4, 221), (0, 34)], [(4, 226), (1, 9), (4, 225), (0, 35)], [(1, 216), (1, 6), (1, 215)], [(4, 1), (1, 6), (3, 239), (4, 0)], [(4, 4), (1, 6), (4, 3)], [(4, 9), (1, 6), (4, 8), (0, 22)], [(4, 13), (1, 6), (4, 12), (0, 23)], [(4, 16), (1, 6), (4, 15)], [(4, 28), (1, 6), (4, 27), (0, 24)], [(4, 43), (1, 6), (4, 42), (0, 26)], [(4, 51), (1, 6), (4, 50), (0, 27)], [(4, 56), (1, 6), (4, 55), (0, 28)]] (by decide +kernel) (by decide)
theorem mtl_1_ok : ∀ q ∈ mtl_1, mOk q := mOk_all _ [[(2, 0), (1, 8), (1, 239)], [(4, 98), (1, 8), (4, 96), (4, 97)], [(4, 103), (1, 8), (4, 101), (4, 102)], [(4, 112), (1, 8), (4, 110), (4, 111)], [(4, 126), (1, 8), (4, 124), (4, 125)], [(4, 130), (1, 8), (4, 129), (0, 29)], [(4, 138), (1, 8), (4, 136), (4, 137)], [(4, 206), (1, 8), (4, 204), (4, 205)], [(5, 49), (1, 8), (5, 47), (5, 48)], [(5, 53), (1, 8), (5, 52), (0, 39)], [(5, 57), (1, 8), (5, 56), (0, 40)], [(5, 65), (1, 8), (5, 64), (0, 41)], [(5, 69), (1, 8), (5, 68), (0, 42)], [(2, 162), (1, 13), (2, 161)], [(2, 208), (1, 13), (2, 206), (2, 207)], [(3, 47), (1, 13), (3, 46), (0, 3)], [(3, 210), (1, 13), (3, 208), (3, 209)], [(4, 24), (1, 13), (4, 22), (4, 23)], [(1, 120), (1, 5), (1, 119)], [(3, 73), (1, 5), (3, 71), (3, 72)]] (by decide +kernel) (by decide)
theorem mtl_2_ok : ∀ q ∈ mtl_2, mOk q := mOk_all _ [[(3, 230), (1, 5), (3, 228), (3, 229)], [(4, 47), (1, 5), (4, 45), (4, 46)], [(4, 60), (1, 5), (4, 58), (4, 59)], [(4, 64), (1, 5), (4, 62), (4, 63)], [(2, 102), (1, 11), (2, 101)], [(4, 179), (1, 11), (4, 178)], [(4, 176), (1, 11), (4, 174), (4, 175)], [(4, 188), (1, 11), (4, 186), (4, 187)], [(4, 192), (1, 11), (4, 190), (4, 191)], [(4, 234), (1, 11), (4, 232), (4, 233)], [(3, 175), (1, 19), (3, 174)], [(3, 128), (1, 19), (3, 127)], [(3, 131), (1, 19), (3, 130)], [(4, 32), (1, 19), (4, 30), (4, 31)], [(4, 36), (1, 19), (4, 35), (0, 25)], [(4, 39), (1, 19), (4, 38)], [(1, 34), (1, 2), (1, 33)], [(3, 85), (1, 2), (3, 83), (3, 84)], [(3, 90), (1, 2), (3, 89), (0, 4)], [(3, 94), (1, 2), (3, 93), (0, 5)]] (by decide +kernel) (by decide)
theorem mtl_3_ok : ∀ q ∈ mtl_3, mOk q := mOk_all _ [[(3, 100), (1, 2), (3, 99), (0, 6)], [(3, 112), (1, 2), (3, 111), (0, 9)], [(3, 121), (1, 2), (3, 120), (0, 11)], [(3, 125), (1, 2), (3, 124), (0, 12)], [(3, 151), (1, 2), (3, 150), (0, 17)], [(3, 143), (1, 2), (3, 142), (0, 15)], [(3, 155), (1, 2), (3, 154), (0, 18)], [(3, 147), (1, 2), (3, 146), (0, 16)], [(3, 135), (1, 2), (3, 134), (0, 13)], [(3, 139), (1, 2), (3, 138), (0, 14)], [(3, 117), (1, 2), (3, 116), (0, 10)], [(3, 108), (1, 2), (3, 107), (0, 8)], [(3, 104), (1, 2), (3, 103), (0, 7)], [(1, 40), (1, 3), (1, 39)], [(2, 149), (1, 3), (2, 147), (2, 148)], [(2, 212), (1, 3), (2, 210), (2, 211)], [(3, 60), (1, 3), (3, 58), (3, 59)], [(3, 51), (1, 3), (3, 49), (3, 50)], [(3, 65), (1, 3), (3, 63), (3, 64)], [(2, 216), (1, 3), (2, 214), (2, 215)]] (by decide +kernel) (by decide)
theorem mtl_4_ok : ∀ q ∈ mtl_4, mOk q := mOk_all _ [[(2, 223), (1, 3), (2, 222), (0, 0)], [(2, 230), (1, 3), (2, 229), (0, 1)], [(3, 43), (1, 3), (3, 42), (0, 2)], [(3, 56), (1, 3), (3, 54), (3, 55)], [(2, 226), (1, 3), (2, 225)], [(2, 219), (1, 3), (2, 218)], [(1, 114), (1, 4), (1, 113)], [(3, 69), (1, 4), (3, 67), (3, 68)], [(3, 198), (1, 4), (3, 196), (3, 197)], [(3, 206), (1, 4), (3, 204), (3, 205)], [(5, 78), (1, 4), (5, 76), (5, 77)], [(5, 82), (1, 4), (5, 80), (5, 81)], [(5, 2), (1, 4), (5, 0), (5, 1)], [(3, 218), (1, 4), (3, 216), (3, 217)], [(3, 222), (1, 4), (3, 221), (0, 19)], [(3, 226), (1, 4), (3, 225), (0, 20)], [(4, 90), (1, 4), (4, 88), (4, 89)], [(5, 92), (1, 4), (5, 90), (5, 91)], [(2, 73), (1, 10), (2, 72)], [(5, 10), (1, 10), (5, 8), (5, 9)]] (by decide +kernel) (by decide)
theorem mtl_5_ok : ∀ q ∈ mtl_5, mOk q := mOk_all _ [[(5, 14), (1, 10), (5, 13), (0, 36)], [(5, 18), (1, 10), (5, 17)], [(5, 24), (1, 10), (5, 23), (0, 37)], [(5, 33), (1, 10), (5, 31), (5, 32)], [(5, 37), (1, 10), (5, 36), (0, 38)], [(1, 26), (1, 1), (1, 25)], [(2, 145), (1, 1), (2, 143), (2, 144)], [(2, 153), (1, 1), (2, 151), (2, 152)], [(2, 157), (1, 1), (2, 155), (2, 156)], [(3, 81), (1, 1), (3, 79), (3, 80)], [(3, 190), (1, 1), (3, 188), (3, 189)], [(3, 194), (1, 1), (3, 192), (3, 193)], [(3, 202), (1, 1), (3, 200), (3, 201)], [(3, 214), (1, 1), (3, 212), (3, 213)], [(4, 68), (1, 1), (4, 66), (4, 67)], [(4, 74), (1, 1), (4, 72), (4, 73)], [(4, 78), (1, 1), (4, 76), (4, 77)], [(4, 82), (1, 1), (4, 80), (4, 81)], [(4, 86), (1, 1), (4, 84), (4, 85)], [(4, 94), (1, 1), (4, 92), (4, 93)]] (by decide +kernel) (by decide)
theorem mtl_6_ok : ∀ q ∈ mtl_6, mOk q := mOk_all _ [[(4, 108), (1, 1), (4, 106), (4, 107)], [(4, 117), (1, 1), (4, 115), (4, 116)], [(4, 122), (1, 1), (4, 120), (4, 121)], [(4, 134), (1, 1), (4, 132), (4, 133)], [(4, 144), (1, 1), (4, 142), (4, 143)], [(4, 172), (1, 1), (4, 170), (4, 171)], [(4, 184), (1, 1), (4, 182), (4, 183)], [(4, 202), (1, 1), (4, 200), (4, 201)], [(4, 210), (1, 1), (4, 208), (4, 209)], [(4, 230), (1, 1), (4, 228), (4, 229)], [(4, 238), (1, 1), (4, 236), (4, 237)], [(5, 6), (1, 1), (5, 4), (5, 5)], [(5, 29), (1, 1), (5, 27), (5, 28)], [(5, 41), (1, 1), (5, 39), (5, 40)], [(5, 45), (1, 1), (5, 43), (5, 44)], [(5, 74), (1, 1), (5, 72), (5, 73)], [(5, 88), (1, 1), (5, 86), (5, 87)], [(5, 97), (1, 1), (5, 95), (5, 96)], [(3, 234), (1, 1), (3, 233), (0, 21)], [(3, 237), (1, 1), (3, 236)]] (by decide +kernel) (by decide)
theorem mtl_7_ok : ∀ q ∈ mtl_7, mOk q := mOk_all _ [[(5, 102), (1, 12), (5, 101)], [(6, 119), (1, 12), (6, 118)], [(7, 160), (1, 12), (7, 159)], [(7, 157), (1, 12), (7, 156)], [(7, 14), (1, 12), (7, 13), (0, 77)], [(6, 217), (1, 12), (6, 216), (0, 71)], [(6, 226), (1, 12), (6, 225), (0, 72)], [(6, 45), (1, 12), (6, 43), (6, 44)], [(6, 49), (1, 12), (6, 48), (0, 43)], [(6, 53), (1, 12), (6, 51), (6, 52)], [(6, 162), (1, 12), (6, 161)], [(6, 93), (1, 12), (6, 92), (0, 50)], [(6, 77), (1, 12), (6, 76), (0, 48)], [(6, 73), (1, 12), (6, 72), (0, 47)], [(6, 114), (1, 12), (6, 113), (0, 55)], [(6, 87), (1, 12), (6, 86), (0, 49)], [(6, 177), (1, 12), (6, 176), (0, 64)], [(6, 159), (1, 12), (6, 158), (0, 63)], [(6, 155), (1, 12), (6, 154), (0, 62)], [(6, 110), (1, 12), (6, 109), (0, 54)]] (by decide +kernel) (by decide)
theorem mtl_8_ok : ∀ q ∈ mtl_8, mOk q := mOk_all _ [[(6, 151), (1, 12), (6, 150), (0, 61)], [(6, 147), (1, 12), (6, 146), (0, 60)], [(6, 143), (1, 12), (6, 142), (0, 59)], [(6, 194), (1, 12), (6, 193), (0, 68)], [(6, 202), (1, 12), (6, 201), (0, 70)], [(6, 190), (1, 12), (6, 189), (0, 67)], [(6, 198), (1, 12), (6, 197), (0, 69)], [(6, 185), (1, 12), (6, 184), (0, 66)], [(6, 181), (1, 12), (6, 180), (0, 65)], [(6, 105), (1, 12), (6, 104), (0, 53)], [(6, 80), (1, 12), (6, 79)], [(6, 101), (1, 12), (6, 100), (0, 52)], [(6, 97), (1, 12), (6, 96), (0, 51)], [(6, 69), (1, 12), (6, 68), (0, 46)], [(6, 126), (1, 12), (6, 125)], [(6, 123), (1, 12), (6, 122), (0, 56)], [(6, 65), (1, 12), (6, 64), (0, 45)], [(6, 61), (1, 12), (6, 60), (0, 44)], [(6, 130), (1, 12), (6, 129), (0, 57)], [(6, 57), (1, 12), (6, 55), (6, 56)]] (by decide +kernel) (by decide)
theorem mtl_9_ok : ∀ q ∈ mtl_9, mOk q := mOk_all _ [[(6, 138), (1, 12), (6, 137), (0, 58)], [(6, 134), (1, 12), (6, 132), (6, 133)], [(6, 208), (1, 12), (6, 206), (6, 207)], [(7, 42), (1, 12), (7, 41), (0, 84)], [(7, 52), (1, 12), (7, 51)], [(7, 49), (1, 12), (7, 48)], [(7, 46), (1, 12), (7, 45), (0, 85)], [(6, 230), (1, 12), (6, 229), (0, 73)], [(6, 213), (1, 12), (6, 211), (6, 212)], [(6, 222), (1, 12), (6, 220), (6, 221)], [(7, 60), (1, 12), (7, 59), (0, 87)], [(7, 192), (1, 12), (7, 191), (0, 102)], [(7, 34), (1, 12), (7, 33), (0, 82)], [(7, 38), (1, 12), (7, 37), (0, 83)], [(7, 30), (1, 12), (7, 29), (0, 81)], [(7, 26), (1, 12), (7, 25), (0, 80)], [(7, 56), (1, 12), (7, 55), (0, 86)], [(7, 64), (1, 12), (7, 63), (0, 88)], [(7, 22), (1, 12), (7, 21), (0, 79)], [(7, 107), (1, 12), (7, 106), (0, 93)]] (by decide +kernel) (by decide)
theorem mtl_10_ok : ∀ q ∈ mtl_10, mOk q := mOk_all _ [[(7, 2), (1, 12), (7, 1), (0, 75)], [(7, 6), (1, 12), (7, 5), (0, 76)], [(6, 238), (1, 12), (6, 237), (0, 74)], [(7, 18), (1, 12), (7, 17), (0, 78)], [(6, 234), (1, 12), (6, 232), (6, 233)], [(7, 10), (1, 12), (7, 8), (7, 9)], [(7, 73), (1, 12), (7, 72), (0, 89)], [(7, 68), (1, 12), (7, 66), (7, 67)], [(7, 77), (1, 12), (7, 75), (7, 76)], [(7, 81), (1, 12), (7, 79), (7, 80)], [(7, 86), (1, 12), (7, 84), (7, 85)], [(7, 95), (1, 12), (7, 94), (0, 90)], [(7, 111), (1, 12), (7, 110), (0, 94)], [(7, 90), (1, 12), (7, 88), (7, 89)], [(7, 119), (1, 12), (7, 118), (0, 95)], [(7, 115), (1, 12), (7, 113), (7, 114)], [(7, 123), (1, 12), (7, 121), (7, 122)], [(7, 133), (1, 12), (7, 132), (0, 96)], [(7, 127), (1, 12), (7, 125), (7, 126)], [(7, 137), (1, 12), (7, 135), (7, 136)]] (by decide +kernel) (by decide)
theorem mtl_11_ok : ∀ q ∈ mtl_11, mOk q := mOk_all _ [[(7, 146), (1, 12), (7, 145), (0, 97)], [(7, 141), (1, 12), (7, 139), (7, 140)], [(7, 154), (1, 12), (7, 153), (0, 98)], [(7, 150), (1, 12), (7, 148), (7, 149)], [(7, 164), (1, 12), (7, 162), (7, 163)], [(7, 168), (1, 12), (7, 166), (7, 167)], [(7, 180), (1, 12), (7, 179), (0, 100)], [(7, 176), (1, 12), (7, 175), (0, 99)], [(7, 184), (1, 12), (7, 183), (0, 101)], [(7, 172), (1, 12), (7, 170), (7, 171)], [(7, 188), (1, 12), (7, 186), (7, 187)], [(7, 196), (1, 12), (7, 194), (7, 195)], [(7, 204), (1, 12), (7, 203), (0, 103)], [(7, 200), (1, 12), (7, 198), (7, 199)], [(7, 212), (1, 12), (7, 211), (0, 104)], [(7, 208), (1, 12), (7, 206), (7, 207)], [(7, 216), (1, 12), (7, 214), (7, 215)], [(7, 225), (1, 12), (7, 224), (0, 105)], [(7, 233), (1, 12), (7, 232), (0, 106)], [(7, 220), (1, 12), (7, 218), (7, 219)]] (by decide +kernel) (by decide)
theorem mtl_12_ok : ∀ q ∈ mtl_12, mOk q := mOk_all _ [[(8, 1), (1, 12), (8, 0), (0, 107)], [(7, 237), (1, 12), (7, 235), (7, 236)], [(7, 103), (1, 12), (7, 102), (0, 92)], [(7, 99), (1, 12), (7, 98), (0, 91)], [(8, 5), (1, 12), (8, 3), (8, 4)], [(8, 9), (1, 12), (8, 7), (8, 8)], [(1, 220), (1, 7), (1, 219)], [(3, 161), (1, 7), (3, 160)], [(4, 195), (1, 21), (4, 194)], [(2, 235), (1, 14), (2, 233), (2, 234)], [(3, 5), (1, 14), (3, 3), (3, 4)], [(2, 239), (1, 14), (2, 237), (2, 238)], [(3, 9), (1, 14), (3, 7), (3, 8)], [(3, 12), (1, 15), (3, 11)], [(3, 15), (1, 14), (3, 14)], [(3, 20), (1, 16), (3, 19)]] (by decide +kernel) (by decide)
theorem mtl_ok {y : Nat} {q : MT} (h : mtl[y]? = some q) : mOk q := by
  have h := List.mem_of_getElem? h
  simp only [mtl, List.mem_append] at h
  rcases h with (((((((((((h | h) | h) | h) | h) | h) | h) | h) | h) | h) | h) | h) | h
  · exact mtl_0_ok q h
  · exact mtl_1_ok q h
  · exact mtl_2_ok q h
  · exact mtl_3_ok q h
  · exact mtl_4_ok q h
  · exact mtl_5_ok q h
  · exact mtl_6_ok q h
  · exact mtl_7_ok q h
  · exact mtl_8_ok q h
  · exact mtl_9_ok q h
  · exact mtl_10_ok q h
  · exact mtl_11_ok q h
  · exact mtl_12_ok q h
theorem zip_all {α β : Type} {f : α → β → Bool} : ∀ (l : List α) (as : List β), (l.zip as).all (fun z => f z.1 z.2) = true → l.length ≤ as.length → ∀ q ∈ l, ∃ a, f q a = true
  | [], _, _, _, q, hq => absurd hq List.not_mem_nil
  | x :: l, [], _, h, q, hq => absurd h (by simp)
  | x :: l, a :: as, h, hl, q, hq => by
    simp only [List.zip_cons_cons, List.all_cons, Bool.and_eq_true] at h
    rcases List.mem_cons.mp hq with rfl | hq
    · exact ⟨a, h.1⟩
    · exact zip_all l as h.2 (by simpa using hl) q hq
def fldT_b (q : String × Nat × Nat × Nat) (a : Nat × Nat) : Bool := match cl13[q.2.2.1]? with | some c => decide (q.2.2.2 < c.2.2) && inA a (Cond.fieldLink q.1 q.2.1 (c.2.1 q.2.2.2).1 (c.2.1 q.2.2.2).2.1 (c.2.1 q.2.2.2).2.2.1) | none => false
def fldT_0 : List (String × Nat × Nat × Nat) := [("HeadHill$Text", 9, 8, 0), ("HeadHill$Text", 15, 8, 1), ("HeadHill", 79, 8, 1), ("HeadHill$Text", 19, 8, 2), ("HeadHill$Hill", 46, 8, 2), ("HeadHill$RuleReader", 53, 8, 2), ("HeadHill", 95, 8, 2), ("HeadHill$Text", 22, 8, 3), ("HeadHill$Text", 25, 8, 4), ("HeadHill$Hill", 56, 8, 4), ("HeadHill$RuleReader", 93, 8, 4), ("HeadHill$Text", 28, 8, 5), ("HeadHill$RuleReader", 96, 8, 5), ("HeadHill$Text", 31, 8, 6), ("HeadHill$RuleReader", 12, 7, 0), ("HeadHill", 16, 7, 0), ("HeadHill$RuleReader", 18, 7, 1), ("HeadHill$RuleReader", 22, 7, 2), ("HeadHill$RuleReader", 25, 7, 3), ("HeadHill$RuleReader", 28, 7, 4), ("HeadHill$RuleReader", 32, 7, 5), ("HeadHill$RuleReader", 35, 7, 6), ("HeadHill$RuleReader", 38, 7, 7), ("HeadHill$RuleReader", 41, 7, 8), ("HeadHill$RuleReader", 44, 7, 9)]
theorem fldT_0_all : ∀ q ∈ fldT_0, ∃ a, fldT_b q a = true := zip_all _ [(1, 42), (1, 43), (1, 44), (1, 45), (1, 46), (1, 47), (1, 48), (1, 49), (1, 50), (1, 51), (1, 52), (1, 53), (1, 54), (1, 55), (1, 72), (1, 73), (1, 74), (1, 75), (1, 76), (1, 77), (1, 78), (1, 79), (1, 80), (1, 81), (1, 82)] (by decide +kernel) (by decide)
def fldT_1 : List (String × Nat × Nat × Nat) := [("HeadHill$RuleReader", 47, 7, 10), ("HeadHill$Moment", 9, 4, 0), ("HeadHill$Course", 41, 4, 0), ("HeadHill$Future", 54, 4, 0), ("HeadHill$Choices", 86, 4, 0), ("HeadHill$Town", 68, 4, 0), ("HeadHill", 147, 4, 0), ("HeadHill$Moment", 15, 4, 1), ("HeadHill$Course", 94, 4, 1), ("HeadHill", 119, 4, 1), ("HeadHill$Moment", 19, 4, 2), ("HeadHill$Course", 72, 4, 2), ("HeadHill$Future", 70, 4, 2), ("HeadHill", 125, 4, 2), ("HeadHill$Choices", 122, 4, 2), ("HeadHill$Moment", 22, 4, 3), ("HeadHill$Choices", 70, 4, 3), ("HeadHill$Town", 61, 4, 3), ("HeadHill$Course", 101, 4, 3), ("HeadHill$Future", 77, 4, 3), ("HeadHill", 128, 4, 3), ("HeadHill$Moment", 25, 4, 4), ("HeadHill$Course", 113, 4, 4), ("HeadHill", 134, 4, 4), ("HeadHill$Moment", 28, 4, 5)]
theorem fldT_1_all : ∀ q ∈ fldT_1, ∃ a, fldT_b q a = true := zip_all _ [(1, 83), (1, 122), (1, 123), (1, 124), (1, 125), (1, 126), (1, 127), (1, 128), (1, 129), (1, 130), (1, 131), (1, 132), (1, 133), (1, 134), (1, 135), (1, 136), (1, 137), (1, 138), (1, 139), (1, 140), (1, 141), (1, 142), (1, 143), (1, 144), (1, 145)] (by decide +kernel) (by decide)
def fldT_2 : List (String × Nat × Nat × Nat) := [("HeadHill$Course", 57, 4, 5), ("HeadHill$Witness", 63, 4, 5), ("HeadHill$Future", 66, 4, 5), ("HeadHill", 154, 4, 5), ("HeadHill$Town", 9, 9, 0), ("HeadHill$Witness", 41, 9, 0), ("HeadHill$Future", 46, 9, 0), ("HeadHill$Choices", 77, 9, 0), ("HeadHill", 137, 9, 0), ("HeadHill$Town", 15, 9, 1), ("HeadHill", 108, 9, 1), ("HeadHill$Town", 19, 9, 2), ("HeadHill$Future", 91, 9, 2), ("HeadHill", 257, 9, 2), ("HeadHill$Town", 25, 9, 3), ("HeadHill$Future", 37, 9, 3), ("HeadHill$Choices", 58, 9, 3), ("HeadHill", 115, 9, 3), ("HeadHill$Town", 29, 9, 4), ("HeadHill$Town", 33, 9, 5), ("HeadHill", 182, 9, 5), ("HeadHill$Town", 36, 9, 6), ("HeadHill$Witness", 76, 9, 6), ("HeadHill$Town", 40, 9, 7), ("HeadHill$Witness", 85, 9, 7)]
theorem fldT_2_all : ∀ q ∈ fldT_2, ∃ a, fldT_b q a = true := zip_all _ [(1, 146), (1, 147), (1, 148), (1, 149), (1, 164), (1, 165), (1, 166), (1, 167), (1, 168), (1, 169), (1, 170), (1, 171), (1, 172), (1, 173), (1, 174), (1, 175), (1, 176), (1, 177), (1, 178), (1, 179), (1, 180), (1, 181), (1, 182), (1, 183), (1, 184)] (by decide +kernel) (by decide)
def fldT_3 : List (String × Nat × Nat × Nat) := [("HeadHill$Town", 43, 9, 8), ("HeadHill$Witness", 88, 9, 8), ("HeadHill$Town", 46, 9, 9), ("HeadHill$Witness", 73, 9, 9), ("HeadHill", 235, 9, 9), ("HeadHill$Course", 9, 1, 0), ("HeadHill$Choices", 67, 1, 0), ("HeadHill$Course", 15, 1, 1), ("HeadHill$Course", 20, 1, 2), ("HeadHill$Course", 26, 1, 3), ("HeadHill$Future", 12, 2, 0), ("HeadHill$Future", 21, 2, 1), ("HeadHill", 192, 2, 1), ("HeadHill$Future", 25, 2, 2), ("HeadHill$Future", 29, 2, 3), ("HeadHill$Future", 33, 2, 4), ("HeadHill$Choices", 12, 0, 0), ("HeadHill$Choices", 21, 0, 1), ("HeadHill$Choices", 25, 0, 2), ("HeadHill$Choices", 28, 0, 3), ("HeadHill$Choices", 31, 0, 4), ("HeadHill$Choices", 35, 0, 5), ("HeadHill$Choices", 40, 0, 6), ("HeadHill$Choices", 43, 0, 7), ("HeadHill$Choices", 46, 0, 8)]
theorem fldT_3_all : ∀ q ∈ fldT_3, ∃ a, fldT_b q a = true := zip_all _ [(1, 185), (1, 186), (1, 187), (1, 188), (1, 189), (1, 221), (1, 222), (1, 223), (1, 224), (1, 225), (2, 6), (2, 7), (2, 8), (2, 9), (2, 10), (2, 11), (2, 35), (2, 36), (2, 37), (2, 38), (2, 39), (2, 40), (2, 41), (2, 42), (2, 43)] (by decide +kernel) (by decide)
def fldT_4 : List (String × Nat × Nat × Nat) := [("HeadHill$Choices", 50, 0, 9), ("HeadHill$Choices", 54, 0, 10), ("HeadHill$Witness", 12, 10, 0), ("HeadHill$Witness", 21, 10, 1), ("HeadHill$Witness", 27, 10, 2), ("HeadHill$Witness", 30, 10, 3), ("HeadHill", 245, 10, 3), ("HeadHill$Witness", 34, 10, 4), ("HeadHill", 248, 10, 4), ("HeadHill$Purses", 9, 5, 0), ("HeadHill", 10, 11, 0), ("HeadHill", 20, 11, 1), ("HeadHill", 25, 11, 2), ("HeadHill", 29, 11, 3), ("HeadHill", 36, 11, 4), ("HeadHill", 40, 11, 5), ("HeadHill", 47, 11, 6), ("HeadHill", 54, 11, 7), ("HeadHill", 61, 11, 8), ("HeadHill", 68, 11, 9), ("HeadHill", 75, 11, 10), ("HeadHill$Hill", 9, 3, 0), ("HeadHill", 263, 3, 0), ("HeadHill$Hill", 15, 3, 1), ("HeadHill$Course", 35, 3, 1)]
theorem fldT_4_all : ∀ q ∈ fldT_4, ∃ a, fldT_b q a = true := zip_all _ [(2, 44), (2, 45), (2, 80), (2, 81), (2, 82), (2, 83), (2, 84), (2, 85), (2, 86), (2, 104), (2, 108), (2, 109), (2, 110), (2, 111), (2, 112), (2, 113), (2, 114), (2, 115), (2, 116), (2, 117), (2, 118), (2, 164), (2, 165), (2, 166), (2, 167)] (by decide +kernel) (by decide)
def fldT_5 : List (String × Nat × Nat × Nat) := [("HeadHill$Town", 53, 3, 1), ("HeadHill", 102, 3, 1), ("HeadHill$Future", 80, 3, 1), ("HeadHill$Hill", 18, 3, 2), ("HeadHill$Course", 54, 3, 2), ("HeadHill$Town", 58, 3, 2), ("HeadHill$Future", 61, 3, 2), ("HeadHill$Choices", 81, 3, 2), ("HeadHill", 251, 3, 2), ("HeadHill$Hill", 21, 3, 3), ("HeadHill$Moment", 31, 3, 3), ("HeadHill$Hill", 25, 3, 4), ("HeadHill$Moment", 40, 3, 4), ("HeadHill$Hill", 28, 3, 5), ("HeadHill$Moment", 47, 3, 5), ("HeadHill$Hill", 31, 3, 6), ("HeadHill$Course", 79, 3, 6), ("HeadHill", 141, 3, 6), ("HeadHill$Hill", 34, 3, 7), ("HeadHill", 144, 3, 7), ("HeadHill$Rule", 9, 6, 0), ("HeadHill$Rule", 15, 6, 1), ("HeadHill$Rule", 18, 6, 2), ("HeadHillModel", 9, 12, 1), ("HeadHillModel", 13, 12, 2)]
theorem fldT_5_all : ∀ q ∈ fldT_5, ∃ a, fldT_b q a = true := zip_all _ [(2, 168), (2, 169), (2, 170), (2, 171), (2, 172), (2, 173), (2, 174), (2, 175), (2, 176), (2, 177), (2, 178), (2, 179), (2, 180), (2, 181), (2, 182), (2, 183), (2, 184), (2, 185), (2, 186), (2, 187), (3, 177), (3, 178), (3, 179), (5, 104), (5, 105)] (by decide +kernel) (by decide)
def fldT_6 : List (String × Nat × Nat × Nat) := [("HeadHillModel", 16, 12, 3), ("HeadHillModel", 19, 12, 4), ("HeadHillModel", 22, 12, 5), ("HeadHillModel", 25, 12, 6), ("HeadHillModel", 28, 12, 7), ("HeadHillModel", 31, 12, 8), ("HeadHillModel", 34, 12, 9), ("HeadHillModel", 37, 12, 10), ("HeadHillModel", 40, 12, 11), ("HeadHillModel", 43, 12, 12), ("HeadHillModel", 46, 12, 13), ("HeadHillModel", 49, 12, 14), ("HeadHillModel", 52, 12, 15), ("HeadHillModel", 55, 12, 16), ("HeadHillModel", 58, 12, 17), ("HeadHillModel", 61, 12, 18), ("HeadHillModel", 64, 12, 19), ("HeadHillModel", 67, 12, 20), ("HeadHillModel", 153, 12, 21), ("HeadHillModel", 182, 12, 22), ("HeadHillModel", 179, 12, 23), ("HeadHillModel", 209, 12, 24), ("HeadHillModel", 325, 12, 25), ("HeadHillModel", 212, 12, 26), ("HeadHillModel", 253, 12, 27)]
theorem fldT_6_all : ∀ q ∈ fldT_6, ∃ a, fldT_b q a = true := zip_all _ [(5, 106), (5, 107), (5, 108), (5, 109), (5, 110), (5, 111), (5, 112), (5, 113), (5, 114), (5, 115), (5, 116), (5, 117), (5, 118), (5, 119), (5, 120), (5, 121), (5, 122), (5, 123), (5, 124), (5, 125), (5, 126), (5, 127), (5, 128), (5, 129), (5, 130)] (by decide +kernel) (by decide)
def fldT_7 : List (String × Nat × Nat × Nat) := [("HeadHillModel", 215, 12, 28), ("HeadHillModel", 250, 12, 29), ("HeadHillModel", 70, 12, 30), ("HeadHillModel", 74, 12, 31), ("HeadHillModel", 78, 12, 32), ("HeadHillModel", 81, 12, 33), ("HeadHillModel", 84, 12, 34), ("HeadHillModel", 87, 12, 35), ("HeadHillModel", 90, 12, 36), ("HeadHillModel", 93, 12, 37), ("HeadHillModel", 96, 12, 38), ("HeadHillModel", 99, 12, 39), ("HeadHillModel", 103, 12, 40), ("HeadHillModel", 106, 12, 41), ("HeadHillModel", 109, 12, 42), ("HeadHillModel", 112, 12, 43), ("HeadHillModel", 115, 12, 44), ("HeadHillModel", 312, 12, 45), ("HeadHillModel", 389, 12, 46), ("HeadHillModel", 385, 12, 47), ("HeadHillModel", 118, 12, 48), ("HeadHillModel", 121, 12, 49), ("HeadHillModel", 124, 12, 50), ("HeadHillModel", 127, 12, 51), ("HeadHillModel", 130, 12, 52)]
theorem fldT_7_all : ∀ q ∈ fldT_7, ∃ a, fldT_b q a = true := zip_all _ [(5, 131), (5, 132), (5, 133), (5, 134), (5, 135), (5, 136), (5, 137), (5, 138), (5, 139), (5, 140), (5, 141), (5, 142), (5, 143), (5, 144), (5, 145), (5, 146), (5, 147), (5, 148), (5, 149), (5, 150), (5, 151), (5, 152), (5, 153), (5, 154), (5, 155)] (by decide +kernel) (by decide)
def fldT_8 : List (String × Nat × Nat × Nat) := [("HeadHillModel", 133, 12, 53), ("HeadHillModel", 136, 12, 54), ("HeadHillModel", 139, 12, 55), ("HeadHillModel", 142, 12, 56), ("HeadHillModel", 494, 12, 57), ("HeadHillModel", 491, 12, 58)]
theorem fldT_8_all : ∀ q ∈ fldT_8, ∃ a, fldT_b q a = true := zip_all _ [(5, 156), (5, 157), (5, 158), (5, 159), (5, 160), (5, 161)] (by decide +kernel) (by decide)
def fldT : List (String × Nat × Nat × Nat) := fldT_0 ++ fldT_1 ++ fldT_2 ++ fldT_3 ++ fldT_4 ++ fldT_5 ++ fldT_6 ++ fldT_7 ++ fldT_8
theorem fldT_all : ∀ q ∈ fldT, ∃ a, fldT_b q a = true := by
  intro q h
  simp only [fldT, List.mem_append] at h
  rcases h with (((((((h | h) | h) | h) | h) | h) | h) | h) | h
  · exact fldT_0_all q h
  · exact fldT_1_all q h
  · exact fldT_2_all q h
  · exact fldT_3_all q h
  · exact fldT_4_all q h
  · exact fldT_5_all q h
  · exact fldT_6_all q h
  · exact fldT_7_all q h
  · exact fldT_8_all q h
def lnkT_b (q : String × Nat × Nat) (a : Nat × Nat) : Bool := match mtl[q.2.2]? with | some c => inA a (Cond.methodLink q.1 q.2.1 c.1) | none => false
def lnkT_0 : List (String × Nat × Nat) := [("HeadHillLaw", 9, 105), ("HeadHill", 46, 10), ("HeadHill$Course", 29, 246), ("HeadHill$Future", 11, 10), ("HeadHill$Choices", 11, 10), ("HeadHill$Witness", 11, 10), ("HeadHillLaw", 13, 106), ("HeadHill", 84, 74), ("HeadHillLaw", 18, 107), ("HeadHillLaw", 23, 108), ("HeadHill", 91, 34), ("HeadHill$Hill", 37, 75), ("HeadHill$Text", 34, 79), ("HeadHill$Text", 37, 85), ("HeadHill$Text", 41, 80), ("HeadHill$Text", 44, 84), ("HeadHill$Text", 47, 81), ("java/lang/String", 335, 251), ("java/lang/String", 492, 252), ("java/lang/String", 495, 253), ("java/lang/StringLatin1", 9, 254), ("java/lang/String", 1059, 255), ("java/lang/StringUTF16", 414, 254), ("HeadHill$Text", 50, 82), ("HeadHill$Hill", 42, 35)]
theorem lnkT_0_all : ∀ q ∈ lnkT_0, ∃ a, lnkT_b q a = true := zip_all _ [(1, 24), (1, 214), (1, 218), (2, 3), (2, 30), (2, 76), (2, 142), (2, 146), (2, 150), (2, 154), (2, 205), (2, 209), (2, 213), (2, 217), (2, 220), (2, 224), (2, 227), (2, 236), (3, 6), (3, 10), (3, 13), (3, 18), (3, 30), (3, 40), (3, 44)] (by decide +kernel) (by decide)
def lnkT_1 : List (String × Nat × Nat) := [("HeadHill$Hill", 63, 77), ("HeadHill$Hill", 53, 79), ("HeadHill$Hill", 67, 83), ("HeadHill$Text", 64, 76), ("HeadHill$Hill", 59, 76), ("HeadHill$Hill", 49, 78), ("HeadHill", 98, 87), ("HeadHill$Town", 49, 39), ("HeadHill$Moment", 41, 246), ("HeadHillLaw", 28, 109), ("HeadHill", 105, 57), ("HeadHill$RuleReader", 50, 75), ("HeadHill$RuleReader", 56, 58), ("HeadHill$RuleReader", 73, 59), ("HeadHill$RuleReader", 86, 77), ("HeadHill$RuleReader", 90, 76), ("HeadHill$RuleReader", 76, 60), ("HeadHill$RuleReader", 99, 72), ("HeadHill$RuleReader", 102, 71), ("HeadHill$RuleReader", 80, 61), ("HeadHill$RuleReader", 105, 78), ("HeadHill$RuleReader", 109, 70), ("HeadHill$RuleReader", 83, 62), ("HeadHill$RuleReader", 112, 63), ("HeadHill$RuleReader", 136, 51)]
theorem lnkT_1_all : ∀ q ∈ lnkT_1, ∃ a, lnkT_b q a = true := zip_all _ [(3, 48), (3, 52), (3, 53), (3, 57), (3, 61), (3, 62), (3, 66), (3, 70), (3, 77), (3, 78), (3, 82), (3, 86), (3, 87), (3, 91), (3, 95), (3, 96), (3, 97), (3, 101), (3, 105), (3, 109), (3, 113), (3, 114), (3, 118), (3, 122), (3, 126)] (by decide +kernel) (by decide)
def lnkT_2 : List (String × Nat × Nat) := [("HeadHill$RuleReader", 116, 52), ("HeadHill$RuleReader", 120, 68), ("HeadHill$RuleReader", 139, 69), ("HeadHill$RuleReader", 123, 65), ("HeadHill$RuleReader", 126, 67), ("HeadHill$RuleReader", 129, 64), ("HeadHill$RuleReader", 133, 66), ("HeadHill$RuleReader", 59, 79), ("HeadHill$RuleReader", 64, 247), ("HeadHill$RuleReader", 70, 50), ("HeadHillLaw", 32, 110), ("HeadHillLaw", 36, 111), ("HeadHill", 111, 88), ("HeadHillLaw", 41, 112), ("HeadHill", 131, 89), ("HeadHill", 150, 36), ("HeadHillLaw", 45, 113), ("HeadHill", 157, 93), ("HeadHill$Town", 75, 94), ("HeadHill$Town", 78, 95), ("HeadHill$Town", 82, 40), ("HeadHill", 160, 138), ("HeadHill", 175, 139), ("HeadHill", 163, 11), ("HeadHill$Course", 46, 12)]
theorem lnkT_2_all : ∀ q ∈ lnkT_2, ∃ a, lnkT_b q a = true := zip_all _ [(3, 129), (3, 132), (3, 136), (3, 140), (3, 144), (3, 148), (3, 152), (3, 156), (3, 159), (3, 173), (3, 187), (3, 191), (3, 195), (3, 199), (3, 203), (3, 207), (3, 211), (3, 215), (3, 219), (3, 223), (3, 227), (3, 231), (3, 235), (3, 238), (4, 2)] (by decide +kernel) (by decide)
def lnkT_3 : List (String × Nat × Nat) := [("HeadHill$Course", 75, 36), ("HeadHill$Course", 50, 13), ("HeadHill$Course", 82, 14), ("HeadHill$Course", 97, 15), ("HeadHill$Course", 68, 37), ("HeadHill$Course", 86, 16), ("HeadHill$Course", 90, 53), ("HeadHill$Rule", 22, 54), ("HeadHill$Rule", 26, 55), ("HeadHill$Course", 60, 17), ("HeadHill$Course", 116, 41), ("HeadHill$Course", 64, 18), ("HeadHill$Course", 123, 19), ("HeadHill$Course", 127, 42), ("HeadHill$Course", 130, 43), ("HeadHillLaw", 49, 114), ("HeadHill", 167, 42), ("HeadHill", 171, 43), ("HeadHillLaw", 54, 115), ("HeadHillLaw", 58, 116), ("HeadHillLaw", 62, 117), ("HeadHillLaw", 66, 118), ("HeadHill", 178, 96), ("HeadHillLaw", 70, 119), ("HeadHill", 185, 21)]
theorem lnkT_3_all : ∀ q ∈ lnkT_3, ∃ a, lnkT_b q a = true := zip_all _ [(4, 5), (4, 6), (4, 10), (4, 14), (4, 21), (4, 25), (4, 29), (4, 33), (4, 37), (4, 40), (4, 44), (4, 48), (4, 53), (4, 57), (4, 61), (4, 65), (4, 69), (4, 70), (4, 71), (4, 75), (4, 79), (4, 83), (4, 87), (4, 91), (4, 95)] (by decide +kernel) (by decide)
def lnkT_4 : List (String × Nat × Nat) := [("HeadHill$Future", 42, 40), ("HeadHill", 189, 22), ("HeadHill$Future", 50, 11), ("HeadHillLaw", 74, 120), ("HeadHill", 195, 23), ("HeadHill$Future", 57, 22), ("HeadHillLaw", 78, 121), ("HeadHill", 199, 41), ("HeadHillLaw", 82, 122), ("HeadHill", 202, 24), ("HeadHill$Future", 73, 25), ("HeadHillLaw", 86, 123), ("HeadHill", 206, 26), ("HeadHill$Future", 83, 42), ("HeadHill$Future", 87, 43), ("HeadHillLaw", 90, 124), ("HeadHill", 210, 1), ("HeadHill", 211, 2), ("HeadHill$Choices", 63, 3), ("HeadHill$Choices", 73, 4), ("HeadHill$Choices", 89, 5), ("HeadHill$Choices", 107, 36), ("HeadHill$Choices", 93, 40), ("HeadHill$Choices", 97, 11), ("HeadHillLaw", 94, 125)]
theorem lnkT_4_all : ∀ q ∈ lnkT_4, ∃ a, lnkT_b q a = true := zip_all _ [(4, 99), (4, 100), (4, 104), (4, 105), (4, 109), (4, 113), (4, 114), (4, 118), (4, 119), (4, 123), (4, 127), (4, 131), (4, 135), (4, 139), (4, 140), (4, 141), (4, 145), (4, 149), (4, 153), (4, 157), (4, 162), (4, 166), (4, 167), (4, 168), (4, 169)] (by decide +kernel) (by decide)
def lnkT_5 : List (String × Nat × Nat) := [("HeadHill", 214, 46), ("HeadHill$Purses", 15, 45), ("HeadHillLaw", 98, 126), ("HeadHill", 218, 47), ("HeadHill", 221, 48), ("HeadHill$Purses", 25, 248), ("HeadHillLaw", 102, 127), ("HeadHill", 224, 27), ("HeadHillLaw", 107, 128), ("HeadHill", 228, 6), ("HeadHill$Choices", 110, 7), ("HeadHill$Choices", 118, 8), ("HeadHill$Choices", 114, 9), ("HeadHillLaw", 111, 129), ("HeadHill", 231, 49), ("HeadHillLaw", 115, 130), ("HeadHill", 238, 92), ("HeadHillLaw", 119, 131), ("HeadHill", 241, 99), ("HeadHill$Witness", 37, 100), ("HeadHill$Witness", 47, 39), ("HeadHill$Witness", 51, 101), ("HeadHill$Witness", 55, 11), ("HeadHill$Witness", 59, 102), ("HeadHillLaw", 123, 132)]
theorem lnkT_5_all : ∀ q ∈ lnkT_5, ∃ a, lnkT_b q a = true := zip_all _ [(4, 173), (4, 177), (4, 181), (4, 185), (4, 189), (4, 193), (4, 199), (4, 203), (4, 207), (4, 211), (4, 215), (4, 219), (4, 223), (4, 227), (4, 231), (4, 235), (4, 239), (5, 3), (5, 7), (5, 11), (5, 15), (5, 16), (5, 20), (5, 21), (5, 26)] (by decide +kernel) (by decide)
def lnkT_6 : List (String × Nat × Nat) := [("HeadHill", 254, 103), ("HeadHill$Witness", 91, 104), ("HeadHillLaw", 127, 133), ("HeadHillLaw", 131, 134), ("HeadHill", 260, 28), ("HeadHill$Future", 92, 29), ("HeadHill$Future", 102, 30), ("HeadHill$Future", 95, 31), ("HeadHill$Future", 99, 32), ("HeadHillLaw", 135, 135), ("HeadHill", 266, 90), ("HeadHill", 270, 91), ("HeadHill$Town", 64, 89), ("HeadHill$Town", 71, 36), ("HeadHillLaw", 139, 136), ("HeadHill", 273, 97), ("HeadHillLaw", 143, 137), ("HeadHillLaw", 12, 140), ("HeadHillLaw", 17, 147), ("HeadHillModel", 156, 148), ("HeadHillLaw", 22, 149), ("HeadHillLaw", 27, 179), ("HeadHillModel", 306, 177), ("HeadHillModel", 293, 176), ("HeadHillModel", 296, 173)]
theorem lnkT_6_all : ∀ q ∈ lnkT_6, ∃ a, lnkT_b q a = true := zip_all _ [(5, 30), (5, 34), (5, 38), (5, 42), (5, 46), (5, 50), (5, 54), (5, 62), (5, 66), (5, 71), (5, 75), (5, 79), (5, 83), (5, 84), (5, 85), (5, 89), (5, 94), (5, 100), (6, 42), (6, 46), (6, 50), (6, 54), (6, 58), (6, 62), (6, 66)] (by decide +kernel) (by decide)
def lnkT_7 : List (String × Nat × Nat) := [("HeadHillModel", 202, 153), ("HeadHillModel", 185, 152), ("HeadHillModel", 283, 170), ("HeadHillModel", 205, 155), ("HeadHillModel", 218, 151), ("HeadHillModel", 286, 172), ("HeadHillModel", 290, 171), ("HeadHillModel", 279, 169), ("HeadHillModel", 227, 159), ("HeadHillModel", 222, 154), ("HeadHillModel", 149, 141), ("HeadHillModel", 299, 175), ("HeadHillModel", 302, 174), ("HeadHillModel", 309, 178), ("HeadHillLaw", 31, 181), ("HeadHillModel", 328, 180), ("HeadHillModel", 247, 162), ("HeadHillModel", 244, 161), ("HeadHillModel", 241, 160), ("HeadHillModel", 231, 158), ("HeadHillModel", 234, 157), ("HeadHillModel", 237, 150), ("HeadHillModel", 319, 156), ("HeadHillModel", 322, 168), ("HeadHillModel", 267, 167)]
theorem lnkT_7_all : ∀ q ∈ lnkT_7, ∃ a, lnkT_b q a = true := zip_all _ [(6, 70), (6, 74), (6, 78), (6, 84), (6, 90), (6, 94), (6, 98), (6, 102), (6, 107), (6, 111), (6, 117), (6, 120), (6, 124), (6, 127), (6, 131), (6, 135), (6, 140), (6, 144), (6, 148), (6, 152), (6, 156), (6, 160), (6, 174), (6, 178), (6, 182)] (by decide +kernel) (by decide)
def lnkT_8 : List (String × Nat × Nat) := [("HeadHillModel", 261, 165), ("HeadHillModel", 264, 163), ("HeadHillModel", 270, 166), ("HeadHillModel", 256, 164), ("HeadHillLaw", 35, 182), ("HeadHillLaw", 40, 188), ("HeadHillModel", 345, 145), ("HeadHillLaw", 44, 189), ("HeadHillModel", 351, 146), ("HeadHillModel", 354, 187), ("HeadHillLaw", 69, 204), ("HeadHillModel", 399, 202), ("HeadHillModel", 392, 200), ("HeadHillModel", 395, 201), ("HeadHillLaw", 48, 205), ("HeadHillModel", 403, 144), ("HeadHillModel", 406, 203), ("HeadHillModel", 382, 198), ("HeadHillModel", 373, 195), ("HeadHillModel", 365, 194), ("HeadHillModel", 357, 192), ("HeadHillModel", 359, 193), ("HeadHillModel", 361, 183), ("HeadHillModel", 333, 186), ("HeadHillModel", 341, 185)]
theorem lnkT_8_all : ∀ q ∈ lnkT_8, ∃ a, lnkT_b q a = true := zip_all _ [(6, 187), (6, 191), (6, 195), (6, 199), (6, 205), (6, 210), (6, 214), (6, 219), (6, 223), (6, 227), (6, 231), (6, 235), (6, 239), (7, 3), (7, 7), (7, 11), (7, 15), (7, 19), (7, 23), (7, 27), (7, 31), (7, 35), (7, 39), (7, 43), (7, 47)] (by decide +kernel) (by decide)
def lnkT_9 : List (String × Nat × Nat) := [("HeadHillModel", 337, 184), ("HeadHillModel", 376, 196), ("HeadHillModel", 369, 190), ("HeadHillModel", 379, 197), ("HeadHillLaw", 53, 207), ("HeadHillModel", 411, 206), ("HeadHillLaw", 57, 208), ("HeadHillLaw", 61, 209), ("HeadHillLaw", 65, 210), ("HeadHillLaw", 73, 213), ("HeadHillModel", 421, 211), ("HeadHillModel", 416, 243), ("HeadHillModel", 497, 242), ("HeadHillModel", 424, 199), ("HeadHillModel", 427, 212), ("HeadHillLaw", 77, 215), ("HeadHillModel", 430, 214), ("HeadHillLaw", 81, 216), ("HeadHillLaw", 85, 218), ("HeadHillModel", 437, 217), ("HeadHillLaw", 89, 219), ("HeadHillLaw", 93, 221), ("HeadHillModel", 442, 220), ("HeadHillLaw", 97, 223), ("HeadHillModel", 449, 222)]
theorem lnkT_9_all : ∀ q ∈ lnkT_9, ∃ a, lnkT_b q a = true := zip_all _ [(7, 50), (7, 53), (7, 57), (7, 61), (7, 65), (7, 70), (7, 74), (7, 78), (7, 83), (7, 87), (7, 92), (7, 96), (7, 100), (7, 104), (7, 108), (7, 112), (7, 116), (7, 120), (7, 124), (7, 130), (7, 134), (7, 138), (7, 143), (7, 147), (7, 151)] (by decide +kernel) (by decide)
def lnkT_10 : List (String × Nat × Nat) := [("HeadHillModel", 446, 143), ("HeadHillModel", 452, 142), ("HeadHillLaw", 101, 224), ("HeadHillLaw", 106, 225), ("HeadHillLaw", 110, 229), ("HeadHillModel", 458, 227), ("HeadHillModel", 455, 226), ("HeadHillModel", 461, 228), ("HeadHillLaw", 114, 230), ("HeadHillModel", 464, 191), ("HeadHillLaw", 118, 231), ("HeadHillLaw", 122, 233), ("HeadHillModel", 467, 232), ("HeadHillLaw", 126, 235), ("HeadHillModel", 470, 234), ("HeadHillLaw", 130, 236), ("HeadHillLaw", 134, 239), ("HeadHillModel", 482, 237), ("HeadHillModel", 485, 238), ("HeadHillLaw", 138, 241), ("HeadHillModel", 488, 240), ("HeadHillLaw", 142, 244), ("HeadHillLaw", 146, 245)]
theorem lnkT_10_all : ∀ q ∈ lnkT_10, ∃ a, lnkT_b q a = true := zip_all _ [(7, 155), (7, 158), (7, 161), (7, 165), (7, 169), (7, 173), (7, 177), (7, 181), (7, 185), (7, 189), (7, 193), (7, 197), (7, 201), (7, 205), (7, 209), (7, 213), (7, 217), (7, 222), (7, 230), (7, 234), (7, 238), (8, 2), (8, 6)] (by decide +kernel) (by decide)
def lnkT : List (String × Nat × Nat) := lnkT_0 ++ lnkT_1 ++ lnkT_2 ++ lnkT_3 ++ lnkT_4 ++ lnkT_5 ++ lnkT_6 ++ lnkT_7 ++ lnkT_8 ++ lnkT_9 ++ lnkT_10
theorem lnkT_all : ∀ q ∈ lnkT, ∃ a, lnkT_b q a = true := by
  intro q h
  simp only [lnkT, List.mem_append] at h
  rcases h with (((((((((h | h) | h) | h) | h) | h) | h) | h) | h) | h) | h
  · exact lnkT_0_all q h
  · exact lnkT_1_all q h
  · exact lnkT_2_all q h
  · exact lnkT_3_all q h
  · exact lnkT_4_all q h
  · exact lnkT_5_all q h
  · exact lnkT_6_all q h
  · exact lnkT_7_all q h
  · exact lnkT_8_all q h
  · exact lnkT_9_all q h
  · exact lnkT_10_all q h
def splN (k : Nat) : MethodName := if k = 1000 then objectInit else if k = 1001 then arraycopyName else if k = 1002 then Lib.Math.max.name else if k = 1003 then Lib.Math.min.name else if k = 1005 then yJ0_length_8abf5 else if k = 1006 then yJ0_charAt_5068e else ⟨"[I", "clone", "()Ljava/lang/Object;"⟩
def splT_b (q : String × Nat × Nat) (a : Nat × Nat) : Bool := inA a (Cond.methodLink q.1 q.2.1 (splN q.2.2))
def splT_0 : List (String × Nat × Nat) := [("HeadHill", 1, 1000), ("HeadHill$RuleReader", 3, 1000), ("HeadHill$Text", 3, 1000), ("HeadHill$Town", 3, 1000), ("HeadHill$Moment", 3, 1000), ("HeadHill$Course", 3, 1000), ("HeadHill$Future", 3, 1000), ("HeadHill$Choices", 3, 1000), ("HeadHill$Witness", 3, 1000), ("HeadHill$Purses", 3, 1000), ("HeadHill$Hill", 3, 1000), ("HeadHill$Text", 55, 1005), ("HeadHill$Text", 60, 1006), ("HeadHill$Moment", 34, 1001), ("java/util/Arrays", 316, 1004), ("java/util/Arrays", 304, 1003), ("java/util/Arrays", 150, 1001), ("HeadHill$Rule", 3, 1000), ("HeadHill$Course", 107, 1002), ("HeadHill$Course", 120, 1003), ("HeadHill$Choices", 101, 1001), ("HeadHill$Purses", 19, 1002), ("HeadHill$Witness", 79, 1002), ("HeadHill$Witness", 67, 1001), ("HeadHill$Future", 112, 1002)]
theorem splT_0_all : ∀ q ∈ splT_0, ∃ a, splT_b q a = true := zip_all _ [(1, 27), (1, 35), (1, 41), (1, 115), (1, 121), (1, 217), (2, 1), (2, 28), (2, 74), (2, 103), (2, 163), (2, 232), (3, 2), (3, 74), (3, 162), (3, 169), (3, 172), (3, 176), (4, 18), (4, 52), (4, 161), (4, 180), (5, 19), (5, 25), (5, 70)] (by decide +kernel) (by decide)
def splT_1 : List (String × Nat × Nat) := [("HeadHill$Town", 86, 1001), ("HeadHillModel", 3, 1000), ("HeadHillModel", 193, 1005), ("HeadHillModel", 198, 1006)]
theorem splT_1_all : ∀ q ∈ splT_1, ∃ a, splT_b q a = true := zip_all _ [(5, 93), (5, 103), (6, 88), (6, 89)] (by decide +kernel) (by decide)
def splT : List (String × Nat × Nat) := splT_0 ++ splT_1
theorem splT_all : ∀ q ∈ splT, ∃ a, splT_b q a = true := by
  intro q h
  simp only [splT, List.mem_append] at h
  rcases h with h | h
  · exact splT_0_all q h
  · exact splT_1_all q h
def conT_b (q : String × Nat × Int32) (a : Nat × Nat) : Bool := inA a (Cond.constant q.1 q.2.1 q.2.2)
def conT_0 : List (String × Nat × Int32) := [("HeadHill$Course", 106, -2147483648), ("java/lang/Integer", 265, 1431655765), ("java/lang/Integer", 266, 858993459), ("java/lang/Integer", 267, 252645135), ("HeadHill$Future", 111, 65536), ("HeadHillModel", 226, 99999), ("HeadHillModel", 479, 65536)]
theorem conT_0_all : ∀ q ∈ conT_0, ∃ a, conT_b q a = true := zip_all _ [(4, 17), (4, 196), (4, 197), (4, 198), (5, 61), (6, 106), (7, 229)] (by decide +kernel) (by decide)
def conT : List (String × Nat × Int32) := conT_0
theorem conT_all : ∀ q ∈ conT, ∃ a, conT_b q a = true := conT_0_all
def conLT_b (q : String × Nat × Int64) (a : Nat × Nat) : Bool := inA a (Cond.constantLong q.1 q.2.1 q.2.2)
def conLT_0 : List (String × Nat × Int64) := [("HeadHill$Future", 105, 1103515245), ("HeadHill$Future", 107, 12345), ("HeadHill$Future", 109, 2147483647), ("HeadHillModel", 189, 48), ("HeadHillModel", 191, 57), ("HeadHillModel", 331, -1), ("HeadHillModel", 349, 2), ("HeadHillModel", 409, 20), ("HeadHillModel", 414, 99), ("HeadHillModel", 419, 100), ("HeadHillModel", 433, 60), ("HeadHillModel", 435, 9999), ("HeadHillModel", 440, 3), ("HeadHillModel", 480, 10), ("HeadHillModel", 473, 1103515245), ("HeadHillModel", 475, 12345), ("HeadHillModel", 477, 2147483648)]
theorem conLT_0_all : ∀ q ∈ conLT_0, ∃ a, conLT_b q a = true := zip_all _ [(5, 58), (5, 59), (5, 60), (6, 115), (6, 116), (6, 209), (6, 218), (7, 69), (7, 82), (7, 91), (7, 128), (7, 129), (7, 142), (7, 221), (7, 226), (7, 227), (7, 228)] (by decide +kernel) (by decide)
def conLT : List (String × Nat × Int64) := conLT_0
theorem conLT_all : ∀ q ∈ conLT, ∃ a, conLT_b q a = true := conLT_0_all
def clsT_b (q : String × Nat × Nat) (a : Nat × Nat) : Bool := match cl13[q.2.2]? with | some c => inA a (Cond.classLink q.1 q.2.1 c.1) | none => false
def clsT_0 : List (String × Nat × Nat) := [("HeadHillLaw", 7, 11), ("HeadHill", 7, 7), ("HeadHill$RuleReader", 9, 8), ("HeadHill", 23, 6), ("HeadHill", 33, 9), ("HeadHill$Town", 22, 4), ("HeadHill", 44, 1), ("HeadHill", 51, 2), ("HeadHill$Future", 9, 1), ("HeadHill$Future", 18, 4), ("HeadHill", 58, 0), ("HeadHill$Choices", 9, 1), ("HeadHill$Choices", 18, 4), ("HeadHill", 65, 10), ("HeadHill$Witness", 9, 1), ("HeadHill$Witness", 18, 4), ("HeadHill", 72, 5), ("HeadHill", 88, 3), ("HeadHill$RuleReader", 62, 6), ("HeadHillLaw", 10, 12)]
theorem clsT_0_all : ∀ q ∈ clsT_0, ∃ a, clsT_b q a = true := zip_all _ [(1, 22), (1, 30), (1, 36), (1, 108), (1, 110), (1, 116), (1, 212), (1, 236), (2, 2), (2, 4), (2, 23), (2, 29), (2, 31), (2, 69), (2, 75), (2, 77), (2, 98), (2, 158), (3, 157), (5, 98)] (by decide +kernel) (by decide)
def clsT : List (String × Nat × Nat) := clsT_0
theorem clsT_all : ∀ q ∈ clsT, ∃ a, clsT_b q a = true := clsT_0_all
def othT_b (q : String × Nat × String) (a : Nat × Nat) : Bool := inA a (Cond.classLink q.1 q.2.1 q.2.2)
def othT_0 : List (String × Nat × String) := [("HeadHill$Choices", 38, "[[I"), ("HeadHill$Witness", 25, "[[I"), ("java/util/Arrays", 317, "[I")]
theorem othT_0_all : ∀ q ∈ othT_0, ∃ a, othT_b q a = true := zip_all _ [(2, 33), (2, 79), (3, 168)] (by decide +kernel) (by decide)
def othT : List (String × Nat × String) := othT_0
theorem othT_all : ∀ q ∈ othT, ∃ a, othT_b q a = true := othT_0_all
theorem fldT_ok {j : Nat} {own : String} {i c k : Nat} (h : fldT[j]? = some (own, i, c, k)) : ∃ q, cl13[c]? = some q ∧ k < q.2.2 ∧ Cond.fieldLink own i (q.2.1 k).1 (q.2.1 k).2.1 (q.2.1 k).2.2.1 ∈ lw_g := by
  obtain ⟨a, h1⟩ := fldT_all _ (List.mem_of_getElem? h)
  simp only [fldT_b] at h1
  split at h1
  · rename_i q hq
    simp only [Bool.and_eq_true, decide_eq_true_eq] at h1
    exact ⟨q, hq, h1.1, inA_ok h1.2⟩
  · cases h1
theorem lnkT_ok {j : Nat} {own : String} {i y : Nat} (h : lnkT[j]? = some (own, i, y)) : ∃ q, mtl[y]? = some q ∧ Cond.methodLink own i q.1 ∈ lw_g := by
  obtain ⟨a, h1⟩ := lnkT_all _ (List.mem_of_getElem? h)
  simp only [lnkT_b] at h1
  split at h1
  · rename_i q hq
    exact ⟨q, hq, inA_ok h1⟩
  · cases h1
theorem clsT_ok {j : Nat} {own : String} {i c : Nat} (h : clsT[j]? = some (own, i, c)) : ∃ q, cl13[c]? = some q ∧ Cond.classLink own i q.1 ∈ lw_g := by
  obtain ⟨a, h1⟩ := clsT_all _ (List.mem_of_getElem? h)
  simp only [clsT_b] at h1
  split at h1
  · rename_i q hq
    exact ⟨q, hq, inA_ok h1⟩
  · cases h1
theorem splT_ok {j : Nat} {own : String} {i k : Nat} (h : splT[j]? = some (own, i, k)) : Cond.methodLink own i (splN k) ∈ lw_g := (splT_all _ (List.mem_of_getElem? h)).elim fun _ h => inA_ok h
theorem conT_ok {j : Nat} {own : String} {i : Nat} {v : Int32} (h : conT[j]? = some (own, i, v)) : Cond.constant own i v ∈ lw_g := (conT_all _ (List.mem_of_getElem? h)).elim fun _ h => inA_ok h
theorem conLT_ok {j : Nat} {own : String} {i : Nat} {v : Int64} (h : conLT[j]? = some (own, i, v)) : Cond.constantLong own i v ∈ lw_g := (conLT_all _ (List.mem_of_getElem? h)).elim fun _ h => inA_ok h
theorem othT_ok {j : Nat} {own : String} {i : Nat} {c : String} (h : othT[j]? = some (own, i, c)) : Cond.classLink own i c ∈ lw_g := (othT_all _ (List.mem_of_getElem? h)).elim fun _ h => inA_ok h
end
section
/-! length and charAt of a text -/
def qJ0_length_8abf5 : MT := (yJ0_length_8abf5, cJ0_length_8abf5, 1, (some .int), 99, 1, 0)
theorem dJ0_length_8abf5_0 : decode cJ0_length_8abf5 0 = .ok (.aload_n 0, 1) := by decide +kernel
theorem dJ0_length_8abf5_1 : decode cJ0_length_8abf5 1 = .ok (.getfield 9, 3) := by decide +kernel
theorem dJ0_length_8abf5_4 : decode cJ0_length_8abf5 4 = .ok (.arraylength, 1) := by decide +kernel
theorem dJ0_length_8abf5_5 : decode cJ0_length_8abf5 5 = .ok (.aload_n 0, 1) := by decide +kernel
theorem dJ0_length_8abf5_6 : decode cJ0_length_8abf5 6 = .ok (.invokevirtual 335, 3) := by decide +kernel
theorem dJ0_length_8abf5_9 : decode cJ0_length_8abf5 9 = .ok (.ishr, 1) := by decide +kernel
theorem dJ0_length_8abf5_10 : decode cJ0_length_8abf5 10 = .ok (.ireturn, 1) := by decide +kernel
def qJ0_charAt_5068e : MT := (yJ0_charAt_5068e, cJ0_charAt_5068e, 2, (some .char), 99, 1, 1)
theorem dJ0_charAt_5068e_0 : decode cJ0_charAt_5068e 0 = .ok (.aload_n 0, 1) := by decide +kernel
theorem dJ0_charAt_5068e_1 : decode cJ0_charAt_5068e 1 = .ok (.invokevirtual 492, 3) := by decide +kernel
theorem dJ0_charAt_5068e_4 : decode cJ0_charAt_5068e 4 = .ok (.ifCond .eq 12, 3) := by decide +kernel
theorem dJ0_charAt_5068e_7 : decode cJ0_charAt_5068e 7 = .ok (.aload_n 0, 1) := by decide +kernel
theorem dJ0_charAt_5068e_8 : decode cJ0_charAt_5068e 8 = .ok (.getfield 9, 3) := by decide +kernel
theorem dJ0_charAt_5068e_11 : decode cJ0_charAt_5068e 11 = .ok (.iload_n 1, 1) := by decide +kernel
theorem dJ0_charAt_5068e_12 : decode cJ0_charAt_5068e 12 = .ok (.invokestatic 495, 3) := by decide +kernel
theorem dJ0_charAt_5068e_15 : decode cJ0_charAt_5068e 15 = .ok (.ireturn, 1) := by decide +kernel
theorem dJ0_charAt_5068e_16 : decode cJ0_charAt_5068e 16 = .ok (.aload_n 0, 1) := by decide +kernel
theorem dJ0_charAt_5068e_17 : decode cJ0_charAt_5068e 17 = .ok (.getfield 9, 3) := by decide +kernel
theorem dJ0_charAt_5068e_20 : decode cJ0_charAt_5068e 20 = .ok (.iload_n 1, 1) := by decide +kernel
theorem dJ0_charAt_5068e_21 : decode cJ0_charAt_5068e 21 = .ok (.invokestatic 498, 3) := by decide +kernel
theorem dJ0_charAt_5068e_24 : decode cJ0_charAt_5068e 24 = .ok (.ireturn, 1) := by decide +kernel
def qJ0_coder_7d493 : MT := (yJ0_coder_7d493, cJ0_coder_7d493, 1, (some .byte), 99, 1, 0)
theorem dJ0_coder_7d493_0 : decode cJ0_coder_7d493 0 = .ok (.getstatic 38, 3) := by decide +kernel
theorem dJ0_coder_7d493_3 : decode cJ0_coder_7d493 3 = .ok (.ifCond .eq 10, 3) := by decide +kernel
theorem dJ0_coder_7d493_6 : decode cJ0_coder_7d493 6 = .ok (.aload_n 0, 1) := by decide +kernel
theorem dJ0_coder_7d493_7 : decode cJ0_coder_7d493 7 = .ok (.getfield 15, 3) := by decide +kernel
theorem dJ0_coder_7d493_10 : decode cJ0_coder_7d493 10 = .ok (.goto 4, 3) := by decide +kernel
theorem dJ0_coder_7d493_13 : decode cJ0_coder_7d493 13 = .ok (.iconst 1, 1) := by decide +kernel
theorem dJ0_coder_7d493_14 : decode cJ0_coder_7d493 14 = .ok (.ireturn, 1) := by decide +kernel
def qJ0_isLatin1_aae02 : MT := (yJ0_isLatin1_aae02, cJ0_isLatin1_aae02, 1, (some .boolean), 99, 1, 0)
theorem dJ0_isLatin1_aae02_0 : decode cJ0_isLatin1_aae02 0 = .ok (.getstatic 38, 3) := by decide +kernel
theorem dJ0_isLatin1_aae02_3 : decode cJ0_isLatin1_aae02 3 = .ok (.ifCond .eq 14, 3) := by decide +kernel
theorem dJ0_isLatin1_aae02_6 : decode cJ0_isLatin1_aae02 6 = .ok (.aload_n 0, 1) := by decide +kernel
theorem dJ0_isLatin1_aae02_7 : decode cJ0_isLatin1_aae02 7 = .ok (.getfield 15, 3) := by decide +kernel
theorem dJ0_isLatin1_aae02_10 : decode cJ0_isLatin1_aae02 10 = .ok (.ifCond .ne 7, 3) := by decide +kernel
theorem dJ0_isLatin1_aae02_13 : decode cJ0_isLatin1_aae02 13 = .ok (.iconst 1, 1) := by decide +kernel
theorem dJ0_isLatin1_aae02_14 : decode cJ0_isLatin1_aae02 14 = .ok (.goto 4, 3) := by decide +kernel
theorem dJ0_isLatin1_aae02_17 : decode cJ0_isLatin1_aae02 17 = .ok (.iconst 0, 1) := by decide +kernel
theorem dJ0_isLatin1_aae02_18 : decode cJ0_isLatin1_aae02 18 = .ok (.ireturn, 1) := by decide +kernel
def qJ1_charAt_3b067 : MT := (yJ1_charAt_3b067, cJ1_charAt_3b067, 2, (some .char), 99, 0, 2)
theorem dJ1_charAt_3b067_0 : decode cJ1_charAt_3b067 0 = .ok (.iload_n 1, 1) := by decide +kernel
theorem dJ1_charAt_3b067_1 : decode cJ1_charAt_3b067 1 = .ok (.aload_n 0, 1) := by decide +kernel
theorem dJ1_charAt_3b067_2 : decode cJ1_charAt_3b067 2 = .ok (.arraylength, 1) := by decide +kernel
theorem dJ1_charAt_3b067_3 : decode cJ1_charAt_3b067 3 = .ok (.invokestatic 9, 3) := by decide +kernel
theorem dJ1_charAt_3b067_6 : decode cJ1_charAt_3b067 6 = .ok (.aload_n 0, 1) := by decide +kernel
theorem dJ1_charAt_3b067_7 : decode cJ1_charAt_3b067 7 = .ok (.iload_n 1, 1) := by decide +kernel
theorem dJ1_charAt_3b067_8 : decode cJ1_charAt_3b067 8 = .ok (.baload, 1) := by decide +kernel
theorem dJ1_charAt_3b067_9 : decode cJ1_charAt_3b067 9 = .ok (.sipush 255, 3) := by decide +kernel
theorem dJ1_charAt_3b067_12 : decode cJ1_charAt_3b067 12 = .ok (.iand, 1) := by decide +kernel
theorem dJ1_charAt_3b067_13 : decode cJ1_charAt_3b067 13 = .ok (.i2c, 1) := by decide +kernel
theorem dJ1_charAt_3b067_14 : decode cJ1_charAt_3b067 14 = .ok (.ireturn, 1) := by decide +kernel
def qJ0_checkIndex_df160 : MT := (yJ0_checkIndex_df160, cJ0_checkIndex_df160, 2, none, 99, 0, 2)
theorem dJ0_checkIndex_df160_0 : decode cJ0_checkIndex_df160 0 = .ok (.iload_n 0, 1) := by decide +kernel
theorem dJ0_checkIndex_df160_1 : decode cJ0_checkIndex_df160 1 = .ok (.iload_n 1, 1) := by decide +kernel
theorem dJ0_checkIndex_df160_2 : decode cJ0_checkIndex_df160 2 = .ok (.getstatic 1053, 3) := by decide +kernel
theorem dJ0_checkIndex_df160_5 : decode cJ0_checkIndex_df160 5 = .ok (.invokestatic 1059, 3) := by decide +kernel
theorem dJ0_checkIndex_df160_8 : decode cJ0_checkIndex_df160 8 = .ok (.pop, 1) := by decide +kernel
theorem dJ0_checkIndex_df160_9 : decode cJ0_checkIndex_df160 9 = .ok (.return_, 1) := by decide +kernel
def qJ3_checkIndex_8e157 : MT := (yJ3_checkIndex_8e157, cJ3_checkIndex_8e157, 3, (some .int), 99, 0, 3)
theorem dJ3_checkIndex_8e157_0 : decode cJ3_checkIndex_8e157 0 = .ok (.iload_n 0, 1) := by decide +kernel
theorem dJ3_checkIndex_8e157_1 : decode cJ3_checkIndex_8e157 1 = .ok (.ifCond .lt 8, 3) := by decide +kernel
theorem dJ3_checkIndex_8e157_4 : decode cJ3_checkIndex_8e157 4 = .ok (.iload_n 0, 1) := by decide +kernel
theorem dJ3_checkIndex_8e157_5 : decode cJ3_checkIndex_8e157 5 = .ok (.iload_n 1, 1) := by decide +kernel
theorem dJ3_checkIndex_8e157_6 : decode cJ3_checkIndex_8e157 6 = .ok (.if_icmp .lt 10, 3) := by decide +kernel
theorem dJ3_checkIndex_8e157_9 : decode cJ3_checkIndex_8e157 9 = .ok (.aload_n 2, 1) := by decide +kernel
theorem dJ3_checkIndex_8e157_10 : decode cJ3_checkIndex_8e157 10 = .ok (.iload_n 0, 1) := by decide +kernel
theorem dJ3_checkIndex_8e157_11 : decode cJ3_checkIndex_8e157 11 = .ok (.iload_n 1, 1) := by decide +kernel
theorem dJ3_checkIndex_8e157_12 : decode cJ3_checkIndex_8e157 12 = .ok (.invokestatic 95, 3) := by decide +kernel
theorem dJ3_checkIndex_8e157_15 : decode cJ3_checkIndex_8e157 15 = .ok (.athrow, 1) := by decide +kernel
theorem dJ3_checkIndex_8e157_16 : decode cJ3_checkIndex_8e157 16 = .ok (.iload_n 0, 1) := by decide +kernel
theorem dJ3_checkIndex_8e157_17 : decode cJ3_checkIndex_8e157 17 = .ok (.ireturn, 1) := by decide +kernel
theorem qJ0_length_8abf5_ok : mOk qJ0_length_8abf5 := mtl_ok (y := 249) rfl
theorem qJ0_charAt_5068e_ok : mOk qJ0_charAt_5068e := mtl_ok (y := 250) rfl
theorem qJ0_coder_7d493_ok : mOk qJ0_coder_7d493 := mtl_ok (y := 251) rfl
theorem qJ0_isLatin1_aae02_ok : mOk qJ0_isLatin1_aae02 := mtl_ok (y := 252) rfl
theorem qJ1_charAt_3b067_ok : mOk qJ1_charAt_3b067 := mtl_ok (y := 253) rfl
theorem qJ0_checkIndex_df160_ok : mOk qJ0_checkIndex_df160 := mtl_ok (y := 254) rfl
theorem qJ3_checkIndex_8e157_ok : mOk qJ3_checkIndex_8e157 := mtl_ok (y := 255) rfl
theorem wS_38 : Cond.fieldLink RJ0 38 "java/lang/String" "COMPACT_STRINGS" "Z" ∈ lw_g := inA_ok (a := (3, 0)) (by decide +kernel)
theorem wS_15 : Cond.fieldLink RJ0 15 "java/lang/String" "coder" "B" ∈ lw_g := inA_ok (a := (8, 11)) (by decide +kernel)
theorem wS_9 : Cond.fieldLink RJ0 9 "java/lang/String" "value" "[B" ∈ lw_g := inA_ok (a := (8, 10)) (by decide +kernel)
theorem wS_335 : Cond.methodLink RJ0 335 yJ0_coder_7d493 ∈ lw_g := inA_ok (a := (2, 236)) (by decide +kernel)
theorem wS_492 : Cond.methodLink RJ0 492 yJ0_isLatin1_aae02 ∈ lw_g := inA_ok (a := (3, 6)) (by decide +kernel)
theorem wS_495 : Cond.methodLink RJ0 495 yJ1_charAt_3b067 ∈ lw_g := inA_ok (a := (3, 10)) (by decide +kernel)
theorem wS_1053 : Cond.fieldLink RJ0 1053 "jdk/internal/util/Preconditions" "SIOOBE_FORMATTER" "Ljava/util/function/BiFunction;" ∈ lw_g := inA_ok (a := (3, 16)) (by decide +kernel)
theorem wS_1059 : Cond.methodLink RJ0 1059 yJ3_checkIndex_8e157 ∈ lw_g := inA_ok (a := (3, 18)) (by decide +kernel)
theorem wL_9 : Cond.methodLink RJ1 9 yJ0_checkIndex_df160 ∈ lw_g := inA_ok (a := (3, 13)) (by decide +kernel)
def QS (v : Option Value) : Array Value → State → Outcome → State → Prop := fun _ st oc t => oc = .returned v ∧ t.heap = st.heap
theorem run_pure {p : Program} {l : Launch} {e : Env} {R : Room} {s : State} {m : MethodId} {args : Array Value} {below : List Frame} {meth : Method} {c : Code} {H : Heap} {locs : List Loc} {cells slots : Nat} {Qm : State → Prop} {pc : Nat} {ls : Array Slot} {st0 rest : List Value} {a : Array Value} {v : Option Value}
    (hr : va_Run p l e R s m args below meth c H locs cells slots 0 0 (F0 m pc ls st0) rest (QS v a) (fun _ => False)) (kk : ∀ locs1 : List Loc, (∀ q ∈ locs1, q ∈ locs) → W p l e R s m args below meth c H locs1 cells slots Qm (F0 m (pc + 3) ls (v.toList ++ rest))) : W p l e R s m args below meth c H locs cells slots Qm (F0 m pc ls st0) := by
  intro T hT X
  obtain ⟨v', st₀, t, T', L, h0, X', hL, e1, e2, ⟨hv, hh⟩, st⟩ := hr T hT X
  cases hv
  obtain ⟨t2, a1, b1⟩ := kk (locs ++ L) (fun q hq => (List.mem_append.mp hq).elim id (fun h => (hL q h).elim)) T' (by rw [e1, hh, h0]) X'
  exact ⟨t2, st t2 a1, b1⟩
theorem S_blind (adK adV : Nat → Nat) (B : Nat) (av : List Value) : FrameBlind (va_Pc av (Str adK adV B)) := fun a U g mk q => ⟨q.1, Str.same (s := U) (U := U.calling g mk a) rfl rfl q.2⟩
theorem GoodIn_V {own : String} {i : Nat} {q : MT} (hq : mOk q) (hk : q.2.2.2.2.2.1 = 1) (hw : Cond.methodLink own i q.1 ∈ lw_g) : GoodIn lw_g (wsV own i q.1.cls q.1 (wsY q)) := fun w hw2 => by
  obtain ⟨o1, o2, o3, o4, o5, o6, o7, o8, o9⟩ := hq
  rcases List.mem_append.mp hw2 with h9 | h9
  · simp only [List.mem_cons, List.not_mem_nil, or_false] at h9
    rcases h9 with rfl | rfl | rfl | rfl
    · exact ⟨hw, good_of_word (lw_g_ok hw)⟩
    · exact ⟨o7 (by omega), good_of_word (lw_g_ok (o7 (by omega)))⟩
    · exact ⟨o8 hk, good_of_word (lw_g_ok (o8 hk))⟩
    · exact ⟨o3, good_of_word (lw_g_ok o3)⟩
  · exact wsY_good ⟨o1, o2, o3, o4, o5, o6, o7, o8, o9⟩ w h9
theorem GoodIn_S {own : String} {i : Nat} {q : MT} (hq : mOk q) (hk : q.2.2.2.2.2.1 = 0) (hw : Cond.methodLink own i q.1 ∈ lw_g) : GoodIn lw_g (va_wsS own i q.1 (wsY q)) := fun w hw2 => by
  obtain ⟨o1, o2, o3, o4, o5, o6, o7, o8, o9⟩ := hq
  rcases List.mem_append.mp hw2 with h9 | h9
  · simp only [List.mem_cons, List.not_mem_nil, or_false] at h9
    rcases h9 with rfl | rfl | rfl
    · exact ⟨hw, good_of_word (lw_g_ok hw)⟩
    · exact ⟨o6 hk, good_of_word (lw_g_ok (o6 hk))⟩
    · exact ⟨o3, good_of_word (lw_g_ok o3)⟩
  · exact wsY_good ⟨o1, o2, o3, o4, o5, o6, o7, o8, o9⟩ w h9
set_option maxHeartbeats 4000000 in
theorem m_coder (l : Launch) (adK adV : Nat → Nat) (B k : Nat) (hk : k < 19) : Met l yJ0_coder_7d493 (wsY qJ0_coder_7d493) (rmOf 1 0 0) (va_Pc [.ref (adK k)] (Str adK adV B)) (QS (some (.int 0))) 0 0 (fun _ => False) := by
  refine Met.ofW (cc := cJ0_coder_7d493) (maxL := 1) (ret := some .byte) (by decide) rfl ?_
  intro p e s m args below meth c s₁ Bd hml hv
  obtain ⟨rfl, hstr⟩ := hv
  have hx := Bd.exec
  have hb := Bd.bytes
  have hr := Bd.returns
  have hts0 := atoms_spec (ws := wsY qJ0_coder_7d493) Bd.pre
  have hts : ∀ w ∈ lw_g, w.before ([.ref (adK k)] : List Value).toArray s = true := fun w hw => hts0 w (List.mem_cons_of_mem _ hw)
  have hown := findClass_of_methodNamed Bd.named
  have hlocks := Bd.notSynchronized
  have hS : va_S (AB B) s.heap s.heap [] := va_S.rf
  have hl := lv_entry ([.ref (adK k)]) (n := 1) (Nat.le_of_ble_eq_true rfl)
  rw [lg_entry_eq]
  generalize (lg_sl ([.ref (adK k)]) ++ List.replicate (1 - (lg_sl ([.ref (adK k)])).length) Slot.unset).toArray = ls at hl ⊢
  have hl : lv_has ls 1 [(0, .ref (adK k))] := hl
  refine va_gets hx hb hstr.2.2.1 hS hown (hts _ wS_38) (fun x h => h) dJ0_coder_7d493_0 ?_
  refine lv_if_eq (tgt := 13) hx hb dJ0_coder_7d493_3 (by decide) (fun q => absurd q (by decide)) (fun q => ?_)
  refine lv_aload_n hx hb dJ0_coder_7d493_6 rfl (lv_at hl 0 rfl) ?_
  refine vk_getf hx hb (hstr.1.1 k hk).2.1 hS hown (hts _ wS_15) (fun x h => h) dJ0_coder_7d493_7 ?_
  refine lv_goto (tgt := 14) hx hb dJ0_coder_7d493_10 (by decide) ?_
  exact W.zret (ty := .byte) hx hb hr rfl (fun t ht _ => ⟨rfl, ht⟩) (fun q hq => absurd hq List.not_mem_nil) dJ0_coder_7d493_14
set_option maxHeartbeats 4000000 in
theorem m_latin (l : Launch) (adK adV : Nat → Nat) (B k : Nat) (hk : k < 19) : Met l yJ0_isLatin1_aae02 (wsY qJ0_isLatin1_aae02) (rmOf 1 0 0) (va_Pc [.ref (adK k)] (Str adK adV B)) (QS (some (.int 1))) 0 0 (fun _ => False) := by
  refine Met.ofW (cc := cJ0_isLatin1_aae02) (maxL := 1) (ret := some .boolean) (by decide) rfl ?_
  intro p e s m args below meth c s₁ Bd hml hv
  obtain ⟨rfl, hstr⟩ := hv
  have hx := Bd.exec
  have hb := Bd.bytes
  have hr := Bd.returns
  have hts0 := atoms_spec (ws := wsY qJ0_isLatin1_aae02) Bd.pre
  have hts : ∀ w ∈ lw_g, w.before ([.ref (adK k)] : List Value).toArray s = true := fun w hw => hts0 w (List.mem_cons_of_mem _ hw)
  have hown := findClass_of_methodNamed Bd.named
  have hlocks := Bd.notSynchronized
  have hS : va_S (AB B) s.heap s.heap [] := va_S.rf
  have hl := lv_entry ([.ref (adK k)]) (n := 1) (Nat.le_of_ble_eq_true rfl)
  rw [lg_entry_eq]
  generalize (lg_sl ([.ref (adK k)]) ++ List.replicate (1 - (lg_sl ([.ref (adK k)])).length) Slot.unset).toArray = ls at hl ⊢
  have hl : lv_has ls 1 [(0, .ref (adK k))] := hl
  refine va_gets hx hb hstr.2.2.1 hS hown (hts _ wS_38) (fun x h => h) dJ0_isLatin1_aae02_0 ?_
  refine lv_if_eq (tgt := 17) hx hb dJ0_isLatin1_aae02_3 (by decide) (fun q => absurd q (by decide)) (fun q => ?_)
  refine lv_aload_n hx hb dJ0_isLatin1_aae02_6 rfl (lv_at hl 0 rfl) ?_
  refine vk_getf hx hb (hstr.1.1 k hk).2.1 hS hown (hts _ wS_15) (fun x h => h) dJ0_isLatin1_aae02_7 ?_
  refine lv_if_ne (tgt := 17) hx hb dJ0_isLatin1_aae02_10 (by decide) (fun q => absurd rfl q) (fun q => ?_)
  refine lv_iconst (v := 1) hx hb dJ0_isLatin1_aae02_13 (by decide) ?_
  refine lv_goto (tgt := 18) hx hb dJ0_isLatin1_aae02_14 (by decide) ?_
  exact W.zret (ty := .boolean) hx hb hr rfl (fun t ht _ => ⟨rfl, ht⟩) (fun q hq => absurd hq List.not_mem_nil) dJ0_isLatin1_aae02_18
set_option maxHeartbeats 4000000 in
theorem m_length (l : Launch) (adK adV : Nat → Nat) (B k : Nat) (hk : k < 19) : Met l yJ0_length_8abf5 (wsY qJ0_length_8abf5) (rmOf 2 0 0) (va_Pc [.ref (adK k)] (Str adK adV B)) (QS (some (.int (Int32.ofNat (strLen.getD k 0))))) 0 0 (fun _ => False) := by
  refine Met.ofW (cc := cJ0_length_8abf5) (maxL := 1) (ret := some .int) (by decide) rfl ?_
  intro p e s m args below meth c s₁ Bd hml hv
  obtain ⟨rfl, hstr⟩ := hv
  have hx := Bd.exec
  have hb := Bd.bytes
  have hr := Bd.returns
  have hts0 := atoms_spec (ws := wsY qJ0_length_8abf5) Bd.pre
  have hts : ∀ w ∈ lw_g, w.before ([.ref (adK k)] : List Value).toArray s = true := fun w hw => hts0 w (List.mem_cons_of_mem _ hw)
  have hown := findClass_of_methodNamed Bd.named
  have hlocks := Bd.notSynchronized
  have hS : va_S (AB B) s.heap s.heap [] := va_S.rf
  have hl := lv_entry ([.ref (adK k)]) (n := 1) (Nat.le_of_ble_eq_true rfl)
  rw [lg_entry_eq]
  generalize (lg_sl ([.ref (adK k)]) ++ List.replicate (1 - (lg_sl ([.ref (adK k)])).length) Slot.unset).toArray = ls at hl ⊢
  have hl : lv_has ls 1 [(0, .ref (adK k))] := hl
  obtain ⟨g1, g2, g3, g4⟩ := hstr.1.1 k hk
  refine lv_aload_n hx hb dJ0_length_8abf5_0 rfl (lv_at hl 0 rfl) ?_
  refine vk_getf hx hb g3 hS hown (hts _ wS_9) (fun x h => h) dJ0_length_8abf5_1 ?_
  refine va_tlen hx hb g4 hS rfl dJ0_length_8abf5_4 ?_
  refine lv_aload_n hx hb dJ0_length_8abf5_5 rfl (lv_at hl 0 rfl) ?_
  refine run_pure (va_runV (As := []) (rest := [.int (Int32.ofNat (strLen.getD k 0))]) ⟨hx, hb, hml, hown, hts⟩ (m_coder l adK adV B k hk) (cwV 0 hts (GoodIn_V qJ0_coder_7d493_ok rfl wS_335) rfl rfl rfl ⟨rfl, qJ0_coder_7d493_ok.2.2.2.1⟩ ⟨by decide, by decide⟩) ⟨S_blind adK adV B _, vk_recv hstr.1 hk hS, fun U hU hW => ⟨rfl, Str.warm hW (fun a _ _ => by rw [hU]) hstr⟩⟩ rfl rfl hl.1 rfl (lv_room (Nat.le_of_ble_eq_true rfl)) dJ0_length_8abf5_6 ⟨by decide, by decide⟩) (fun locs1 hl1 => ?_)
  refine lv_ishr hx hb dJ0_length_8abf5_9 ?_
  have e9 : Int32.ofNat (strLen.getD k 0) >>> ((0 : Int32) &&& 31) = Int32.ofNat (strLen.getD k 0) := by
    have : ∀ j, j < 19 → Int32.ofNat (strLen.getD j 0) >>> ((0 : Int32) &&& 31) = Int32.ofNat (strLen.getD j 0) := by decide
    exact this k hk
  rw [e9]
  exact W.iret hx hb hr (fun t ht _ => ⟨rfl, ht⟩) (fun q hq => absurd (hl1 q hq) List.not_mem_nil) dJ0_length_8abf5_10
set_option maxHeartbeats 4000000 in
theorem m_prec (l : Launch) (adK adV : Nat → Nat) (B n : Nat) (i : Int32) (z : Value) (hz : z = .null ∨ ∃ a, z = .ref a) (hn : n < 2 ^ 31) (hi : vp_in i n) : Met l yJ3_checkIndex_8e157 (wsY qJ3_checkIndex_8e157) (rmOf 1 0 0) (va_Pc [.int i, .int (Int32.ofNat n), z] (Str adK adV B)) (QS (some (.int i))) 0 0 (fun _ => False) := by
  refine Met.ofW (cc := cJ3_checkIndex_8e157) (maxL := 3) (ret := some .int) (by decide) rfl ?_
  intro p e s m args below meth c s₁ Bd hml hv
  obtain ⟨rfl, hstr⟩ := hv
  have hx := Bd.exec
  have hb := Bd.bytes
  have hr := Bd.returns
  have hts0 := atoms_spec (ws := wsY qJ3_checkIndex_8e157) Bd.pre
  have hts : ∀ w ∈ lw_g, w.before ([.int i, .int (Int32.ofNat n), z] : List Value).toArray s = true := fun w hw => hts0 w (List.mem_cons_of_mem _ hw)
  have hown := findClass_of_methodNamed Bd.named
  have hlocks := Bd.notSynchronized
  have hS : va_S (AB B) s.heap s.heap [] := va_S.rf
  have hl := lv_entry ([.int i, .int (Int32.ofNat n), z]) (n := 3) (by rcases hz with rfl | ⟨a, rfl⟩ <;> exact Nat.le_of_ble_eq_true rfl)
  rw [lg_entry_eq]
  generalize (lg_sl ([.int i, .int (Int32.ofNat n), z]) ++ List.replicate (3 - (lg_sl ([.int i, .int (Int32.ofNat n), z])).length) Slot.unset).toArray = ls at hl ⊢
  have hl : lv_has ls 3 [(0, .int i), (1, .int (Int32.ofNat n)), (2, z)] := hl
  refine lv_iload_n hx hb dJ3_checkIndex_8e157_0 rfl (lv_at hl 0 rfl) ?_
  refine lv_if_lt (tgt := 9) hx hb dJ3_checkIndex_8e157_1 (by decide) (fun q => absurd (Or.inl q) hi) (fun q => ?_)
  refine lv_iload_n hx hb dJ3_checkIndex_8e157_4 rfl (lv_at hl 0 rfl) ?_
  refine lv_iload_n hx hb dJ3_checkIndex_8e157_5 rfl (lv_at hl 1 rfl) ?_
  have hlt : i < Int32.ofNat n := by
    obtain ⟨j, hj, rfl⟩ := vp_in_of hi hn
    exact nI_lt hj hn
  refine lv_icmp_lt (tgt := 16) hx hb dJ3_checkIndex_8e157_6 (by decide) (fun q => ?_) (fun q => absurd hlt q)
  refine lv_iload_n hx hb dJ3_checkIndex_8e157_16 rfl (lv_at hl 0 rfl) ?_
  exact W.iret hx hb hr (fun t ht _ => ⟨rfl, ht⟩) (fun q hq => absurd hq List.not_mem_nil) dJ3_checkIndex_8e157_17
set_option maxHeartbeats 4000000 in
theorem m_chk (l : Launch) (adK adV : Nat → Nat) (B n : Nat) (i : Int32) (hn : n < 2 ^ 31) (hi : vp_in i n) : Met l yJ0_checkIndex_df160 (wsY qJ0_checkIndex_df160) (rmOf 2 0 0) (va_Pc [.int i, .int (Int32.ofNat n)] (Str adK adV B)) (QS none) 0 0 (fun _ => False) := by
  refine Met.ofW (cc := cJ0_checkIndex_df160) (maxL := 2) (ret := none) (by decide) rfl ?_
  intro p e s m args below meth c s₁ Bd hml hv
  obtain ⟨rfl, hstr⟩ := hv
  have hx := Bd.exec
  have hb := Bd.bytes
  have hr := Bd.returns
  have hts0 := atoms_spec (ws := wsY qJ0_checkIndex_df160) Bd.pre
  have hts : ∀ w ∈ lw_g, w.before ([.int i, .int (Int32.ofNat n)] : List Value).toArray s = true := fun w hw => hts0 w (List.mem_cons_of_mem _ hw)
  have hown := findClass_of_methodNamed Bd.named
  have hlocks := Bd.notSynchronized
  have hS : va_S (AB B) s.heap s.heap [] := va_S.rf
  have hl := lv_entry ([.int i, .int (Int32.ofNat n)]) (n := 2) (Nat.le_of_ble_eq_true rfl)
  rw [lg_entry_eq]
  generalize (lg_sl ([.int i, .int (Int32.ofNat n)]) ++ List.replicate (2 - (lg_sl ([.int i, .int (Int32.ofNat n)])).length) Slot.unset).toArray = ls at hl ⊢
  have hl : lv_has ls 2 [(0, .int i), (1, .int (Int32.ofNat n))] := hl
  refine lv_iload_n hx hb dJ0_checkIndex_df160_0 rfl (lv_at hl 0 rfl) ?_
  refine lv_iload_n hx hb dJ0_checkIndex_df160_1 rfl (lv_at hl 1 rfl) ?_
  have key : ∀ z : Value, (z = .null ∨ ∃ a, z = .ref a) → W p l e (headSpec (wsY qJ0_checkIndex_df160) (rmOf 2 0 0)).room s m ([.int i, .int (Int32.ofNat n)] : List Value).toArray below meth c s.heap [] 0 0 (MQ below (QS none) ([.int i, .int (Int32.ofNat n)] : List Value).toArray s 0 0 (fun _ => False)) (F0 m (2 + 3) ls (z :: .int (Int32.ofNat n) :: .int i :: [])) := fun z hz => by
    refine run_pure (va_runS (As := [.int i, .int (Int32.ofNat n), z]) (rest := []) ⟨hx, hb, hml, hown, hts⟩ (m_prec l adK adV B n i z hz hn hi) (va_cwS 3 hts (GoodIn_S qJ3_checkIndex_8e157_ok rfl wS_1059) rfl rfl rfl qJ3_checkIndex_8e157_ok.2.2.2.1 ⟨by decide, by decide⟩) ⟨S_blind adK adV B _, fun U hU hW => ⟨rfl, Str.warm hW (fun a _ _ => by rw [hU]) hstr⟩⟩ rfl rfl hl.1 rfl (lv_room (by decide)) dJ0_checkIndex_df160_5 ⟨by decide, by decide⟩) (fun locs1 hl1 => ?_)
    refine lv_pop hx hb dJ0_checkIndex_df160_8 rfl ?_
    exact W.vret hx hb hr (fun t ht _ => ⟨rfl, ht⟩) (fun q hq => absurd (hl1 q hq) List.not_mem_nil) dJ0_checkIndex_df160_9
  rcases hstr.2.2.2.1 with hz | ⟨a, hz⟩
  · exact va_gets hx hb hz hS hown (hts _ wS_1053) (fun x h => h) dJ0_checkIndex_df160_2 (key .null (Or.inl rfl))
  · exact va_gets hx hb hz hS hown (hts _ wS_1053) (fun x h => h) dJ0_checkIndex_df160_2 (key (.ref a) (Or.inr ⟨a, rfl⟩))
set_option maxHeartbeats 4000000 in
theorem m_charL (l : Launch) (adK adV : Nat → Nat) (B k : Nat) (hk : k < 19) (i : Int32) (hi : vp_in i (strLen.getD k 0)) : Met l yJ1_charAt_3b067 (wsY qJ1_charAt_3b067) (rmOf 3 0 0) (va_Pc [.ref (adV k), .int i] (Str adK adV B)) (QS (some (.int ((strB.getD k []).getD i.toNatClampNeg 0)))) 0 0 (fun _ => False) := by
  refine Met.ofW (cc := cJ1_charAt_3b067) (maxL := 2) (ret := some .char) (by decide) rfl ?_
  intro p e s m args below meth c s₁ Bd hml hv
  obtain ⟨rfl, hstr⟩ := hv
  have hx := Bd.exec
  have hb := Bd.bytes
  have hr := Bd.returns
  have hts0 := atoms_spec (ws := wsY qJ1_charAt_3b067) Bd.pre
  have hts : ∀ w ∈ lw_g, w.before ([.ref (adV k), .int i] : List Value).toArray s = true := fun w hw => hts0 w (List.mem_cons_of_mem _ hw)
  have hown := findClass_of_methodNamed Bd.named
  have hlocks := Bd.notSynchronized
  have hS : va_S (AB B) s.heap s.heap [] := va_S.rf
  have hl := lv_entry ([.ref (adV k), .int i]) (n := 2) (Nat.le_of_ble_eq_true rfl)
  rw [lg_entry_eq]
  generalize (lg_sl ([.ref (adV k), .int i]) ++ List.replicate (2 - (lg_sl ([.ref (adV k), .int i])).length) Slot.unset).toArray = ls at hl ⊢
  have hl : lv_has ls 2 [(0, .ref (adV k)), (1, .int i)] := hl
  obtain ⟨g1, g2, g3, g4⟩ := hstr.1.1 k hk
  have hn : strLen.getD k 0 < 2 ^ 31 := by
    have : ∀ j, j < 19 → strLen.getD j 0 < 2 ^ 31 := by decide
    exact this k hk
  refine lv_iload_n hx hb dJ1_charAt_3b067_0 rfl (lv_at hl 1 rfl) ?_
  refine lv_aload_n hx hb dJ1_charAt_3b067_1 rfl (lv_at hl 0 rfl) ?_
  refine va_tlen hx hb g4 hS rfl dJ1_charAt_3b067_2 ?_
  refine run_pure (va_runS (As := [.int i, .int (Int32.ofNat (strLen.getD k 0))]) (rest := []) ⟨hx, hb, hml, hown, hts⟩ (m_chk l adK adV B (strLen.getD k 0) i hn hi) (va_cwS 2 hts (GoodIn_S qJ0_checkIndex_df160_ok rfl wL_9) rfl rfl rfl qJ0_checkIndex_df160_ok.2.2.2.1 ⟨by decide, by decide⟩) ⟨S_blind adK adV B _, fun U hU hW => ⟨rfl, Str.warm hW (fun a _ _ => by rw [hU]) hstr⟩⟩ rfl rfl hl.1 rfl (lv_room (by decide)) dJ1_charAt_3b067_3 ⟨by decide, by decide⟩) (fun locs1 hl1 => ?_)
  have hS1 : va_S (AB B) s.heap s.heap locs1 := ⟨Nat.le_refl _, fun _ _ _ => rfl, fun q hq => absurd (hl1 q hq) List.not_mem_nil⟩
  refine lv_aload_n hx hb dJ1_charAt_3b067_6 rfl (lv_at hl 0 rfl) ?_
  refine lv_iload_n hx hb dJ1_charAt_3b067_7 rfl (lv_at hl 1 rfl) ?_
  refine va_tb hx hb g4 hS1 hi rfl dJ1_charAt_3b067_8 ?_
  refine lv_sipush (v := 255) hx hb dJ1_charAt_3b067_9 (by decide) ?_
  refine lv_iand hx hb dJ1_charAt_3b067_12 ?_
  refine lv_i2c hx hb dJ1_charAt_3b067_13 rfl ?_
  have e9 : (((strB.getD k []).getD i.toNatClampNeg 0 &&& 255).toUInt32 % 65536).toInt32 = (strB.getD k []).getD i.toNatClampNeg 0 ∧ narrow .char (.int ((strB.getD k []).getD i.toNatClampNeg 0)) = .int ((strB.getD k []).getD i.toNatClampNeg 0) := by
    have : ∀ j, j < 19 → ∀ x, x < strLen.getD j 0 → (((strB.getD j []).getD x 0 &&& 255).toUInt32 % 65536).toInt32 = (strB.getD j []).getD x 0 ∧ narrow .char (.int ((strB.getD j []).getD x 0)) = .int ((strB.getD j []).getD x 0) := by decide +kernel
    exact this k hk _ (Nat.not_le.mp fun q => hi (Or.inr q))
  rw [e9.1]
  exact W.zret (ty := .char) hx hb hr e9.2 (fun t ht _ => ⟨rfl, ht⟩) (fun q hq => absurd (hl1 q hq) List.not_mem_nil) dJ1_charAt_3b067_14
set_option maxHeartbeats 4000000 in
theorem m_charAt (l : Launch) (adK adV : Nat → Nat) (B k : Nat) (hk : k < 19) (i : Int32) (hi : vp_in i (strLen.getD k 0)) : Met l yJ0_charAt_5068e (wsY qJ0_charAt_5068e) (rmOf 4 0 0) (va_Pc [.ref (adK k), .int i] (Str adK adV B)) (QS (some (.int ((strB.getD k []).getD i.toNatClampNeg 0)))) 0 0 (fun _ => False) := by
  refine Met.ofW (cc := cJ0_charAt_5068e) (maxL := 2) (ret := some .char) (by decide) rfl ?_
  intro p e s m args below meth c s₁ Bd hml hv
  obtain ⟨rfl, hstr⟩ := hv
  have hx := Bd.exec
  have hb := Bd.bytes
  have hr := Bd.returns
  have hts0 := atoms_spec (ws := wsY qJ0_charAt_5068e) Bd.pre
  have hts : ∀ w ∈ lw_g, w.before ([.ref (adK k), .int i] : List Value).toArray s = true := fun w hw => hts0 w (List.mem_cons_of_mem _ hw)
  have hown := findClass_of_methodNamed Bd.named
  have hlocks := Bd.notSynchronized
  have hS : va_S (AB B) s.heap s.heap [] := va_S.rf
  have hl := lv_entry ([.ref (adK k), .int i]) (n := 2) (Nat.le_of_ble_eq_true rfl)
  rw [lg_entry_eq]
  generalize (lg_sl ([.ref (adK k), .int i]) ++ List.replicate (2 - (lg_sl ([.ref (adK k), .int i])).length) Slot.unset).toArray = ls at hl ⊢
  have hl : lv_has ls 2 [(0, .ref (adK k)), (1, .int i)] := hl
  obtain ⟨g1, g2, g3, g4⟩ := hstr.1.1 k hk
  refine lv_aload_n hx hb dJ0_charAt_5068e_0 rfl (lv_at hl 0 rfl) ?_
  refine run_pure (va_runV (As := []) (rest := []) ⟨hx, hb, hml, hown, hts⟩ (m_latin l adK adV B k hk) (cwV 0 hts (GoodIn_V qJ0_isLatin1_aae02_ok rfl wS_492) rfl rfl rfl ⟨rfl, qJ0_isLatin1_aae02_ok.2.2.2.1⟩ ⟨by decide, by decide⟩) ⟨S_blind adK adV B _, vk_recv hstr.1 hk hS, fun U hU hW => ⟨rfl, Str.warm hW (fun a _ _ => by rw [hU]) hstr⟩⟩ rfl rfl hl.1 rfl (lv_room (by decide)) dJ0_charAt_5068e_1 ⟨by decide, by decide⟩) (fun locs1 hl1 => ?_)
  have hS1 : va_S (AB B) s.heap s.heap locs1 := ⟨Nat.le_refl _, fun _ _ _ => rfl, fun q hq => absurd (hl1 q hq) List.not_mem_nil⟩
  refine lv_if_eq (tgt := 16) hx hb dJ0_charAt_5068e_4 (by decide) (fun q => absurd q (by decide)) (fun q => ?_)
  refine lv_aload_n hx hb dJ0_charAt_5068e_7 rfl (lv_at hl 0 rfl) ?_
  refine vk_getf hx hb g3 hS1 hown (hts _ wS_9) (fun x h => h) dJ0_charAt_5068e_8 ?_
  refine lv_iload_n hx hb dJ0_charAt_5068e_11 rfl (lv_at hl 1 rfl) ?_
  refine run_pure (va_runS (As := [.ref (adV k), .int i]) (rest := []) ⟨hx, hb, hml, hown, hts⟩ (m_charL l adK adV B k hk i hi) (va_cwS 2 hts (GoodIn_S qJ1_charAt_3b067_ok rfl wS_495) rfl rfl rfl qJ1_charAt_3b067_ok.2.2.2.1 ⟨by decide, by decide⟩) ⟨S_blind adK adV B _, fun U hU hW => ⟨rfl, Str.warm hW (fun a _ _ => by rw [hU]) hstr⟩⟩ rfl rfl hl.1 rfl (lv_room (by decide)) dJ0_charAt_5068e_12 ⟨by decide, by decide⟩) (fun locs2 hl2 => ?_)
  have e9 : narrow .char (.int ((strB.getD k []).getD i.toNatClampNeg 0)) = .int ((strB.getD k []).getD i.toNatClampNeg 0) := by
    have : ∀ j, j < 19 → ∀ x, x < strLen.getD j 0 → narrow .char (.int ((strB.getD j []).getD x 0)) = .int ((strB.getD j []).getD x 0) := by decide +kernel
    exact this k hk _ (Nat.not_le.mp fun q => hi (Or.inr q))
  exact W.zret (ty := .char) hx hb hr e9 (fun t ht _ => ⟨rfl, ht⟩) (fun q hq => absurd (hl1 q (hl2 q hq)) List.not_mem_nil) dJ0_charAt_5068e_15
theorem st_strLen {X : CX} {M : MX} (C : Ctx X M) {pc : Nat} {L st : List Value} {h : AH} {i k d : Nat} (hd : decode M.2.1 pc = .ok (.invokevirtual i, 3)) (hw : Cond.methodLink M.1 i yJ0_length_8abf5 ∈ lw_g) (hk : k < 19) (hl : st.length ≤ 4) (hsd : 4 ≤ d) (hdep : M.2.2.2.1 = d + 1) (kk : Wst X (pc + 3, L, .int (Int32.ofNat (strLen.getD k 0)) :: st) h) : Wst X (pc, L, .retAddr k :: st) h := by
  obtain ⟨⟨p, l, e, R, s, m, args, below, meth, c, Qm⟩, ⟨B, D, cid, adK, adV⟩, ⟨nL, n0, u0, E1, E2⟩⟩ := X
  obtain ⟨own, cc, mname, dep, scr⟩ := M
  obtain ⟨hx, hb, hml, hown, hts, hK, hstr, hsz, hnm, hroom, hscr⟩ := C
  intro H locs ls r1 r2 r3 r4
  have hcl := cat_len B adK st hl
  have hdep : dep = d + 1 := hdep
  have hS1 : ∀ locs1 : List Loc, (∀ q ∈ locs1, q ∈ locs) → va_S (AB B) s.heap H locs1 := fun locs1 h9 => ⟨r2.1, r2.2.1, fun q hq => r2.2.2 q (h9 q hq)⟩
  exact run_pure (va_runV (As := []) (rest := st.map (cv B adK)) ⟨hx, hb, hml, hown, hts⟩ (m_length l adK adV B k hk) (cwV 0 hts (GoodIn_V qJ0_length_8abf5_ok rfl hw) rfl rfl rfl ⟨rfl, qJ0_length_8abf5_ok.2.2.2.1⟩ ⟨by simp only [rmOf]; omega, by simp only [rmOf]; show 8 + (1 + 11) + 64 * 2 ≤ _; omega⟩) ⟨S_blind adK adV B _, vk_recv hstr.1 hk r2, fun U hU hW => ⟨rfl, Str.warm hW (fun a q1 q2 => by rw [hU]; exact r2.2.1 a q1 q2) hstr⟩⟩ rfl rfl r3.1 rfl (lv_room hcl) hd ⟨by omega, by omega⟩) (fun locs1 h9 => kk H locs1 ls r1 (hS1 locs1 h9) r3 r4)
theorem st_strAt {X : CX} {M : MX} (C : Ctx X M) {pc : Nat} {L st : List Value} {h : AH} {i k d : Nat} {j : Int32} (hd : decode M.2.1 pc = .ok (.invokevirtual i, 3)) (hw : Cond.methodLink M.1 i yJ0_charAt_5068e ∈ lw_g) (hk : k < 19) (hi : vp_in j (strLen.getD k 0)) (hl : st.length ≤ 4) (hsd : 4 ≤ d) (hdep : M.2.2.2.1 = d + 1) (kk : Wst X (pc + 3, L, .int ((strB.getD k []).getD j.toNatClampNeg 0) :: st) h) : Wst X (pc, L, .int j :: .retAddr k :: st) h := by
  obtain ⟨⟨p, l, e, R, s, m, args, below, meth, c, Qm⟩, ⟨B, D, cid, adK, adV⟩, ⟨nL, n0, u0, E1, E2⟩⟩ := X
  obtain ⟨own, cc, mname, dep, scr⟩ := M
  obtain ⟨hx, hb, hml, hown, hts, hK, hstr, hsz, hnm, hroom, hscr⟩ := C
  intro H locs ls r1 r2 r3 r4
  have hcl := cat_len B adK st hl
  have hdep : dep = d + 1 := hdep
  have hS1 : ∀ locs1 : List Loc, (∀ q ∈ locs1, q ∈ locs) → va_S (AB B) s.heap H locs1 := fun locs1 h9 => ⟨r2.1, r2.2.1, fun q hq => r2.2.2 q (h9 q hq)⟩
  exact run_pure (va_runV (As := [.int j]) (rest := st.map (cv B adK)) ⟨hx, hb, hml, hown, hts⟩ (m_charAt l adK adV B k hk j hi) (cwV 1 hts (GoodIn_V qJ0_charAt_5068e_ok rfl hw) rfl rfl rfl ⟨rfl, qJ0_charAt_5068e_ok.2.2.2.1⟩ ⟨by simp only [rmOf]; omega, by simp only [rmOf]; show 8 + (2 + 11) + 64 * 4 ≤ _; omega⟩) ⟨S_blind adK adV B _, vk_recv hstr.1 hk r2, fun U hU hW => ⟨rfl, Str.warm hW (fun a q1 q2 => by rw [hU]; exact r2.2.1 a q1 q2) hstr⟩⟩ rfl rfl r3.1 rfl (lv_room hcl) hd ⟨by omega, by omega⟩) (fun locs1 h9 => kk H locs1 ls r1 (hS1 locs1 h9) r3 r4)
end
section
/-! The executor: what must hold at a place of a method's code, as a proposition; K: at the next place; Rt: at a return; cut places end a run. -/
abbrev AI : Type := Nat × Instr × Nat × Value × Nat × Nat × Nat × List (Int32 × Nat)
def pI (st : List Value) (k : Int32 → List Value → Prop) : Prop := match st with
  | .int x :: st => k x st
  | _ => False
def pL (st : List Value) (k : Int64 → List Value → Prop) : Prop := match st with
  | .long x :: st => k x st
  | _ => False
def pR (st : List Value) (k : Nat → List Value → Prop) : Prop := match st with
  | .ref x :: st => k x st
  | _ => False
/-- a value of one word -/
def pV (st : List Value) (k : Value → List Value → Prop) : Prop := match st with
  | .int x :: st => k (.int x) st
  | .ref x :: st => k (.ref x) st
  | .retAddr x :: st => k (.retAddr x) st
  | _ => False
def gI (v : Value) (k : Int32 → Prop) : Prop := match v with
  | .int x => k x
  | _ => False
def gL (v : Value) (k : Int64 → Prop) : Prop := match v with
  | .long x => k x
  | _ => False
def gR (v : Value) (k : Nat → Prop) (t : Nat → Prop) : Prop := match v with
  | .ref x => k x
  | .retAddr x => t x
  | _ => False
theorem pI_inv {st : List Value} {k : Int32 → List Value → Prop} (h : pI st k) : ∃ x st', st = .int x :: st' ∧ k x st' := by
  unfold pI at h; split at h
  · exact ⟨_, _, rfl, h⟩
  · exact h.elim
theorem pL_inv {st : List Value} {k : Int64 → List Value → Prop} (h : pL st k) : ∃ x st', st = .long x :: st' ∧ k x st' := by
  unfold pL at h; split at h
  · exact ⟨_, _, rfl, h⟩
  · exact h.elim
theorem pR_inv {st : List Value} {k : Nat → List Value → Prop} (h : pR st k) : ∃ x st', st = .ref x :: st' ∧ k x st' := by
  unfold pR at h; split at h
  · exact ⟨_, _, rfl, h⟩
  · exact h.elim
theorem pV_inv {st : List Value} {k : Value → List Value → Prop} (h : pV st k) : ∃ v st', st = v :: st' ∧ v.category = 1 ∧ k v st' := by
  unfold pV at h; split at h
  · exact ⟨_, _, rfl, rfl, h⟩
  · exact ⟨_, _, rfl, rfl, h⟩
  · exact ⟨_, _, rfl, rfl, h⟩
  · exact h.elim
theorem gI_inv {v : Value} {k : Int32 → Prop} (h : gI v k) : ∃ x, v = .int x ∧ k x := by
  unfold gI at h; split at h
  · exact ⟨_, rfl, h⟩
  · exact h.elim
theorem gL_inv {v : Value} {k : Int64 → Prop} (h : gL v k) : ∃ x, v = .long x ∧ k x := by
  unfold gL at h; split at h
  · exact ⟨_, rfl, h⟩
  · exact h.elim
theorem gR_inv {v : Value} {k t : Nat → Prop} (h : gR v k t) : (∃ x, v = .ref x ∧ k x) ∨ ∃ x, v = .retAddr x ∧ t x := by
  unfold gR at h; split at h
  · exact Or.inl ⟨_, rfl, h⟩
  · exact Or.inr ⟨_, rfl, h⟩
  · exact h.elim
/-- a call: by the method's number -/
def Calls (d y : Nat) (as : List Value) (h : AH) (E1 E2 : Nat) (Q : Option Value → AH → Prop) : Prop := ∃ q, mtl[y]? = some q ∧ CallsM d q as h E1 E2 Q
/-- a call that makes no cells, or one that makes some -/
def clK (d E1 E2 : Nat) (f : Value) (y : Nat) (as : List Value) (h : AH) (Q : Option Value → AH → Prop) : Prop := match f with
  | .int _ => Calls d y as h (hN h) (hU h) Q
  | _ => ∃ F1 F2, F1 ≤ E1 ∧ F2 ≤ E2 ∧ Calls d y as h F1 F2 Q
def clsOf (y : Nat) : Nat := match mtl[y]? with
  | some q => q.2.2.2.2.1
  | none => 0
/-- what a call answered: nothing, an int, a long, a cell, a text -/
def rV (r : Option Value) (k : Prop) : Prop := match r with
  | none => k
  | _ => False
def rI (r : Option Value) (k : Int32 → Prop) : Prop := match r with
  | some (.int x) => k x
  | _ => False
def rL (r : Option Value) (k : Int64 → Prop) : Prop := match r with
  | some (.long x) => k x
  | _ => False
def rR (r : Option Value) (k : Nat → Prop) : Prop := match r with
  | some (.ref x) => k x
  | _ => False
def rT (r : Option Value) (k : Nat → Prop) : Prop := match r with
  | some (.retAddr x) => k x
  | _ => False
def rK (n : Nat) (r : Option Value) (F : List Value → Prop) : Prop := match n with
  | 0 => rV r (F [])
  | 1 => rI r fun x => F [.int x]
  | 2 => rL r fun x => F [.long x]
  | 3 => rR r fun x => F [.ref x]
  | _ => rT r fun x => F [.retAddr x]
theorem rK_ok {n : Nat} {r : Option Value} {F : List Value → Prop} (h : rK n r F) : F r.toList := by
  unfold rK at h
  split at h
  · unfold rV at h; split at h
    · exact h
    · exact h.elim
  · unfold rI at h; split at h
    · exact h
    · exact h.elim
  · unfold rL at h; split at h
    · exact h
    · exact h.elim
  · unfold rR at h; split at h
    · exact h
    · exact h.elim
  · unfold rT at h; split at h
    · exact h
    · exact h.elim
/-- a new heap gets a name -/
def lH (e : AH) (K : AH → Prop) : Prop := ∀ h' : AH, h' = e → K h'
theorem lH_use {e : AH} {K : AH → Prop} (h : lH e K) : K e := h e rfl
def stp (d E1 E2 : Nat) (scr : Option (Nat × (Nat → Int32))) (K : Fr → AH → Prop) (Rt : Option Value → AH → Prop) (pc : Nat) (ins : Instr) (rv : Value) (r1 r2 : Nat) (sw : List (Int32 × Nat)) (L st : List Value) (h : AH) : Prop := match ins with
  | .iconst _ => gI rv fun v => K (pc + 1, L, .int v :: st) h
  | .bipush _ => gI rv fun v => K (pc + 2, L, .int v :: st) h
  | .sipush _ => gI rv fun v => K (pc + 3, L, .int v :: st) h
  | .lconst _ => gL rv fun v => K (pc + 1, L, .long v :: st) h
  | .aconst_null => K (pc + 1, L, .ref 0 :: st) h
  | .ldc _ => match rv with
    | .int v => K (pc + 2, L, .int v :: st) h
    | .retAddr j => K (pc + 2, L, .retAddr j :: st) h
    | _ => False
  | .ldc_w _ => match rv with
    | .int v => K (pc + 3, L, .int v :: st) h
    | .retAddr j => K (pc + 3, L, .retAddr j :: st) h
    | _ => False
  | .ldc2_w _ => gL rv fun v => K (pc + 3, L, .long v :: st) h
  | .iload_n i => gI (getL L i) fun x => K (pc + 1, L, .int x :: st) h
  | .iload i => gI (getL L i) fun x => K (pc + 2, L, .int x :: st) h
  | .lload_n i => gL (getL L i) fun x => K (pc + 1, L, .long x :: st) h
  | .lload i => gL (getL L i) fun x => K (pc + 2, L, .long x :: st) h
  | .aload_n i => gR (getL L i) (fun x => K (pc + 1, L, .ref x :: st) h) (fun x => K (pc + 1, L, .retAddr x :: st) h)
  | .aload i => gR (getL L i) (fun x => K (pc + 2, L, .ref x :: st) h) (fun _ => False)
  | .istore_n i => pI st fun x st => K (pc + 1, stL L i (.int x), st) h
  | .istore i => pI st fun x st => K (pc + 2, stL L i (.int x), st) h
  | .lstore_n i => pL st fun x st => K (pc + 1, stL2 L i (.long x), st) h
  | .lstore i => pL st fun x st => K (pc + 2, stL2 L i (.long x), st) h
  | .astore_n i => pR st fun x st => K (pc + 1, stL L i (.ref x), st) h
  | .astore i => pR st fun x st => K (pc + 2, stL L i (.ref x), st) h
  | .iinc i _ => gI (getL L i) fun x => gI rv fun v => K (pc + 3, stL L i (.int (x + v)), st) h
  | .dup => pV st fun v st => K (pc + 1, L, v :: v :: st) h
  | .pop => pV st fun _ st => K (pc + 1, L, st) h
  | .dup2 => pV st fun v st => pV st fun w st => K (pc + 1, L, v :: w :: v :: w :: st) h
  | .iadd => pI st fun y st => pI st fun x st => K (pc + 1, L, .int (x + y) :: st) h
  | .isub => pI st fun y st => pI st fun x st => K (pc + 1, L, .int (x - y) :: st) h
  | .imul => pI st fun y st => pI st fun x st => K (pc + 1, L, .int (x * y) :: st) h
  | .iand => pI st fun y st => pI st fun x st => K (pc + 1, L, .int (x &&& y) :: st) h
  | .ior => pI st fun y st => pI st fun x st => K (pc + 1, L, .int (x ||| y) :: st) h
  | .ixor => pI st fun y st => pI st fun x st => K (pc + 1, L, .int (x ^^^ y) :: st) h
  | .ishl => pI st fun y st => pI st fun x st => K (pc + 1, L, .int (x <<< (y &&& 31)) :: st) h
  | .ishr => pI st fun y st => pI st fun x st => K (pc + 1, L, .int (x >>> (y &&& 31)) :: st) h
  | .iushr => pI st fun y st => pI st fun x st => K (pc + 1, L, .int ((x.toUInt32 >>> (y.toUInt32 &&& Int32.toUInt32 31)).toInt32) :: st) h
  | .idiv => pI st fun y st => pI st fun x st => ¬ y = 0 ∧ K (pc + 1, L, .int (x / y) :: st) h
  | .irem => pI st fun y st => pI st fun x st => ¬ y = 0 ∧ K (pc + 1, L, .int (x - x / y * y) :: st) h
  | .ladd => pL st fun y st => pL st fun x st => K (pc + 1, L, .long (x + y) :: st) h
  | .lsub => pL st fun y st => pL st fun x st => K (pc + 1, L, .long (x - y) :: st) h
  | .lmul => pL st fun y st => pL st fun x st => K (pc + 1, L, .long (x * y) :: st) h
  | .land => pL st fun y st => pL st fun x st => K (pc + 1, L, .long (x &&& y) :: st) h
  | .lor => pL st fun y st => pL st fun x st => K (pc + 1, L, .long (x ||| y) :: st) h
  | .ldiv => pL st fun y st => pL st fun x st => ¬ y = 0 ∧ K (pc + 1, L, .long (x / y) :: st) h
  | .lrem => pL st fun y st => pL st fun x st => ¬ y = 0 ∧ K (pc + 1, L, .long (x - x / y * y) :: st) h
  | .lcmp => pL st fun y st => pL st fun x st => K (pc + 1, L, .int (lg_cmp x y) :: st) h
  | .i2l => pI st fun x st => K (pc + 1, L, .long x.toInt64 :: st) h
  | .i2b => pI st fun x st => K (pc + 1, L, .int x.toInt8.toInt32 :: st) h
  | .l2i => pL st fun x st => K (pc + 1, L, .int x.toInt32 :: st) h
  | .ifCond .eq _ => pI st fun x st => (x = 0 → K (r1, L, st) h) ∧ (¬ x = 0 → K (pc + 3, L, st) h)
  | .ifCond .ne _ => pI st fun x st => (¬ x = 0 → K (r1, L, st) h) ∧ (x = 0 → K (pc + 3, L, st) h)
  | .ifCond .lt _ => pI st fun x st => (x < 0 → K (r1, L, st) h) ∧ (¬ x < 0 → K (pc + 3, L, st) h)
  | .ifCond .ge _ => pI st fun x st => (0 ≤ x → K (r1, L, st) h) ∧ (¬ 0 ≤ x → K (pc + 3, L, st) h)
  | .ifCond .gt _ => pI st fun x st => (0 < x → K (r1, L, st) h) ∧ (¬ 0 < x → K (pc + 3, L, st) h)
  | .ifCond .le _ => pI st fun x st => (x ≤ 0 → K (r1, L, st) h) ∧ (¬ x ≤ 0 → K (pc + 3, L, st) h)
  | .if_icmp .eq _ => pI st fun y st => pI st fun x st => (x = y → K (r1, L, st) h) ∧ (¬ x = y → K (pc + 3, L, st) h)
  | .if_icmp .ne _ => pI st fun y st => pI st fun x st => (¬ x = y → K (r1, L, st) h) ∧ (x = y → K (pc + 3, L, st) h)
  | .if_icmp .lt _ => pI st fun y st => pI st fun x st => (x < y → K (r1, L, st) h) ∧ (¬ x < y → K (pc + 3, L, st) h)
  | .if_icmp .ge _ => pI st fun y st => pI st fun x st => (y ≤ x → K (r1, L, st) h) ∧ (¬ y ≤ x → K (pc + 3, L, st) h)
  | .if_icmp .gt _ => pI st fun y st => pI st fun x st => (y < x → K (r1, L, st) h) ∧ (¬ y < x → K (pc + 3, L, st) h)
  | .if_icmp .le _ => pI st fun y st => pI st fun x st => (x ≤ y → K (r1, L, st) h) ∧ (¬ x ≤ y → K (pc + 3, L, st) h)
  | .ifnull _ => pR st fun x st => (x = 0 → K (r1, L, st) h) ∧ (¬ x = 0 → K (pc + 3, L, st) h)
  | .ifnonnull _ => pR st fun x st => (¬ x = 0 → K (r1, L, st) h) ∧ (x = 0 → K (pc + 3, L, st) h)
  | .goto _ => K (r1, L, st) h
  | .tableswitch _ _ _ _ => pI st fun x st => swK x (fun t => K (t, L, st) h) r1 sw
  | .lookupswitch _ _ => pI st fun x st => swK x (fun t => K (t, L, st) h) r1 sw
  | .getfield _ => pR st fun a st => (hS h a).1 = 10 + r1 ∧ match rv with
    | .ref _ => K (pc + 3, L, .ref (hR h a r2) :: st) h
    | _ => K (pc + 3, L, .int (hI h a r2) :: st) h
  | .putfield _ => match rv with
    | .ref _ => pR st fun x st => pR st fun a st => (hS h a).1 = 10 + r1 ∧ lH (sR h a r2 x) fun hh => K (pc + 3, L, st) hh
    | .long _ => pI st fun x st => pR st fun a st => (hS h a).1 = 10 + r1 ∧ (x = 0 ∨ x = 1) ∧ lH (sI h a r2 x) fun hh => K (pc + 3, L, st) hh
    | _ => pI st fun x st => pR st fun a st => (hS h a).1 = 10 + r1 ∧ lH (sI h a r2 x) fun hh => K (pc + 3, L, st) hh
  | .iaload => pI st fun i st => gR (st.getD 0 (.float 0)) (fun a => (hS h a).1 = 1 ∧ vp_in i (hS h a).2 ∧ K (pc + 1, L, .int (hI h a i.toNatClampNeg) :: st.tail) h) (fun t => t = 19 ∧ match scr with
    | some q => vp_in i q.1 ∧ K (pc + 1, L, .int (q.2 i.toNatClampNeg) :: st.tail) h
    | none => False)
  | .arraylength => gR (st.getD 0 (.float 0)) (fun a => 1 ≤ (hS h a).1 ∧ (hS h a).1 ≤ 8 ∧ K (pc + 1, L, .int (Int32.ofNat (hS h a).2) :: st.tail) h) (fun t => t = 19 ∧ match scr with
    | some q => K (pc + 1, L, .int (Int32.ofNat q.1) :: st.tail) h
    | none => False)
  | .baload => pI st fun i st => pR st fun a st => ((hS h a).1 = 2 ∨ (hS h a).1 = 3) ∧ vp_in i (hS h a).2 ∧ K (pc + 1, L, .int (hI h a i.toNatClampNeg) :: st) h
  | .laload => pI st fun i st => pR st fun a st => (hS h a).1 = 4 ∧ vp_in i (hS h a).2 ∧ K (pc + 1, L, .long (hL h a i.toNatClampNeg) :: st) h
  | .aaload => pI st fun i st => pR st fun a st => 5 ≤ (hS h a).1 ∧ (hS h a).1 ≤ 8 ∧ vp_in i (hS h a).2 ∧ K (pc + 1, L, .ref (hR h a i.toNatClampNeg) :: st) h
  | .iastore => pI st fun x st => pI st fun i st => pR st fun a st => (hS h a).1 = 1 ∧ vp_in i (hS h a).2 ∧ lH (sI h a i.toNatClampNeg x) fun hh => K (pc + 1, L, st) hh
  | .bastore => pI st fun x st => pI st fun i st => pR st fun a st => ((hS h a).1 = 2 ∨ (hS h a).1 = 3) ∧ vp_in i (hS h a).2 ∧ ((hS h a).1 = 2 → lH (sI h a i.toNatClampNeg (vp_nar .byte x)) fun hh => K (pc + 1, L, st) hh) ∧ ((hS h a).1 = 3 → lH (sI h a i.toNatClampNeg (vp_nar .boolean x)) fun hh => K (pc + 1, L, st) hh)
  | .lastore => pL st fun x st => pI st fun i st => pR st fun a st => (hS h a).1 = 4 ∧ vp_in i (hS h a).2 ∧ lH (sL h a i.toNatClampNeg x) fun hh => K (pc + 1, L, st) hh
  | .aastore => pR st fun v st => pI st fun i st => pR st fun a st => (5 ≤ (hS h a).1 ∧ (hS h a).1 ≤ 7) ∧ vp_in i (hS h a).2 ∧ (hS h v).1 = 10 + qCl (hS h a).1 ∧ lH (sR h a i.toNatClampNeg v) fun hh => K (pc + 1, L, st) hh
  | .new _ => hN h + 1 ≤ E1 ∧ hU h + fN r1 ≤ E2 ∧ lH (nC h (10 + r1) (fN r1)) fun hh => K (pc + 3, L, .ref (hN h) :: st) hh
  | .newarray .int => pI st fun n st => ¬ n < 0 ∧ n.toNatClampNeg ≤ 65536 ∧ hN h + 1 ≤ E1 ∧ hU h + n.toNatClampNeg ≤ E2 ∧ lH (nC h 1 n.toNatClampNeg) fun hh => K (pc + 2, L, .ref (hN h) :: st) hh
  | .newarray .byte => pI st fun n st => ¬ n < 0 ∧ n.toNatClampNeg ≤ 65536 ∧ hN h + 1 ≤ E1 ∧ hU h + n.toNatClampNeg ≤ E2 ∧ lH (nC h 2 n.toNatClampNeg) fun hh => K (pc + 2, L, .ref (hN h) :: st) hh
  | .newarray .boolean => pI st fun n st => ¬ n < 0 ∧ n.toNatClampNeg ≤ 65536 ∧ hN h + 1 ≤ E1 ∧ hU h + n.toNatClampNeg ≤ E2 ∧ lH (nC h 3 n.toNatClampNeg) fun hh => K (pc + 2, L, .ref (hN h) :: st) hh
  | .newarray .long => pI st fun n st => ¬ n < 0 ∧ n.toNatClampNeg ≤ 65536 ∧ hN h + 1 ≤ E1 ∧ hU h + n.toNatClampNeg ≤ E2 ∧ lH (nC h 4 n.toNatClampNeg) fun hh => K (pc + 2, L, .ref (hN h) :: st) hh
  | .anewarray _ => pI st fun n st => ¬ n < 0 ∧ n.toNatClampNeg ≤ 65536 ∧ hN h + 1 ≤ E1 ∧ hU h + n.toNatClampNeg ≤ E2 ∧ lH (nC h r1 n.toNatClampNeg) fun hh => K (pc + 3, L, .ref (hN h) :: st) hh
  | .multianewarray _ _ => pI st fun k st => pI st fun n st => ¬ n < 0 ∧ ¬ k < 0 ∧ n.toNatClampNeg ≤ 65536 ∧ k.toNatClampNeg ≤ 65536 ∧ hN h + 1 + n.toNatClampNeg ≤ E1 ∧ hU h + n.toNatClampNeg + n.toNatClampNeg * k.toNatClampNeg ≤ E2 ∧ lH (nM h n.toNatClampNeg k.toNatClampNeg) fun hh => K (pc + 4, L, .ref (hN h) :: st) hh
  | .checkcast _ => pR st fun a st => (hS h a).1 = 1 ∧ K (pc + 3, L, .ref a :: st) h
  | .invokevirtual _ => cond (Nat.ble 1000 r1) (match r1 with
    | 1004 => pR st fun a st => cond (Nat.ble st.length 4) ((hS h a).1 = 1 ∧ hN h + 1 ≤ E1 ∧ hU h + (hS h a).2 ≤ E2 ∧ lH (nD h a) fun hh => K (pc + 3, L, .ref (hN h) :: st) hh) False
    | 1005 => gR (st.getD 0 (.float 0)) (fun _ => False) (fun t => cond (Nat.ble st.tail.length 4) (t < 19 ∧ K (pc + 3, L, .int (Int32.ofNat (strLen.getD t 0)) :: st.tail) h) False)
    | 1006 => pI st fun i st => gR (st.getD 0 (.float 0)) (fun _ => False) (fun t => cond (Nat.ble st.tail.length 4) (t < 19 ∧ vp_in i (strLen.getD t 0) ∧ K (pc + 3, L, .int ((strB.getD t []).getD i.toNatClampNeg 0) :: st.tail) h) False)
    | _ => False) (cond (Nat.ble r2 st.length && Nat.ble (st.drop r2).length 4) (match (st.take r2).reverse with
    | .ref a :: as => (hS h a).1 = 10 + (sw.getD 0 (0, 0)).2 ∧ clK d E1 E2 rv r1 (.ref a :: as) h (fun r h' => rK (sw.getD 1 (0, 0)).2 r (fun vs => K (pc + 3, L, vs ++ st.drop r2) h'))
    | _ => False) False)
  | .invokespecial _ => cond (Nat.ble 1000 r1) (match r1 with
    | 1000 => pR st fun a st => cond (Nat.ble st.length 4) ((hS h a).1 = 10 + (sw.getD 0 (0, 0)).2 ∧ K (pc + 3, L, st) h) False
    | _ => False) (cond (Nat.ble r2 st.length && Nat.ble (st.drop r2).length 4) (match (st.take r2).reverse with
    | .ref a :: as => (hS h a).1 = 10 + (sw.getD 0 (0, 0)).2 ∧ clK d E1 E2 rv r1 (.ref a :: as) h (fun r h' => rK (sw.getD 1 (0, 0)).2 r (fun vs => K (pc + 3, L, vs ++ st.drop r2) h'))
    | _ => False) False)
  | .invokestatic _ => cond (Nat.ble 1000 r1) (match r1 with
    | 1001 => pI st fun n st => pI st fun dp st => pR st fun b st => pI st fun sp st => pR st fun a st => cond (Nat.ble st.length 4) ((hS h a).1 = 1 ∧ (hS h b).1 = 1 ∧ ¬ sp < 0 ∧ ¬ dp < 0 ∧ ¬ n < 0 ∧ sp.toNatClampNeg + n.toNatClampNeg ≤ (hS h a).2 ∧ dp.toNatClampNeg + n.toNatClampNeg ≤ (hS h b).2 ∧ lH (cpI h a sp.toNatClampNeg b dp.toNatClampNeg n.toNatClampNeg) fun hh => K (pc + 3, L, st) hh) False
    | 1002 => pI st fun y st => pI st fun x st => cond (Nat.ble st.length 4) (K (pc + 3, L, .int (if x < y then y else x) :: st) h) False
    | 1003 => pI st fun y st => pI st fun x st => cond (Nat.ble st.length 4) (K (pc + 3, L, .int (if y < x then y else x) :: st) h) False
    | _ => False) (cond (Nat.ble r2 st.length && Nat.ble (st.drop r2).length 4) (clK d E1 E2 rv r1 (st.take r2).reverse h (fun r h' => rK (sw.getD 1 (0, 0)).2 r (fun vs => K (pc + 3, L, vs ++ st.drop r2) h'))) False)
  | .ireturn => pI st fun x st => cond st.isEmpty (Rt (some (.int x)) h) False
  | .lreturn => pL st fun x st => cond st.isEmpty (Rt (some (.long x)) h) False
  | .areturn => gR (st.getD 0 (.float 0)) (fun x => cond st.tail.isEmpty (Rt (some (.ref x)) h) False) (fun x => cond st.tail.isEmpty (Rt (some (.retAddr x)) h) False)
  | .return_ => cond st.isEmpty (Rt none h) False
  | _ => False
def strOkB (j : Nat) (own : String) (i : Nat) : Bool := match strs[j]? with
  | some q => decide (q.1 = own ∧ q.2.1 = i)
  | none => false
theorem strOk {j : Nat} {own : String} {i : Nat} (h : strOkB j own i = true) : ∃ q, strs[j]? = some q ∧ q.1 = own ∧ q.2.1 = i := by
  unfold strOkB at h
  split at h
  · rename_i q hq
    exact ⟨q, hq, by simpa using h⟩
  · cases h
/-- what is looked up once of each instruction -/
def chk (own mname : String) (nL pc : Nat) (ins : Instr) (len : Nat) (rv : Value) (r1 r2 r3 : Nat) (sw : List (Int32 × Nat)) : Bool := match ins with
  | .iconst n => decide (len = 1) && (match rv with | .int v => decide (Int32.ofInt n = v) | _ => false)
  | .bipush n => decide (len = 2) && (match rv with | .int v => decide ((Int8.ofInt n).toInt32 = v) | _ => false)
  | .sipush n => decide (len = 3) && (match rv with | .int v => decide ((Int16.ofInt n).toInt32 = v) | _ => false)
  | .lconst n => decide (len = 1) && (match rv with | .long v => decide (Int64.ofNat (n : Nat) = v) | _ => false)
  | .ldc i => decide (len = 2) && (match rv with | .int v => decide (conT[r3]? = some (own, i, v)) | .retAddr j => strOkB j own i | _ => false)
  | .ldc_w i => decide (len = 3) && (match rv with | .int v => decide (conT[r3]? = some (own, i, v)) | .retAddr j => strOkB j own i | _ => false)
  | .ldc2_w i => decide (len = 3) && (match rv with | .long v => decide (conLT[r3]? = some (own, i, v)) | _ => false)
  | .iload _ => decide (len = 2)
  | .lload _ => decide (len = 2)
  | .aload _ => decide (len = 2)
  | .istore_n i => decide (len = 1) && decide ((i : Nat) < nL)
  | .istore i => decide (len = 2) && decide (i < nL)
  | .lstore_n i => decide (len = 1) && decide ((i : Nat) + 1 < nL)
  | .lstore i => decide (len = 2) && decide (i + 1 < nL)
  | .astore_n i => decide (len = 1) && decide ((i : Nat) < nL)
  | .astore i => decide (len = 2) && decide (i < nL)
  | .iinc i n => decide (len = 3) && decide (i < nL) && (match rv with | .int v => decide (Int32.ofInt n = v) | _ => false)
  | .ifCond _ off => decide (len = 3) && decide ((pc : Int) + off = (r1 : Int))
  | .if_icmp _ off => decide (len = 3) && decide ((pc : Int) + off = (r1 : Int))
  | .ifnull off => decide (len = 3) && decide ((pc : Int) + off = (r1 : Int))
  | .ifnonnull off => decide (len = 3) && decide ((pc : Int) + off = (r1 : Int))
  | .goto off => decide (len = 3) && decide ((pc : Int) + off = (r1 : Int))
  | .tableswitch dflt lo hi offs => decide ((pc : Int) + dflt = (r1 : Int)) && decide (hi + 1 = lo + offs.size) && decide (sw.map (fun q => (q.1.toInt, (q.2 : Int))) = (List.range offs.size).map (fun (j : Nat) => (lo + (j : Int), (pc : Int) + offs.getD j 0)))
  | .lookupswitch dflt ps => decide ((pc : Int) + dflt = (r1 : Int)) && decide ((ps.toList.zip (ps.toList.drop 1)).all (fun (a, next) => a.1 < next.1) = true) && decide (sw.map (fun q => (q.1.toInt, (q.2 : Int) - pc)) = ps.toList)
  | .getfield i => decide (len = 3) && decide (fldT[r3]? = some (own, i, r1, r2)) && (match rv with | .ref _ => refTy (fTy r1 r2) | .int _ => decide (fTy r1 r2 = .int ∨ fTy r1 r2 = .boolean) | _ => false)
  | .putfield i => decide (len = 3) && decide (fldT[r3]? = some (own, i, r1, r2)) && ((match rv with | .ref _ => refTy (fTy r1 r2) | .long _ => decide (fTy r1 r2 = .boolean) | .int _ => decide (fTy r1 r2 = .int) | _ => false) && (match cl13[r1]? with | some q => !(q.2.1 r2).2.2.2 || (decide (mname = "<init>") && decide ((q.2.1 r2).1 = own)) | none => false))
  | .new i => decide (len = 3) && decide (clsT[r3]? = some (own, i, r1))
  | .newarray _ => decide (len = 2)
  | .anewarray i => decide (len = 3) && ((decide (r1 = 5) && decide (clsT[r3]? = some (own, i, 6))) || (decide (r1 = 6) && decide (clsT[r3]? = some (own, i, 9))) || (decide (r1 = 7) && decide (clsT[r3]? = some (own, i, 4))))
  | .multianewarray i dm => decide (len = 4) && decide (dm = 2) && decide (othT[r3]? = some (own, i, "[[I"))
  | .checkcast i => decide (len = 3) && decide (othT[r3]? = some (own, i, "[I"))
  | .invokevirtual i => decide (len = 3) && cond (Nat.ble 1000 r1) (decide (splT[r3]? = some (own, i, r1))) (decide (lnkT[r3]? = some (own, i, r1)) && (match mtl[r1]? with | some q => decide (q.2.2.2.2.2.1 = 1) && decide (r2 = q.2.2.2.2.2.2 + 1) && decide ((sw.getD 0 (0, 0)).2 = q.2.2.2.2.1) && (match cl13[q.2.2.2.2.1]? with | some qc => decide (qc.1 = q.1.cls) | none => false) | none => false))
  | .invokespecial i => decide (len = 3) && cond (Nat.ble 1000 r1) (decide (splT[r3]? = some (own, i, r1))) (match mtl[r1]? with | some q => decide (r2 = q.2.2.2.2.2.2 + 1) && ((decide (q.2.2.2.2.2.1 = 2) && decide (lnkT[r3]? = some (own, i, r1))) || (decide (q.2.2.2.2.2.1 = 3) && decide (nestW[r3]? = some (own, i, q.1)))) | none => false)
  | .invokestatic i => decide (len = 3) && cond (Nat.ble 1000 r1) (decide (splT[r3]? = some (own, i, r1))) (decide (lnkT[r3]? = some (own, i, r1)) && (match mtl[r1]? with | some q => decide (q.2.2.2.2.2.1 = 0) && decide (r2 = q.2.2.2.2.2.2) | none => false))
  | _ => decide (len = 1)
theorem cond_inv {b : Bool} {A : Prop} (h : cond b A False) : b = true ∧ A := by
  cases b
  · exact h.elim
  · exact ⟨rfl, h⟩
theorem getD_cons {l : List Value} {v : Value} (h : l.getD 0 (.float 0) = v) (hv : v ≠ .float 0) : ∃ r, l = v :: r := by
  cases l with
  | nil => exact absurd h.symm hv
  | cons a r => exact ⟨r, by rw [show a = v from h]⟩
theorem swK_mono {x : Int32} {K K' : Nat → Prop} {d : Nat} (hK : ∀ t, K t → K' t) : ∀ {l : List (Int32 × Nat)}, swK x K d l → swK x K' d l
  | [], h => hK _ h
  | q :: r, h => ⟨fun e => hK _ (h.1 e), fun e => swK_mono hK (h.2 e)⟩
theorem Wst.wf {X : CX} {f : Fr} {h : AH} (k : wfH h → Wst X f h) : Wst X f h := by
  obtain ⟨⟨p, l, e, R, s, m, args, below, meth, c, Qm⟩, ⟨B, D, cid, adK, adV⟩, ⟨nL, n0, u0, E1, E2⟩⟩ := X
  exact fun H locs ls r1 r2 r3 r4 => k r1.2 H locs ls r1 r2 r3 r4
theorem Wst.le {X : CX} {f : Fr} {h : AH} (k : hN h ≤ X.2.2.2.2.2.1 → hU h ≤ X.2.2.2.2.2.2 → Wst X f h) : Wst X f h := by
  obtain ⟨⟨p, l, e, R, s, m, args, below, meth, c, Qm⟩, ⟨B, D, cid, adK, adV⟩, ⟨nL, n0, u0, E1, E2⟩⟩ := X
  exact fun H locs ls r1 r2 r3 r4 => k r4.2.2.1 r4.2.2.2 H locs ls r1 r2 r3 r4
theorem clK_use {X : CX} {f : Fr} {h : AH} {d E1 E2 y : Nat} {rv : Value} {q : MT} {as : List Value} {Q : Option Value → AH → Prop} (hq : mtl[y]? = some q) (hE1 : X.2.2.2.2.2.1 = E1) (hE2 : X.2.2.2.2.2.2 = E2) (hs : clK d E1 E2 rv y as h Q) (k : ∀ F1 F2, F1 ≤ X.2.2.2.2.2.1 → F2 ≤ X.2.2.2.2.2.2 → CallsM d q as h F1 F2 Q → Wst X f h) : Wst X f h := by
  unfold clK at hs
  split at hs
  · obtain ⟨q2, hq2, hc⟩ := hs
    cases hq.symm.trans hq2
    exact Wst.le (fun g1 g2 => k _ _ g1 g2 hc)
  · obtain ⟨F1, F2, g1, g2, q2, hq2, hc⟩ := hs
    cases hq.symm.trans hq2
    exact k F1 F2 (by rw [hE1]; exact g1) (by rw [hE2]; exact g2) hc
theorem take_args {st as : List Value} {a r2 : Nat} (h7 : Nat.ble r2 st.length = true) (has : (st.take r2).reverse = .ref a :: as) : st = as.reverse ++ .ref a :: st.drop r2 := by
  have h1 := congrArg List.reverse has
  rw [List.reverse_reverse, List.reverse_cons] at h1
  have h2 := List.take_append_drop r2 st
  rw [h1, List.append_assoc] at h2
  exact h2.symm
theorem take_len {st as : List Value} {a r2 : Nat} (h7 : Nat.ble r2 st.length = true) (has : (st.take r2).reverse = .ref a :: as) : as.length + 1 = r2 := by
  have h1 := congrArg List.length has
  have := Nat.le_of_ble_eq_true h7
  simp only [List.length_reverse, List.length_take, List.length_cons] at h1
  omega
def retS (ins : Instr) (st : List Value) (v : Option Value) : Prop := match ins with
  | .ireturn => ∃ x, st = [.int x] ∧ v = some (.int x)
  | .lreturn => ∃ x, st = [.long x] ∧ v = some (.long x)
  | .areturn => ∃ x, (st = [.ref x] ∧ v = some (.ref x)) ∨ (st = [.retAddr x] ∧ v = some (.retAddr x))
  | .return_ => st = [] ∧ v = none
  | _ => False
set_option maxHeartbeats 4000000 in
theorem stp_ok {X : CX} {own mname : String} {cc : ByteArray} {d nL E1 E2 : Nat} {scr : Option (Nat × (Nat → Int32))} (C : Ctx X (own, cc, mname, d + 1, scr)) (hsd : 4 ≤ d) (hnL : X.2.2.1 = nL) (hE1 : X.2.2.2.2.2.1 = E1) (hE2 : X.2.2.2.2.2.2 = E2) {K : Fr → AH → Prop} {Rt : Option Value → AH → Prop} (hK : ∀ f h, K f h → Wst X f h) (hR : ∀ (pc : Nat) (ins : Instr) (L st : List Value) (v : Option Value) (h : AH), decode cc pc = .ok (ins, 1) → retS ins st v → Rt v h → Wst X (pc, L, st) h) {pc len r1 r2 r3 : Nat} {ins : Instr} {rv : Value} {sw : List (Int32 × Nat)} {L st : List Value} {h : AH} (hd : decode cc pc = .ok (ins, len)) (hc : chk own mname nL pc ins len rv r1 r2 r3 sw = true) (hs : stp d E1 E2 scr K Rt pc ins rv r1 r2 sw L st h) : Wst X (pc, L, st) h := by
  have hscr : ((own, cc, mname, d + 1, scr) : MX).2.2.2.2 = scr := rfl
  cases ins with
  | iconst n =>
    simp only [stp] at hs
    replace hs := gI_inv hs
    obtain ⟨v, rfl, hs⟩ := hs
    simp only [chk, Bool.and_eq_true, decide_eq_true_eq] at hc
    obtain ⟨rfl, hc⟩ := hc
    exact st_iconst C hd hc (hK _ _ hs)
  | bipush n =>
    simp only [stp] at hs
    replace hs := gI_inv hs
    obtain ⟨v, rfl, hs⟩ := hs
    simp only [chk, Bool.and_eq_true, decide_eq_true_eq] at hc
    obtain ⟨rfl, hc⟩ := hc
    exact st_bipush C hd hc (hK _ _ hs)
  | sipush n =>
    simp only [stp] at hs
    replace hs := gI_inv hs
    obtain ⟨v, rfl, hs⟩ := hs
    simp only [chk, Bool.and_eq_true, decide_eq_true_eq] at hc
    obtain ⟨rfl, hc⟩ := hc
    exact st_sipush C hd hc (hK _ _ hs)
  | lconst n =>
    simp only [stp] at hs
    replace hs := gL_inv hs
    obtain ⟨v, rfl, hs⟩ := hs
    simp only [chk, Bool.and_eq_true, decide_eq_true_eq] at hc
    obtain ⟨rfl, hc⟩ := hc
    exact st_lconst C hd hc (hK _ _ hs)
  | aconst_null =>
    simp only [stp] at hs
    simp only [chk, decide_eq_true_eq] at hc
    subst hc
    exact st_aconst C hd (hK _ _ hs)
  | ldc i =>
    simp only [stp] at hs
    cases rv with
    | int v =>
      simp only [chk, Bool.and_eq_true, decide_eq_true_eq] at hc
      obtain ⟨rfl, hc⟩ := hc
      exact st_ldc C hd (conT_ok hc) (hK _ _ hs)
    | retAddr j =>
      simp only [chk, Bool.and_eq_true, decide_eq_true_eq] at hc
      obtain ⟨rfl, hc⟩ := hc
      obtain ⟨⟨o1, i1, tx⟩, hq, e1, e2⟩ := strOk hc
      simp only at e1 e2
      subst e1; subst e2
      exact st_ldcS C hd hq (hK _ _ hs)
    | _ => exact hs.elim
  | ldc_w i =>
    simp only [stp] at hs
    cases rv with
    | int v =>
      simp only [chk, Bool.and_eq_true, decide_eq_true_eq] at hc
      obtain ⟨rfl, hc⟩ := hc
      exact st_ldcw C hd (conT_ok hc) (hK _ _ hs)
    | retAddr j =>
      simp only [chk, Bool.and_eq_true, decide_eq_true_eq] at hc
      obtain ⟨rfl, hc⟩ := hc
      obtain ⟨⟨o1, i1, tx⟩, hq, e1, e2⟩ := strOk hc
      simp only at e1 e2
      subst e1; subst e2
      exact st_ldcwS C hd hq (hK _ _ hs)
    | _ => exact hs.elim
  | ldc2_w i =>
    simp only [stp] at hs
    replace hs := gL_inv hs
    obtain ⟨v, rfl, hs⟩ := hs
    simp only [chk, Bool.and_eq_true, decide_eq_true_eq] at hc
    obtain ⟨rfl, hc⟩ := hc
    exact st_ldc2 C hd (conLT_ok hc) (hK _ _ hs)
  | iload_n i =>
    simp only [stp] at hs
    replace hs := gI_inv hs
    obtain ⟨x, hl, hs⟩ := hs
    simp only [chk, decide_eq_true_eq] at hc
    subst hc
    exact st_iload_n C hd hl (hK _ _ hs)
  | iload i =>
    simp only [stp] at hs
    replace hs := gI_inv hs
    obtain ⟨x, hl, hs⟩ := hs
    simp only [chk, decide_eq_true_eq] at hc
    subst hc
    exact st_iload C hd hl (hK _ _ hs)
  | lload_n i =>
    simp only [stp] at hs
    replace hs := gL_inv hs
    obtain ⟨x, hl, hs⟩ := hs
    simp only [chk, decide_eq_true_eq] at hc
    subst hc
    exact st_lload_n C hd hl (hK _ _ hs)
  | lload i =>
    simp only [stp] at hs
    replace hs := gL_inv hs
    obtain ⟨x, hl, hs⟩ := hs
    simp only [chk, decide_eq_true_eq] at hc
    subst hc
    exact st_lload C hd hl (hK _ _ hs)
  | aload_n i =>
    simp only [stp] at hs
    simp only [chk, decide_eq_true_eq] at hc
    subst hc
    replace hs := gR_inv hs
    rcases hs with ⟨x, hl, hs⟩ | ⟨x, hl, hs⟩
    · exact st_aload_n C hd hl (hK _ _ hs)
    · exact st_aload_nT C hd hl (hK _ _ hs)
  | aload i =>
    simp only [stp] at hs
    simp only [chk, decide_eq_true_eq] at hc
    subst hc
    replace hs := gR_inv hs
    rcases hs with ⟨x, hl, hs⟩ | ⟨x, hl, hs⟩
    · exact st_aload C hd hl (hK _ _ hs)
    · exact hs.elim
  | istore_n i =>
    simp only [stp] at hs
    replace hs := pI_inv hs
    obtain ⟨x, st, rfl, hs⟩ := hs
    simp only [chk, Bool.and_eq_true, decide_eq_true_eq] at hc
    obtain ⟨rfl, hc⟩ := hc
    exact st_istore_n C hd (by rw [hnL]; exact hc) (hK _ _ hs)
  | istore i =>
    simp only [stp] at hs
    replace hs := pI_inv hs
    obtain ⟨x, st, rfl, hs⟩ := hs
    simp only [chk, Bool.and_eq_true, decide_eq_true_eq] at hc
    obtain ⟨rfl, hc⟩ := hc
    exact st_istore C hd (by rw [hnL]; exact hc) (hK _ _ hs)
  | lstore_n i =>
    simp only [stp] at hs
    replace hs := pL_inv hs
    obtain ⟨x, st, rfl, hs⟩ := hs
    simp only [chk, Bool.and_eq_true, decide_eq_true_eq] at hc
    obtain ⟨rfl, hc⟩ := hc
    exact st_lstore_n C hd (by rw [hnL]; exact hc) (hK _ _ hs)
  | lstore i =>
    simp only [stp] at hs
    replace hs := pL_inv hs
    obtain ⟨x, st, rfl, hs⟩ := hs
    simp only [chk, Bool.and_eq_true, decide_eq_true_eq] at hc
    obtain ⟨rfl, hc⟩ := hc
    exact st_lstore C hd (by rw [hnL]; exact hc) (hK _ _ hs)
  | astore_n i =>
    simp only [stp] at hs
    replace hs := pR_inv hs
    obtain ⟨x, st, rfl, hs⟩ := hs
    simp only [chk, Bool.and_eq_true, decide_eq_true_eq] at hc
    obtain ⟨rfl, hc⟩ := hc
    exact st_astore_n C hd (by rw [hnL]; exact hc) (hK _ _ hs)
  | astore i =>
    simp only [stp] at hs
    replace hs := pR_inv hs
    obtain ⟨x, st, rfl, hs⟩ := hs
    simp only [chk, Bool.and_eq_true, decide_eq_true_eq] at hc
    obtain ⟨rfl, hc⟩ := hc
    exact st_astore C hd (by rw [hnL]; exact hc) (hK _ _ hs)
  | iinc i n =>
    simp only [stp] at hs
    replace hs := gI_inv hs
    obtain ⟨x, hl, hs⟩ := hs
    replace hs := gI_inv hs
    obtain ⟨v, rfl, hs⟩ := hs
    simp only [chk, Bool.and_eq_true, decide_eq_true_eq] at hc
    obtain ⟨⟨rfl, hc⟩, hc2⟩ := hc
    exact st_iinc C hd (by rw [hnL]; exact hc) hc2 hl (hK _ _ hs)
  | dup =>
    simp only [stp] at hs
    simp only [chk, decide_eq_true_eq] at hc
    subst hc
    replace hs := pV_inv hs
    obtain ⟨v, st, rfl, hv, hs⟩ := hs
    exact st_dup C hd hv (hK _ _ hs)
  | pop =>
    simp only [stp] at hs
    simp only [chk, decide_eq_true_eq] at hc
    subst hc
    replace hs := pV_inv hs
    obtain ⟨v, st, rfl, hv, hs⟩ := hs
    exact st_pop C hd hv (hK _ _ hs)
  | dup2 =>
    simp only [stp] at hs
    simp only [chk, decide_eq_true_eq] at hc
    subst hc
    replace hs := pV_inv hs
    obtain ⟨v, st, rfl, hv, hs⟩ := hs
    replace hs := pV_inv hs
    obtain ⟨w, st, rfl, hw, hs⟩ := hs
    exact st_dup2 C hd hv hw (hK _ _ hs)
  | iadd =>
    simp only [stp] at hs
    simp only [chk, decide_eq_true_eq] at hc
    subst hc
    replace hs := pI_inv hs
    obtain ⟨y, st, rfl, hs⟩ := hs
    replace hs := pI_inv hs
    obtain ⟨x, st, rfl, hs⟩ := hs
    exact st_iadd C hd (hK _ _ hs)
  | isub =>
    simp only [stp] at hs
    simp only [chk, decide_eq_true_eq] at hc
    subst hc
    replace hs := pI_inv hs
    obtain ⟨y, st, rfl, hs⟩ := hs
    replace hs := pI_inv hs
    obtain ⟨x, st, rfl, hs⟩ := hs
    exact st_isub C hd (hK _ _ hs)
  | imul =>
    simp only [stp] at hs
    simp only [chk, decide_eq_true_eq] at hc
    subst hc
    replace hs := pI_inv hs
    obtain ⟨y, st, rfl, hs⟩ := hs
    replace hs := pI_inv hs
    obtain ⟨x, st, rfl, hs⟩ := hs
    exact st_imul C hd (hK _ _ hs)
  | iand =>
    simp only [stp] at hs
    simp only [chk, decide_eq_true_eq] at hc
    subst hc
    replace hs := pI_inv hs
    obtain ⟨y, st, rfl, hs⟩ := hs
    replace hs := pI_inv hs
    obtain ⟨x, st, rfl, hs⟩ := hs
    exact st_iand C hd (hK _ _ hs)
  | ior =>
    simp only [stp] at hs
    simp only [chk, decide_eq_true_eq] at hc
    subst hc
    replace hs := pI_inv hs
    obtain ⟨y, st, rfl, hs⟩ := hs
    replace hs := pI_inv hs
    obtain ⟨x, st, rfl, hs⟩ := hs
    exact st_ior C hd (hK _ _ hs)
  | ixor =>
    simp only [stp] at hs
    simp only [chk, decide_eq_true_eq] at hc
    subst hc
    replace hs := pI_inv hs
    obtain ⟨y, st, rfl, hs⟩ := hs
    replace hs := pI_inv hs
    obtain ⟨x, st, rfl, hs⟩ := hs
    exact st_ixor C hd (hK _ _ hs)
  | ishl =>
    simp only [stp] at hs
    simp only [chk, decide_eq_true_eq] at hc
    subst hc
    replace hs := pI_inv hs
    obtain ⟨y, st, rfl, hs⟩ := hs
    replace hs := pI_inv hs
    obtain ⟨x, st, rfl, hs⟩ := hs
    exact st_ishl C hd (hK _ _ hs)
  | ishr =>
    simp only [stp] at hs
    simp only [chk, decide_eq_true_eq] at hc
    subst hc
    replace hs := pI_inv hs
    obtain ⟨y, st, rfl, hs⟩ := hs
    replace hs := pI_inv hs
    obtain ⟨x, st, rfl, hs⟩ := hs
    exact st_ishr C hd (hK _ _ hs)
  | iushr =>
    simp only [stp] at hs
    simp only [chk, decide_eq_true_eq] at hc
    subst hc
    replace hs := pI_inv hs
    obtain ⟨y, st, rfl, hs⟩ := hs
    replace hs := pI_inv hs
    obtain ⟨x, st, rfl, hs⟩ := hs
    exact st_iushr C hd (hK _ _ hs)
  | idiv =>
    simp only [stp] at hs
    simp only [chk, decide_eq_true_eq] at hc
    subst hc
    replace hs := pI_inv hs
    obtain ⟨y, st, rfl, hs⟩ := hs
    replace hs := pI_inv hs
    obtain ⟨x, st, rfl, hs⟩ := hs
    exact st_idiv C hd hs.1 (hK _ _ hs.2)
  | irem =>
    simp only [stp] at hs
    simp only [chk, decide_eq_true_eq] at hc
    subst hc
    replace hs := pI_inv hs
    obtain ⟨y, st, rfl, hs⟩ := hs
    replace hs := pI_inv hs
    obtain ⟨x, st, rfl, hs⟩ := hs
    exact st_irem C hd hs.1 (hK _ _ hs.2)
  | ladd =>
    simp only [stp] at hs
    simp only [chk, decide_eq_true_eq] at hc
    subst hc
    replace hs := pL_inv hs
    obtain ⟨y, st, rfl, hs⟩ := hs
    replace hs := pL_inv hs
    obtain ⟨x, st, rfl, hs⟩ := hs
    exact st_ladd C hd (hK _ _ hs)
  | lsub =>
    simp only [stp] at hs
    simp only [chk, decide_eq_true_eq] at hc
    subst hc
    replace hs := pL_inv hs
    obtain ⟨y, st, rfl, hs⟩ := hs
    replace hs := pL_inv hs
    obtain ⟨x, st, rfl, hs⟩ := hs
    exact st_lsub C hd (hK _ _ hs)
  | lmul =>
    simp only [stp] at hs
    simp only [chk, decide_eq_true_eq] at hc
    subst hc
    replace hs := pL_inv hs
    obtain ⟨y, st, rfl, hs⟩ := hs
    replace hs := pL_inv hs
    obtain ⟨x, st, rfl, hs⟩ := hs
    exact st_lmul C hd (hK _ _ hs)
  | land =>
    simp only [stp] at hs
    simp only [chk, decide_eq_true_eq] at hc
    subst hc
    replace hs := pL_inv hs
    obtain ⟨y, st, rfl, hs⟩ := hs
    replace hs := pL_inv hs
    obtain ⟨x, st, rfl, hs⟩ := hs
    exact st_land C hd (hK _ _ hs)
  | lor =>
    simp only [stp] at hs
    simp only [chk, decide_eq_true_eq] at hc
    subst hc
    replace hs := pL_inv hs
    obtain ⟨y, st, rfl, hs⟩ := hs
    replace hs := pL_inv hs
    obtain ⟨x, st, rfl, hs⟩ := hs
    exact st_lor C hd (hK _ _ hs)
  | ldiv =>
    simp only [stp] at hs
    simp only [chk, decide_eq_true_eq] at hc
    subst hc
    replace hs := pL_inv hs
    obtain ⟨y, st, rfl, hs⟩ := hs
    replace hs := pL_inv hs
    obtain ⟨x, st, rfl, hs⟩ := hs
    exact st_ldiv C hd hs.1 (hK _ _ hs.2)
  | lrem =>
    simp only [stp] at hs
    simp only [chk, decide_eq_true_eq] at hc
    subst hc
    replace hs := pL_inv hs
    obtain ⟨y, st, rfl, hs⟩ := hs
    replace hs := pL_inv hs
    obtain ⟨x, st, rfl, hs⟩ := hs
    exact st_lrem C hd hs.1 (hK _ _ hs.2)
  | lcmp =>
    simp only [stp] at hs
    simp only [chk, decide_eq_true_eq] at hc
    subst hc
    replace hs := pL_inv hs
    obtain ⟨y, st, rfl, hs⟩ := hs
    replace hs := pL_inv hs
    obtain ⟨x, st, rfl, hs⟩ := hs
    exact st_lcmp C hd (hK _ _ hs)
  | i2l =>
    simp only [stp] at hs
    simp only [chk, decide_eq_true_eq] at hc
    subst hc
    replace hs := pI_inv hs
    obtain ⟨x, st, rfl, hs⟩ := hs
    exact st_i2l C hd (hK _ _ hs)
  | i2b =>
    simp only [stp] at hs
    simp only [chk, decide_eq_true_eq] at hc
    subst hc
    replace hs := pI_inv hs
    obtain ⟨x, st, rfl, hs⟩ := hs
    exact st_i2b C hd (hK _ _ hs)
  | l2i =>
    simp only [stp] at hs
    simp only [chk, decide_eq_true_eq] at hc
    subst hc
    replace hs := pL_inv hs
    obtain ⟨x, st, rfl, hs⟩ := hs
    exact st_l2i C hd (hK _ _ hs)
  | ifCond cd off =>
    cases cd with
    | eq =>
      replace hs := pI_inv hs
      obtain ⟨x, st, rfl, hs⟩ := hs
      simp only [chk, Bool.and_eq_true, decide_eq_true_eq] at hc
      obtain ⟨rfl, hc⟩ := hc
      exact st_if_eq C hd hc (fun q => hK _ _ (hs.1 q)) (fun q => hK _ _ (hs.2 q))
    | ne =>
      replace hs := pI_inv hs
      obtain ⟨x, st, rfl, hs⟩ := hs
      simp only [chk, Bool.and_eq_true, decide_eq_true_eq] at hc
      obtain ⟨rfl, hc⟩ := hc
      exact st_if_ne C hd hc (fun q => hK _ _ (hs.1 q)) (fun q => hK _ _ (hs.2 q))
    | lt =>
      replace hs := pI_inv hs
      obtain ⟨x, st, rfl, hs⟩ := hs
      simp only [chk, Bool.and_eq_true, decide_eq_true_eq] at hc
      obtain ⟨rfl, hc⟩ := hc
      exact st_if_lt C hd hc (fun q => hK _ _ (hs.1 q)) (fun q => hK _ _ (hs.2 q))
    | ge =>
      replace hs := pI_inv hs
      obtain ⟨x, st, rfl, hs⟩ := hs
      simp only [chk, Bool.and_eq_true, decide_eq_true_eq] at hc
      obtain ⟨rfl, hc⟩ := hc
      exact st_if_ge C hd hc (fun q => hK _ _ (hs.1 q)) (fun q => hK _ _ (hs.2 q))
    | gt =>
      replace hs := pI_inv hs
      obtain ⟨x, st, rfl, hs⟩ := hs
      simp only [chk, Bool.and_eq_true, decide_eq_true_eq] at hc
      obtain ⟨rfl, hc⟩ := hc
      exact st_if_gt C hd hc (fun q => hK _ _ (hs.1 q)) (fun q => hK _ _ (hs.2 q))
    | le =>
      replace hs := pI_inv hs
      obtain ⟨x, st, rfl, hs⟩ := hs
      simp only [chk, Bool.and_eq_true, decide_eq_true_eq] at hc
      obtain ⟨rfl, hc⟩ := hc
      exact st_if_le C hd hc (fun q => hK _ _ (hs.1 q)) (fun q => hK _ _ (hs.2 q))
  | if_icmp cd off =>
    cases cd with
    | eq =>
      replace hs := pI_inv hs
      obtain ⟨y, st, rfl, hs⟩ := hs
      replace hs := pI_inv hs
      obtain ⟨x, st, rfl, hs⟩ := hs
      simp only [chk, Bool.and_eq_true, decide_eq_true_eq] at hc
      obtain ⟨rfl, hc⟩ := hc
      exact st_icmp_eq C hd hc (fun q => hK _ _ (hs.1 q)) (fun q => hK _ _ (hs.2 q))
    | ne =>
      replace hs := pI_inv hs
      obtain ⟨y, st, rfl, hs⟩ := hs
      replace hs := pI_inv hs
      obtain ⟨x, st, rfl, hs⟩ := hs
      simp only [chk, Bool.and_eq_true, decide_eq_true_eq] at hc
      obtain ⟨rfl, hc⟩ := hc
      exact st_icmp_ne C hd hc (fun q => hK _ _ (hs.1 q)) (fun q => hK _ _ (hs.2 q))
    | lt =>
      replace hs := pI_inv hs
      obtain ⟨y, st, rfl, hs⟩ := hs
      replace hs := pI_inv hs
      obtain ⟨x, st, rfl, hs⟩ := hs
      simp only [chk, Bool.and_eq_true, decide_eq_true_eq] at hc
      obtain ⟨rfl, hc⟩ := hc
      exact st_icmp_lt C hd hc (fun q => hK _ _ (hs.1 q)) (fun q => hK _ _ (hs.2 q))
    | ge =>
      replace hs := pI_inv hs
      obtain ⟨y, st, rfl, hs⟩ := hs
      replace hs := pI_inv hs
      obtain ⟨x, st, rfl, hs⟩ := hs
      simp only [chk, Bool.and_eq_true, decide_eq_true_eq] at hc
      obtain ⟨rfl, hc⟩ := hc
      exact st_icmp_ge C hd hc (fun q => hK _ _ (hs.1 q)) (fun q => hK _ _ (hs.2 q))
    | gt =>
      replace hs := pI_inv hs
      obtain ⟨y, st, rfl, hs⟩ := hs
      replace hs := pI_inv hs
      obtain ⟨x, st, rfl, hs⟩ := hs
      simp only [chk, Bool.and_eq_true, decide_eq_true_eq] at hc
      obtain ⟨rfl, hc⟩ := hc
      exact st_icmp_gt C hd hc (fun q => hK _ _ (hs.1 q)) (fun q => hK _ _ (hs.2 q))
    | le =>
      replace hs := pI_inv hs
      obtain ⟨y, st, rfl, hs⟩ := hs
      replace hs := pI_inv hs
      obtain ⟨x, st, rfl, hs⟩ := hs
      simp only [chk, Bool.and_eq_true, decide_eq_true_eq] at hc
      obtain ⟨rfl, hc⟩ := hc
      exact st_icmp_le C hd hc (fun q => hK _ _ (hs.1 q)) (fun q => hK _ _ (hs.2 q))
  | ifnull off =>
    simp only [stp] at hs
    simp only [chk, Bool.and_eq_true, decide_eq_true_eq] at hc
    obtain ⟨rfl, hc⟩ := hc
    replace hs := pR_inv hs
    obtain ⟨x, st, rfl, hs⟩ := hs
    exact st_ifnull C hd hc (fun q => hK _ _ (hs.1 q)) (fun q => hK _ _ (hs.2 q))
  | ifnonnull off =>
    simp only [stp] at hs
    simp only [chk, Bool.and_eq_true, decide_eq_true_eq] at hc
    obtain ⟨rfl, hc⟩ := hc
    replace hs := pR_inv hs
    obtain ⟨x, st, rfl, hs⟩ := hs
    exact st_ifnonnull C hd hc (fun q => hK _ _ (hs.1 q)) (fun q => hK _ _ (hs.2 q))
  | goto off =>
    simp only [stp] at hs
    simp only [chk, Bool.and_eq_true, decide_eq_true_eq] at hc
    obtain ⟨rfl, hc⟩ := hc
    exact st_goto C hd hc (hK _ _ hs)
  | tableswitch dflt lo hi offs =>
    simp only [stp] at hs
    replace hs := pI_inv hs
    obtain ⟨x, st, rfl, hs⟩ := hs
    simp only [chk, Bool.and_eq_true, decide_eq_true_eq] at hc
    obtain ⟨⟨hc1, hc2⟩, hc3⟩ := hc
    exact st_table C hd hc1 hc2 hc3 (swK_mono (fun t ht => hK _ _ ht) hs)
  | lookupswitch dflt ps =>
    simp only [stp] at hs
    replace hs := pI_inv hs
    obtain ⟨x, st, rfl, hs⟩ := hs
    simp only [chk, Bool.and_eq_true, decide_eq_true_eq] at hc
    obtain ⟨⟨hc1, hc2⟩, hc3⟩ := hc
    exact st_look C hd hc1 hc2 hc3 (swK_mono (fun t ht => hK _ _ ht) hs)
  | getfield i =>
    simp only [stp] at hs
    replace hs := pR_inv hs
    obtain ⟨a, st, rfl, hs⟩ := hs
    simp only [chk, Bool.and_eq_true, decide_eq_true_eq] at hc
    obtain ⟨⟨rfl, hc⟩, hc2⟩ := hc
    obtain ⟨q, hq, hk, hw⟩ := fldT_ok hc
    cases rv with
    | ref z => exact st_getR C hd hq hk hw hc2 hs.1 (hK _ _ hs.2)
    | int z => exact st_getI C hd hq hk hw (by simpa using hc2) hs.1 (hK _ _ hs.2)
    | _ => cases hc2
  | putfield i =>
    simp only [stp] at hs
    simp only [chk, Bool.and_eq_true, decide_eq_true_eq] at hc
    obtain ⟨⟨rfl, hc⟩, hc2, hc3⟩ := hc
    obtain ⟨q, hq, hk, hw⟩ := fldT_ok hc
    rw [hq] at hc3
    simp only [Bool.or_eq_true, Bool.and_eq_true, Bool.not_eq_true', decide_eq_true_eq] at hc3
    cases rv with
    | ref z =>
      replace hs := pR_inv hs
      obtain ⟨x, st, rfl, hs⟩ := hs
      replace hs := pR_inv hs
      obtain ⟨a, st, rfl, hs⟩ := hs
      by_cases hf : (q.2.1 r2).2.2.2 = false
      · exact st_putR C hd hq hk hw hf hc2 hs.1 (hK _ _ (lH_use hs.2))
      · have hc3 := hc3.resolve_left hf
        exact st_putRF C hd hq hk hw (by simpa using hf) (by rw [← hc3.1]) (by rw [hc3.2]) hc2 hs.1 (hK _ _ (lH_use hs.2))
    | long z =>
      replace hs := pI_inv hs
      obtain ⟨x, st, rfl, hs⟩ := hs
      replace hs := pR_inv hs
      obtain ⟨a, st, rfl, hs⟩ := hs
      by_cases hf : (q.2.1 r2).2.2.2 = false
      · exact st_putI C hd hq hk hw hf (Or.inr ⟨by simpa using hc2, hs.2.1⟩) hs.1 (hK _ _ (lH_use hs.2.2))
      · have hc3 := hc3.resolve_left hf
        exact st_putIF C hd hq hk hw (by simpa using hf) (by rw [← hc3.1]) (by rw [hc3.2]) (Or.inr ⟨by simpa using hc2, hs.2.1⟩) hs.1 (hK _ _ (lH_use hs.2.2))
    | int z =>
      replace hs := pI_inv hs
      obtain ⟨x, st, rfl, hs⟩ := hs
      replace hs := pR_inv hs
      obtain ⟨a, st, rfl, hs⟩ := hs
      by_cases hf : (q.2.1 r2).2.2.2 = false
      · exact st_putI C hd hq hk hw hf (Or.inl (by simpa using hc2)) hs.1 (hK _ _ (lH_use hs.2))
      · have hc3 := hc3.resolve_left hf
        exact st_putIF C hd hq hk hw (by simpa using hf) (by rw [← hc3.1]) (by rw [hc3.2]) (Or.inl (by simpa using hc2)) hs.1 (hK _ _ (lH_use hs.2))
    | _ => cases hc2
  | iaload =>
    simp only [stp] at hs
    simp only [chk, decide_eq_true_eq] at hc
    subst hc
    replace hs := pI_inv hs
    obtain ⟨i, st, rfl, hs⟩ := hs
    replace hs := gR_inv hs
    rcases hs with ⟨a, hl, hs⟩ | ⟨t, hl, hs⟩
    · obtain ⟨st, rfl⟩ := getD_cons hl (by simp)
      exact st_iald C hd hs.1 hs.2.1 (hK _ _ hs.2.2)
    · obtain ⟨st, rfl⟩ := getD_cons hl (by simp)
      obtain ⟨rfl, hs⟩ := hs
      cases hq : scr with
      | none => rw [hq] at hs; exact hs.elim
      | some q =>
        rw [hq] at hs
        exact st_sald C hd (n := q.1) (xs := q.2) (by rw [hscr, hq]) hs.1 (hK _ _ hs.2)
  | arraylength =>
    simp only [stp] at hs
    simp only [chk, decide_eq_true_eq] at hc
    subst hc
    replace hs := gR_inv hs
    rcases hs with ⟨a, hl, hs⟩ | ⟨t, hl, hs⟩
    · obtain ⟨st, rfl⟩ := getD_cons hl (by simp)
      exact st_alen C hd rfl hs.1 hs.2.1 (hK _ _ hs.2.2)
    · obtain ⟨st, rfl⟩ := getD_cons hl (by simp)
      obtain ⟨rfl, hs⟩ := hs
      cases hq : scr with
      | none => rw [hq] at hs; exact hs.elim
      | some q =>
        rw [hq] at hs
        exact st_slen C hd (n := q.1) (xs := q.2) (by rw [hscr, hq]) (hK _ _ hs)
  | baload =>
    simp only [stp] at hs
    simp only [chk, decide_eq_true_eq] at hc
    subst hc
    replace hs := pI_inv hs
    obtain ⟨i, st, rfl, hs⟩ := hs
    replace hs := pR_inv hs
    obtain ⟨a, st, rfl, hs⟩ := hs
    rcases hs.1 with e | e
    · exact st_bald C hd e hs.2.1 (hK _ _ hs.2.2)
    · exact st_zald C hd e hs.2.1 (hK _ _ hs.2.2)
  | laload =>
    simp only [stp] at hs
    simp only [chk, decide_eq_true_eq] at hc
    subst hc
    replace hs := pI_inv hs
    obtain ⟨i, st, rfl, hs⟩ := hs
    replace hs := pR_inv hs
    obtain ⟨a, st, rfl, hs⟩ := hs
    exact st_lald C hd hs.1 hs.2.1 (hK _ _ hs.2.2)
  | aaload =>
    simp only [stp] at hs
    simp only [chk, decide_eq_true_eq] at hc
    subst hc
    replace hs := pI_inv hs
    obtain ⟨i, st, rfl, hs⟩ := hs
    replace hs := pR_inv hs
    obtain ⟨a, st, rfl, hs⟩ := hs
    exact st_aald C hd rfl hs.1 hs.2.1 hs.2.2.1 (hK _ _ hs.2.2.2)
  | iastore =>
    simp only [stp] at hs
    simp only [chk, decide_eq_true_eq] at hc
    subst hc
    replace hs := pI_inv hs
    obtain ⟨x, st, rfl, hs⟩ := hs
    replace hs := pI_inv hs
    obtain ⟨i, st, rfl, hs⟩ := hs
    replace hs := pR_inv hs
    obtain ⟨a, st, rfl, hs⟩ := hs
    exact st_iast C hd hs.1 hs.2.1 (hK _ _ (lH_use hs.2.2))
  | bastore =>
    simp only [stp] at hs
    simp only [chk, decide_eq_true_eq] at hc
    subst hc
    replace hs := pI_inv hs
    obtain ⟨x, st, rfl, hs⟩ := hs
    replace hs := pI_inv hs
    obtain ⟨i, st, rfl, hs⟩ := hs
    replace hs := pR_inv hs
    obtain ⟨a, st, rfl, hs⟩ := hs
    rcases hs.1 with e | e
    · exact st_bast C hd e hs.2.1 (hK _ _ (lH_use (hs.2.2.1 e)))
    · exact st_zast C hd e hs.2.1 (hK _ _ (lH_use (hs.2.2.2 e)))
  | lastore =>
    simp only [stp] at hs
    simp only [chk, decide_eq_true_eq] at hc
    subst hc
    replace hs := pL_inv hs
    obtain ⟨x, st, rfl, hs⟩ := hs
    replace hs := pI_inv hs
    obtain ⟨i, st, rfl, hs⟩ := hs
    replace hs := pR_inv hs
    obtain ⟨a, st, rfl, hs⟩ := hs
    exact st_last C hd hs.1 hs.2.1 (hK _ _ (lH_use hs.2.2))
  | aastore =>
    simp only [stp] at hs
    simp only [chk, decide_eq_true_eq] at hc
    subst hc
    replace hs := pR_inv hs
    obtain ⟨x, st, rfl, hs⟩ := hs
    replace hs := pI_inv hs
    obtain ⟨i, st, rfl, hs⟩ := hs
    replace hs := pR_inv hs
    obtain ⟨a, st, rfl, hs⟩ := hs
    exact st_aast C hd rfl hs.1.1 hs.1.2 hs.2.1 hs.2.2.1 (hK _ _ (lH_use hs.2.2.2))
  | new i =>
    simp only [stp] at hs
    simp only [chk, Bool.and_eq_true, decide_eq_true_eq] at hc
    obtain ⟨rfl, hc⟩ := hc
    obtain ⟨q, hq, hw⟩ := clsT_ok hc
    have hf := (cl_ok hq).2.2.2.1
    rw [hf] at hs
    exact st_new C hd hq hw (by rw [hE1]; exact hs.1) (by rw [hE2]; exact hs.2.1) (hK _ _ (lH_use hs.2.2))
  | newarray at_ =>
    cases at_ with
    | int =>
      replace hs := pI_inv hs
      obtain ⟨n, st, rfl, hs⟩ := hs
      simp only [chk, decide_eq_true_eq] at hc
      subst hc
      exact st_new_int C hd hs.1 hs.2.1 (by rw [hE1]; exact hs.2.2.1) (by rw [hE2]; exact hs.2.2.2.1) (hK _ _ (lH_use hs.2.2.2.2))
    | byte =>
      replace hs := pI_inv hs
      obtain ⟨n, st, rfl, hs⟩ := hs
      simp only [chk, decide_eq_true_eq] at hc
      subst hc
      exact st_new_byte C hd hs.1 hs.2.1 (by rw [hE1]; exact hs.2.2.1) (by rw [hE2]; exact hs.2.2.2.1) (hK _ _ (lH_use hs.2.2.2.2))
    | boolean =>
      replace hs := pI_inv hs
      obtain ⟨n, st, rfl, hs⟩ := hs
      simp only [chk, decide_eq_true_eq] at hc
      subst hc
      exact st_new_bool C hd hs.1 hs.2.1 (by rw [hE1]; exact hs.2.2.1) (by rw [hE2]; exact hs.2.2.2.1) (hK _ _ (lH_use hs.2.2.2.2))
    | long =>
      replace hs := pI_inv hs
      obtain ⟨n, st, rfl, hs⟩ := hs
      simp only [chk, decide_eq_true_eq] at hc
      subst hc
      exact st_new_long C hd hs.1 hs.2.1 (by rw [hE1]; exact hs.2.2.1) (by rw [hE2]; exact hs.2.2.2.1) (hK _ _ (lH_use hs.2.2.2.2))
    | _ => exact hs.elim
  | anewarray i =>
    simp only [stp] at hs
    replace hs := pI_inv hs
    obtain ⟨n, st, rfl, hs⟩ := hs
    simp only [chk, Bool.and_eq_true, Bool.or_eq_true, decide_eq_true_eq] at hc
    obtain ⟨rfl, hc⟩ := hc
    rcases hc with (⟨rfl, hc⟩ | ⟨rfl, hc⟩) | ⟨rfl, hc⟩
    · obtain ⟨q, hq, hw⟩ := clsT_ok hc
      cases hq
      exact st_newq_Rule C hd hw hs.1 hs.2.1 (by rw [hE1]; exact hs.2.2.1) (by rw [hE2]; exact hs.2.2.2.1) (hK _ _ (lH_use hs.2.2.2.2))
    · obtain ⟨q, hq, hw⟩ := clsT_ok hc
      cases hq
      exact st_newq_Town C hd hw hs.1 hs.2.1 (by rw [hE1]; exact hs.2.2.1) (by rw [hE2]; exact hs.2.2.2.1) (hK _ _ (lH_use hs.2.2.2.2))
    · obtain ⟨q, hq, hw⟩ := clsT_ok hc
      cases hq
      exact st_newq_Moment C hd hw hs.1 hs.2.1 (by rw [hE1]; exact hs.2.2.1) (by rw [hE2]; exact hs.2.2.2.1) (hK _ _ (lH_use hs.2.2.2.2))
  | multianewarray i dm =>
    simp only [stp] at hs
    replace hs := pI_inv hs
    obtain ⟨k, st, rfl, hs⟩ := hs
    replace hs := pI_inv hs
    obtain ⟨n, st, rfl, hs⟩ := hs
    simp only [chk, Bool.and_eq_true, decide_eq_true_eq] at hc
    obtain ⟨⟨rfl, rfl⟩, hc⟩ := hc
    exact st_mna C hd (othT_ok hc) hs.1 hs.2.1 hs.2.2.1 hs.2.2.2.1 (by rw [hE1]; exact hs.2.2.2.2.1) (by rw [hE2]; exact hs.2.2.2.2.2.1) (hK _ _ (lH_use hs.2.2.2.2.2.2))
  | checkcast i =>
    simp only [stp] at hs
    replace hs := pR_inv hs
    obtain ⟨a, st, rfl, hs⟩ := hs
    simp only [chk, Bool.and_eq_true, decide_eq_true_eq] at hc
    obtain ⟨rfl, hc⟩ := hc
    exact st_castI C hd (othT_ok hc) hs.1 (hK _ _ hs.2)
  | invokevirtual i =>
    by_cases h9 : Nat.ble 1000 r1 = true
    · simp only [stp, h9, cond_true] at hs
      simp only [chk, h9, Bool.and_eq_true, cond_true, decide_eq_true_eq] at hc
      obtain ⟨rfl, hc⟩ := hc
      split at hs
      · replace hs := pR_inv hs
        obtain ⟨a, st, rfl, hs⟩ := hs
        obtain ⟨h8, hs⟩ := cond_inv hs
        exact st_clone C hd (splT_ok hc) hs.1 (Nat.le_of_ble_eq_true h8) (by simp) (by rw [hE1]; exact hs.2.1) (by rw [hE2]; exact hs.2.2.1) (hK _ _ (lH_use hs.2.2.2))
      · replace hs := gR_inv hs
        rcases hs with ⟨x, hl, hs⟩ | ⟨t, hl, hs⟩
        · exact hs.elim
        · obtain ⟨st, rfl⟩ := getD_cons hl (by simp)
          obtain ⟨h8, hs⟩ := cond_inv hs
          exact st_strLen C hd (splT_ok hc) hs.1 (Nat.le_of_ble_eq_true h8) hsd rfl (hK _ _ hs.2)
      · replace hs := pI_inv hs
        obtain ⟨i, st, rfl, hs⟩ := hs
        replace hs := gR_inv hs
        rcases hs with ⟨x, hl, hs⟩ | ⟨t, hl, hs⟩
        · exact hs.elim
        · obtain ⟨st, rfl⟩ := getD_cons hl (by simp)
          obtain ⟨h8, hs⟩ := cond_inv hs
          exact st_strAt C hd (splT_ok hc) hs.1 hs.2.1 (Nat.le_of_ble_eq_true h8) hsd rfl (hK _ _ hs.2.2)
      · exact hs.elim
    · simp only [Bool.not_eq_true] at h9
      simp only [stp, h9, cond_false] at hs
      simp only [chk, h9, Bool.and_eq_true, cond_false, decide_eq_true_eq] at hc
      obtain ⟨rfl, hc, hc2⟩ := hc
      obtain ⟨h8, hs⟩ := cond_inv hs
      simp only [Bool.and_eq_true] at h8
      obtain ⟨h7, h8⟩ := h8
      obtain ⟨q, hq, hw⟩ := lnkT_ok hc
      rw [hq] at hc2
      simp only [Bool.and_eq_true, decide_eq_true_eq] at hc2
      obtain ⟨⟨⟨hk1, hr2⟩, hci⟩, hc3⟩ := hc2
      split at hs
      · rename_i a as has
        have hst := take_args h7 has
        have hn : as.length = q.2.2.2.2.2.2 := by have := take_len h7 has; omega
        rw [hst]
        cases hqc : cl13[q.2.2.2.2.1]? with
        | none => rw [hqc] at hc3; cases hc3
        | some qc =>
          rw [hqc] at hc3
          simp only [decide_eq_true_eq] at hc3
          refine clK_use hq hE1 hE2 hs.2 (fun F1 F2 g1 g2 hc9 => ?_)
          exact st_callV C hd hk1 hw hqc hc3 (by rw [hs.1, hci]) hn (mtl_ok hq) (Nat.le_of_ble_eq_true h8) rfl g1 g2 (CallsM.mono hc9 (fun r h' k => hK _ _ (rK_ok k)))
      · exact hs.elim
  | invokespecial i =>
    by_cases h9 : Nat.ble 1000 r1 = true
    · simp only [stp, h9, cond_true] at hs
      simp only [chk, h9, Bool.and_eq_true, cond_true, decide_eq_true_eq] at hc
      obtain ⟨rfl, hc⟩ := hc
      split at hs
      · replace hs := pR_inv hs
        obtain ⟨a, st, rfl, hs⟩ := hs
        obtain ⟨h8, hs⟩ := cond_inv hs
        exact Wst.wf (fun w => st_objInit C hd (splT_ok hc) (w.2 a (by omega)).1 (Nat.le_of_ble_eq_true h8) (by simp) (hK _ _ hs.2))
      · exact hs.elim
    · simp only [Bool.not_eq_true] at h9
      simp only [stp, h9, cond_false] at hs
      simp only [chk, h9, Bool.and_eq_true, cond_false, decide_eq_true_eq] at hc
      obtain ⟨rfl, hc2⟩ := hc
      obtain ⟨h8, hs⟩ := cond_inv hs
      simp only [Bool.and_eq_true] at h8
      obtain ⟨h7, h8⟩ := h8
      cases hq : mtl[r1]? with
      | none => rw [hq] at hc2; cases hc2
      | some q =>
        rw [hq] at hc2
        simp only [Bool.and_eq_true, Bool.or_eq_true, decide_eq_true_eq] at hc2
        obtain ⟨hr2, hc3⟩ := hc2
        split at hs
        · rename_i a as has
          have hst := take_args h7 has
          have hn : as.length = q.2.2.2.2.2.2 := by have := take_len h7 has; omega
          rw [hst]
          refine clK_use hq hE1 hE2 hs.2 (fun F1 F2 g1 g2 hc9 => Wst.wf (fun w => ?_))
          have ha := (w.2 a (by omega)).1
          rcases hc3 with ⟨hk1, hc3⟩ | ⟨hk1, hc3⟩
          · obtain ⟨q2, hq2, hw⟩ := lnkT_ok hc3
            cases hq.symm.trans hq2
            exact st_callI C hd hk1 hw ha hn (mtl_ok hq) (Nat.le_of_ble_eq_true h8) rfl g1 g2 (CallsM.mono hc9 (fun r h' k => hK _ _ (rK_ok k)))
          · exact st_callN C hd hk1 (List.mem_of_getElem? hc3) ha hn (mtl_ok hq) (Nat.le_of_ble_eq_true h8) rfl g1 g2 (CallsM.mono hc9 (fun r h' k => hK _ _ (rK_ok k)))
        · exact hs.elim
  | invokestatic i =>
    by_cases h9 : Nat.ble 1000 r1 = true
    · simp only [stp, h9, cond_true] at hs
      simp only [chk, h9, Bool.and_eq_true, cond_true, decide_eq_true_eq] at hc
      obtain ⟨rfl, hc⟩ := hc
      split at hs
      · replace hs := pI_inv hs
        obtain ⟨n, st, rfl, hs⟩ := hs
        replace hs := pI_inv hs
        obtain ⟨dp, st, rfl, hs⟩ := hs
        replace hs := pR_inv hs
        obtain ⟨b, st, rfl, hs⟩ := hs
        replace hs := pI_inv hs
        obtain ⟨sp, st, rfl, hs⟩ := hs
        replace hs := pR_inv hs
        obtain ⟨a, st, rfl, hs⟩ := hs
        obtain ⟨h8, hs⟩ := cond_inv hs
        exact st_copy C hd (splT_ok hc) hs.1 hs.2.1 hs.2.2.1 hs.2.2.2.1 hs.2.2.2.2.1 hs.2.2.2.2.2.1 hs.2.2.2.2.2.2.1 (Nat.le_of_ble_eq_true h8) (by simp) (hK _ _ (lH_use hs.2.2.2.2.2.2.2))
      · replace hs := pI_inv hs
        obtain ⟨y, st, rfl, hs⟩ := hs
        replace hs := pI_inv hs
        obtain ⟨x, st, rfl, hs⟩ := hs
        obtain ⟨h8, hs⟩ := cond_inv hs
        exact st_max C hd (splT_ok hc) (Nat.le_of_ble_eq_true h8) (by simp) (hK _ _ hs)
      · replace hs := pI_inv hs
        obtain ⟨y, st, rfl, hs⟩ := hs
        replace hs := pI_inv hs
        obtain ⟨x, st, rfl, hs⟩ := hs
        obtain ⟨h8, hs⟩ := cond_inv hs
        exact st_min C hd (splT_ok hc) (Nat.le_of_ble_eq_true h8) (by simp) (hK _ _ hs)
      · exact hs.elim
    · simp only [Bool.not_eq_true] at h9
      simp only [stp, h9, cond_false] at hs
      simp only [chk, h9, Bool.and_eq_true, cond_false, decide_eq_true_eq] at hc
      obtain ⟨rfl, hc, hc2⟩ := hc
      obtain ⟨h8, hs⟩ := cond_inv hs
      simp only [Bool.and_eq_true] at h8
      obtain ⟨h7, h8⟩ := h8
      obtain ⟨q, hq, hw⟩ := lnkT_ok hc
      rw [hq] at hc2
      simp only [Bool.and_eq_true, decide_eq_true_eq] at hc2
      obtain ⟨hk1, hr2⟩ := hc2
      have hst : st = (st.take r2).reverse.reverse ++ st.drop r2 := by rw [List.reverse_reverse, List.take_append_drop]
      have hn : (st.take r2).reverse.length = q.2.2.2.2.2.2 := by
        have := Nat.le_of_ble_eq_true h7
        simp only [List.length_reverse, List.length_take]
        omega
      refine clK_use hq hE1 hE2 hs (fun F1 F2 g1 g2 hc9 => ?_)
      rw [hst]
      exact st_callS C hd hk1 hw hn (mtl_ok hq) (Nat.le_of_ble_eq_true h8) rfl g1 g2 (CallsM.mono hc9 (fun r h' k => hK _ _ (rK_ok k)))
  | ireturn =>
    simp only [stp] at hs
    simp only [chk, decide_eq_true_eq] at hc
    subst hc
    replace hs := pI_inv hs
    obtain ⟨x, st, rfl, hs⟩ := hs
    obtain ⟨h8, hs⟩ := cond_inv hs
    cases List.isEmpty_iff.mp h8
    exact hR _ _ _ _ _ _ hd ⟨x, rfl, rfl⟩ hs
  | lreturn =>
    simp only [stp] at hs
    simp only [chk, decide_eq_true_eq] at hc
    subst hc
    replace hs := pL_inv hs
    obtain ⟨x, st, rfl, hs⟩ := hs
    obtain ⟨h8, hs⟩ := cond_inv hs
    cases List.isEmpty_iff.mp h8
    exact hR _ _ _ _ _ _ hd ⟨x, rfl, rfl⟩ hs
  | areturn =>
    simp only [stp] at hs
    simp only [chk, decide_eq_true_eq] at hc
    subst hc
    replace hs := gR_inv hs
    rcases hs with ⟨x, hl, hs⟩ | ⟨x, hl, hs⟩
    · obtain ⟨st, rfl⟩ := getD_cons hl (by simp)
      obtain ⟨h8, hs⟩ := cond_inv hs
      cases List.isEmpty_iff.mp h8
      exact hR _ _ _ _ _ _ hd ⟨x, Or.inl ⟨rfl, rfl⟩⟩ hs
    · obtain ⟨st, rfl⟩ := getD_cons hl (by simp)
      obtain ⟨h8, hs⟩ := cond_inv hs
      cases List.isEmpty_iff.mp h8
      exact hR _ _ _ _ _ _ hd ⟨x, Or.inr ⟨rfl, rfl⟩⟩ hs
  | return_ =>
    simp only [stp] at hs
    simp only [chk, decide_eq_true_eq] at hc
    subst hc
    obtain ⟨h8, hs⟩ := cond_inv hs
    cases List.isEmpty_iff.mp h8
    exact hR _ _ _ _ _ _ hd ⟨rfl, rfl⟩ hs
  | _ => exact hs.elim
end
section
/-! Runs of the executor; what a method comes to (Reach); a method's contract out of its entry. -/
def findA (code : List AI) (pc : Nat) : Option AI := match code with
  | [] => none
  | q :: r => cond (Nat.beq q.1 pc) (some q) (findA r pc)
def cutA (cut : List (Nat × List Nat)) (pc : Nat) : Option (List Nat) := match cut with
  | [] => none
  | q :: r => cond (Nat.beq q.1 pc) (some q.2) (cutA r pc)
def runP (d E1 E2 : Nat) (scr : Option (Nat × (Nat → Int32))) (Kc : Fr → AH → Prop) (Rt : Option Value → AH → Prop) (code : List AI) (cut : List (Nat × List Nat)) : Nat → Fr → AH → Prop
  | 0, f, h => Kc f h
  | n + 1, f, h => match findA code f.1 with
    | some q => stp d E1 E2 scr (fun f' h' => match cutA cut f'.1 with
      | some ks => Kc (f'.1, killL ks f'.2.1, f'.2.2) h'
      | none => runP d E1 E2 scr Kc Rt code cut n f' h') Rt q.1 q.2.1 q.2.2.2.1 q.2.2.2.2.1 q.2.2.2.2.2.1 q.2.2.2.2.2.2.2 f.2.1 f.2.2 h
    | none => False
def okB (own mname : String) (cc : ByteArray) (nL : Nat) (code : List AI) : Bool := code.all (fun q => decide (decode cc q.1 = .ok (q.2.1, q.2.2.1)) && chk own mname nL q.1 q.2.1 q.2.2.1 q.2.2.2.1 q.2.2.2.2.1 q.2.2.2.2.2.1 q.2.2.2.2.2.2.1 q.2.2.2.2.2.2.2)
theorem findA_in : ∀ {code : List AI} {pc : Nat} {q : AI}, findA code pc = some q → q ∈ code ∧ q.1 = pc
  | [], _, _, h => by cases h
  | x :: r, pc, q, h => by
    unfold findA at h
    by_cases e : Nat.beq x.1 pc = true
    · rw [e] at h
      cases h
      exact ⟨List.mem_cons_self, Nat.eq_of_beq_eq_true e⟩
    · simp only [Bool.not_eq_true] at e
      rw [e] at h
      exact ⟨List.mem_cons_of_mem _ (findA_in h).1, (findA_in h).2⟩
theorem runP_ok {X : CX} {own mname : String} {cc : ByteArray} {d nL E1 E2 : Nat} {scr : Option (Nat × (Nat → Int32))} (C : Ctx X (own, cc, mname, d + 1, scr)) (hsd : 4 ≤ d) (hnL : X.2.2.1 = nL) (hE1 : X.2.2.2.2.2.1 = E1) (hE2 : X.2.2.2.2.2.2 = E2) {Kc : Fr → AH → Prop} {Rt : Option Value → AH → Prop} (hK : ∀ f h, Kc f h → Wst X f h) (hR : ∀ (pc : Nat) (ins : Instr) (L st : List Value) (v : Option Value) (h : AH), decode cc pc = .ok (ins, 1) → retS ins st v → Rt v h → Wst X (pc, L, st) h) {code : List AI} {cut : List (Nat × List Nat)} (hok : okB own mname cc nL code = true) : ∀ (n : Nat) (f : Fr) (h : AH), runP d E1 E2 scr Kc Rt code cut n f h → Wst X f h
  | 0, f, h, hs => hK f h hs
  | n + 1, (pc, L, st), h, hs => by
    simp only [runP] at hs
    cases hq : findA code pc with
    | none => rw [hq] at hs; exact hs.elim
    | some q =>
      rw [hq] at hs
      obtain ⟨hin, hpc⟩ := findA_in hq
      have h1 := List.all_eq_true.mp hok q hin
      simp only [Bool.and_eq_true, decide_eq_true_eq] at h1
      have key := stp_ok C hsd hnL hE1 hE2 (K := fun f' h' => match cutA cut f'.1 with
        | some ks => Kc (f'.1, killL ks f'.2.1, f'.2.2) h'
        | none => runP d E1 E2 scr Kc Rt code cut n f' h') (Rt := Rt) (fun f' h' hk => ?_) hR h1.1 h1.2 hs
      · rw [hpc] at key
        exact key
      · obtain ⟨pc', L', st'⟩ := f'
        simp only at hk
        split at hk
        · rename_i ks hks
          exact Wst.kill ks (hK _ _ hk)
        · exact runP_ok C hsd hnL hE1 hE2 hK hR hok n _ _ hk
/-- what a return must answer, by the method's type -/
def rQ (ret : Option FieldType) (v : Option Value) (P : Prop) : Prop := match ret, v with
  | some .boolean, some (.int x) => (x = 0 ∨ x = 1) ∧ P
  | some .int, some (.int _) => P
  | some .long, some (.long _) => P
  | some (.object _), some (.ref _) => P
  | some (.object _), some (.retAddr _) => P
  | some (.array _), some (.ref _) => P
  | none, none => P
  | _, _ => False
def RtOf (ret : Option FieldType) (E1 E2 : Nat) (Q : Option Value → AH → Prop) (v : Option Value) (h : AH) : Prop := hN h = E1 ∧ hU h = E2 ∧ rQ ret v (Q v h)
def Act (d : Nat) (q : MT) (E1 E2 : Nat) (Q : Option Value → AH → Prop) (X : CX) : Prop := Ctx X (q.1.cls, q.2.1, q.1.name, d + 1, none) ∧ X.2.2.1 = q.2.2.1 ∧ X.2.2.2.2.2 = (E1, E2) ∧ (match X with
  | ((p, l, e, R, s, m, args, below, meth, c, Qm), (B, D, cid, adK, adV), (nL, n0, u0, F1, F2)) => Qm = MQ below (Qout B D cid adK F1 F2 Q) args s (F1 - n0) (F2 - u0) (AB B) ∧ meth.sig.returnType = q.2.2.2.1 ∧ meth.locks = false)
theorem ret_ok {d : Nat} {q : MT} {E1 E2 : Nat} {Q : Option Value → AH → Prop} {X : CX} (A : Act d q E1 E2 Q X) (pc : Nat) (ins : Instr) (L st : List Value) (v : Option Value) (h : AH) (hd : decode q.2.1 pc = .ok (ins, 1)) (hs : retS ins st v) (hr : RtOf q.2.2.2.1 E1 E2 Q v h) : Wst X (pc, L, st) h := by
  obtain ⟨⟨p, l, e, R, s, m, args, below, meth, c, Qm⟩, ⟨B, D, cid, adK, adV⟩, ⟨nL, n0, u0, F1, F2⟩⟩ := X
  obtain ⟨C, hnL, hE, hQm, hret, hlocks⟩ := A
  obtain ⟨hx, hb, hml, hown, hts, hK, hstr, hsz, hnm, hroom, hscr⟩ := C
  simp only [Prod.mk.injEq] at hE
  obtain ⟨rfl, rfl⟩ := hE
  subst hQm
  obtain ⟨h1, h2, h3⟩ := hr
  intro H locs ls r1 r2 r3 r4
  rw [h1, h2]
  have hq : ∀ (P : Q v h) (t : State), t.heap = H → Qout B D cid adK F1 F2 Q args s (.returned (v.map (cv B adK))) t := fun P t ht => ⟨⟨v, h, rfl, P, by rw [ht]; exact r1, h1, h2⟩, by rw [ht]; exact r2.1, fun a a1 a2 => by rw [ht]; exact r2.2.1 a a1 a2⟩
  cases ins with
  | ireturn =>
    obtain ⟨x, rfl, rfl⟩ := hs
    cases hrt : q.2.2.2.1 with
    | none => rw [hrt] at h3; exact h3.elim
    | some ty =>
      rw [hrt] at h3 hret
      cases ty with
      | boolean => exact W.zret (ty := .boolean) hx hb hret (by rcases h3.1 with rfl | rfl <;> rfl) (fun t ht _ => hq h3.2 t ht) r2.2.2 hd
      | int => exact W.iret hx hb hret (fun t ht _ => hq h3 t ht) r2.2.2 hd
      | _ => exact h3.elim
  | lreturn =>
    obtain ⟨x, rfl, rfl⟩ := hs
    cases hrt : q.2.2.2.1 with
    | none => rw [hrt] at h3; exact h3.elim
    | some ty =>
      rw [hrt] at h3 hret
      cases ty with
      | long => exact W.lret hx hb hret (fun t ht _ => hq h3 t ht) r2.2.2 hd
      | _ => exact h3.elim
  | areturn =>
    obtain ⟨x, ⟨rfl, rfl⟩ | ⟨rfl, rfl⟩⟩ := hs
    · have hv : cv B adK (.ref x) = .null ∨ ∃ a, cv B adK (.ref x) = .ref a := (cv_ref B adK x).elim (fun z => Or.inl z.1) (fun z => Or.inr ⟨_, z.1⟩)
      cases hrt : q.2.2.2.1 with
      | none => rw [hrt] at h3; exact h3.elim
      | some ty =>
        rw [hrt] at h3 hret
        cases ty with
        | object n => exact W.aret hx hb hret (Or.inl ⟨n, rfl⟩) hv (fun t ht _ => hq h3 t ht) r2.2.2 hd
        | array n => exact W.aret hx hb hret (Or.inr ⟨n, rfl⟩) hv (fun t ht _ => hq h3 t ht) r2.2.2 hd
        | _ => exact h3.elim
    · cases hrt : q.2.2.2.1 with
      | none => rw [hrt] at h3; exact h3.elim
      | some ty =>
        rw [hrt] at h3 hret
        cases ty with
        | object n => exact W.aret (v := .ref (adK x)) hx hb hret (Or.inl ⟨n, rfl⟩) (Or.inr ⟨_, rfl⟩) (fun t ht _ => hq h3 t ht) r2.2.2 hd
        | _ => exact h3.elim
  | return_ =>
    obtain ⟨rfl, rfl⟩ := hs
    cases hrt : q.2.2.2.1 with
    | none =>
      rw [hrt] at h3 hret
      exact W.vret hx hb hret (fun t ht _ => hq h3 t ht) r2.2.2 hd
    | some ty => rw [hrt] at h3; cases ty <;> exact h3.elim
  | _ => exact hs.elim
/-- from a place f of method y, over heap h, it returns with Q -/
def Reach (d y : Nat) (f : Fr) (h : AH) (E1 E2 : Nat) (Q : Option Value → AH → Prop) : Prop := ∀ (q : MT) (X : CX), mtl[y]? = some q → Act d q E1 E2 Q X → Wst X f h
def codeOk (y : Nat) (code : List AI) : Prop := ∃ q, mtl[y]? = some q ∧ okB q.1.cls q.1.name q.2.1 q.2.2.1 code = true
theorem reach_rule {d y E1 E2 : Nat} {Q : Option Value → AH → Prop} {code : List AI} {q : MT} (cut : List (Nat × List Nat)) (n : Nat) {f : Fr} {h : AH} (hok : codeOk y code) (hq : mtl[y]? = some q) (hsd : 4 ≤ d) (hs : runP d E1 E2 none (fun f h => Reach d y f h E1 E2 Q) (RtOf q.2.2.2.1 E1 E2 Q) code cut n f h) : Reach d y f h E1 E2 Q := by
  intro q1 X hq1 A
  cases hq.symm.trans hq1
  obtain ⟨q2, hq2, hok⟩ := hok
  cases hq.symm.trans hq2
  exact runP_ok A.1 hsd A.2.1 (by rw [A.2.2.1]) (by rw [A.2.2.1]) (fun f h k => k q X hq A) (fun pc ins L st v h h1 h2 h3 => ret_ok A pc ins L st v h h1 h2 h3) hok n f h hs
def layL : List Value → List Value
  | [] => []
  | v :: r => cond (isL2 v) (v :: .float 0 :: layL r) (v :: layL r)
def entL (as : List Value) (nL : Nat) : List Value := layL as ++ List.replicate (nL - (layL as).length) (.float 0)
theorem isL2_cat (v : Value) : isL2 v = true ↔ v.category = 2 := by cases v <;> simp [isL2, Value.category]
theorem lay_at (B : Nat) (adK : Nat → Nat) : ∀ (as : List Value) (k i : Nat) (v : Value), (layL as)[i]? = some v → v ≠ .float 0 → (k + i, cv B adK v) ∈ lv_args k (as.map (cv B adK))
  | [], _, _, _, h, _ => by simp [layL] at h
  | a :: r, k, i, v, h, hv => by
    simp only [layL] at h
    simp only [List.map_cons, lv_args, cv_cat]
    by_cases e : isL2 a = true
    · rw [e] at h
      simp only [cond_true] at h
      rw [if_pos ((isL2_cat a).mp e)]
      cases i with
      | zero => simp at h; subst h; exact List.mem_cons_self
      | succ i =>
        cases i with
        | zero => simp at h; exact absurd h.symm hv
        | succ i =>
          have := lay_at B adK r (k + 2) i v (by simpa using h) hv
          refine List.mem_cons_of_mem _ ?_
          rw [show k + (i + 1 + 1) = k + 2 + i by omega]
          exact this
    · have e2 : ¬ a.category = 2 := fun z => e ((isL2_cat a).mpr z)
      simp only [Bool.not_eq_true] at e
      rw [e] at h
      simp only [cond_false] at h
      rw [if_neg e2]
      cases i with
      | zero => simp at h; subst h; exact List.mem_cons_self
      | succ i =>
        have := lay_at B adK r (k + 1) i v (by simpa using h) hv
        refine List.mem_cons_of_mem _ ?_
        rw [show k + (i + 1) = k + 1 + i by omega]
        exact this
theorem lay_len (B : Nat) (adK : Nat → Nat) : ∀ as : List Value, (lg_sl (as.map (cv B adK))).length = (layL as).length
  | [] => rfl
  | a :: r => by
    have ih := lay_len B adK r
    simp only [lg_sl] at ih
    simp only [List.map_cons, lg_sl, List.flatMap_cons, List.length_append, layL, cv_cat, ih]
    by_cases e : isL2 a = true
    · rw [e, if_pos ((isL2_cat a).mp e)]
      simp only [cond_true, List.length_cons, List.length_nil]
      omega
    · have e2 : ¬ a.category = 2 := fun z => e ((isL2_cat a).mpr z)
      simp only [Bool.not_eq_true] at e
      rw [e, if_neg e2]
      simp only [cond_false, List.length_cons, List.length_nil]
      omega
theorem ent_rel {B : Nat} {adK : Nat → Nat} {ls : Array Slot} {as : List Value} {nL : Nat} (h : lv_has ls nL (lv_args 0 (as.map (cv B adK)))) : lrel B adK ls nL (entL as nL) := by
  refine ⟨h.1, h.2.1, fun i v hv hn => ?_⟩
  unfold entL at hv
  by_cases hl : i < (layL as).length
  · rw [List.getElem?_append_left hl] at hv
    have := lay_at B adK as 0 i v hv hn
    rw [Nat.zero_add] at this
    exact h.2.2 _ this
  · rw [List.getElem?_append_right (by omega)] at hv
    have := List.eq_of_mem_replicate (List.mem_of_getElem? hv)
    exact absurd this hn
theorem calls_intro {d y E1 E2 : Nat} {Q : Option Value → AH → Prop} {q : MT} {as : List Value} {h : AH} (hq : mtl[y]? = some q) (h1 : hN h ≤ E1) (h2 : hU h ≤ E2) (hl : (layL as).length ≤ q.2.2.1) (k : Reach d y (0, entL as q.2.2.1, []) h E1 E2 Q) : Calls (d + 1) y as h E1 E2 Q := by
  refine ⟨q, hq, h1, h2, fun l B D cid adK adV => ?_⟩
  have hok := mtl_ok hq
  refine Met.ofW (cc := q.2.1) (maxL := q.2.2.1) (ret := q.2.2.2.1) hok.1 rfl ?_
  intro p e s m args below meth c s₁ Bd hml hv
  obtain ⟨rfl, hp1, hp2, hp3, hp4⟩ := hv
  have hts0 := atoms_spec (ws := wsY q) Bd.pre
  have hts : ∀ w ∈ lw_g, w.before (as.map (cv B adK)).toArray s = true := fun w hw => hts0 w (List.mem_cons_of_mem _ hw)
  have hlv := lv_entry (as.map (cv B adK)) (n := q.2.2.1) (by rw [lay_len]; exact hl)
  rw [lg_entry_eq]
  generalize (lg_sl (as.map (cv B adK)) ++ List.replicate (q.2.2.1 - (lg_sl (as.map (cv B adK))).length) Slot.unset).toArray = ls at hlv ⊢
  have key := k q ((p, l, e, (headSpec (wsY q) (rmOf (d + 1) (E1 - hN h) (E2 - hU h))).room, s, m, (as.map (cv B adK)).toArray, below, meth, c, MQ below (Qout B D cid adK E1 E2 Q) (as.map (cv B adK)).toArray s (E1 - hN h) (E2 - hU h) (AB B)), (B, D, cid, adK, adV), (q.2.2.1, hN h, hU h, E1, E2)) hq
    ⟨⟨Bd.exec, Bd.bytes, hml, findClass_of_methodNamed Bd.named, hts, hp3, hp4, ⟨hp1, hp2.2.1⟩, (name_of_methodNamed Bd.named Bd.method).1, ⟨Nat.le_refl _, Nat.le_refl _, Nat.le_refl _, Nat.le_refl _⟩, fun L xs hz => by cases hz⟩, rfl, rfl, rfl, Bd.returns, Bd.notSynchronized⟩
  have := key s.heap [] ls hp2 va_S.rf (ent_rel hlv) ⟨Nat.le_refl _, Nat.le_refl _, h1, h2⟩
  rw [Nat.sub_self, Nat.sub_self] at this
  exact this
end
section
def kX0_init : List AI := [(0, .aload_n 0, 1, .int 0, 0, 0, 0, []), (1, .invokespecial 3, 3, .int 0, 1000, 0, 7, [(0, 0)]), (4, .aload_n 0, 1, .int 0, 0, 0, 0, []), (5, .new 9, 3, .int 0, 1, 0, 11, []), (8, .dup, 1, .int 0, 0, 0, 0, []), (9, .invokespecial 11, 3, .long 0, 10, 1, 4, [(0, 1), (0, 0)]), (12, .putfield 12, 3, .ref 0, 0, 0, 91, []), (15, .aload_n 0, 1, .int 0, 0, 0, 0, []), (16, .new 18, 3, .int 0, 4, 0, 12, []), (19, .dup, 1, .int 0, 0, 0, 0, []), (20, .invokespecial 20, 3, .long 0, 38, 1, 7, [(0, 4), (0, 0)]), (23, .putfield 21, 3, .ref 0, 0, 1, 92, []), (26, .aload_n 0, 1, .int 0, 0, 0, 0, []), (27, .new 18, 3, .int 0, 4, 0, 12, []), (30, .dup, 1, .int 0, 0, 0, 0, []), (31, .invokespecial 20, 3, .long 0, 38, 1, 7, [(0, 4), (0, 0)]), (34, .putfield 25, 3, .ref 0, 0, 2, 93, []), (37, .aload_n 0, 1, .int 0, 0, 0, 0, []), (38, .new 18, 3, .int 0, 4, 0, 12, []), (41, .dup, 1, .int 0, 0, 0, 0, []), (42, .invokespecial 20, 3, .long 0, 38, 1, 7, [(0, 4), (0, 0)]), (45, .putfield 28, 3, .ref 0, 0, 3, 94, []), (48, .aload_n 0, 1, .int 0, 0, 0, 0, []), (49, .iconst 3, 1, .int 3, 0, 0, 0, []), (50, .newarray .int, 2, .int 0, 0, 0, 0, []), (52, .putfield 31, 3, .ref 0, 0, 4, 95, []), (55, .aload_n 0, 1, .int 0, 0, 0, 0, []), (56, .iconst 3, 1, .int 3, 0, 0, 0, []), (57, .newarray .int, 2, .int 0, 0, 0, 0, []), (59, .putfield 35, 3, .ref 0, 0, 5, 96, []), (62, .aload_n 0, 1, .int 0, 0, 0, 0, []), (63, .bipush 7, 2, .int 7, 0, 0, 0, []), (65, .bipush 7, 2, .int 7, 0, 0, 0, []), (67, .multianewarray 38 2, 4, .int 0, 0, 0, 0, []), (71, .putfield 40, 3, .ref 0, 0, 6, 97, []), (74, .aload_n 0, 1, .int 0, 0, 0, 0, []), (75, .bipush 7, 2, .int 7, 0, 0, 0, []), (77, .bipush 7, 2, .int 7, 0, 0, 0, []), (79, .multianewarray 38 2, 4, .int 0, 0, 0, 0, []), (83, .putfield 43, 3, .ref 0, 0, 7, 98, []), (86, .aload_n 0, 1, .int 0, 0, 0, 0, []), (87, .iconst (-1), 1, .int (-1), 0, 0, 0, []), (88, .putfield 46, 3, .int 0, 0, 8, 99, []), (91, .aload_n 0, 1, .int 0, 0, 0, 0, []), (92, .aconst_null, 1, .int 0, 0, 0, 0, []), (93, .putfield 50, 3, .ref 0, 0, 9, 100, []), (96, .aload_n 0, 1, .int 0, 0, 0, 0, []), (97, .aconst_null, 1, .int 0, 0, 0, 0, []), (98, .putfield 54, 3, .ref 0, 0, 10, 101, []), (101, .return_, 1, .int 0, 0, 0, 0, [])]
set_option maxRecDepth 100000 in
theorem okX0_init : codeOk 0 kX0_init := ⟨_, rfl, by decide +kernel⟩
def kX0_begin : List AI := [(0, .aload_n 0, 1, .int 0, 0, 0, 0, []), (1, .aload_n 1, 1, .int 0, 0, 0, 0, []), (2, .putfield 50, 3, .ref 0, 0, 9, 100, []), (5, .aload_n 0, 1, .int 0, 0, 0, 0, []), (6, .aload_n 2, 1, .int 0, 0, 0, 0, []), (7, .putfield 54, 3, .ref 0, 0, 10, 101, []), (10, .aload_n 0, 1, .int 0, 0, 0, 0, []), (11, .iconst (-1), 1, .int (-1), 0, 0, 0, []), (12, .putfield 46, 3, .int 0, 0, 8, 99, []), (15, .return_, 1, .int 0, 0, 0, 0, [])]
set_option maxRecDepth 100000 in
theorem okX0_begin : codeOk 1 kX0_begin := ⟨_, rfl, by decide +kernel⟩
def kX0_bestRow : List AI := [(0, .aload_n 0, 1, .int 0, 0, 0, 0, []), (1, .iload_n 1, 1, .int 0, 0, 0, 0, []), (2, .iconst 0, 1, .int 0, 0, 0, 0, []), (3, .iload_n 2, 1, .int 0, 0, 0, 0, []), (4, .aload_n 0, 1, .int 0, 0, 0, 0, []), (5, .getfield 50, 3, .ref 0, 0, 9, 100, []), (8, .getfield 58, 3, .ref 0, 9, 3, 66, []), (11, .invokevirtual 63, 3, .int 0, 3, 5, 118, [(0, 0), (0, 0)]), (14, .aload_n 0, 1, .int 0, 0, 0, 0, []), (15, .getfield 12, 3, .ref 0, 0, 0, 91, []), (18, .getfield 67, 3, .ref 0, 1, 0, 81, []), (21, .iload_n 1, 1, .int 0, 0, 0, 0, []), (22, .bipush (-2), 2, .int (-2), 0, 0, 0, []), (24, .iastore, 1, .int 0, 0, 0, 0, []), (25, .iload_n 3, 1, .int 0, 0, 0, 0, []), (26, .ifCond .ne 8, 3, .int 0, 34, 0, 0, []), (29, .aload_n 0, 1, .int 0, 0, 0, 0, []), (30, .getfield 46, 3, .int 0, 0, 8, 99, []), (33, .ireturn, 1, .int 0, 0, 0, 0, []), (34, .iload_n 3, 1, .int 0, 0, 0, 0, []), (35, .iconst 3, 1, .int 3, 0, 0, 0, []), (36, .if_icmp .gt 14, 3, .int 0, 50, 0, 0, []), (39, .aload_n 0, 1, .int 0, 0, 0, 0, []), (40, .getfield 35, 3, .ref 0, 0, 5, 96, []), (43, .iload_n 3, 1, .int 0, 0, 0, 0, []), (44, .iconst 1, 1, .int 1, 0, 0, 0, []), (45, .isub, 1, .int 0, 0, 0, 0, []), (46, .iaload, 1, .int 0, 0, 0, 0, []), (47, .goto 5, 3, .int 0, 52, 0, 0, []), (50, .bipush (-2), 2, .int (-2), 0, 0, 0, []), (52, .ireturn, 1, .int 0, 0, 0, 0, [])]
set_option maxRecDepth 100000 in
theorem okX0_bestRow : codeOk 2 kX0_bestRow := ⟨_, rfl, by decide +kernel⟩
def kX0_tryRows : List AI := [(0, .iload_n 2, 1, .int 0, 0, 0, 0, []), (1, .iload_n 3, 1, .int 0, 0, 0, 0, []), (2, .if_icmp .ge 8, 3, .int 0, 10, 0, 0, []), (5, .iload_n 2, 1, .int 0, 0, 0, 0, []), (6, .iconst 3, 1, .int 3, 0, 0, 0, []), (7, .if_icmp .lt 15, 3, .int 0, 22, 0, 0, []), (10, .aload_n 0, 1, .int 0, 0, 0, 0, []), (11, .aload 4, 2, .int 0, 0, 0, 0, []), (13, .getfield 70, 3, .ref 0, 4, 3, 41, []), (16, .iload_n 1, 1, .int 0, 0, 0, 0, []), (17, .iaload, 1, .int 0, 0, 0, 0, []), (18, .invokevirtual 73, 3, .int 0, 4, 2, 119, [(0, 0), (0, 0)]), (21, .return_, 1, .int 0, 0, 0, 0, []), (22, .iload_n 2, 1, .int 0, 0, 0, 0, []), (23, .ifCond .ne 10, 3, .int 0, 33, 0, 0, []), (26, .aload_n 0, 1, .int 0, 0, 0, 0, []), (27, .getfield 21, 3, .ref 0, 0, 1, 92, []), (30, .goto 19, 3, .int 0, 49, 0, 0, []), (33, .iload_n 2, 1, .int 0, 0, 0, 0, []), (34, .iconst 1, 1, .int 1, 0, 0, 0, []), (35, .if_icmp .ne 10, 3, .int 0, 45, 0, 0, []), (38, .aload_n 0, 1, .int 0, 0, 0, 0, []), (39, .getfield 25, 3, .ref 0, 0, 2, 93, []), (42, .goto 7, 3, .int 0, 49, 0, 0, []), (45, .aload_n 0, 1, .int 0, 0, 0, 0, []), (46, .getfield 28, 3, .ref 0, 0, 3, 94, []), (49, .astore 5, 2, .int 0, 0, 0, 0, []), (51, .iconst (-1), 1, .int (-1), 0, 0, 0, []), (52, .istore 6, 2, .int 0, 0, 0, 0, []), (54, .iload 6, 2, .int 0, 0, 0, 0, []), (56, .aload_n 0, 1, .int 0, 0, 0, 0, []), (57, .getfield 50, 3, .ref 0, 0, 9, 100, []), (60, .getfield 77, 3, .ref 0, 9, 0, 57, []), (63, .getfield 81, 3, .int 0, 3, 2, 132, []), (66, .if_icmp .ge 81, 3, .int 0, 147, 0, 0, []), (69, .aload_n 0, 1, .int 0, 0, 0, 0, []), (70, .iload 6, 2, .int 0, 0, 0, 0, []), (72, .aload 4, 2, .int 0, 0, 0, 0, []), (74, .getfield 86, 3, .int 0, 4, 0, 29, []), (77, .invokevirtual 89, 3, .int 0, 5, 3, 120, [(0, 0), (0, 1)]), (80, .ifCond .eq 61, 3, .int 0, 141, 0, 0, []), (83, .aload 5, 2, .int 0, 0, 0, 0, []), (85, .aload 4, 2, .int 0, 0, 0, 0, []), (87, .invokevirtual 93, 3, .int 0, 40, 2, 122, [(0, 4), (0, 0)]), (90, .aload_n 0, 1, .int 0, 0, 0, 0, []), (91, .getfield 12, 3, .ref 0, 0, 0, 91, []), (94, .getfield 67, 3, .ref 0, 1, 0, 81, []), (97, .iload_n 1, 1, .int 0, 0, 0, 0, []), (98, .iload 6, 2, .int 0, 0, 0, 0, []), (100, .iastore, 1, .int 0, 0, 0, 0, []), (101, .aload_n 0, 1, .int 0, 0, 0, 0, []), (102, .getfield 12, 3, .ref 0, 0, 0, 91, []), (105, .aload_n 0, 1, .int 0, 0, 0, 0, []), (106, .getfield 50, 3, .ref 0, 0, 9, 100, []), (109, .getfield 77, 3, .ref 0, 9, 0, 57, []), (112, .aload 5, 2, .int 0, 0, 0, 0, []), (114, .aload_n 0, 1, .int 0, 0, 0, 0, []), (115, .getfield 54, 3, .ref 0, 0, 10, 101, []), (118, .invokevirtual 97, 3, .int 0, 11, 4, 123, [(0, 1), (0, 1)]), (121, .pop, 1, .int 0, 0, 0, 0, []), (122, .aload_n 0, 1, .int 0, 0, 0, 0, []), (123, .getfield 31, 3, .ref 0, 0, 4, 95, []), (126, .iload_n 2, 1, .int 0, 0, 0, 0, []), (127, .iload 6, 2, .int 0, 0, 0, 0, []), (129, .iastore, 1, .int 0, 0, 0, 0, []), (130, .aload_n 0, 1, .int 0, 0, 0, 0, []), (131, .iload_n 1, 1, .int 0, 0, 0, 0, []), (132, .iload_n 2, 1, .int 0, 0, 0, 0, []), (133, .iconst 1, 1, .int 1, 0, 0, 0, []), (134, .iadd, 1, .int 0, 0, 0, 0, []), (135, .iload_n 3, 1, .int 0, 0, 0, 0, []), (136, .aload 5, 2, .int 0, 0, 0, 0, []), (138, .invokevirtual 63, 3, .int 0, 3, 5, 118, [(0, 0), (0, 0)]), (141, .iinc 6 1, 3, .int 1, 0, 0, 0, []), (144, .goto (-90), 3, .int 0, 54, 0, 0, []), (147, .return_, 1, .int 0, 0, 0, 0, [])]
set_option maxRecDepth 100000 in
theorem okX0_tryRows : codeOk 3 kX0_tryRows := ⟨_, rfl, by decide +kernel⟩
def kX0_weighRow : List AI := [(0, .iload_n 1, 1, .int 0, 0, 0, 0, []), (1, .aload_n 0, 1, .int 0, 0, 0, 0, []), (2, .getfield 46, 3, .int 0, 0, 8, 99, []), (5, .if_icmp .le 22, 3, .int 0, 27, 0, 0, []), (8, .aload_n 0, 1, .int 0, 0, 0, 0, []), (9, .iload_n 1, 1, .int 0, 0, 0, 0, []), (10, .putfield 46, 3, .int 0, 0, 8, 99, []), (13, .aload_n 0, 1, .int 0, 0, 0, 0, []), (14, .getfield 31, 3, .ref 0, 0, 4, 95, []), (17, .iconst 0, 1, .int 0, 0, 0, 0, []), (18, .aload_n 0, 1, .int 0, 0, 0, 0, []), (19, .getfield 35, 3, .ref 0, 0, 5, 96, []), (22, .iconst 0, 1, .int 0, 0, 0, 0, []), (23, .iconst 3, 1, .int 3, 0, 0, 0, []), (24, .invokestatic 101, 3, .int 0, 1001, 0, 20, []), (27, .return_, 1, .int 0, 0, 0, 0, [])]
set_option maxRecDepth 100000 in
theorem okX0_weighRow : codeOk 4 kX0_weighRow := ⟨_, rfl, by decide +kernel⟩
def kX0_mayRunFor : List AI := [(0, .iload_n 1, 1, .int 0, 0, 0, 0, []), (1, .iconst (-1), 1, .int (-1), 0, 0, 0, []), (2, .if_icmp .eq 18, 3, .int 0, 20, 0, 0, []), (5, .aload_n 0, 1, .int 0, 0, 0, 0, []), (6, .getfield 50, 3, .ref 0, 0, 9, 100, []), (9, .getfield 77, 3, .ref 0, 9, 0, 57, []), (12, .iload_n 1, 1, .int 0, 0, 0, 0, []), (13, .iload_n 2, 1, .int 0, 0, 0, 0, []), (14, .invokevirtual 107, 3, .int 0, 36, 3, 121, [(0, 3), (0, 1)]), (17, .ifCond .eq 7, 3, .int 0, 24, 0, 0, []), (20, .iconst 1, 1, .int 1, 0, 0, 0, []), (21, .goto 4, 3, .int 0, 25, 0, 0, []), (24, .iconst 0, 1, .int 0, 0, 0, 0, []), (25, .ireturn, 1, .int 0, 0, 0, 0, [])]
set_option maxRecDepth 100000 in
theorem okX0_mayRunFor : codeOk 5 kX0_mayRunFor := ⟨_, rfl, by decide +kernel⟩
def kX0_restsOfTwo : List AI := [(0, .aload_n 0, 1, .int 0, 0, 0, 0, []), (1, .iload_n 1, 1, .int 0, 0, 0, 0, []), (2, .iload_n 2, 1, .int 0, 0, 0, 0, []), (3, .invokevirtual 110, 3, .int 0, 7, 3, 135, [(0, 0), (0, 0)]), (6, .aload_n 0, 1, .int 0, 0, 0, 0, []), (7, .getfield 50, 3, .ref 0, 0, 9, 100, []), (10, .getfield 58, 3, .ref 0, 9, 3, 66, []), (13, .getfield 86, 3, .int 0, 4, 0, 29, []), (16, .istore 4, 2, .int 0, 0, 0, 0, []), (18, .iconst 0, 1, .int 0, 0, 0, 0, []), (19, .istore 5, 2, .int 0, 0, 0, 0, []), (21, .iconst (-1), 1, .int (-1), 0, 0, 0, []), (22, .istore 6, 2, .int 0, 0, 0, 0, []), (24, .iload 6, 2, .int 0, 0, 0, 0, []), (26, .aload_n 0, 1, .int 0, 0, 0, 0, []), (27, .getfield 50, 3, .ref 0, 0, 9, 100, []), (30, .getfield 77, 3, .ref 0, 9, 0, 57, []), (33, .getfield 81, 3, .int 0, 3, 2, 132, []), (36, .if_icmp .ge 88, 3, .int 0, 124, 0, 0, []), (39, .iconst (-1), 1, .int (-1), 0, 0, 0, []), (40, .istore 7, 2, .int 0, 0, 0, 0, []), (42, .iload 7, 2, .int 0, 0, 0, 0, []), (44, .aload_n 0, 1, .int 0, 0, 0, 0, []), (45, .getfield 50, 3, .ref 0, 0, 9, 100, []), (48, .getfield 77, 3, .ref 0, 9, 0, 57, []), (51, .getfield 81, 3, .int 0, 3, 2, 132, []), (54, .if_icmp .ge 64, 3, .int 0, 118, 0, 0, []), (57, .aload_n 0, 1, .int 0, 0, 0, 0, []), (58, .iload 6, 2, .int 0, 0, 0, 0, []), (60, .iload 4, 2, .int 0, 0, 0, 0, []), (62, .invokevirtual 89, 3, .int 0, 5, 3, 120, [(0, 0), (0, 1)]), (65, .ifCond .eq 47, 3, .int 0, 112, 0, 0, []), (68, .aload_n 0, 1, .int 0, 0, 0, 0, []), (69, .iload 7, 2, .int 0, 0, 0, 0, []), (71, .iload 4, 2, .int 0, 0, 0, 0, []), (73, .invokevirtual 89, 3, .int 0, 5, 3, 120, [(0, 0), (0, 1)]), (76, .ifCond .eq 36, 3, .int 0, 112, 0, 0, []), (79, .aload_n 0, 1, .int 0, 0, 0, 0, []), (80, .iload 6, 2, .int 0, 0, 0, 0, []), (82, .iload 7, 2, .int 0, 0, 0, 0, []), (84, .iload 4, 2, .int 0, 0, 0, 0, []), (86, .invokevirtual 114, 3, .int 0, 9, 4, 137, [(0, 0), (0, 1)]), (89, .ifCond .eq 23, 3, .int 0, 112, 0, 0, []), (92, .iload_n 3, 1, .int 0, 0, 0, 0, []), (93, .ifCond .eq 16, 3, .int 0, 109, 0, 0, []), (96, .iload_n 3, 1, .int 0, 0, 0, 0, []), (97, .iconst 1, 1, .int 1, 0, 0, 0, []), (98, .if_icmp .ne 8, 3, .int 0, 106, 0, 0, []), (101, .iload 6, 2, .int 0, 0, 0, 0, []), (103, .goto 5, 3, .int 0, 108, 0, 0, []), (106, .iload 7, 2, .int 0, 0, 0, 0, []), (108, .ireturn, 1, .int 0, 0, 0, 0, []), (109, .iinc 5 1, 3, .int 1, 0, 0, 0, []), (112, .iinc 7 1, 3, .int 1, 0, 0, 0, []), (115, .goto (-73), 3, .int 0, 42, 0, 0, []), (118, .iinc 6 1, 3, .int 1, 0, 0, 0, []), (121, .goto (-97), 3, .int 0, 24, 0, 0, []), (124, .iload_n 3, 1, .int 0, 0, 0, 0, []), (125, .ifCond .ne 8, 3, .int 0, 133, 0, 0, []), (128, .iload 5, 2, .int 0, 0, 0, 0, []), (130, .goto 5, 3, .int 0, 135, 0, 0, []), (133, .bipush (-2), 2, .int (-2), 0, 0, 0, []), (135, .ireturn, 1, .int 0, 0, 0, 0, [])]
set_option maxRecDepth 100000 in
theorem okX0_restsOfTwo : codeOk 6 kX0_restsOfTwo := ⟨_, rfl, by decide +kernel⟩
def kX0_weighTwos : List AI := [(0, .iconst (-1), 1, .int (-1), 0, 0, 0, []), (1, .istore_n 3, 1, .int 0, 0, 0, 0, []), (2, .iload_n 3, 1, .int 0, 0, 0, 0, []), (3, .aload_n 0, 1, .int 0, 0, 0, 0, []), (4, .getfield 50, 3, .ref 0, 0, 9, 100, []), (7, .getfield 77, 3, .ref 0, 9, 0, 57, []), (10, .getfield 81, 3, .int 0, 3, 2, 132, []), (13, .if_icmp .ge 164, 3, .int 0, 177, 0, 0, []), (16, .iconst (-1), 1, .int (-1), 0, 0, 0, []), (17, .istore 4, 2, .int 0, 0, 0, 0, []), (19, .iload 4, 2, .int 0, 0, 0, 0, []), (21, .aload_n 0, 1, .int 0, 0, 0, 0, []), (22, .getfield 50, 3, .ref 0, 0, 9, 100, []), (25, .getfield 77, 3, .ref 0, 9, 0, 57, []), (28, .getfield 81, 3, .int 0, 3, 2, 132, []), (31, .if_icmp .ge 140, 3, .int 0, 171, 0, 0, []), (34, .aload_n 0, 1, .int 0, 0, 0, 0, []), (35, .iload_n 3, 1, .int 0, 0, 0, 0, []), (36, .aload_n 0, 1, .int 0, 0, 0, 0, []), (37, .getfield 50, 3, .ref 0, 0, 9, 100, []), (40, .getfield 58, 3, .ref 0, 9, 3, 66, []), (43, .getfield 86, 3, .int 0, 4, 0, 29, []), (46, .invokevirtual 89, 3, .int 0, 5, 3, 120, [(0, 0), (0, 1)]), (49, .ifCond .eq 116, 3, .int 0, 165, 0, 0, []), (52, .aload_n 0, 1, .int 0, 0, 0, 0, []), (53, .iload 4, 2, .int 0, 0, 0, 0, []), (55, .aload_n 0, 1, .int 0, 0, 0, 0, []), (56, .getfield 50, 3, .ref 0, 0, 9, 100, []), (59, .getfield 58, 3, .ref 0, 9, 3, 66, []), (62, .getfield 86, 3, .int 0, 4, 0, 29, []), (65, .invokevirtual 89, 3, .int 0, 5, 3, 120, [(0, 0), (0, 1)]), (68, .ifCond .eq 97, 3, .int 0, 165, 0, 0, []), (71, .aload_n 0, 1, .int 0, 0, 0, 0, []), (72, .getfield 21, 3, .ref 0, 0, 1, 92, []), (75, .aload_n 0, 1, .int 0, 0, 0, 0, []), (76, .getfield 50, 3, .ref 0, 0, 9, 100, []), (79, .getfield 58, 3, .ref 0, 9, 3, 66, []), (82, .invokevirtual 93, 3, .int 0, 40, 2, 122, [(0, 4), (0, 0)]), (85, .aload_n 0, 1, .int 0, 0, 0, 0, []), (86, .getfield 12, 3, .ref 0, 0, 0, 91, []), (89, .getfield 67, 3, .ref 0, 1, 0, 81, []), (92, .iload_n 1, 1, .int 0, 0, 0, 0, []), (93, .iload_n 3, 1, .int 0, 0, 0, 0, []), (94, .iastore, 1, .int 0, 0, 0, 0, []), (95, .aload_n 0, 1, .int 0, 0, 0, 0, []), (96, .getfield 12, 3, .ref 0, 0, 0, 91, []), (99, .getfield 67, 3, .ref 0, 1, 0, 81, []), (102, .iload_n 2, 1, .int 0, 0, 0, 0, []), (103, .iload 4, 2, .int 0, 0, 0, 0, []), (105, .iastore, 1, .int 0, 0, 0, 0, []), (106, .aload_n 0, 1, .int 0, 0, 0, 0, []), (107, .getfield 12, 3, .ref 0, 0, 0, 91, []), (110, .aload_n 0, 1, .int 0, 0, 0, 0, []), (111, .getfield 50, 3, .ref 0, 0, 9, 100, []), (114, .getfield 77, 3, .ref 0, 9, 0, 57, []), (117, .aload_n 0, 1, .int 0, 0, 0, 0, []), (118, .getfield 21, 3, .ref 0, 0, 1, 92, []), (121, .aload_n 0, 1, .int 0, 0, 0, 0, []), (122, .getfield 54, 3, .ref 0, 0, 10, 101, []), (125, .invokevirtual 97, 3, .int 0, 11, 4, 123, [(0, 1), (0, 1)]), (128, .pop, 1, .int 0, 0, 0, 0, []), (129, .aload_n 0, 1, .int 0, 0, 0, 0, []), (130, .getfield 40, 3, .ref 0, 0, 6, 97, []), (133, .iload_n 3, 1, .int 0, 0, 0, 0, []), (134, .iconst 1, 1, .int 1, 0, 0, 0, []), (135, .iadd, 1, .int 0, 0, 0, 0, []), (136, .aaload, 1, .int 0, 0, 0, 0, []), (137, .iload 4, 2, .int 0, 0, 0, 0, []), (139, .iconst 1, 1, .int 1, 0, 0, 0, []), (140, .iadd, 1, .int 0, 0, 0, 0, []), (141, .aload_n 0, 1, .int 0, 0, 0, 0, []), (142, .iload_n 1, 1, .int 0, 0, 0, 0, []), (143, .invokevirtual 118, 3, .int 0, 8, 2, 136, [(0, 0), (0, 1)]), (146, .iastore, 1, .int 0, 0, 0, 0, []), (147, .aload_n 0, 1, .int 0, 0, 0, 0, []), (148, .getfield 43, 3, .ref 0, 0, 7, 98, []), (151, .iload_n 3, 1, .int 0, 0, 0, 0, []), (152, .iconst 1, 1, .int 1, 0, 0, 0, []), (153, .iadd, 1, .int 0, 0, 0, 0, []), (154, .aaload, 1, .int 0, 0, 0, 0, []), (155, .iload 4, 2, .int 0, 0, 0, 0, []), (157, .iconst 1, 1, .int 1, 0, 0, 0, []), (158, .iadd, 1, .int 0, 0, 0, 0, []), (159, .aload_n 0, 1, .int 0, 0, 0, 0, []), (160, .iload_n 2, 1, .int 0, 0, 0, 0, []), (161, .invokevirtual 118, 3, .int 0, 8, 2, 136, [(0, 0), (0, 1)]), (164, .iastore, 1, .int 0, 0, 0, 0, []), (165, .iinc 4 1, 3, .int 1, 0, 0, 0, []), (168, .goto (-149), 3, .int 0, 19, 0, 0, []), (171, .iinc 3 1, 3, .int 1, 0, 0, 0, []), (174, .goto (-172), 3, .int 0, 2, 0, 0, []), (177, .aload_n 0, 1, .int 0, 0, 0, 0, []), (178, .getfield 12, 3, .ref 0, 0, 0, 91, []), (181, .getfield 67, 3, .ref 0, 1, 0, 81, []), (184, .iload_n 1, 1, .int 0, 0, 0, 0, []), (185, .bipush (-2), 2, .int (-2), 0, 0, 0, []), (187, .iastore, 1, .int 0, 0, 0, 0, []), (188, .aload_n 0, 1, .int 0, 0, 0, 0, []), (189, .getfield 12, 3, .ref 0, 0, 0, 91, []), (192, .getfield 67, 3, .ref 0, 1, 0, 81, []), (195, .iload_n 2, 1, .int 0, 0, 0, 0, []), (196, .bipush (-2), 2, .int (-2), 0, 0, 0, []), (198, .iastore, 1, .int 0, 0, 0, 0, []), (199, .return_, 1, .int 0, 0, 0, 0, [])]
set_option maxRecDepth 100000 in
theorem okX0_weighTwos : codeOk 7 kX0_weighTwos := ⟨_, rfl, by decide +kernel⟩
def kX0_hasThen : List AI := [(0, .iconst 2, 1, .int 2, 0, 0, 0, []), (1, .aload_n 0, 1, .int 0, 0, 0, 0, []), (2, .getfield 21, 3, .ref 0, 0, 1, 92, []), (5, .getfield 70, 3, .ref 0, 4, 3, 41, []), (8, .iload_n 1, 1, .int 0, 0, 0, 0, []), (9, .iaload, 1, .int 0, 0, 0, 0, []), (10, .aload_n 0, 1, .int 0, 0, 0, 0, []), (11, .getfield 50, 3, .ref 0, 0, 9, 100, []), (14, .getfield 58, 3, .ref 0, 9, 3, 66, []), (17, .getfield 70, 3, .ref 0, 4, 3, 41, []), (20, .iload_n 1, 1, .int 0, 0, 0, 0, []), (21, .iaload, 1, .int 0, 0, 0, 0, []), (22, .isub, 1, .int 0, 0, 0, 0, []), (23, .imul, 1, .int 0, 0, 0, 0, []), (24, .aload_n 0, 1, .int 0, 0, 0, 0, []), (25, .getfield 21, 3, .ref 0, 0, 1, 92, []), (28, .getfield 122, 3, .ref 0, 4, 2, 39, []), (31, .iload_n 1, 1, .int 0, 0, 0, 0, []), (32, .iaload, 1, .int 0, 0, 0, 0, []), (33, .iadd, 1, .int 0, 0, 0, 0, []), (34, .ireturn, 1, .int 0, 0, 0, 0, [])]
set_option maxRecDepth 100000 in
theorem okX0_hasThen : codeOk 8 kX0_hasThen := ⟨_, rfl, by decide +kernel⟩
def kX0_isRest : List AI := [(0, .iconst (-1), 1, .int (-1), 0, 0, 0, []), (1, .istore 4, 2, .int 0, 0, 0, 0, []), (3, .iload 4, 2, .int 0, 0, 0, 0, []), (5, .aload_n 0, 1, .int 0, 0, 0, 0, []), (6, .getfield 50, 3, .ref 0, 0, 9, 100, []), (9, .getfield 77, 3, .ref 0, 9, 0, 57, []), (12, .getfield 81, 3, .int 0, 3, 2, 132, []), (15, .if_icmp .ge 77, 3, .int 0, 92, 0, 0, []), (18, .aload_n 0, 1, .int 0, 0, 0, 0, []), (19, .iload 4, 2, .int 0, 0, 0, 0, []), (21, .iload_n 3, 1, .int 0, 0, 0, 0, []), (22, .invokevirtual 89, 3, .int 0, 5, 3, 120, [(0, 0), (0, 1)]), (25, .ifCond .eq 61, 3, .int 0, 86, 0, 0, []), (28, .aload_n 0, 1, .int 0, 0, 0, 0, []), (29, .getfield 40, 3, .ref 0, 0, 6, 97, []), (32, .iload 4, 2, .int 0, 0, 0, 0, []), (34, .iconst 1, 1, .int 1, 0, 0, 0, []), (35, .iadd, 1, .int 0, 0, 0, 0, []), (36, .aaload, 1, .int 0, 0, 0, 0, []), (37, .iload_n 2, 1, .int 0, 0, 0, 0, []), (38, .iconst 1, 1, .int 1, 0, 0, 0, []), (39, .iadd, 1, .int 0, 0, 0, 0, []), (40, .iaload, 1, .int 0, 0, 0, 0, []), (41, .aload_n 0, 1, .int 0, 0, 0, 0, []), (42, .getfield 40, 3, .ref 0, 0, 6, 97, []), (45, .iload_n 1, 1, .int 0, 0, 0, 0, []), (46, .iconst 1, 1, .int 1, 0, 0, 0, []), (47, .iadd, 1, .int 0, 0, 0, 0, []), (48, .aaload, 1, .int 0, 0, 0, 0, []), (49, .iload_n 2, 1, .int 0, 0, 0, 0, []), (50, .iconst 1, 1, .int 1, 0, 0, 0, []), (51, .iadd, 1, .int 0, 0, 0, 0, []), (52, .iaload, 1, .int 0, 0, 0, 0, []), (53, .if_icmp .gt 31, 3, .int 0, 84, 0, 0, []), (56, .aload_n 0, 1, .int 0, 0, 0, 0, []), (57, .getfield 43, 3, .ref 0, 0, 7, 98, []), (60, .iload_n 1, 1, .int 0, 0, 0, 0, []), (61, .iconst 1, 1, .int 1, 0, 0, 0, []), (62, .iadd, 1, .int 0, 0, 0, 0, []), (63, .aaload, 1, .int 0, 0, 0, 0, []), (64, .iload 4, 2, .int 0, 0, 0, 0, []), (66, .iconst 1, 1, .int 1, 0, 0, 0, []), (67, .iadd, 1, .int 0, 0, 0, 0, []), (68, .iaload, 1, .int 0, 0, 0, 0, []), (69, .aload_n 0, 1, .int 0, 0, 0, 0, []), (70, .getfield 43, 3, .ref 0, 0, 7, 98, []), (73, .iload_n 1, 1, .int 0, 0, 0, 0, []), (74, .iconst 1, 1, .int 1, 0, 0, 0, []), (75, .iadd, 1, .int 0, 0, 0, 0, []), (76, .aaload, 1, .int 0, 0, 0, 0, []), (77, .iload_n 2, 1, .int 0, 0, 0, 0, []), (78, .iconst 1, 1, .int 1, 0, 0, 0, []), (79, .iadd, 1, .int 0, 0, 0, 0, []), (80, .iaload, 1, .int 0, 0, 0, 0, []), (81, .if_icmp .le 5, 3, .int 0, 86, 0, 0, []), (84, .iconst 0, 1, .int 0, 0, 0, 0, []), (85, .ireturn, 1, .int 0, 0, 0, 0, []), (86, .iinc 4 1, 3, .int 1, 0, 0, 0, []), (89, .goto (-86), 3, .int 0, 3, 0, 0, []), (92, .iconst 1, 1, .int 1, 0, 0, 0, []), (93, .ireturn, 1, .int 0, 0, 0, 0, [])]
set_option maxRecDepth 100000 in
theorem okX0_isRest : codeOk 9 kX0_isRest := ⟨_, rfl, by decide +kernel⟩
def kX1_init : List AI := [(0, .aload_n 0, 1, .int 0, 0, 0, 0, []), (1, .invokespecial 3, 3, .int 0, 1000, 0, 5, [(0, 1)]), (4, .aload_n 0, 1, .int 0, 0, 0, 0, []), (5, .iconst 5, 1, .int 5, 0, 0, 0, []), (6, .newarray .int, 2, .int 0, 0, 0, 0, []), (8, .putfield 9, 3, .ref 0, 1, 0, 80, []), (11, .aload_n 0, 1, .int 0, 0, 0, 0, []), (12, .iconst 5, 1, .int 5, 0, 0, 0, []), (13, .newarray .int, 2, .int 0, 0, 0, 0, []), (15, .putfield 15, 3, .ref 0, 1, 1, 82, []), (18, .aload_n 0, 1, .int 0, 0, 0, 0, []), (19, .bipush 12, 2, .int 12, 0, 0, 0, []), (21, .newarray .long, 2, .int 0, 0, 0, 0, []), (23, .putfield 20, 3, .ref 0, 1, 2, 83, []), (26, .aload_n 0, 1, .int 0, 0, 0, 0, []), (27, .bipush 60, 2, .int 60, 0, 0, 0, []), (29, .newarray .long, 2, .int 0, 0, 0, 0, []), (31, .putfield 26, 3, .ref 0, 1, 3, 84, []), (34, .aload_n 0, 1, .int 0, 0, 0, 0, []), (35, .getfield 9, 3, .ref 0, 1, 0, 80, []), (38, .bipush (-2), 2, .int (-2), 0, 0, 0, []), (40, .invokestatic 29, 3, .int 0, 246, 2, 2, [(0, 99), (0, 0)]), (43, .return_, 1, .int 0, 0, 0, 0, [])]
set_option maxRecDepth 100000 in
theorem okX1_init : codeOk 10 kX1_init := ⟨_, rfl, by decide +kernel⟩
def kX1_pass : List AI := [(0, .iconst 0, 1, .int 0, 0, 0, 0, []), (1, .istore 4, 2, .int 0, 0, 0, 0, []), (3, .iload 4, 2, .int 0, 0, 0, 0, []), (5, .aload_n 1, 1, .int 0, 0, 0, 0, []), (6, .getfield 35, 3, .int 0, 3, 1, 124, []), (9, .if_icmp .ge 69, 3, .int 0, 78, 0, 0, []), (12, .aload_n 0, 1, .int 0, 0, 0, 0, []), (13, .getfield 9, 3, .ref 0, 1, 0, 80, []), (16, .iload 4, 2, .int 0, 0, 0, 0, []), (18, .iaload, 1, .int 0, 0, 0, 0, []), (19, .bipush (-2), 2, .int (-2), 0, 0, 0, []), (21, .if_icmp .eq 20, 3, .int 0, 41, 0, 0, []), (24, .aload_n 0, 1, .int 0, 0, 0, 0, []), (25, .getfield 15, 3, .ref 0, 1, 1, 82, []), (28, .iload 4, 2, .int 0, 0, 0, 0, []), (30, .aload_n 0, 1, .int 0, 0, 0, 0, []), (31, .getfield 9, 3, .ref 0, 1, 0, 80, []), (34, .iload 4, 2, .int 0, 0, 0, 0, []), (36, .iaload, 1, .int 0, 0, 0, 0, []), (37, .iastore, 1, .int 0, 0, 0, 0, []), (38, .goto 34, 3, .int 0, 72, 0, 0, []), (41, .aload_n 0, 1, .int 0, 0, 0, 0, []), (42, .getfield 15, 3, .ref 0, 1, 1, 82, []), (45, .iload 4, 2, .int 0, 0, 0, 0, []), (47, .aload_n 3, 1, .int 0, 0, 0, 0, []), (48, .ifnonnull 14, 3, .int 0, 62, 0, 0, []), (51, .aload_n 1, 1, .int 0, 0, 0, 0, []), (52, .aload_n 2, 1, .int 0, 0, 0, 0, []), (53, .getfield 41, 3, .int 0, 4, 0, 27, []), (56, .invokestatic 46, 3, .int 0, 12, 2, 74, [(0, 1), (0, 1)]), (59, .goto 12, 3, .int 0, 71, 0, 0, []), (62, .aload_n 0, 1, .int 0, 0, 0, 0, []), (63, .aload_n 3, 1, .int 0, 0, 0, 0, []), (64, .aload_n 1, 1, .int 0, 0, 0, 0, []), (65, .aload_n 2, 1, .int 0, 0, 0, 0, []), (66, .iload 4, 2, .int 0, 0, 0, 0, []), (68, .invokevirtual 50, 3, .int 0, 13, 5, 76, [(0, 1), (0, 1)]), (71, .iastore, 1, .int 0, 0, 0, 0, []), (72, .iinc 4 1, 3, .int 1, 0, 0, 0, []), (75, .goto (-72), 3, .int 0, 3, 0, 0, []), (78, .iconst 0, 1, .int 0, 0, 0, 0, []), (79, .istore 4, 2, .int 0, 0, 0, 0, []), (81, .iconst 0, 1, .int 0, 0, 0, 0, []), (82, .istore 5, 2, .int 0, 0, 0, 0, []), (84, .iload 5, 2, .int 0, 0, 0, 0, []), (86, .aload_n 1, 1, .int 0, 0, 0, 0, []), (87, .getfield 54, 3, .int 0, 3, 2, 129, []), (90, .if_icmp .ge 44, 3, .int 0, 134, 0, 0, []), (93, .aload_n 2, 1, .int 0, 0, 0, 0, []), (94, .getfield 57, 3, .ref 0, 4, 5, 50, []), (97, .iload 5, 2, .int 0, 0, 0, 0, []), (99, .aload_n 0, 1, .int 0, 0, 0, 0, []), (100, .iload 5, 2, .int 0, 0, 0, 0, []), (102, .aload_n 1, 1, .int 0, 0, 0, 0, []), (103, .aload_n 2, 1, .int 0, 0, 0, 0, []), (104, .invokevirtual 60, 3, .int 0, 17, 4, 84, [(0, 1), (0, 1)]), (107, .iastore, 1, .int 0, 0, 0, 0, []), (108, .aload_n 2, 1, .int 0, 0, 0, 0, []), (109, .getfield 57, 3, .ref 0, 4, 5, 50, []), (112, .iload 5, 2, .int 0, 0, 0, 0, []), (114, .iaload, 1, .int 0, 0, 0, 0, []), (115, .iconst (-1), 1, .int (-1), 0, 0, 0, []), (116, .if_icmp .eq 12, 3, .int 0, 128, 0, 0, []), (119, .iload 4, 2, .int 0, 0, 0, 0, []), (121, .iconst 1, 1, .int 1, 0, 0, 0, []), (122, .iload 5, 2, .int 0, 0, 0, 0, []), (124, .ishl, 1, .int 0, 0, 0, 0, []), (125, .ior, 1, .int 0, 0, 0, 0, []), (126, .istore 4, 2, .int 0, 0, 0, 0, []), (128, .iinc 5 1, 3, .int 1, 0, 0, 0, []), (131, .goto (-47), 3, .int 0, 84, 0, 0, []), (134, .aload_n 0, 1, .int 0, 0, 0, 0, []), (135, .aload_n 1, 1, .int 0, 0, 0, 0, []), (136, .aload_n 2, 1, .int 0, 0, 0, 0, []), (137, .invokevirtual 64, 3, .int 0, 18, 3, 86, [(0, 1), (0, 0)]), (140, .aload_n 1, 1, .int 0, 0, 0, 0, []), (141, .aload_n 2, 1, .int 0, 0, 0, 0, []), (142, .getfield 41, 3, .int 0, 4, 0, 27, []), (145, .invokevirtual 68, 3, .int 0, 37, 2, 79, [(0, 3), (0, 1)]), (148, .ifCond .ne 11, 3, .int 0, 159, 0, 0, []), (151, .aload_n 2, 1, .int 0, 0, 0, 0, []), (152, .getfield 72, 3, .ref 0, 4, 2, 36, []), (155, .iconst 0, 1, .int 0, 0, 0, 0, []), (156, .invokestatic 29, 3, .int 0, 246, 2, 2, [(0, 99), (0, 0)]), (159, .aload_n 2, 1, .int 0, 0, 0, 0, []), (160, .dup, 1, .int 0, 0, 0, 0, []), (161, .getfield 41, 3, .int 0, 4, 0, 27, []), (164, .iconst 1, 1, .int 1, 0, 0, 0, []), (165, .iadd, 1, .int 0, 0, 0, 0, []), (166, .putfield 41, 3, .int 0, 4, 0, 27, []), (169, .iload 4, 2, .int 0, 0, 0, 0, []), (171, .ireturn, 1, .int 0, 0, 0, 0, [])]
set_option maxRecDepth 100000 in
theorem okX1_pass : codeOk 11 kX1_pass := ⟨_, rfl, by decide +kernel⟩
def kX1_mostWorth : List AI := [(0, .iconst (-1), 1, .int (-1), 0, 0, 0, []), (1, .istore_n 2, 1, .int 0, 0, 0, 0, []), (2, .iconst 0, 1, .int 0, 0, 0, 0, []), (3, .istore_n 3, 1, .int 0, 0, 0, 0, []), (4, .iload_n 3, 1, .int 0, 0, 0, 0, []), (5, .aload_n 0, 1, .int 0, 0, 0, 0, []), (6, .getfield 54, 3, .int 0, 3, 2, 129, []), (9, .if_icmp .ge 40, 3, .int 0, 49, 0, 0, []), (12, .aload_n 0, 1, .int 0, 0, 0, 0, []), (13, .iload_n 3, 1, .int 0, 0, 0, 0, []), (14, .iload_n 1, 1, .int 0, 0, 0, 0, []), (15, .invokevirtual 75, 3, .int 0, 36, 3, 75, [(0, 3), (0, 1)]), (18, .ifCond .eq 25, 3, .int 0, 43, 0, 0, []), (21, .iload_n 2, 1, .int 0, 0, 0, 0, []), (22, .iconst (-1), 1, .int (-1), 0, 0, 0, []), (23, .if_icmp .eq 18, 3, .int 0, 41, 0, 0, []), (26, .aload_n 0, 1, .int 0, 0, 0, 0, []), (27, .getfield 79, 3, .ref 0, 3, 6, 141, []), (30, .iload_n 3, 1, .int 0, 0, 0, 0, []), (31, .iaload, 1, .int 0, 0, 0, 0, []), (32, .aload_n 0, 1, .int 0, 0, 0, 0, []), (33, .getfield 79, 3, .ref 0, 3, 6, 141, []), (36, .iload_n 2, 1, .int 0, 0, 0, 0, []), (37, .iaload, 1, .int 0, 0, 0, 0, []), (38, .if_icmp .le 5, 3, .int 0, 43, 0, 0, []), (41, .iload_n 3, 1, .int 0, 0, 0, 0, []), (42, .istore_n 2, 1, .int 0, 0, 0, 0, []), (43, .iinc 3 1, 3, .int 1, 0, 0, 0, []), (46, .goto (-42), 3, .int 0, 4, 0, 0, []), (49, .iload_n 2, 1, .int 0, 0, 0, 0, []), (50, .ireturn, 1, .int 0, 0, 0, 0, [])]
set_option maxRecDepth 100000 in
theorem okX1_mostWorth : codeOk 12 kX1_mostWorth := ⟨_, rfl, by decide +kernel⟩
def kX1_bestBy : List AI := [(0, .aload_n 0, 1, .int 0, 0, 0, 0, []), (1, .aload_n 2, 1, .int 0, 0, 0, 0, []), (2, .aload_n 3, 1, .int 0, 0, 0, 0, []), (3, .iload 4, 2, .int 0, 0, 0, 0, []), (5, .invokevirtual 82, 3, .int 0, 14, 4, 77, [(0, 1), (0, 0)]), (8, .iconst (-1), 1, .int (-1), 0, 0, 0, []), (9, .istore 5, 2, .int 0, 0, 0, 0, []), (11, .lconst 0, 1, .long 0, 0, 0, 0, []), (12, .lstore 6, 2, .int 0, 0, 0, 0, []), (14, .iconst 0, 1, .int 0, 0, 0, 0, []), (15, .istore 8, 2, .int 0, 0, 0, 0, []), (17, .iload 8, 2, .int 0, 0, 0, 0, []), (19, .aload_n 2, 1, .int 0, 0, 0, 0, []), (20, .getfield 54, 3, .int 0, 3, 2, 129, []), (23, .if_icmp .ge 62, 3, .int 0, 85, 0, 0, []), (26, .aload_n 2, 1, .int 0, 0, 0, 0, []), (27, .iload 8, 2, .int 0, 0, 0, 0, []), (29, .aload_n 3, 1, .int 0, 0, 0, 0, []), (30, .getfield 41, 3, .int 0, 4, 0, 27, []), (33, .invokevirtual 75, 3, .int 0, 36, 3, 75, [(0, 3), (0, 1)]), (36, .ifCond .eq 43, 3, .int 0, 79, 0, 0, []), (39, .aload_n 0, 1, .int 0, 0, 0, 0, []), (40, .aload_n 2, 1, .int 0, 0, 0, 0, []), (41, .aload_n 3, 1, .int 0, 0, 0, 0, []), (42, .iload 4, 2, .int 0, 0, 0, 0, []), (44, .iload 8, 2, .int 0, 0, 0, 0, []), (46, .invokevirtual 86, 3, .int 0, 16, 5, 80, [(0, 1), (0, 0)]), (49, .aload_n 1, 1, .int 0, 0, 0, 0, []), (50, .aload_n 0, 1, .int 0, 0, 0, 0, []), (51, .getfield 20, 3, .ref 0, 1, 2, 83, []), (54, .aload_n 0, 1, .int 0, 0, 0, 0, []), (55, .getfield 26, 3, .ref 0, 1, 3, 84, []), (58, .invokevirtual 90, 3, .int 0, 53, 3, 81, [(0, 6), (0, 2)]), (61, .lstore 9, 2, .int 0, 0, 0, 0, []), (63, .lload 9, 2, .int 0, 0, 0, 0, []), (65, .lload 6, 2, .int 0, 0, 0, 0, []), (67, .lcmp, 1, .int 0, 0, 0, 0, []), (68, .ifCond .le 11, 3, .int 0, 79, 0, 0, []), (71, .lload 9, 2, .int 0, 0, 0, 0, []), (73, .lstore 6, 2, .int 0, 0, 0, 0, []), (75, .iload 8, 2, .int 0, 0, 0, 0, []), (77, .istore 5, 2, .int 0, 0, 0, 0, []), (79, .iinc 8 1, 3, .int 1, 0, 0, 0, []), (82, .goto (-65), 3, .int 0, 17, 0, 0, []), (85, .iload 5, 2, .int 0, 0, 0, 0, []), (87, .ireturn, 1, .int 0, 0, 0, 0, [])]
set_option maxRecDepth 100000 in
theorem okX1_bestBy : codeOk 13 kX1_bestBy := ⟨_, rfl, by decide +kernel⟩
def kX1_tellRunner : List AI := [(0, .aload_n 0, 1, .int 0, 0, 0, 0, []), (1, .getfield 20, 3, .ref 0, 1, 2, 83, []), (4, .iconst 0, 1, .int 0, 0, 0, 0, []), (5, .iload_n 3, 1, .int 0, 0, 0, 0, []), (6, .i2l, 1, .int 0, 0, 0, 0, []), (7, .lastore, 1, .int 0, 0, 0, 0, []), (8, .aload_n 0, 1, .int 0, 0, 0, 0, []), (9, .getfield 20, 3, .ref 0, 1, 2, 83, []), (12, .iconst 2, 1, .int 2, 0, 0, 0, []), (13, .aload_n 2, 1, .int 0, 0, 0, 0, []), (14, .getfield 94, 3, .ref 0, 4, 1, 33, []), (17, .iload_n 3, 1, .int 0, 0, 0, 0, []), (18, .iaload, 1, .int 0, 0, 0, 0, []), (19, .i2l, 1, .int 0, 0, 0, 0, []), (20, .lastore, 1, .int 0, 0, 0, 0, []), (21, .aload_n 0, 1, .int 0, 0, 0, 0, []), (22, .getfield 20, 3, .ref 0, 1, 2, 83, []), (25, .iconst 3, 1, .int 3, 0, 0, 0, []), (26, .aload_n 2, 1, .int 0, 0, 0, 0, []), (27, .getfield 72, 3, .ref 0, 4, 2, 36, []), (30, .iload_n 3, 1, .int 0, 0, 0, 0, []), (31, .iaload, 1, .int 0, 0, 0, 0, []), (32, .i2l, 1, .int 0, 0, 0, 0, []), (33, .lastore, 1, .int 0, 0, 0, 0, []), (34, .aload_n 0, 1, .int 0, 0, 0, 0, []), (35, .getfield 20, 3, .ref 0, 1, 2, 83, []), (38, .bipush 8, 2, .int 8, 0, 0, 0, []), (40, .aload_n 1, 1, .int 0, 0, 0, 0, []), (41, .aload_n 2, 1, .int 0, 0, 0, 0, []), (42, .iload_n 3, 1, .int 0, 0, 0, 0, []), (43, .invokestatic 97, 3, .int 0, 15, 3, 78, [(0, 1), (0, 1)]), (46, .i2l, 1, .int 0, 0, 0, 0, []), (47, .lastore, 1, .int 0, 0, 0, 0, []), (48, .aload_n 0, 1, .int 0, 0, 0, 0, []), (49, .getfield 20, 3, .ref 0, 1, 2, 83, []), (52, .bipush 9, 2, .int 9, 0, 0, 0, []), (54, .aload_n 2, 1, .int 0, 0, 0, 0, []), (55, .getfield 101, 3, .ref 0, 4, 3, 43, []), (58, .iload_n 3, 1, .int 0, 0, 0, 0, []), (59, .iaload, 1, .int 0, 0, 0, 0, []), (60, .i2l, 1, .int 0, 0, 0, 0, []), (61, .lastore, 1, .int 0, 0, 0, 0, []), (62, .aload_n 0, 1, .int 0, 0, 0, 0, []), (63, .getfield 20, 3, .ref 0, 1, 2, 83, []), (66, .bipush 10, 2, .int 10, 0, 0, 0, []), (68, .aload_n 1, 1, .int 0, 0, 0, 0, []), (69, .aload_n 2, 1, .int 0, 0, 0, 0, []), (70, .getfield 41, 3, .int 0, 4, 0, 27, []), (73, .invokevirtual 68, 3, .int 0, 37, 2, 79, [(0, 3), (0, 1)]), (76, .i2l, 1, .int 0, 0, 0, 0, []), (77, .lastore, 1, .int 0, 0, 0, 0, []), (78, .aload_n 0, 1, .int 0, 0, 0, 0, []), (79, .getfield 20, 3, .ref 0, 1, 2, 83, []), (82, .bipush 11, 2, .int 11, 0, 0, 0, []), (84, .aload_n 2, 1, .int 0, 0, 0, 0, []), (85, .getfield 41, 3, .int 0, 4, 0, 27, []), (88, .i2l, 1, .int 0, 0, 0, 0, []), (89, .lastore, 1, .int 0, 0, 0, 0, []), (90, .return_, 1, .int 0, 0, 0, 0, [])]
set_option maxRecDepth 100000 in
theorem okX1_tellRunner : codeOk 14 kX1_tellRunner := ⟨_, rfl, by decide +kernel⟩
def kX1_leadOf : List AI := [(0, .aload_n 0, 1, .int 0, 0, 0, 0, []), (1, .getfield 35, 3, .int 0, 3, 1, 124, []), (4, .iconst 2, 1, .int 2, 0, 0, 0, []), (5, .if_icmp .ge 5, 3, .int 0, 10, 0, 0, []), (8, .iconst 0, 1, .int 0, 0, 0, 0, []), (9, .ireturn, 1, .int 0, 0, 0, 0, []), (10, .ldc 106, 2, .int (-2147483648), 0, 0, 0, []), (12, .istore_n 3, 1, .int 0, 0, 0, 0, []), (13, .iconst 0, 1, .int 0, 0, 0, 0, []), (14, .istore 4, 2, .int 0, 0, 0, 0, []), (16, .iload 4, 2, .int 0, 0, 0, 0, []), (18, .aload_n 0, 1, .int 0, 0, 0, 0, []), (19, .getfield 35, 3, .int 0, 3, 1, 124, []), (22, .if_icmp .ge 27, 3, .int 0, 49, 0, 0, []), (25, .iload 4, 2, .int 0, 0, 0, 0, []), (27, .iload_n 2, 1, .int 0, 0, 0, 0, []), (28, .if_icmp .eq 15, 3, .int 0, 43, 0, 0, []), (31, .iload_n 3, 1, .int 0, 0, 0, 0, []), (32, .aload_n 1, 1, .int 0, 0, 0, 0, []), (33, .getfield 72, 3, .ref 0, 4, 2, 36, []), (36, .iload 4, 2, .int 0, 0, 0, 0, []), (38, .iaload, 1, .int 0, 0, 0, 0, []), (39, .invokestatic 107, 3, .int 0, 1002, 0, 18, []), (42, .istore_n 3, 1, .int 0, 0, 0, 0, []), (43, .iinc 4 1, 3, .int 1, 0, 0, 0, []), (46, .goto (-30), 3, .int 0, 16, 0, 0, []), (49, .aload_n 1, 1, .int 0, 0, 0, 0, []), (50, .getfield 72, 3, .ref 0, 4, 2, 36, []), (53, .iload_n 2, 1, .int 0, 0, 0, 0, []), (54, .iaload, 1, .int 0, 0, 0, 0, []), (55, .iload_n 3, 1, .int 0, 0, 0, 0, []), (56, .isub, 1, .int 0, 0, 0, 0, []), (57, .ireturn, 1, .int 0, 0, 0, 0, [])]
set_option maxRecDepth 100000 in
theorem okX1_leadOf : codeOk 15 kX1_leadOf := ⟨_, rfl, by decide +kernel⟩
def kX1_tellWare : List AI := [(0, .iconst 0, 1, .int 0, 0, 0, 0, []), (1, .istore 5, 2, .int 0, 0, 0, 0, []), (3, .iconst 0, 1, .int 0, 0, 0, 0, []), (4, .istore 6, 2, .int 0, 0, 0, 0, []), (6, .iload 6, 2, .int 0, 0, 0, 0, []), (8, .iload_n 3, 1, .int 0, 0, 0, 0, []), (9, .if_icmp .ge 24, 3, .int 0, 33, 0, 0, []), (12, .aload_n 0, 1, .int 0, 0, 0, 0, []), (13, .getfield 15, 3, .ref 0, 1, 1, 82, []), (16, .iload 6, 2, .int 0, 0, 0, 0, []), (18, .iaload, 1, .int 0, 0, 0, 0, []), (19, .iload 4, 2, .int 0, 0, 0, 0, []), (21, .if_icmp .ne 6, 3, .int 0, 27, 0, 0, []), (24, .iinc 5 1, 3, .int 1, 0, 0, 0, []), (27, .iinc 6 1, 3, .int 1, 0, 0, 0, []), (30, .goto (-24), 3, .int 0, 6, 0, 0, []), (33, .aload_n 0, 1, .int 0, 0, 0, 0, []), (34, .getfield 20, 3, .ref 0, 1, 2, 83, []), (37, .iconst 1, 1, .int 1, 0, 0, 0, []), (38, .iload 4, 2, .int 0, 0, 0, 0, []), (40, .i2l, 1, .int 0, 0, 0, 0, []), (41, .lastore, 1, .int 0, 0, 0, 0, []), (42, .aload_n 0, 1, .int 0, 0, 0, 0, []), (43, .getfield 20, 3, .ref 0, 1, 2, 83, []), (46, .iconst 4, 1, .int 4, 0, 0, 0, []), (47, .aload_n 2, 1, .int 0, 0, 0, 0, []), (48, .getfield 113, 3, .ref 0, 4, 4, 47, []), (51, .iload 4, 2, .int 0, 0, 0, 0, []), (53, .iaload, 1, .int 0, 0, 0, 0, []), (54, .i2l, 1, .int 0, 0, 0, 0, []), (55, .lastore, 1, .int 0, 0, 0, 0, []), (56, .aload_n 0, 1, .int 0, 0, 0, 0, []), (57, .getfield 20, 3, .ref 0, 1, 2, 83, []), (60, .iconst 5, 1, .int 5, 0, 0, 0, []), (61, .aload_n 1, 1, .int 0, 0, 0, 0, []), (62, .getfield 79, 3, .ref 0, 3, 6, 141, []), (65, .iload 4, 2, .int 0, 0, 0, 0, []), (67, .iaload, 1, .int 0, 0, 0, 0, []), (68, .i2l, 1, .int 0, 0, 0, 0, []), (69, .lastore, 1, .int 0, 0, 0, 0, []), (70, .aload_n 0, 1, .int 0, 0, 0, 0, []), (71, .getfield 20, 3, .ref 0, 1, 2, 83, []), (74, .bipush 6, 2, .int 6, 0, 0, 0, []), (76, .iload 5, 2, .int 0, 0, 0, 0, []), (78, .i2l, 1, .int 0, 0, 0, 0, []), (79, .lastore, 1, .int 0, 0, 0, 0, []), (80, .aload_n 0, 1, .int 0, 0, 0, 0, []), (81, .getfield 20, 3, .ref 0, 1, 2, 83, []), (84, .bipush 7, 2, .int 7, 0, 0, 0, []), (86, .aload_n 2, 1, .int 0, 0, 0, 0, []), (87, .getfield 94, 3, .ref 0, 4, 1, 33, []), (90, .iload_n 3, 1, .int 0, 0, 0, 0, []), (91, .iaload, 1, .int 0, 0, 0, 0, []), (92, .ifCond .le 21, 3, .int 0, 113, 0, 0, []), (95, .aload_n 2, 1, .int 0, 0, 0, 0, []), (96, .getfield 113, 3, .ref 0, 4, 4, 47, []), (99, .iload 4, 2, .int 0, 0, 0, 0, []), (101, .iaload, 1, .int 0, 0, 0, 0, []), (102, .aload_n 2, 1, .int 0, 0, 0, 0, []), (103, .getfield 94, 3, .ref 0, 4, 1, 33, []), (106, .iload_n 3, 1, .int 0, 0, 0, 0, []), (107, .iaload, 1, .int 0, 0, 0, 0, []), (108, .idiv, 1, .int 0, 0, 0, 0, []), (109, .i2l, 1, .int 0, 0, 0, 0, []), (110, .goto 4, 3, .int 0, 114, 0, 0, []), (113, .lconst 0, 1, .long 0, 0, 0, 0, []), (114, .lastore, 1, .int 0, 0, 0, 0, []), (115, .return_, 1, .int 0, 0, 0, 0, [])]
set_option maxRecDepth 100000 in
theorem okX1_tellWare : codeOk 16 kX1_tellWare := ⟨_, rfl, by decide +kernel⟩
def kX1_firstTo : List AI := [(0, .iconst (-1), 1, .int (-1), 0, 0, 0, []), (1, .istore 4, 2, .int 0, 0, 0, 0, []), (3, .iconst 0, 1, .int 0, 0, 0, 0, []), (4, .istore 5, 2, .int 0, 0, 0, 0, []), (6, .iload 5, 2, .int 0, 0, 0, 0, []), (8, .aload_n 2, 1, .int 0, 0, 0, 0, []), (9, .getfield 35, 3, .int 0, 3, 1, 124, []), (12, .if_icmp .ge 47, 3, .int 0, 59, 0, 0, []), (15, .aload_n 0, 1, .int 0, 0, 0, 0, []), (16, .getfield 15, 3, .ref 0, 1, 1, 82, []), (19, .iload 5, 2, .int 0, 0, 0, 0, []), (21, .iaload, 1, .int 0, 0, 0, 0, []), (22, .iload_n 1, 1, .int 0, 0, 0, 0, []), (23, .if_icmp .ne 30, 3, .int 0, 53, 0, 0, []), (26, .iload 4, 2, .int 0, 0, 0, 0, []), (28, .iconst (-1), 1, .int (-1), 0, 0, 0, []), (29, .if_icmp .eq 20, 3, .int 0, 49, 0, 0, []), (32, .aload_n 3, 1, .int 0, 0, 0, 0, []), (33, .iload 5, 2, .int 0, 0, 0, 0, []), (35, .iload 4, 2, .int 0, 0, 0, 0, []), (37, .aload_n 3, 1, .int 0, 0, 0, 0, []), (38, .getfield 113, 3, .ref 0, 4, 4, 47, []), (41, .iload_n 1, 1, .int 0, 0, 0, 0, []), (42, .iaload, 1, .int 0, 0, 0, 0, []), (43, .invokevirtual 116, 3, .int 0, 41, 4, 85, [(0, 4), (0, 1)]), (46, .ifCond .eq 7, 3, .int 0, 53, 0, 0, []), (49, .iload 5, 2, .int 0, 0, 0, 0, []), (51, .istore 4, 2, .int 0, 0, 0, 0, []), (53, .iinc 5 1, 3, .int 1, 0, 0, 0, []), (56, .goto (-50), 3, .int 0, 6, 0, 0, []), (59, .iload 4, 2, .int 0, 0, 0, 0, []), (61, .ireturn, 1, .int 0, 0, 0, 0, [])]
set_option maxRecDepth 100000 in
theorem okX1_firstTo : codeOk 17 kX1_firstTo := ⟨_, rfl, by decide +kernel⟩
def kX1_reward : List AI := [(0, .iconst 0, 1, .int 0, 0, 0, 0, []), (1, .istore_n 3, 1, .int 0, 0, 0, 0, []), (2, .iload_n 3, 1, .int 0, 0, 0, 0, []), (3, .aload_n 1, 1, .int 0, 0, 0, 0, []), (4, .getfield 54, 3, .int 0, 3, 2, 129, []), (7, .if_icmp .ge 59, 3, .int 0, 66, 0, 0, []), (10, .aload_n 2, 1, .int 0, 0, 0, 0, []), (11, .getfield 57, 3, .ref 0, 4, 5, 50, []), (14, .iload_n 3, 1, .int 0, 0, 0, 0, []), (15, .iaload, 1, .int 0, 0, 0, 0, []), (16, .istore 4, 2, .int 0, 0, 0, 0, []), (18, .iload 4, 2, .int 0, 0, 0, 0, []), (20, .iconst (-1), 1, .int (-1), 0, 0, 0, []), (21, .if_icmp .eq 39, 3, .int 0, 60, 0, 0, []), (24, .aload_n 2, 1, .int 0, 0, 0, 0, []), (25, .getfield 101, 3, .ref 0, 4, 3, 43, []), (28, .iload 4, 2, .int 0, 0, 0, 0, []), (30, .sipush 9999, 3, .int 9999, 0, 0, 0, []), (33, .aload_n 2, 1, .int 0, 0, 0, 0, []), (34, .getfield 101, 3, .ref 0, 4, 3, 43, []), (37, .iload 4, 2, .int 0, 0, 0, 0, []), (39, .iaload, 1, .int 0, 0, 0, 0, []), (40, .aload_n 1, 1, .int 0, 0, 0, 0, []), (41, .getfield 79, 3, .ref 0, 3, 6, 141, []), (44, .iload_n 3, 1, .int 0, 0, 0, 0, []), (45, .iaload, 1, .int 0, 0, 0, 0, []), (46, .iadd, 1, .int 0, 0, 0, 0, []), (47, .invokestatic 120, 3, .int 0, 1003, 0, 19, []), (50, .iastore, 1, .int 0, 0, 0, 0, []), (51, .aload_n 0, 1, .int 0, 0, 0, 0, []), (52, .iload 4, 2, .int 0, 0, 0, 0, []), (54, .iload_n 3, 1, .int 0, 0, 0, 0, []), (55, .aload_n 1, 1, .int 0, 0, 0, 0, []), (56, .aload_n 2, 1, .int 0, 0, 0, 0, []), (57, .invokevirtual 123, 3, .int 0, 19, 5, 87, [(0, 1), (0, 0)]), (60, .iinc 3 1, 3, .int 1, 0, 0, 0, []), (63, .goto (-61), 3, .int 0, 2, 0, 0, []), (66, .return_, 1, .int 0, 0, 0, 0, [])]
set_option maxRecDepth 100000 in
theorem okX1_reward : codeOk 18 kX1_reward := ⟨_, rfl, by decide +kernel⟩
def kX1_payRivals : List AI := [(0, .iconst 0, 1, .int 0, 0, 0, 0, []), (1, .istore 5, 2, .int 0, 0, 0, 0, []), (3, .iload 5, 2, .int 0, 0, 0, 0, []), (5, .aload_n 3, 1, .int 0, 0, 0, 0, []), (6, .getfield 35, 3, .int 0, 3, 1, 124, []), (9, .if_icmp .ge 47, 3, .int 0, 56, 0, 0, []), (12, .iload 5, 2, .int 0, 0, 0, 0, []), (14, .iload_n 1, 1, .int 0, 0, 0, 0, []), (15, .if_icmp .eq 35, 3, .int 0, 50, 0, 0, []), (18, .aload_n 0, 1, .int 0, 0, 0, 0, []), (19, .getfield 15, 3, .ref 0, 1, 1, 82, []), (22, .iload 5, 2, .int 0, 0, 0, 0, []), (24, .iaload, 1, .int 0, 0, 0, 0, []), (25, .iload_n 2, 1, .int 0, 0, 0, 0, []), (26, .if_icmp .ne 24, 3, .int 0, 50, 0, 0, []), (29, .aload 4, 2, .int 0, 0, 0, 0, []), (31, .iload_n 1, 1, .int 0, 0, 0, 0, []), (32, .iload 5, 2, .int 0, 0, 0, 0, []), (34, .iconst 1, 1, .int 1, 0, 0, 0, []), (35, .invokevirtual 127, 3, .int 0, 42, 4, 88, [(0, 4), (0, 1)]), (38, .ifCond .eq 12, 3, .int 0, 50, 0, 0, []), (41, .aload 4, 2, .int 0, 0, 0, 0, []), (43, .iload_n 1, 1, .int 0, 0, 0, 0, []), (44, .iload 5, 2, .int 0, 0, 0, 0, []), (46, .iconst 1, 1, .int 1, 0, 0, 0, []), (47, .invokevirtual 130, 3, .int 0, 43, 4, 89, [(0, 4), (0, 0)]), (50, .iinc 5 1, 3, .int 1, 0, 0, 0, []), (53, .goto (-50), 3, .int 0, 3, 0, 0, []), (56, .return_, 1, .int 0, 0, 0, 0, [])]
set_option maxRecDepth 100000 in
theorem okX1_payRivals : codeOk 19 kX1_payRivals := ⟨_, rfl, by decide +kernel⟩
def kX2_init : List AI := [(0, .aload_n 0, 1, .int 0, 0, 0, 0, []), (1, .invokespecial 3, 3, .int 0, 1000, 0, 6, [(0, 2)]), (4, .aload_n 0, 1, .int 0, 0, 0, 0, []), (5, .new 9, 3, .int 0, 1, 0, 8, []), (8, .dup, 1, .int 0, 0, 0, 0, []), (9, .invokespecial 11, 3, .long 0, 10, 1, 3, [(0, 1), (0, 0)]), (12, .putfield 12, 3, .ref 0, 2, 0, 85, []), (15, .aload_n 0, 1, .int 0, 0, 0, 0, []), (16, .new 18, 3, .int 0, 4, 0, 9, []), (19, .dup, 1, .int 0, 0, 0, 0, []), (20, .invokespecial 20, 3, .long 0, 38, 1, 5, [(0, 4), (0, 0)]), (23, .putfield 21, 3, .ref 0, 2, 1, 86, []), (26, .aload_n 0, 1, .int 0, 0, 0, 0, []), (27, .aconst_null, 1, .int 0, 0, 0, 0, []), (28, .putfield 25, 3, .ref 0, 2, 2, 88, []), (31, .aload_n 0, 1, .int 0, 0, 0, 0, []), (32, .aconst_null, 1, .int 0, 0, 0, 0, []), (33, .putfield 29, 3, .ref 0, 2, 3, 89, []), (36, .aload_n 0, 1, .int 0, 0, 0, 0, []), (37, .iconst 0, 1, .int 0, 0, 0, 0, []), (38, .putfield 33, 3, .int 0, 2, 4, 90, []), (41, .return_, 1, .int 0, 0, 0, 0, [])]
set_option maxRecDepth 100000 in
theorem okX2_init : codeOk 20 kX2_init := ⟨_, rfl, by decide +kernel⟩
def kX2_begin : List AI := [(0, .aload_n 0, 1, .int 0, 0, 0, 0, []), (1, .aload_n 1, 1, .int 0, 0, 0, 0, []), (2, .putfield 25, 3, .ref 0, 2, 2, 88, []), (5, .aload_n 0, 1, .int 0, 0, 0, 0, []), (6, .aload_n 2, 1, .int 0, 0, 0, 0, []), (7, .putfield 29, 3, .ref 0, 2, 3, 89, []), (10, .aload_n 0, 1, .int 0, 0, 0, 0, []), (11, .getfield 21, 3, .ref 0, 2, 1, 86, []), (14, .aload_n 1, 1, .int 0, 0, 0, 0, []), (15, .getfield 37, 3, .ref 0, 9, 3, 65, []), (18, .invokevirtual 42, 3, .int 0, 40, 2, 100, [(0, 4), (0, 0)]), (21, .return_, 1, .int 0, 0, 0, 0, [])]
set_option maxRecDepth 100000 in
theorem okX2_begin : codeOk 21 kX2_begin := ⟨_, rfl, by decide +kernel⟩
def kX2_go : List AI := [(0, .iconst 0, 1, .int 0, 0, 0, 0, []), (1, .istore_n 2, 1, .int 0, 0, 0, 0, []), (2, .iload_n 2, 1, .int 0, 0, 0, 0, []), (3, .iload_n 1, 1, .int 0, 0, 0, 0, []), (4, .if_icmp .ge 32, 3, .int 0, 36, 0, 0, []), (7, .aload_n 0, 1, .int 0, 0, 0, 0, []), (8, .getfield 12, 3, .ref 0, 2, 0, 85, []), (11, .aload_n 0, 1, .int 0, 0, 0, 0, []), (12, .getfield 25, 3, .ref 0, 2, 2, 88, []), (15, .getfield 46, 3, .ref 0, 9, 0, 56, []), (18, .aload_n 0, 1, .int 0, 0, 0, 0, []), (19, .getfield 21, 3, .ref 0, 2, 1, 86, []), (22, .aload_n 0, 1, .int 0, 0, 0, 0, []), (23, .getfield 29, 3, .ref 0, 2, 3, 89, []), (26, .invokevirtual 50, 3, .int 0, 11, 4, 102, [(0, 1), (0, 1)]), (29, .pop, 1, .int 0, 0, 0, 0, []), (30, .iinc 2 1, 3, .int 1, 0, 0, 0, []), (33, .goto (-31), 3, .int 0, 2, 0, 0, []), (36, .return_, 1, .int 0, 0, 0, 0, [])]
set_option maxRecDepth 100000 in
theorem okX2_go : codeOk 22 kX2_go := ⟨_, rfl, by decide +kernel⟩
def kX2_firstGot : List AI := [(0, .iconst 0, 1, .int 0, 0, 0, 0, []), (1, .istore_n 3, 1, .int 0, 0, 0, 0, []), (2, .iload_n 3, 1, .int 0, 0, 0, 0, []), (3, .bipush 100, 2, .int 100, 0, 0, 0, []), (5, .if_icmp .ge 73, 3, .int 0, 78, 0, 0, []), (8, .aload_n 0, 1, .int 0, 0, 0, 0, []), (9, .getfield 21, 3, .ref 0, 2, 1, 86, []), (12, .getfield 54, 3, .int 0, 4, 0, 28, []), (15, .istore 4, 2, .int 0, 0, 0, 0, []), (17, .aload_n 0, 1, .int 0, 0, 0, 0, []), (18, .iconst 1, 1, .int 1, 0, 0, 0, []), (19, .invokevirtual 57, 3, .int 0, 22, 2, 105, [(0, 2), (0, 0)]), (22, .iconst 0, 1, .int 0, 0, 0, 0, []), (23, .istore 5, 2, .int 0, 0, 0, 0, []), (25, .iload 5, 2, .int 0, 0, 0, 0, []), (27, .aload_n 0, 1, .int 0, 0, 0, 0, []), (28, .getfield 25, 3, .ref 0, 2, 2, 88, []), (31, .getfield 46, 3, .ref 0, 9, 0, 56, []), (34, .getfield 61, 3, .int 0, 3, 2, 131, []), (37, .if_icmp .ge 35, 3, .int 0, 72, 0, 0, []), (40, .aload_n 0, 1, .int 0, 0, 0, 0, []), (41, .getfield 21, 3, .ref 0, 2, 1, 86, []), (44, .getfield 66, 3, .ref 0, 4, 5, 52, []), (47, .iload 5, 2, .int 0, 0, 0, 0, []), (49, .iaload, 1, .int 0, 0, 0, 0, []), (50, .iload_n 1, 1, .int 0, 0, 0, 0, []), (51, .if_icmp .ne 15, 3, .int 0, 66, 0, 0, []), (54, .iload_n 2, 1, .int 0, 0, 0, 0, []), (55, .ifCond .eq 8, 3, .int 0, 63, 0, 0, []), (58, .iload 5, 2, .int 0, 0, 0, 0, []), (60, .goto 5, 3, .int 0, 65, 0, 0, []), (63, .iload 4, 2, .int 0, 0, 0, 0, []), (65, .ireturn, 1, .int 0, 0, 0, 0, []), (66, .iinc 5 1, 3, .int 1, 0, 0, 0, []), (69, .goto (-44), 3, .int 0, 25, 0, 0, []), (72, .iinc 3 1, 3, .int 1, 0, 0, 0, []), (75, .goto (-73), 3, .int 0, 2, 0, 0, []), (78, .bipush (-2), 2, .int (-2), 0, 0, 0, []), (80, .ireturn, 1, .int 0, 0, 0, 0, [])]
set_option maxRecDepth 100000 in
theorem okX2_firstGot : codeOk 23 kX2_firstGot := ⟨_, rfl, by decide +kernel⟩
def kX2_fewestSeconds : List AI := [(0, .iconst 0, 1, .int 0, 0, 0, 0, []), (1, .istore 4, 2, .int 0, 0, 0, 0, []), (3, .iload 4, 2, .int 0, 0, 0, 0, []), (5, .bipush 60, 2, .int 60, 0, 0, 0, []), (7, .if_icmp .gt 51, 3, .int 0, 58, 0, 0, []), (10, .aload_n 0, 1, .int 0, 0, 0, 0, []), (11, .getfield 25, 3, .ref 0, 2, 2, 88, []), (14, .getfield 37, 3, .ref 0, 9, 3, 65, []), (17, .getfield 70, 3, .ref 0, 4, 2, 37, []), (20, .iload_n 1, 1, .int 0, 0, 0, 0, []), (21, .iaload, 1, .int 0, 0, 0, 0, []), (22, .iload 4, 2, .int 0, 0, 0, 0, []), (24, .iadd, 1, .int 0, 0, 0, 0, []), (25, .istore 5, 2, .int 0, 0, 0, 0, []), (27, .iload 5, 2, .int 0, 0, 0, 0, []), (29, .bipush 99, 2, .int 99, 0, 0, 0, []), (31, .if_icmp .le 6, 3, .int 0, 37, 0, 0, []), (34, .bipush (-2), 2, .int (-2), 0, 0, 0, []), (36, .ireturn, 1, .int 0, 0, 0, 0, []), (37, .aload_n 0, 1, .int 0, 0, 0, 0, []), (38, .iload_n 1, 1, .int 0, 0, 0, 0, []), (39, .iload 5, 2, .int 0, 0, 0, 0, []), (41, .iload_n 2, 1, .int 0, 0, 0, 0, []), (42, .iload_n 3, 1, .int 0, 0, 0, 0, []), (43, .invokevirtual 73, 3, .int 0, 25, 5, 110, [(0, 2), (0, 1)]), (46, .ifCond .eq 6, 3, .int 0, 52, 0, 0, []), (49, .iload 4, 2, .int 0, 0, 0, 0, []), (51, .ireturn, 1, .int 0, 0, 0, 0, []), (52, .iinc 4 1, 3, .int 1, 0, 0, 0, []), (55, .goto (-52), 3, .int 0, 3, 0, 0, []), (58, .bipush (-2), 2, .int (-2), 0, 0, 0, []), (60, .ireturn, 1, .int 0, 0, 0, 0, [])]
set_option maxRecDepth 100000 in
theorem okX2_fewestSeconds : codeOk 24 kX2_fewestSeconds := ⟨_, rfl, by decide +kernel⟩
def kX2_reaches : List AI := [(0, .aload_n 0, 1, .int 0, 0, 0, 0, []), (1, .getfield 21, 3, .ref 0, 2, 1, 86, []), (4, .aload_n 0, 1, .int 0, 0, 0, 0, []), (5, .getfield 25, 3, .ref 0, 2, 2, 88, []), (8, .getfield 37, 3, .ref 0, 9, 3, 65, []), (11, .invokevirtual 42, 3, .int 0, 40, 2, 100, [(0, 4), (0, 0)]), (14, .aload_n 0, 1, .int 0, 0, 0, 0, []), (15, .getfield 21, 3, .ref 0, 2, 1, 86, []), (18, .getfield 70, 3, .ref 0, 4, 2, 37, []), (21, .iload_n 1, 1, .int 0, 0, 0, 0, []), (22, .iload_n 2, 1, .int 0, 0, 0, 0, []), (23, .iastore, 1, .int 0, 0, 0, 0, []), (24, .iload_n 3, 1, .int 0, 0, 0, 0, []), (25, .istore 5, 2, .int 0, 0, 0, 0, []), (27, .iload 5, 2, .int 0, 0, 0, 0, []), (29, .ifCond .le 72, 3, .int 0, 101, 0, 0, []), (32, .iload 4, 2, .int 0, 0, 0, 0, []), (34, .aload_n 0, 1, .int 0, 0, 0, 0, []), (35, .getfield 21, 3, .ref 0, 2, 1, 86, []), (38, .getfield 77, 3, .ref 0, 4, 3, 44, []), (41, .iload_n 1, 1, .int 0, 0, 0, 0, []), (42, .iaload, 1, .int 0, 0, 0, 0, []), (43, .isub, 1, .int 0, 0, 0, 0, []), (44, .istore 6, 2, .int 0, 0, 0, 0, []), (46, .iload 6, 2, .int 0, 0, 0, 0, []), (48, .ifCond .le 13, 3, .int 0, 61, 0, 0, []), (51, .iload 6, 2, .int 0, 0, 0, 0, []), (53, .iload 5, 2, .int 0, 0, 0, 0, []), (55, .bipush 50, 2, .int 50, 0, 0, 0, []), (57, .imul, 1, .int 0, 0, 0, 0, []), (58, .if_icmp .le 14, 3, .int 0, 72, 0, 0, []), (61, .iload 6, 2, .int 0, 0, 0, 0, []), (63, .ifCond .gt 7, 3, .int 0, 70, 0, 0, []), (66, .iconst 1, 1, .int 1, 0, 0, 0, []), (67, .goto 4, 3, .int 0, 71, 0, 0, []), (70, .iconst 0, 1, .int 0, 0, 0, 0, []), (71, .ireturn, 1, .int 0, 0, 0, 0, []), (72, .aload_n 0, 1, .int 0, 0, 0, 0, []), (73, .getfield 12, 3, .ref 0, 2, 0, 85, []), (76, .aload_n 0, 1, .int 0, 0, 0, 0, []), (77, .getfield 25, 3, .ref 0, 2, 2, 88, []), (80, .getfield 46, 3, .ref 0, 9, 0, 56, []), (83, .aload_n 0, 1, .int 0, 0, 0, 0, []), (84, .getfield 21, 3, .ref 0, 2, 1, 86, []), (87, .aload_n 0, 1, .int 0, 0, 0, 0, []), (88, .getfield 29, 3, .ref 0, 2, 3, 89, []), (91, .invokevirtual 50, 3, .int 0, 11, 4, 102, [(0, 1), (0, 1)]), (94, .pop, 1, .int 0, 0, 0, 0, []), (95, .iinc 5 (-1), 3, .int (-1), 0, 0, 0, []), (98, .goto (-71), 3, .int 0, 27, 0, 0, []), (101, .aload_n 0, 1, .int 0, 0, 0, 0, []), (102, .getfield 21, 3, .ref 0, 2, 1, 86, []), (105, .getfield 77, 3, .ref 0, 4, 3, 44, []), (108, .iload_n 1, 1, .int 0, 0, 0, 0, []), (109, .iaload, 1, .int 0, 0, 0, 0, []), (110, .iload 4, 2, .int 0, 0, 0, 0, []), (112, .if_icmp .lt 7, 3, .int 0, 119, 0, 0, []), (115, .iconst 1, 1, .int 1, 0, 0, 0, []), (116, .goto 4, 3, .int 0, 120, 0, 0, []), (119, .iconst 0, 1, .int 0, 0, 0, 0, []), (120, .ireturn, 1, .int 0, 0, 0, 0, [])]
set_option maxRecDepth 100000 in
theorem okX2_reaches : codeOk 25 kX2_reaches := ⟨_, rfl, by decide +kernel⟩
def kX2_bestLender : List AI := [(0, .iconst (-1), 1, .int (-1), 0, 0, 0, []), (1, .istore 4, 2, .int 0, 0, 0, 0, []), (3, .aload_n 0, 1, .int 0, 0, 0, 0, []), (4, .iload_n 2, 1, .int 0, 0, 0, 0, []), (5, .invokevirtual 57, 3, .int 0, 22, 2, 105, [(0, 2), (0, 0)]), (8, .aload_n 0, 1, .int 0, 0, 0, 0, []), (9, .getfield 21, 3, .ref 0, 2, 1, 86, []), (12, .getfield 77, 3, .ref 0, 4, 3, 44, []), (15, .iload_n 1, 1, .int 0, 0, 0, 0, []), (16, .iaload, 1, .int 0, 0, 0, 0, []), (17, .istore 5, 2, .int 0, 0, 0, 0, []), (19, .iconst 0, 1, .int 0, 0, 0, 0, []), (20, .istore 6, 2, .int 0, 0, 0, 0, []), (22, .iload 6, 2, .int 0, 0, 0, 0, []), (24, .aload_n 0, 1, .int 0, 0, 0, 0, []), (25, .getfield 25, 3, .ref 0, 2, 2, 88, []), (28, .getfield 46, 3, .ref 0, 9, 0, 56, []), (31, .getfield 80, 3, .int 0, 3, 1, 127, []), (34, .if_icmp .ge 91, 3, .int 0, 125, 0, 0, []), (37, .iload 6, 2, .int 0, 0, 0, 0, []), (39, .iload_n 1, 1, .int 0, 0, 0, 0, []), (40, .if_icmp .eq 79, 3, .int 0, 119, 0, 0, []), (43, .aload_n 0, 1, .int 0, 0, 0, 0, []), (44, .getfield 25, 3, .ref 0, 2, 2, 88, []), (47, .getfield 37, 3, .ref 0, 9, 3, 65, []), (50, .iload 6, 2, .int 0, 0, 0, 0, []), (52, .iload_n 1, 1, .int 0, 0, 0, 0, []), (53, .iconst 3, 1, .int 3, 0, 0, 0, []), (54, .invokevirtual 83, 3, .int 0, 42, 4, 113, [(0, 4), (0, 1)]), (57, .ifCond .eq 62, 3, .int 0, 119, 0, 0, []), (60, .aload_n 0, 1, .int 0, 0, 0, 0, []), (61, .getfield 21, 3, .ref 0, 2, 1, 86, []), (64, .aload_n 0, 1, .int 0, 0, 0, 0, []), (65, .getfield 25, 3, .ref 0, 2, 2, 88, []), (68, .getfield 37, 3, .ref 0, 9, 3, 65, []), (71, .invokevirtual 42, 3, .int 0, 40, 2, 100, [(0, 4), (0, 0)]), (74, .aload_n 0, 1, .int 0, 0, 0, 0, []), (75, .getfield 21, 3, .ref 0, 2, 1, 86, []), (78, .iload 6, 2, .int 0, 0, 0, 0, []), (80, .iload_n 1, 1, .int 0, 0, 0, 0, []), (81, .iconst 3, 1, .int 3, 0, 0, 0, []), (82, .invokevirtual 87, 3, .int 0, 43, 4, 114, [(0, 4), (0, 0)]), (85, .aload_n 0, 1, .int 0, 0, 0, 0, []), (86, .iload_n 2, 1, .int 0, 0, 0, 0, []), (87, .invokevirtual 57, 3, .int 0, 22, 2, 105, [(0, 2), (0, 0)]), (90, .aload_n 0, 1, .int 0, 0, 0, 0, []), (91, .getfield 21, 3, .ref 0, 2, 1, 86, []), (94, .getfield 77, 3, .ref 0, 4, 3, 44, []), (97, .iload_n 1, 1, .int 0, 0, 0, 0, []), (98, .iaload, 1, .int 0, 0, 0, 0, []), (99, .iload 5, 2, .int 0, 0, 0, 0, []), (101, .if_icmp .le 18, 3, .int 0, 119, 0, 0, []), (104, .aload_n 0, 1, .int 0, 0, 0, 0, []), (105, .getfield 21, 3, .ref 0, 2, 1, 86, []), (108, .getfield 77, 3, .ref 0, 4, 3, 44, []), (111, .iload_n 1, 1, .int 0, 0, 0, 0, []), (112, .iaload, 1, .int 0, 0, 0, 0, []), (113, .istore 5, 2, .int 0, 0, 0, 0, []), (115, .iload 6, 2, .int 0, 0, 0, 0, []), (117, .istore 4, 2, .int 0, 0, 0, 0, []), (119, .iinc 6 1, 3, .int 1, 0, 0, 0, []), (122, .goto (-100), 3, .int 0, 22, 0, 0, []), (125, .iload_n 3, 1, .int 0, 0, 0, 0, []), (126, .ifCond .eq 8, 3, .int 0, 134, 0, 0, []), (129, .iload 5, 2, .int 0, 0, 0, 0, []), (131, .goto 5, 3, .int 0, 136, 0, 0, []), (134, .iload 4, 2, .int 0, 0, 0, 0, []), (136, .ireturn, 1, .int 0, 0, 0, 0, [])]
set_option maxRecDepth 100000 in
theorem okX2_bestLender : codeOk 26 kX2_bestLender := ⟨_, rfl, by decide +kernel⟩
def kX2_pursesThatGet : List AI := [(0, .iconst 0, 1, .int 0, 0, 0, 0, []), (1, .istore 5, 2, .int 0, 0, 0, 0, []), (3, .bipush (-20), 2, .int (-20), 0, 0, 0, []), (5, .istore 6, 2, .int 0, 0, 0, 0, []), (7, .iload 6, 2, .int 0, 0, 0, 0, []), (9, .bipush 40, 2, .int 40, 0, 0, 0, []), (11, .if_icmp .gt 63, 3, .int 0, 74, 0, 0, []), (14, .aload_n 0, 1, .int 0, 0, 0, 0, []), (15, .getfield 21, 3, .ref 0, 2, 1, 86, []), (18, .aload_n 0, 1, .int 0, 0, 0, 0, []), (19, .getfield 25, 3, .ref 0, 2, 2, 88, []), (22, .getfield 37, 3, .ref 0, 9, 3, 65, []), (25, .invokevirtual 42, 3, .int 0, 40, 2, 100, [(0, 4), (0, 0)]), (28, .aload_n 0, 1, .int 0, 0, 0, 0, []), (29, .getfield 21, 3, .ref 0, 2, 1, 86, []), (32, .getfield 70, 3, .ref 0, 4, 2, 37, []), (35, .iload_n 1, 1, .int 0, 0, 0, 0, []), (36, .iload 6, 2, .int 0, 0, 0, 0, []), (38, .iastore, 1, .int 0, 0, 0, 0, []), (39, .aload_n 0, 1, .int 0, 0, 0, 0, []), (40, .iload_n 2, 1, .int 0, 0, 0, 0, []), (41, .invokevirtual 57, 3, .int 0, 22, 2, 105, [(0, 2), (0, 0)]), (44, .aload_n 0, 1, .int 0, 0, 0, 0, []), (45, .getfield 21, 3, .ref 0, 2, 1, 86, []), (48, .getfield 66, 3, .ref 0, 4, 5, 52, []), (51, .iload_n 3, 1, .int 0, 0, 0, 0, []), (52, .iaload, 1, .int 0, 0, 0, 0, []), (53, .iload_n 1, 1, .int 0, 0, 0, 0, []), (54, .if_icmp .ne 14, 3, .int 0, 68, 0, 0, []), (57, .iload 4, 2, .int 0, 0, 0, 0, []), (59, .ifCond .eq 6, 3, .int 0, 65, 0, 0, []), (62, .iload 6, 2, .int 0, 0, 0, 0, []), (64, .ireturn, 1, .int 0, 0, 0, 0, []), (65, .iinc 5 1, 3, .int 1, 0, 0, 0, []), (68, .iinc 6 1, 3, .int 1, 0, 0, 0, []), (71, .goto (-64), 3, .int 0, 7, 0, 0, []), (74, .iload 4, 2, .int 0, 0, 0, 0, []), (76, .ifCond .eq 9, 3, .int 0, 85, 0, 0, []), (79, .sipush (-1000), 3, .int (-1000), 0, 0, 0, []), (82, .goto 5, 3, .int 0, 87, 0, 0, []), (85, .iload 5, 2, .int 0, 0, 0, 0, []), (87, .ireturn, 1, .int 0, 0, 0, 0, [])]
set_option maxRecDepth 100000 in
theorem okX2_pursesThatGet : codeOk 27 kX2_pursesThatGet := ⟨_, rfl, by decide +kernel⟩
def kX2_drawFalls : List AI := [(0, .aload_n 0, 1, .int 0, 0, 0, 0, []), (1, .aload_n 0, 1, .int 0, 0, 0, 0, []), (2, .getfield 25, 3, .ref 0, 2, 2, 88, []), (5, .getfield 91, 3, .int 0, 9, 2, 62, []), (8, .putfield 33, 3, .int 0, 2, 4, 90, []), (11, .iconst 0, 1, .int 0, 0, 0, 0, []), (12, .istore 5, 2, .int 0, 0, 0, 0, []), (14, .iconst 0, 1, .int 0, 0, 0, 0, []), (15, .istore 6, 2, .int 0, 0, 0, 0, []), (17, .iconst 0, 1, .int 0, 0, 0, 0, []), (18, .istore 7, 2, .int 0, 0, 0, 0, []), (20, .iload 7, 2, .int 0, 0, 0, 0, []), (22, .iload_n 1, 1, .int 0, 0, 0, 0, []), (23, .if_icmp .ge 66, 3, .int 0, 89, 0, 0, []), (26, .aload_n 0, 1, .int 0, 0, 0, 0, []), (27, .getfield 21, 3, .ref 0, 2, 1, 86, []), (30, .aload_n 0, 1, .int 0, 0, 0, 0, []), (31, .getfield 25, 3, .ref 0, 2, 2, 88, []), (34, .getfield 37, 3, .ref 0, 9, 3, 65, []), (37, .invokevirtual 42, 3, .int 0, 40, 2, 100, [(0, 4), (0, 0)]), (40, .iconst 0, 1, .int 0, 0, 0, 0, []), (41, .istore 8, 2, .int 0, 0, 0, 0, []), (43, .iload 8, 2, .int 0, 0, 0, 0, []), (45, .iload_n 2, 1, .int 0, 0, 0, 0, []), (46, .if_icmp .ge 19, 3, .int 0, 65, 0, 0, []), (49, .aload_n 0, 1, .int 0, 0, 0, 0, []), (50, .iload_n 3, 1, .int 0, 0, 0, 0, []), (51, .invokevirtual 92, 3, .int 0, 29, 2, 155, [(0, 2), (0, 0)]), (54, .aload_n 0, 1, .int 0, 0, 0, 0, []), (55, .iconst 1, 1, .int 1, 0, 0, 0, []), (56, .invokevirtual 57, 3, .int 0, 22, 2, 105, [(0, 2), (0, 0)]), (59, .iinc 8 1, 3, .int 1, 0, 0, 0, []), (62, .goto (-19), 3, .int 0, 43, 0, 0, []), (65, .iload 5, 2, .int 0, 0, 0, 0, []), (67, .aload_n 0, 1, .int 0, 0, 0, 0, []), (68, .invokevirtual 95, 3, .int 0, 31, 1, 157, [(0, 2), (0, 1)]), (71, .iadd, 1, .int 0, 0, 0, 0, []), (72, .istore 5, 2, .int 0, 0, 0, 0, []), (74, .iload 6, 2, .int 0, 0, 0, 0, []), (76, .aload_n 0, 1, .int 0, 0, 0, 0, []), (77, .invokevirtual 99, 3, .int 0, 32, 1, 158, [(0, 2), (0, 1)]), (80, .iadd, 1, .int 0, 0, 0, 0, []), (81, .istore 6, 2, .int 0, 0, 0, 0, []), (83, .iinc 7 1, 3, .int 1, 0, 0, 0, []), (86, .goto (-66), 3, .int 0, 20, 0, 0, []), (89, .iload 4, 2, .int 0, 0, 0, 0, []), (91, .ifCond .eq 8, 3, .int 0, 99, 0, 0, []), (94, .iload 6, 2, .int 0, 0, 0, 0, []), (96, .goto 5, 3, .int 0, 101, 0, 0, []), (99, .iload 5, 2, .int 0, 0, 0, 0, []), (101, .ireturn, 1, .int 0, 0, 0, 0, [])]
set_option maxRecDepth 100000 in
theorem okX2_drawFalls : codeOk 28 kX2_drawFalls := ⟨_, rfl, by decide +kernel⟩
def kX2_drawFall : List AI := [(0, .aload_n 0, 1, .int 0, 0, 0, 0, []), (1, .getfield 25, 3, .ref 0, 2, 2, 88, []), (4, .getfield 46, 3, .ref 0, 9, 0, 56, []), (7, .getfield 80, 3, .int 0, 3, 1, 127, []), (10, .istore_n 2, 1, .int 0, 0, 0, 0, []), (11, .aload_n 0, 1, .int 0, 0, 0, 0, []), (12, .invokevirtual 102, 3, .int 0, 30, 1, 156, [(0, 2), (0, 1)]), (15, .bipush 100, 2, .int 100, 0, 0, 0, []), (17, .irem, 1, .int 0, 0, 0, 0, []), (18, .iload_n 1, 1, .int 0, 0, 0, 0, []), (19, .if_icmp .ge 22, 3, .int 0, 41, 0, 0, []), (22, .iload_n 2, 1, .int 0, 0, 0, 0, []), (23, .ifCond .le 18, 3, .int 0, 41, 0, 0, []), (26, .aload_n 0, 1, .int 0, 0, 0, 0, []), (27, .getfield 21, 3, .ref 0, 2, 1, 86, []), (30, .getfield 70, 3, .ref 0, 4, 2, 37, []), (33, .aload_n 0, 1, .int 0, 0, 0, 0, []), (34, .invokevirtual 102, 3, .int 0, 30, 1, 156, [(0, 2), (0, 1)]), (37, .iload_n 2, 1, .int 0, 0, 0, 0, []), (38, .irem, 1, .int 0, 0, 0, 0, []), (39, .iconst 0, 1, .int 0, 0, 0, 0, []), (40, .iastore, 1, .int 0, 0, 0, 0, []), (41, .return_, 1, .int 0, 0, 0, 0, [])]
set_option maxRecDepth 100000 in
theorem okX2_drawFall : codeOk 29 kX2_drawFall := ⟨_, rfl, by decide +kernel⟩
def kX2_draw : List AI := [(0, .aload_n 0, 1, .int 0, 0, 0, 0, []), (1, .aload_n 0, 1, .int 0, 0, 0, 0, []), (2, .getfield 33, 3, .int 0, 2, 4, 90, []), (5, .i2l, 1, .int 0, 0, 0, 0, []), (6, .ldc2_w 105, 3, .long 1103515245, 0, 0, 0, []), (9, .lmul, 1, .int 0, 0, 0, 0, []), (10, .ldc2_w 107, 3, .long 12345, 0, 0, 1, []), (13, .ladd, 1, .int 0, 0, 0, 0, []), (14, .ldc2_w 109, 3, .long 2147483647, 0, 0, 2, []), (17, .land, 1, .int 0, 0, 0, 0, []), (18, .l2i, 1, .int 0, 0, 0, 0, []), (19, .putfield 33, 3, .int 0, 2, 4, 90, []), (22, .aload_n 0, 1, .int 0, 0, 0, 0, []), (23, .getfield 33, 3, .int 0, 2, 4, 90, []), (26, .ldc 111, 2, .int 65536, 0, 0, 4, []), (28, .idiv, 1, .int 0, 0, 0, 0, []), (29, .ireturn, 1, .int 0, 0, 0, 0, [])]
set_option maxRecDepth 100000 in
theorem okX2_draw : codeOk 30 kX2_draw := ⟨_, rfl, by decide +kernel⟩
end
section
def kX2_gain : List AI := [(0, .iconst 0, 1, .int 0, 0, 0, 0, []), (1, .istore_n 1, 1, .int 0, 0, 0, 0, []), (2, .iconst 0, 1, .int 0, 0, 0, 0, []), (3, .istore_n 2, 1, .int 0, 0, 0, 0, []), (4, .iload_n 2, 1, .int 0, 0, 0, 0, []), (5, .aload_n 0, 1, .int 0, 0, 0, 0, []), (6, .getfield 25, 3, .ref 0, 2, 2, 88, []), (9, .getfield 46, 3, .ref 0, 9, 0, 56, []), (12, .getfield 80, 3, .int 0, 3, 1, 127, []), (15, .if_icmp .ge 34, 3, .int 0, 49, 0, 0, []), (18, .iload_n 1, 1, .int 0, 0, 0, 0, []), (19, .aload_n 0, 1, .int 0, 0, 0, 0, []), (20, .getfield 21, 3, .ref 0, 2, 1, 86, []), (23, .getfield 77, 3, .ref 0, 4, 3, 44, []), (26, .iload_n 2, 1, .int 0, 0, 0, 0, []), (27, .iaload, 1, .int 0, 0, 0, 0, []), (28, .aload_n 0, 1, .int 0, 0, 0, 0, []), (29, .getfield 25, 3, .ref 0, 2, 2, 88, []), (32, .getfield 37, 3, .ref 0, 9, 3, 65, []), (35, .getfield 77, 3, .ref 0, 4, 3, 44, []), (38, .iload_n 2, 1, .int 0, 0, 0, 0, []), (39, .iaload, 1, .int 0, 0, 0, 0, []), (40, .isub, 1, .int 0, 0, 0, 0, []), (41, .iadd, 1, .int 0, 0, 0, 0, []), (42, .istore_n 1, 1, .int 0, 0, 0, 0, []), (43, .iinc 2 1, 3, .int 1, 0, 0, 0, []), (46, .goto (-42), 3, .int 0, 4, 0, 0, []), (49, .iload_n 1, 1, .int 0, 0, 0, 0, []), (50, .ireturn, 1, .int 0, 0, 0, 0, [])]
set_option maxRecDepth 100000 in
theorem okX2_gain : codeOk 31 kX2_gain := ⟨_, rfl, by decide +kernel⟩
def kX2_greatestPurse : List AI := [(0, .iconst 0, 1, .int 0, 0, 0, 0, []), (1, .istore_n 1, 1, .int 0, 0, 0, 0, []), (2, .iconst 0, 1, .int 0, 0, 0, 0, []), (3, .istore_n 2, 1, .int 0, 0, 0, 0, []), (4, .iload_n 2, 1, .int 0, 0, 0, 0, []), (5, .aload_n 0, 1, .int 0, 0, 0, 0, []), (6, .getfield 25, 3, .ref 0, 2, 2, 88, []), (9, .getfield 46, 3, .ref 0, 9, 0, 56, []), (12, .getfield 80, 3, .int 0, 3, 1, 127, []), (15, .if_icmp .ge 23, 3, .int 0, 38, 0, 0, []), (18, .iload_n 1, 1, .int 0, 0, 0, 0, []), (19, .aload_n 0, 1, .int 0, 0, 0, 0, []), (20, .getfield 21, 3, .ref 0, 2, 1, 86, []), (23, .getfield 70, 3, .ref 0, 4, 2, 37, []), (26, .iload_n 2, 1, .int 0, 0, 0, 0, []), (27, .iaload, 1, .int 0, 0, 0, 0, []), (28, .invokestatic 112, 3, .int 0, 1002, 0, 24, []), (31, .istore_n 1, 1, .int 0, 0, 0, 0, []), (32, .iinc 2 1, 3, .int 1, 0, 0, 0, []), (35, .goto (-31), 3, .int 0, 4, 0, 0, []), (38, .iload_n 1, 1, .int 0, 0, 0, 0, []), (39, .ireturn, 1, .int 0, 0, 0, 0, [])]
set_option maxRecDepth 100000 in
theorem okX2_greatestPurse : codeOk 32 kX2_greatestPurse := ⟨_, rfl, by decide +kernel⟩
def kX3_init : List AI := [(0, .aload_n 0, 1, .int 0, 0, 0, 0, []), (1, .invokespecial 3, 3, .int 0, 1000, 0, 10, [(0, 3)]), (4, .aload_n 0, 1, .int 0, 0, 0, 0, []), (5, .iconst 1, 1, .int 1, 0, 0, 0, []), (6, .putfield 9, 3, .int 0, 3, 0, 121, []), (9, .aload_n 0, 1, .int 0, 0, 0, 0, []), (10, .iconst 0, 1, .int 0, 0, 0, 0, []), (11, .putfield 15, 3, .int 0, 3, 1, 123, []), (14, .aload_n 0, 1, .int 0, 0, 0, 0, []), (15, .iconst 0, 1, .int 0, 0, 0, 0, []), (16, .putfield 18, 3, .int 0, 3, 2, 128, []), (19, .aload_n 0, 1, .int 0, 0, 0, 0, []), (20, .iconst 5, 1, .int 5, 0, 0, 0, []), (21, .newarray .int, 2, .int 0, 0, 0, 0, []), (23, .putfield 21, 3, .ref 0, 3, 3, 134, []), (26, .aload_n 0, 1, .int 0, 0, 0, 0, []), (27, .iconst 5, 1, .int 5, 0, 0, 0, []), (28, .newarray .int, 2, .int 0, 0, 0, 0, []), (30, .putfield 25, 3, .ref 0, 3, 4, 136, []), (33, .aload_n 0, 1, .int 0, 0, 0, 0, []), (34, .bipush 6, 2, .int 6, 0, 0, 0, []), (36, .newarray .int, 2, .int 0, 0, 0, 0, []), (38, .putfield 28, 3, .ref 0, 3, 5, 138, []), (41, .aload_n 0, 1, .int 0, 0, 0, 0, []), (42, .bipush 6, 2, .int 6, 0, 0, 0, []), (44, .newarray .int, 2, .int 0, 0, 0, 0, []), (46, .putfield 31, 3, .ref 0, 3, 6, 140, []), (49, .aload_n 0, 1, .int 0, 0, 0, 0, []), (50, .bipush 6, 2, .int 6, 0, 0, 0, []), (52, .newarray .int, 2, .int 0, 0, 0, 0, []), (54, .putfield 34, 3, .ref 0, 3, 7, 143, []), (57, .return_, 1, .int 0, 0, 0, 0, [])]
set_option maxRecDepth 100000 in
theorem okX3_init : codeOk 33 kX3_init := ⟨_, rfl, by decide +kernel⟩
def kX3_read : List AI := [(0, .aload_n 1, 1, .int 0, 0, 0, 0, []), (1, .invokevirtual 37, 3, .int 0, 75, 1, 11, [(0, 8), (0, 0)]), (4, .iconst 1, 1, .int 1, 0, 0, 0, []), (5, .istore_n 2, 1, .int 0, 0, 0, 0, []), (6, .iconst 0, 1, .int 0, 0, 0, 0, []), (7, .istore_n 3, 1, .int 0, 0, 0, 0, []), (8, .iload_n 2, 1, .int 0, 0, 0, 0, []), (9, .ifCond .eq 66, 3, .int 0, 75, 0, 0, []), (12, .iload_n 3, 1, .int 0, 0, 0, 0, []), (13, .bipush 40, 2, .int 40, 0, 0, 0, []), (15, .if_icmp .gt 60, 3, .int 0, 75, 0, 0, []), (18, .aload_n 0, 1, .int 0, 0, 0, 0, []), (19, .aload_n 1, 1, .int 0, 0, 0, 0, []), (20, .iload_n 3, 1, .int 0, 0, 0, 0, []), (21, .invokevirtual 42, 3, .int 0, 35, 3, 24, [(0, 3), (0, 0)]), (24, .aload_n 1, 1, .int 0, 0, 0, 0, []), (25, .getfield 46, 3, .int 0, 8, 2, 4, []), (28, .ifCond .ne 16, 3, .int 0, 44, 0, 0, []), (31, .aload_n 1, 1, .int 0, 0, 0, 0, []), (32, .bipush 59, 2, .int 59, 0, 0, 0, []), (34, .invokevirtual 49, 3, .int 0, 78, 2, 30, [(0, 8), (0, 1)]), (37, .ifCond .eq 7, 3, .int 0, 44, 0, 0, []), (40, .iconst 1, 1, .int 1, 0, 0, 0, []), (41, .goto 4, 3, .int 0, 45, 0, 0, []), (44, .iconst 0, 1, .int 0, 0, 0, 0, []), (45, .istore_n 2, 1, .int 0, 0, 0, 0, []), (46, .iload_n 2, 1, .int 0, 0, 0, 0, []), (47, .ifCond .eq 10, 3, .int 0, 57, 0, 0, []), (50, .aload_n 1, 1, .int 0, 0, 0, 0, []), (51, .invokevirtual 53, 3, .int 0, 79, 1, 26, [(0, 8), (0, 0)]), (54, .goto 15, 3, .int 0, 69, 0, 0, []), (57, .aload_n 1, 1, .int 0, 0, 0, 0, []), (58, .getfield 56, 3, .int 0, 8, 4, 9, []), (61, .ifCond .eq 8, 3, .int 0, 69, 0, 0, []), (64, .aload_n 1, 1, .int 0, 0, 0, 0, []), (65, .iconst 0, 1, .int 0, 0, 0, 0, []), (66, .invokevirtual 59, 3, .int 0, 76, 2, 29, [(0, 8), (0, 0)]), (69, .iinc 3 1, 3, .int 1, 0, 0, 0, []), (72, .goto (-64), 3, .int 0, 8, 0, 0, []), (75, .aload_n 1, 1, .int 0, 0, 0, 0, []), (76, .getfield 46, 3, .int 0, 8, 2, 4, []), (79, .ifCond .ne 7, 3, .int 0, 86, 0, 0, []), (82, .iconst 1, 1, .int 1, 0, 0, 0, []), (83, .goto 4, 3, .int 0, 87, 0, 0, []), (86, .iconst 0, 1, .int 0, 0, 0, 0, []), (87, .ireturn, 1, .int 0, 0, 0, 0, [])]
set_option maxRecDepth 100000 in
theorem okX3_read : codeOk 34 kX3_read := ⟨_, rfl, by decide +kernel⟩
def kX3_readClause : List AI := [(0, .iload_n 2, 1, .int 0, 0, 0, 0, []), (1, .ifCond .le 13, 3, .int 0, 14, 0, 0, []), (4, .iload_n 2, 1, .int 0, 0, 0, 0, []), (5, .bipush 40, 2, .int 40, 0, 0, 0, []), (7, .if_icmp .ge 7, 3, .int 0, 14, 0, 0, []), (10, .iconst 1, 1, .int 1, 0, 0, 0, []), (11, .goto 4, 3, .int 0, 15, 0, 0, []), (14, .iconst 0, 1, .int 0, 0, 0, 0, []), (15, .istore_n 3, 1, .int 0, 0, 0, 0, []), (16, .aload_n 1, 1, .int 0, 0, 0, 0, []), (17, .bipush 12, 2, .int 12, 0, 0, 0, []), (19, .invokevirtual 63, 3, .int 0, 77, 2, 25, [(0, 8), (0, 1)]), (22, .ifCond .eq 25, 3, .int 0, 47, 0, 0, []), (25, .iload_n 2, 1, .int 0, 0, 0, 0, []), (26, .ifCond .ne 21, 3, .int 0, 47, 0, 0, []), (29, .aload_n 1, 1, .int 0, 0, 0, 0, []), (30, .invokevirtual 53, 3, .int 0, 79, 1, 26, [(0, 8), (0, 0)]), (33, .aload_n 0, 1, .int 0, 0, 0, 0, []), (34, .aload_n 1, 1, .int 0, 0, 0, 0, []), (35, .iconst 1, 1, .int 1, 0, 0, 0, []), (36, .bipush 60, 2, .int 60, 0, 0, 0, []), (38, .invokevirtual 67, 3, .int 0, 83, 3, 27, [(0, 8), (0, 1)]), (41, .putfield 9, 3, .int 0, 3, 0, 121, []), (44, .goto 204, 3, .int 0, 248, 0, 0, []), (47, .aload_n 1, 1, .int 0, 0, 0, 0, []), (48, .iconst 0, 1, .int 0, 0, 0, 0, []), (49, .invokevirtual 63, 3, .int 0, 77, 2, 25, [(0, 8), (0, 1)]), (52, .ifCond .eq 64, 3, .int 0, 116, 0, 0, []), (55, .iload_n 3, 1, .int 0, 0, 0, 0, []), (56, .ifCond .eq 60, 3, .int 0, 116, 0, 0, []), (59, .aload_n 0, 1, .int 0, 0, 0, 0, []), (60, .getfield 15, 3, .int 0, 3, 1, 123, []), (63, .iconst 5, 1, .int 5, 0, 0, 0, []), (64, .if_icmp .ge 52, 3, .int 0, 116, 0, 0, []), (67, .aload_n 1, 1, .int 0, 0, 0, 0, []), (68, .invokevirtual 53, 3, .int 0, 79, 1, 26, [(0, 8), (0, 0)]), (71, .aload_n 0, 1, .int 0, 0, 0, 0, []), (72, .getfield 21, 3, .ref 0, 3, 3, 134, []), (75, .aload_n 0, 1, .int 0, 0, 0, 0, []), (76, .getfield 15, 3, .int 0, 3, 1, 123, []), (79, .aload_n 1, 1, .int 0, 0, 0, 0, []), (80, .iconst 1, 1, .int 1, 0, 0, 0, []), (81, .bipush 20, 2, .int 20, 0, 0, 0, []), (83, .invokevirtual 67, 3, .int 0, 83, 3, 27, [(0, 8), (0, 1)]), (86, .iastore, 1, .int 0, 0, 0, 0, []), (87, .aload_n 0, 1, .int 0, 0, 0, 0, []), (88, .getfield 25, 3, .ref 0, 3, 4, 136, []), (91, .aload_n 0, 1, .int 0, 0, 0, 0, []), (92, .getfield 15, 3, .int 0, 3, 1, 123, []), (95, .aload_n 1, 1, .int 0, 0, 0, 0, []), (96, .iconst 0, 1, .int 0, 0, 0, 0, []), (97, .bipush 40, 2, .int 40, 0, 0, 0, []), (99, .invokevirtual 67, 3, .int 0, 83, 3, 27, [(0, 8), (0, 1)]), (102, .iastore, 1, .int 0, 0, 0, 0, []), (103, .aload_n 0, 1, .int 0, 0, 0, 0, []), (104, .dup, 1, .int 0, 0, 0, 0, []), (105, .getfield 15, 3, .int 0, 3, 1, 123, []), (108, .iconst 1, 1, .int 1, 0, 0, 0, []), (109, .iadd, 1, .int 0, 0, 0, 0, []), (110, .putfield 15, 3, .int 0, 3, 1, 123, []), (113, .goto 135, 3, .int 0, 248, 0, 0, []), (116, .aload_n 1, 1, .int 0, 0, 0, 0, []), (117, .iconst 1, 1, .int 1, 0, 0, 0, []), (118, .invokevirtual 63, 3, .int 0, 77, 2, 25, [(0, 8), (0, 1)]), (121, .ifCond .eq 81, 3, .int 0, 202, 0, 0, []), (124, .iload_n 3, 1, .int 0, 0, 0, 0, []), (125, .ifCond .eq 77, 3, .int 0, 202, 0, 0, []), (128, .aload_n 0, 1, .int 0, 0, 0, 0, []), (129, .getfield 18, 3, .int 0, 3, 2, 128, []), (132, .bipush 6, 2, .int 6, 0, 0, 0, []), (134, .if_icmp .ge 68, 3, .int 0, 202, 0, 0, []), (137, .aload_n 1, 1, .int 0, 0, 0, 0, []), (138, .invokevirtual 53, 3, .int 0, 79, 1, 26, [(0, 8), (0, 0)]), (141, .aload_n 0, 1, .int 0, 0, 0, 0, []), (142, .getfield 28, 3, .ref 0, 3, 5, 138, []), (145, .aload_n 0, 1, .int 0, 0, 0, 0, []), (146, .getfield 18, 3, .int 0, 3, 2, 128, []), (149, .aload_n 1, 1, .int 0, 0, 0, 0, []), (150, .iconst 1, 1, .int 1, 0, 0, 0, []), (151, .bipush 99, 2, .int 99, 0, 0, 0, []), (153, .invokevirtual 67, 3, .int 0, 83, 3, 27, [(0, 8), (0, 1)]), (156, .iastore, 1, .int 0, 0, 0, 0, []), (157, .aload_n 0, 1, .int 0, 0, 0, 0, []), (158, .getfield 31, 3, .ref 0, 3, 6, 140, []), (161, .aload_n 0, 1, .int 0, 0, 0, 0, []), (162, .getfield 18, 3, .int 0, 3, 2, 128, []), (165, .aload_n 1, 1, .int 0, 0, 0, 0, []), (166, .iconst 1, 1, .int 1, 0, 0, 0, []), (167, .bipush 50, 2, .int 50, 0, 0, 0, []), (169, .invokevirtual 67, 3, .int 0, 83, 3, 27, [(0, 8), (0, 1)]), (172, .iastore, 1, .int 0, 0, 0, 0, []), (173, .aload_n 0, 1, .int 0, 0, 0, 0, []), (174, .getfield 34, 3, .ref 0, 3, 7, 143, []), (177, .aload_n 0, 1, .int 0, 0, 0, 0, []), (178, .getfield 18, 3, .int 0, 3, 2, 128, []), (181, .aload_n 1, 1, .int 0, 0, 0, 0, []), (182, .iconst 1, 1, .int 1, 0, 0, 0, []), (183, .bipush 9, 2, .int 9, 0, 0, 0, []), (185, .invokevirtual 67, 3, .int 0, 83, 3, 27, [(0, 8), (0, 1)]), (188, .iastore, 1, .int 0, 0, 0, 0, []), (189, .aload_n 0, 1, .int 0, 0, 0, 0, []), (190, .dup, 1, .int 0, 0, 0, 0, []), (191, .getfield 18, 3, .int 0, 3, 2, 128, []), (194, .iconst 1, 1, .int 1, 0, 0, 0, []), (195, .iadd, 1, .int 0, 0, 0, 0, []), (196, .putfield 18, 3, .int 0, 3, 2, 128, []), (199, .goto 49, 3, .int 0, 248, 0, 0, []), (202, .aload_n 1, 1, .int 0, 0, 0, 0, []), (203, .bipush 12, 2, .int 12, 0, 0, 0, []), (205, .invokevirtual 63, 3, .int 0, 77, 2, 25, [(0, 8), (0, 1)]), (208, .ifCond .ne 19, 3, .int 0, 227, 0, 0, []), (211, .aload_n 1, 1, .int 0, 0, 0, 0, []), (212, .iconst 0, 1, .int 0, 0, 0, 0, []), (213, .invokevirtual 63, 3, .int 0, 77, 2, 25, [(0, 8), (0, 1)]), (216, .ifCond .ne 11, 3, .int 0, 227, 0, 0, []), (219, .aload_n 1, 1, .int 0, 0, 0, 0, []), (220, .iconst 1, 1, .int 1, 0, 0, 0, []), (221, .invokevirtual 63, 3, .int 0, 77, 2, 25, [(0, 8), (0, 1)]), (224, .ifCond .eq 7, 3, .int 0, 231, 0, 0, []), (227, .iconst 1, 1, .int 1, 0, 0, 0, []), (228, .goto 4, 3, .int 0, 232, 0, 0, []), (231, .iconst 0, 1, .int 0, 0, 0, 0, []), (232, .istore 4, 2, .int 0, 0, 0, 0, []), (234, .aload_n 1, 1, .int 0, 0, 0, 0, []), (235, .iload 4, 2, .int 0, 0, 0, 0, []), (237, .ifCond .eq 7, 3, .int 0, 244, 0, 0, []), (240, .iconst 4, 1, .int 4, 0, 0, 0, []), (241, .goto 4, 3, .int 0, 245, 0, 0, []), (244, .iconst 0, 1, .int 0, 0, 0, 0, []), (245, .invokevirtual 59, 3, .int 0, 76, 2, 29, [(0, 8), (0, 0)]), (248, .return_, 1, .int 0, 0, 0, 0, [])]
set_option maxRecDepth 100000 in
theorem okX3_readClause : codeOk 35 kX3_readClause := ⟨_, rfl, by decide +kernel⟩
def kX3_isThere : List AI := [(0, .aload_n 0, 1, .int 0, 0, 0, 0, []), (1, .getfield 34, 3, .ref 0, 3, 7, 143, []), (4, .iload_n 1, 1, .int 0, 0, 0, 0, []), (5, .iaload, 1, .int 0, 0, 0, 0, []), (6, .ifCond .le 18, 3, .int 0, 24, 0, 0, []), (9, .iload_n 2, 1, .int 0, 0, 0, 0, []), (10, .aload_n 0, 1, .int 0, 0, 0, 0, []), (11, .getfield 34, 3, .ref 0, 3, 7, 143, []), (14, .iload_n 1, 1, .int 0, 0, 0, 0, []), (15, .iaload, 1, .int 0, 0, 0, 0, []), (16, .irem, 1, .int 0, 0, 0, 0, []), (17, .ifCond .ne 7, 3, .int 0, 24, 0, 0, []), (20, .iconst 1, 1, .int 1, 0, 0, 0, []), (21, .goto 4, 3, .int 0, 25, 0, 0, []), (24, .iconst 0, 1, .int 0, 0, 0, 0, []), (25, .ireturn, 1, .int 0, 0, 0, 0, [])]
set_option maxRecDepth 100000 in
theorem okX3_isThere : codeOk 36 kX3_isThere := ⟨_, rfl, by decide +kernel⟩
def kX3_daysTillFeast : List AI := [(0, .aload_n 0, 1, .int 0, 0, 0, 0, []), (1, .getfield 9, 3, .int 0, 3, 0, 121, []), (4, .ifCond .le 19, 3, .int 0, 23, 0, 0, []), (7, .aload_n 0, 1, .int 0, 0, 0, 0, []), (8, .getfield 9, 3, .int 0, 3, 0, 121, []), (11, .iconst 1, 1, .int 1, 0, 0, 0, []), (12, .isub, 1, .int 0, 0, 0, 0, []), (13, .iload_n 1, 1, .int 0, 0, 0, 0, []), (14, .aload_n 0, 1, .int 0, 0, 0, 0, []), (15, .getfield 9, 3, .int 0, 3, 0, 121, []), (18, .irem, 1, .int 0, 0, 0, 0, []), (19, .isub, 1, .int 0, 0, 0, 0, []), (20, .goto 4, 3, .int 0, 24, 0, 0, []), (23, .iconst 0, 1, .int 0, 0, 0, 0, []), (24, .ireturn, 1, .int 0, 0, 0, 0, [])]
set_option maxRecDepth 100000 in
theorem okX3_daysTillFeast : codeOk 37 kX3_daysTillFeast := ⟨_, rfl, by decide +kernel⟩
def kX4_init : List AI := [(0, .aload_n 0, 1, .int 0, 0, 0, 0, []), (1, .invokespecial 3, 3, .int 0, 1000, 0, 4, [(0, 4)]), (4, .aload_n 0, 1, .int 0, 0, 0, 0, []), (5, .iconst 0, 1, .int 0, 0, 0, 0, []), (6, .putfield 9, 3, .int 0, 4, 0, 26, []), (9, .aload_n 0, 1, .int 0, 0, 0, 0, []), (10, .iconst 5, 1, .int 5, 0, 0, 0, []), (11, .newarray .int, 2, .int 0, 0, 0, 0, []), (13, .putfield 15, 3, .ref 0, 4, 1, 32, []), (16, .aload_n 0, 1, .int 0, 0, 0, 0, []), (17, .iconst 5, 1, .int 5, 0, 0, 0, []), (18, .newarray .int, 2, .int 0, 0, 0, 0, []), (20, .putfield 19, 3, .ref 0, 4, 2, 35, []), (23, .aload_n 0, 1, .int 0, 0, 0, 0, []), (24, .iconst 5, 1, .int 5, 0, 0, 0, []), (25, .newarray .int, 2, .int 0, 0, 0, 0, []), (27, .putfield 22, 3, .ref 0, 4, 3, 40, []), (30, .aload_n 0, 1, .int 0, 0, 0, 0, []), (31, .bipush 6, 2, .int 6, 0, 0, 0, []), (33, .newarray .int, 2, .int 0, 0, 0, 0, []), (35, .putfield 25, 3, .ref 0, 4, 4, 46, []), (38, .aload_n 0, 1, .int 0, 0, 0, 0, []), (39, .bipush 6, 2, .int 6, 0, 0, 0, []), (41, .newarray .int, 2, .int 0, 0, 0, 0, []), (43, .putfield 28, 3, .ref 0, 4, 5, 49, []), (46, .return_, 1, .int 0, 0, 0, 0, [])]
set_option maxRecDepth 100000 in
theorem okX4_init : codeOk 38 kX4_init := ⟨_, rfl, by decide +kernel⟩
def kX4_begin : List AI := [(0, .aload_n 0, 1, .int 0, 0, 0, 0, []), (1, .iconst 0, 1, .int 0, 0, 0, 0, []), (2, .putfield 9, 3, .int 0, 4, 0, 26, []), (5, .aload_n 1, 1, .int 0, 0, 0, 0, []), (6, .getfield 31, 3, .ref 0, 3, 3, 135, []), (9, .iconst 0, 1, .int 0, 0, 0, 0, []), (10, .aload_n 0, 1, .int 0, 0, 0, 0, []), (11, .getfield 15, 3, .ref 0, 4, 1, 32, []), (14, .iconst 0, 1, .int 0, 0, 0, 0, []), (15, .iconst 5, 1, .int 5, 0, 0, 0, []), (16, .invokestatic 34, 3, .int 0, 1001, 0, 13, []), (19, .aload_n 1, 1, .int 0, 0, 0, 0, []), (20, .getfield 40, 3, .ref 0, 3, 4, 137, []), (23, .iconst 0, 1, .int 0, 0, 0, 0, []), (24, .aload_n 0, 1, .int 0, 0, 0, 0, []), (25, .getfield 19, 3, .ref 0, 4, 2, 35, []), (28, .iconst 0, 1, .int 0, 0, 0, 0, []), (29, .iconst 5, 1, .int 5, 0, 0, 0, []), (30, .invokestatic 34, 3, .int 0, 1001, 0, 13, []), (33, .aload_n 0, 1, .int 0, 0, 0, 0, []), (34, .getfield 22, 3, .ref 0, 4, 3, 40, []), (37, .iconst 0, 1, .int 0, 0, 0, 0, []), (38, .invokestatic 41, 3, .int 0, 246, 2, 33, [(0, 99), (0, 0)]), (41, .aload_n 1, 1, .int 0, 0, 0, 0, []), (42, .getfield 47, 3, .ref 0, 3, 5, 139, []), (45, .iconst 0, 1, .int 0, 0, 0, 0, []), (46, .aload_n 0, 1, .int 0, 0, 0, 0, []), (47, .getfield 25, 3, .ref 0, 4, 4, 46, []), (50, .iconst 0, 1, .int 0, 0, 0, 0, []), (51, .bipush 6, 2, .int 6, 0, 0, 0, []), (53, .invokestatic 34, 3, .int 0, 1001, 0, 13, []), (56, .aload_n 0, 1, .int 0, 0, 0, 0, []), (57, .getfield 28, 3, .ref 0, 4, 5, 49, []), (60, .iconst (-1), 1, .int (-1), 0, 0, 0, []), (61, .invokestatic 41, 3, .int 0, 246, 2, 33, [(0, 99), (0, 0)]), (64, .return_, 1, .int 0, 0, 0, 0, [])]
set_option maxRecDepth 100000 in
theorem okX4_begin : codeOk 39 kX4_begin := ⟨_, rfl, by decide +kernel⟩
def kX4_become : List AI := [(0, .aload_n 0, 1, .int 0, 0, 0, 0, []), (1, .aload_n 1, 1, .int 0, 0, 0, 0, []), (2, .getfield 9, 3, .int 0, 4, 0, 26, []), (5, .putfield 9, 3, .int 0, 4, 0, 26, []), (8, .aload_n 1, 1, .int 0, 0, 0, 0, []), (9, .getfield 15, 3, .ref 0, 4, 1, 32, []), (12, .iconst 0, 1, .int 0, 0, 0, 0, []), (13, .aload_n 0, 1, .int 0, 0, 0, 0, []), (14, .getfield 15, 3, .ref 0, 4, 1, 32, []), (17, .iconst 0, 1, .int 0, 0, 0, 0, []), (18, .iconst 5, 1, .int 5, 0, 0, 0, []), (19, .invokestatic 34, 3, .int 0, 1001, 0, 13, []), (22, .aload_n 1, 1, .int 0, 0, 0, 0, []), (23, .getfield 19, 3, .ref 0, 4, 2, 35, []), (26, .iconst 0, 1, .int 0, 0, 0, 0, []), (27, .aload_n 0, 1, .int 0, 0, 0, 0, []), (28, .getfield 19, 3, .ref 0, 4, 2, 35, []), (31, .iconst 0, 1, .int 0, 0, 0, 0, []), (32, .iconst 5, 1, .int 5, 0, 0, 0, []), (33, .invokestatic 34, 3, .int 0, 1001, 0, 13, []), (36, .aload_n 1, 1, .int 0, 0, 0, 0, []), (37, .getfield 22, 3, .ref 0, 4, 3, 40, []), (40, .iconst 0, 1, .int 0, 0, 0, 0, []), (41, .aload_n 0, 1, .int 0, 0, 0, 0, []), (42, .getfield 22, 3, .ref 0, 4, 3, 40, []), (45, .iconst 0, 1, .int 0, 0, 0, 0, []), (46, .iconst 5, 1, .int 5, 0, 0, 0, []), (47, .invokestatic 34, 3, .int 0, 1001, 0, 13, []), (50, .aload_n 1, 1, .int 0, 0, 0, 0, []), (51, .getfield 25, 3, .ref 0, 4, 4, 46, []), (54, .iconst 0, 1, .int 0, 0, 0, 0, []), (55, .aload_n 0, 1, .int 0, 0, 0, 0, []), (56, .getfield 25, 3, .ref 0, 4, 4, 46, []), (59, .iconst 0, 1, .int 0, 0, 0, 0, []), (60, .bipush 6, 2, .int 6, 0, 0, 0, []), (62, .invokestatic 34, 3, .int 0, 1001, 0, 13, []), (65, .aload_n 1, 1, .int 0, 0, 0, 0, []), (66, .getfield 28, 3, .ref 0, 4, 5, 49, []), (69, .iconst 0, 1, .int 0, 0, 0, 0, []), (70, .aload_n 0, 1, .int 0, 0, 0, 0, []), (71, .getfield 28, 3, .ref 0, 4, 5, 49, []), (74, .iconst 0, 1, .int 0, 0, 0, 0, []), (75, .bipush 6, 2, .int 6, 0, 0, 0, []), (77, .invokestatic 34, 3, .int 0, 1001, 0, 13, []), (80, .return_, 1, .int 0, 0, 0, 0, [])]
set_option maxRecDepth 100000 in
theorem okX4_become : codeOk 40 kX4_become := ⟨_, rfl, by decide +kernel⟩
def kX4_beats : List AI := [(0, .iload_n 3, 1, .int 0, 0, 0, 0, []), (1, .aload_n 0, 1, .int 0, 0, 0, 0, []), (2, .getfield 19, 3, .ref 0, 4, 2, 35, []), (5, .iload_n 1, 1, .int 0, 0, 0, 0, []), (6, .iaload, 1, .int 0, 0, 0, 0, []), (7, .aload_n 0, 1, .int 0, 0, 0, 0, []), (8, .getfield 15, 3, .ref 0, 4, 1, 32, []), (11, .iload_n 1, 1, .int 0, 0, 0, 0, []), (12, .iaload, 1, .int 0, 0, 0, 0, []), (13, .imul, 1, .int 0, 0, 0, 0, []), (14, .isub, 1, .int 0, 0, 0, 0, []), (15, .aload_n 0, 1, .int 0, 0, 0, 0, []), (16, .getfield 15, 3, .ref 0, 4, 1, 32, []), (19, .iload_n 2, 1, .int 0, 0, 0, 0, []), (20, .iaload, 1, .int 0, 0, 0, 0, []), (21, .imul, 1, .int 0, 0, 0, 0, []), (22, .istore 4, 2, .int 0, 0, 0, 0, []), (24, .iload_n 3, 1, .int 0, 0, 0, 0, []), (25, .aload_n 0, 1, .int 0, 0, 0, 0, []), (26, .getfield 19, 3, .ref 0, 4, 2, 35, []), (29, .iload_n 2, 1, .int 0, 0, 0, 0, []), (30, .iaload, 1, .int 0, 0, 0, 0, []), (31, .aload_n 0, 1, .int 0, 0, 0, 0, []), (32, .getfield 15, 3, .ref 0, 4, 1, 32, []), (35, .iload_n 2, 1, .int 0, 0, 0, 0, []), (36, .iaload, 1, .int 0, 0, 0, 0, []), (37, .imul, 1, .int 0, 0, 0, 0, []), (38, .isub, 1, .int 0, 0, 0, 0, []), (39, .aload_n 0, 1, .int 0, 0, 0, 0, []), (40, .getfield 15, 3, .ref 0, 4, 1, 32, []), (43, .iload_n 1, 1, .int 0, 0, 0, 0, []), (44, .iaload, 1, .int 0, 0, 0, 0, []), (45, .imul, 1, .int 0, 0, 0, 0, []), (46, .istore 5, 2, .int 0, 0, 0, 0, []), (48, .iload 4, 2, .int 0, 0, 0, 0, []), (50, .iload 5, 2, .int 0, 0, 0, 0, []), (52, .if_icmp .lt 15, 3, .int 0, 67, 0, 0, []), (55, .iload 4, 2, .int 0, 0, 0, 0, []), (57, .iload 5, 2, .int 0, 0, 0, 0, []), (59, .if_icmp .ne 12, 3, .int 0, 71, 0, 0, []), (62, .iload_n 1, 1, .int 0, 0, 0, 0, []), (63, .iload_n 2, 1, .int 0, 0, 0, 0, []), (64, .if_icmp .ge 7, 3, .int 0, 71, 0, 0, []), (67, .iconst 1, 1, .int 1, 0, 0, 0, []), (68, .goto 4, 3, .int 0, 72, 0, 0, []), (71, .iconst 0, 1, .int 0, 0, 0, 0, []), (72, .ireturn, 1, .int 0, 0, 0, 0, [])]
set_option maxRecDepth 100000 in
theorem okX4_beats : codeOk 41 kX4_beats := ⟨_, rfl, by decide +kernel⟩
def kX4_canLend : List AI := [(0, .aload_n 0, 1, .int 0, 0, 0, 0, []), (1, .getfield 19, 3, .ref 0, 4, 2, 35, []), (4, .iload_n 1, 1, .int 0, 0, 0, 0, []), (5, .iaload, 1, .int 0, 0, 0, 0, []), (6, .iload_n 3, 1, .int 0, 0, 0, 0, []), (7, .isub, 1, .int 0, 0, 0, 0, []), (8, .bipush (-99), 2, .int (-99), 0, 0, 0, []), (10, .if_icmp .lt 20, 3, .int 0, 30, 0, 0, []), (13, .aload_n 0, 1, .int 0, 0, 0, 0, []), (14, .getfield 19, 3, .ref 0, 4, 2, 35, []), (17, .iload_n 2, 1, .int 0, 0, 0, 0, []), (18, .iaload, 1, .int 0, 0, 0, 0, []), (19, .iload_n 3, 1, .int 0, 0, 0, 0, []), (20, .iadd, 1, .int 0, 0, 0, 0, []), (21, .bipush 99, 2, .int 99, 0, 0, 0, []), (23, .if_icmp .gt 7, 3, .int 0, 30, 0, 0, []), (26, .iconst 1, 1, .int 1, 0, 0, 0, []), (27, .goto 4, 3, .int 0, 31, 0, 0, []), (30, .iconst 0, 1, .int 0, 0, 0, 0, []), (31, .ireturn, 1, .int 0, 0, 0, 0, [])]
set_option maxRecDepth 100000 in
theorem okX4_canLend : codeOk 42 kX4_canLend := ⟨_, rfl, by decide +kernel⟩
def kX4_give : List AI := [(0, .aload_n 0, 1, .int 0, 0, 0, 0, []), (1, .getfield 19, 3, .ref 0, 4, 2, 35, []), (4, .iload_n 1, 1, .int 0, 0, 0, 0, []), (5, .dup2, 1, .int 0, 0, 0, 0, []), (6, .iaload, 1, .int 0, 0, 0, 0, []), (7, .iload_n 3, 1, .int 0, 0, 0, 0, []), (8, .isub, 1, .int 0, 0, 0, 0, []), (9, .iastore, 1, .int 0, 0, 0, 0, []), (10, .aload_n 0, 1, .int 0, 0, 0, 0, []), (11, .getfield 19, 3, .ref 0, 4, 2, 35, []), (14, .iload_n 2, 1, .int 0, 0, 0, 0, []), (15, .dup2, 1, .int 0, 0, 0, 0, []), (16, .iaload, 1, .int 0, 0, 0, 0, []), (17, .iload_n 3, 1, .int 0, 0, 0, 0, []), (18, .iadd, 1, .int 0, 0, 0, 0, []), (19, .iastore, 1, .int 0, 0, 0, 0, []), (20, .return_, 1, .int 0, 0, 0, 0, [])]
set_option maxRecDepth 100000 in
theorem okX4_give : codeOk 43 kX4_give := ⟨_, rfl, by decide +kernel⟩
def kX5_init : List AI := [(0, .aload_n 0, 1, .int 0, 0, 0, 0, []), (1, .invokespecial 3, 3, .int 0, 1000, 0, 9, [(0, 5)]), (4, .aload_n 0, 1, .int 0, 0, 0, 0, []), (5, .bipush 32, 2, .int 32, 0, 0, 0, []), (7, .newarray .int, 2, .int 0, 0, 0, 0, []), (9, .putfield 9, 3, .ref 0, 5, 0, 109, []), (12, .return_, 1, .int 0, 0, 0, 0, [])]
set_option maxRecDepth 100000 in
theorem okX5_init : codeOk 44 kX5_init := ⟨_, rfl, by decide +kernel⟩
def kX5_together : List AI := [(0, .iconst 0, 1, .int 0, 0, 0, 0, []), (1, .istore_n 3, 1, .int 0, 0, 0, 0, []), (2, .iconst 0, 1, .int 0, 0, 0, 0, []), (3, .istore 4, 2, .int 0, 0, 0, 0, []), (5, .iload 4, 2, .int 0, 0, 0, 0, []), (7, .iload_n 1, 1, .int 0, 0, 0, 0, []), (8, .if_icmp .ge 26, 3, .int 0, 34, 0, 0, []), (11, .iload_n 2, 1, .int 0, 0, 0, 0, []), (12, .iload 4, 2, .int 0, 0, 0, 0, []), (14, .ishr, 1, .int 0, 0, 0, 0, []), (15, .iconst 1, 1, .int 1, 0, 0, 0, []), (16, .iand, 1, .int 0, 0, 0, 0, []), (17, .iconst 1, 1, .int 1, 0, 0, 0, []), (18, .if_icmp .ne 10, 3, .int 0, 28, 0, 0, []), (21, .iload_n 3, 1, .int 0, 0, 0, 0, []), (22, .aload_n 0, 1, .int 0, 0, 0, 0, []), (23, .iload 4, 2, .int 0, 0, 0, 0, []), (25, .iaload, 1, .int 0, 0, 0, 0, []), (26, .iadd, 1, .int 0, 0, 0, 0, []), (27, .istore_n 3, 1, .int 0, 0, 0, 0, []), (28, .iinc 4 1, 3, .int 1, 0, 0, 0, []), (31, .goto (-26), 3, .int 0, 5, 0, 0, []), (34, .iload_n 3, 1, .int 0, 0, 0, 0, []), (35, .ireturn, 1, .int 0, 0, 0, 0, [])]
set_option maxRecDepth 100000 in
theorem okX5_together : codeOk 45 kX5_together := ⟨_, rfl, by decide +kernel⟩
def kX5_fewestGoes : List AI := [(0, .iconst 1, 1, .int 1, 0, 0, 0, []), (1, .iload_n 2, 1, .int 0, 0, 0, 0, []), (2, .ishl, 1, .int 0, 0, 0, 0, []), (3, .istore_n 3, 1, .int 0, 0, 0, 0, []), (4, .aload_n 1, 1, .int 0, 0, 0, 0, []), (5, .iload_n 2, 1, .int 0, 0, 0, 0, []), (6, .iload_n 3, 1, .int 0, 0, 0, 0, []), (7, .iconst 1, 1, .int 1, 0, 0, 0, []), (8, .isub, 1, .int 0, 0, 0, 0, []), (9, .invokestatic 15, 3, .int 0, 45, 3, 126, [(0, 5), (0, 1)]), (12, .ifCond .eq 6, 3, .int 0, 18, 0, 0, []), (15, .bipush (-2), 2, .int (-2), 0, 0, 0, []), (17, .ireturn, 1, .int 0, 0, 0, 0, []), (18, .iconst 1, 1, .int 1, 0, 0, 0, []), (19, .istore 4, 2, .int 0, 0, 0, 0, []), (21, .iload 4, 2, .int 0, 0, 0, 0, []), (23, .iload_n 3, 1, .int 0, 0, 0, 0, []), (24, .if_icmp .ge 83, 3, .int 0, 107, 0, 0, []), (27, .iconst 0, 1, .int 0, 0, 0, 0, []), (28, .istore 5, 2, .int 0, 0, 0, 0, []), (30, .iconst 0, 1, .int 0, 0, 0, 0, []), (31, .istore 6, 2, .int 0, 0, 0, 0, []), (33, .iload 6, 2, .int 0, 0, 0, 0, []), (35, .iload_n 2, 1, .int 0, 0, 0, 0, []), (36, .if_icmp .ge 39, 3, .int 0, 75, 0, 0, []), (39, .iload 4, 2, .int 0, 0, 0, 0, []), (41, .iload 6, 2, .int 0, 0, 0, 0, []), (43, .ishr, 1, .int 0, 0, 0, 0, []), (44, .iconst 1, 1, .int 1, 0, 0, 0, []), (45, .iand, 1, .int 0, 0, 0, 0, []), (46, .iconst 1, 1, .int 1, 0, 0, 0, []), (47, .if_icmp .ne 22, 3, .int 0, 69, 0, 0, []), (50, .iload 5, 2, .int 0, 0, 0, 0, []), (52, .aload_n 0, 1, .int 0, 0, 0, 0, []), (53, .getfield 9, 3, .ref 0, 5, 0, 109, []), (56, .iload 4, 2, .int 0, 0, 0, 0, []), (58, .iconst 1, 1, .int 1, 0, 0, 0, []), (59, .iload 6, 2, .int 0, 0, 0, 0, []), (61, .ishl, 1, .int 0, 0, 0, 0, []), (62, .isub, 1, .int 0, 0, 0, 0, []), (63, .iaload, 1, .int 0, 0, 0, 0, []), (64, .invokestatic 19, 3, .int 0, 1002, 0, 21, []), (67, .istore 5, 2, .int 0, 0, 0, 0, []), (69, .iinc 6 1, 3, .int 1, 0, 0, 0, []), (72, .goto (-39), 3, .int 0, 33, 0, 0, []), (75, .aload_n 0, 1, .int 0, 0, 0, 0, []), (76, .getfield 9, 3, .ref 0, 5, 0, 109, []), (79, .iload 4, 2, .int 0, 0, 0, 0, []), (81, .aload_n 1, 1, .int 0, 0, 0, 0, []), (82, .iload_n 2, 1, .int 0, 0, 0, 0, []), (83, .iload 4, 2, .int 0, 0, 0, 0, []), (85, .invokestatic 15, 3, .int 0, 45, 3, 126, [(0, 5), (0, 1)]), (88, .ifCond .ne 10, 3, .int 0, 98, 0, 0, []), (91, .iload 5, 2, .int 0, 0, 0, 0, []), (93, .iconst 1, 1, .int 1, 0, 0, 0, []), (94, .iadd, 1, .int 0, 0, 0, 0, []), (95, .goto 5, 3, .int 0, 100, 0, 0, []), (98, .iload 5, 2, .int 0, 0, 0, 0, []), (100, .iastore, 1, .int 0, 0, 0, 0, []), (101, .iinc 4 1, 3, .int 1, 0, 0, 0, []), (104, .goto (-83), 3, .int 0, 21, 0, 0, []), (107, .iload_n 2, 1, .int 0, 0, 0, 0, []), (108, .aload_n 0, 1, .int 0, 0, 0, 0, []), (109, .getfield 9, 3, .ref 0, 5, 0, 109, []), (112, .iload_n 3, 1, .int 0, 0, 0, 0, []), (113, .iconst 1, 1, .int 1, 0, 0, 0, []), (114, .isub, 1, .int 0, 0, 0, 0, []), (115, .iaload, 1, .int 0, 0, 0, 0, []), (116, .isub, 1, .int 0, 0, 0, 0, []), (117, .ireturn, 1, .int 0, 0, 0, 0, [])]
set_option maxRecDepth 100000 in
theorem okX5_fewestGoes : codeOk 46 kX5_fewestGoes := ⟨_, rfl, by decide +kernel⟩
def kX5_countRings : List AI := [(0, .iconst 0, 1, .int 0, 0, 0, 0, []), (1, .istore_n 3, 1, .int 0, 0, 0, 0, []), (2, .iconst 1, 1, .int 1, 0, 0, 0, []), (3, .istore 4, 2, .int 0, 0, 0, 0, []), (5, .iload 4, 2, .int 0, 0, 0, 0, []), (7, .iconst 1, 1, .int 1, 0, 0, 0, []), (8, .iload_n 2, 1, .int 0, 0, 0, 0, []), (9, .ishl, 1, .int 0, 0, 0, 0, []), (10, .if_icmp .ge 22, 3, .int 0, 32, 0, 0, []), (13, .aload_n 1, 1, .int 0, 0, 0, 0, []), (14, .iload_n 2, 1, .int 0, 0, 0, 0, []), (15, .iload 4, 2, .int 0, 0, 0, 0, []), (17, .invokestatic 15, 3, .int 0, 45, 3, 126, [(0, 5), (0, 1)]), (20, .ifCond .ne 6, 3, .int 0, 26, 0, 0, []), (23, .iinc 3 1, 3, .int 1, 0, 0, 0, []), (26, .iinc 4 1, 3, .int 1, 0, 0, 0, []), (29, .goto (-24), 3, .int 0, 5, 0, 0, []), (32, .iload_n 3, 1, .int 0, 0, 0, 0, []), (33, .ireturn, 1, .int 0, 0, 0, 0, [])]
set_option maxRecDepth 100000 in
theorem okX5_countRings : codeOk 47 kX5_countRings := ⟨_, rfl, by decide +kernel⟩
def kX5_greatestRing : List AI := [(0, .iconst 0, 1, .int 0, 0, 0, 0, []), (1, .istore_n 3, 1, .int 0, 0, 0, 0, []), (2, .iconst 1, 1, .int 1, 0, 0, 0, []), (3, .istore 4, 2, .int 0, 0, 0, 0, []), (5, .iload 4, 2, .int 0, 0, 0, 0, []), (7, .iconst 1, 1, .int 1, 0, 0, 0, []), (8, .iload_n 2, 1, .int 0, 0, 0, 0, []), (9, .ishl, 1, .int 0, 0, 0, 0, []), (10, .if_icmp .ge 34, 3, .int 0, 44, 0, 0, []), (13, .aload_n 1, 1, .int 0, 0, 0, 0, []), (14, .iload_n 2, 1, .int 0, 0, 0, 0, []), (15, .iload 4, 2, .int 0, 0, 0, 0, []), (17, .invokestatic 15, 3, .int 0, 45, 3, 126, [(0, 5), (0, 1)]), (20, .ifCond .ne 18, 3, .int 0, 38, 0, 0, []), (23, .iload 4, 2, .int 0, 0, 0, 0, []), (25, .invokestatic 25, 3, .int 0, 248, 1, 130, [(0, 99), (0, 1)]), (28, .iload_n 3, 1, .int 0, 0, 0, 0, []), (29, .invokestatic 25, 3, .int 0, 248, 1, 130, [(0, 99), (0, 1)]), (32, .if_icmp .le 6, 3, .int 0, 38, 0, 0, []), (35, .iload 4, 2, .int 0, 0, 0, 0, []), (37, .istore_n 3, 1, .int 0, 0, 0, 0, []), (38, .iinc 4 1, 3, .int 1, 0, 0, 0, []), (41, .goto (-36), 3, .int 0, 5, 0, 0, []), (44, .iload_n 3, 1, .int 0, 0, 0, 0, []), (45, .ireturn, 1, .int 0, 0, 0, 0, [])]
set_option maxRecDepth 100000 in
theorem okX5_greatestRing : codeOk 48 kX5_greatestRing := ⟨_, rfl, by decide +kernel⟩
def kX5_share : List AI := [(0, .aload_n 3, 1, .int 0, 0, 0, 0, []), (1, .iload 4, 2, .int 0, 0, 0, 0, []), (3, .iconst 1, 1, .int 1, 0, 0, 0, []), (4, .iload 4, 2, .int 0, 0, 0, 0, []), (6, .ishl, 1, .int 0, 0, 0, 0, []), (7, .iconst 1, 1, .int 1, 0, 0, 0, []), (8, .isub, 1, .int 0, 0, 0, 0, []), (9, .invokestatic 15, 3, .int 0, 45, 3, 126, [(0, 5), (0, 1)]), (12, .istore 5, 2, .int 0, 0, 0, 0, []), (14, .iload 5, 2, .int 0, 0, 0, 0, []), (16, .ifCond .gt 5, 3, .int 0, 21, 0, 0, []), (19, .iconst 0, 1, .int 0, 0, 0, 0, []), (20, .ireturn, 1, .int 0, 0, 0, 0, []), (21, .iload_n 1, 1, .int 0, 0, 0, 0, []), (22, .istore 6, 2, .int 0, 0, 0, 0, []), (24, .iconst 0, 1, .int 0, 0, 0, 0, []), (25, .istore 7, 2, .int 0, 0, 0, 0, []), (27, .iload_n 1, 1, .int 0, 0, 0, 0, []), (28, .aload_n 3, 1, .int 0, 0, 0, 0, []), (29, .iload_n 2, 1, .int 0, 0, 0, 0, []), (30, .iaload, 1, .int 0, 0, 0, 0, []), (31, .imul, 1, .int 0, 0, 0, 0, []), (32, .iload 5, 2, .int 0, 0, 0, 0, []), (34, .irem, 1, .int 0, 0, 0, 0, []), (35, .istore 8, 2, .int 0, 0, 0, 0, []), (37, .iconst 0, 1, .int 0, 0, 0, 0, []), (38, .istore 9, 2, .int 0, 0, 0, 0, []), (40, .iload 9, 2, .int 0, 0, 0, 0, []), (42, .iload 4, 2, .int 0, 0, 0, 0, []), (44, .if_icmp .ge 57, 3, .int 0, 101, 0, 0, []), (47, .iload 6, 2, .int 0, 0, 0, 0, []), (49, .iload_n 1, 1, .int 0, 0, 0, 0, []), (50, .aload_n 3, 1, .int 0, 0, 0, 0, []), (51, .iload 9, 2, .int 0, 0, 0, 0, []), (53, .iaload, 1, .int 0, 0, 0, 0, []), (54, .imul, 1, .int 0, 0, 0, 0, []), (55, .iload 5, 2, .int 0, 0, 0, 0, []), (57, .idiv, 1, .int 0, 0, 0, 0, []), (58, .isub, 1, .int 0, 0, 0, 0, []), (59, .istore 6, 2, .int 0, 0, 0, 0, []), (61, .iload_n 1, 1, .int 0, 0, 0, 0, []), (62, .aload_n 3, 1, .int 0, 0, 0, 0, []), (63, .iload 9, 2, .int 0, 0, 0, 0, []), (65, .iaload, 1, .int 0, 0, 0, 0, []), (66, .imul, 1, .int 0, 0, 0, 0, []), (67, .iload 5, 2, .int 0, 0, 0, 0, []), (69, .irem, 1, .int 0, 0, 0, 0, []), (70, .istore 10, 2, .int 0, 0, 0, 0, []), (72, .iload 10, 2, .int 0, 0, 0, 0, []), (74, .iload 8, 2, .int 0, 0, 0, 0, []), (76, .if_icmp .gt 16, 3, .int 0, 92, 0, 0, []), (79, .iload 10, 2, .int 0, 0, 0, 0, []), (81, .iload 8, 2, .int 0, 0, 0, 0, []), (83, .if_icmp .ne 12, 3, .int 0, 95, 0, 0, []), (86, .iload 9, 2, .int 0, 0, 0, 0, []), (88, .iload_n 2, 1, .int 0, 0, 0, 0, []), (89, .if_icmp .ge 6, 3, .int 0, 95, 0, 0, []), (92, .iinc 7 1, 3, .int 1, 0, 0, 0, []), (95, .iinc 9 1, 3, .int 1, 0, 0, 0, []), (98, .goto (-58), 3, .int 0, 40, 0, 0, []), (101, .iload_n 1, 1, .int 0, 0, 0, 0, []), (102, .aload_n 3, 1, .int 0, 0, 0, 0, []), (103, .iload_n 2, 1, .int 0, 0, 0, 0, []), (104, .iaload, 1, .int 0, 0, 0, 0, []), (105, .imul, 1, .int 0, 0, 0, 0, []), (106, .iload 5, 2, .int 0, 0, 0, 0, []), (108, .idiv, 1, .int 0, 0, 0, 0, []), (109, .iload 7, 2, .int 0, 0, 0, 0, []), (111, .iload 6, 2, .int 0, 0, 0, 0, []), (113, .if_icmp .ge 7, 3, .int 0, 120, 0, 0, []), (116, .iconst 1, 1, .int 1, 0, 0, 0, []), (117, .goto 4, 3, .int 0, 121, 0, 0, []), (120, .iconst 0, 1, .int 0, 0, 0, 0, []), (121, .iadd, 1, .int 0, 0, 0, 0, []), (122, .ireturn, 1, .int 0, 0, 0, 0, [])]
set_option maxRecDepth 100000 in
theorem okX5_share : codeOk 49 kX5_share := ⟨_, rfl, by decide +kernel⟩
def kX6_init : List AI := [(0, .aload_n 0, 1, .int 0, 0, 0, 0, []), (1, .invokespecial 3, 3, .int 0, 1000, 0, 17, [(0, 6)]), (4, .aload_n 0, 1, .int 0, 0, 0, 0, []), (5, .aload_n 1, 1, .int 0, 0, 0, 0, []), (6, .putfield 9, 3, .ref 0, 6, 0, 145, []), (9, .aload_n 0, 1, .int 0, 0, 0, 0, []), (10, .aload_n 2, 1, .int 0, 0, 0, 0, []), (11, .putfield 15, 3, .ref 0, 6, 1, 146, []), (14, .aload_n 0, 1, .int 0, 0, 0, 0, []), (15, .iload_n 3, 1, .int 0, 0, 0, 0, []), (16, .putfield 18, 3, .int 0, 6, 2, 147, []), (19, .return_, 1, .int 0, 0, 0, 0, [])]
set_option maxRecDepth 100000 in
theorem okX6_init : codeOk 50 kX6_init := ⟨_, rfl, by decide +kernel⟩
def kX6_stepOf : List AI := [(0, .iload_n 0, 1, .int 0, 0, 0, 0, []), (1, .lookupswitch 121 #[(37, 103), (42, 97), (43, 91), (45, 94), (47, 100), (60, 106), (61, 112), (62, 118), (316, 109), (318, 115)], 91, .int 0, 122, 0, 0, [(37, 104), (42, 98), (43, 92), (45, 95), (47, 101), (60, 107), (61, 113), (62, 119), (316, 110), (318, 116)]), (92, .bipush (-20), 2, .int (-20), 0, 0, 0, []), (94, .ireturn, 1, .int 0, 0, 0, 0, []), (95, .bipush (-21), 2, .int (-21), 0, 0, 0, []), (97, .ireturn, 1, .int 0, 0, 0, 0, []), (98, .bipush (-22), 2, .int (-22), 0, 0, 0, []), (100, .ireturn, 1, .int 0, 0, 0, 0, []), (101, .bipush (-23), 2, .int (-23), 0, 0, 0, []), (103, .ireturn, 1, .int 0, 0, 0, 0, []), (104, .bipush (-24), 2, .int (-24), 0, 0, 0, []), (106, .ireturn, 1, .int 0, 0, 0, 0, []), (107, .bipush (-25), 2, .int (-25), 0, 0, 0, []), (109, .ireturn, 1, .int 0, 0, 0, 0, []), (110, .bipush (-26), 2, .int (-26), 0, 0, 0, []), (112, .ireturn, 1, .int 0, 0, 0, 0, []), (113, .bipush (-27), 2, .int (-27), 0, 0, 0, []), (115, .ireturn, 1, .int 0, 0, 0, 0, []), (116, .bipush (-28), 2, .int (-28), 0, 0, 0, []), (118, .ireturn, 1, .int 0, 0, 0, 0, []), (119, .bipush (-29), 2, .int (-29), 0, 0, 0, []), (121, .ireturn, 1, .int 0, 0, 0, 0, []), (122, .bipush (-19), 2, .int (-19), 0, 0, 0, []), (124, .ireturn, 1, .int 0, 0, 0, 0, [])]
set_option maxRecDepth 100000 in
theorem okX6_stepOf : codeOk 51 kX6_stepOf := ⟨_, rfl, by decide +kernel⟩
def kX6_tightnessOf : List AI := [(0, .iload_n 0, 1, .int 0, 0, 0, 0, []), (1, .bipush (-19), 2, .int (-19), 0, 0, 0, []), (3, .if_icmp .ne 5, 3, .int 0, 8, 0, 0, []), (6, .iconst (-1), 1, .int (-1), 0, 0, 0, []), (7, .ireturn, 1, .int 0, 0, 0, 0, []), (8, .iload_n 0, 1, .int 0, 0, 0, 0, []), (9, .bipush (-20), 2, .int (-20), 0, 0, 0, []), (11, .if_icmp .eq 9, 3, .int 0, 20, 0, 0, []), (14, .iload_n 0, 1, .int 0, 0, 0, 0, []), (15, .bipush (-21), 2, .int (-21), 0, 0, 0, []), (17, .if_icmp .ne 5, 3, .int 0, 22, 0, 0, []), (20, .iconst 5, 1, .int 5, 0, 0, 0, []), (21, .ireturn, 1, .int 0, 0, 0, 0, []), (22, .iload_n 0, 1, .int 0, 0, 0, 0, []), (23, .bipush (-24), 2, .int (-24), 0, 0, 0, []), (25, .if_icmp .lt 6, 3, .int 0, 31, 0, 0, []), (28, .bipush 6, 2, .int 6, 0, 0, 0, []), (30, .ireturn, 1, .int 0, 0, 0, 0, []), (31, .iload_n 0, 1, .int 0, 0, 0, 0, []), (32, .bipush (-29), 2, .int (-29), 0, 0, 0, []), (34, .if_icmp .lt 5, 3, .int 0, 39, 0, 0, []), (37, .iconst 4, 1, .int 4, 0, 0, 0, []), (38, .ireturn, 1, .int 0, 0, 0, 0, []), (39, .iload_n 0, 1, .int 0, 0, 0, 0, []), (40, .tableswitch 34 (-32) (-30) #[28, 32, 30], 28, .int 0, 74, 0, 0, [((-32), 68), ((-31), 72), ((-30), 70)]), (68, .iconst 3, 1, .int 3, 0, 0, 0, []), (69, .ireturn, 1, .int 0, 0, 0, 0, []), (70, .iconst 2, 1, .int 2, 0, 0, 0, []), (71, .ireturn, 1, .int 0, 0, 0, 0, []), (72, .iconst 1, 1, .int 1, 0, 0, 0, []), (73, .ireturn, 1, .int 0, 0, 0, 0, []), (74, .iconst 0, 1, .int 0, 0, 0, 0, []), (75, .ireturn, 1, .int 0, 0, 0, 0, [])]
set_option maxRecDepth 100000 in
theorem okX6_tightnessOf : codeOk 52 kX6_tightnessOf := ⟨_, rfl, by decide +kernel⟩
def kX6_sumBy : List AI := [(0, .iconst 0, 1, .int 0, 0, 0, 0, []), (1, .istore_n 3, 1, .int 0, 0, 0, 0, []), (2, .iload_n 3, 1, .int 0, 0, 0, 0, []), (3, .aload_n 0, 1, .int 0, 0, 0, 0, []), (4, .getfield 18, 3, .int 0, 6, 2, 147, []), (7, .if_icmp .ge 72, 3, .int 0, 79, 0, 0, []), (10, .aload_n 0, 1, .int 0, 0, 0, 0, []), (11, .getfield 15, 3, .ref 0, 6, 1, 146, []), (14, .iconst 2, 1, .int 2, 0, 0, 0, []), (15, .iload_n 3, 1, .int 0, 0, 0, 0, []), (16, .imul, 1, .int 0, 0, 0, 0, []), (17, .iconst 1, 1, .int 1, 0, 0, 0, []), (18, .iadd, 1, .int 0, 0, 0, 0, []), (19, .iaload, 1, .int 0, 0, 0, 0, []), (20, .istore 4, 2, .int 0, 0, 0, 0, []), (22, .aload_n 0, 1, .int 0, 0, 0, 0, []), (23, .getfield 15, 3, .ref 0, 6, 1, 146, []), (26, .iconst 2, 1, .int 2, 0, 0, 0, []), (27, .iload_n 3, 1, .int 0, 0, 0, 0, []), (28, .imul, 1, .int 0, 0, 0, 0, []), (29, .iconst 2, 1, .int 2, 0, 0, 0, []), (30, .iadd, 1, .int 0, 0, 0, 0, []), (31, .iaload, 1, .int 0, 0, 0, 0, []), (32, .istore 5, 2, .int 0, 0, 0, 0, []), (34, .iload 4, 2, .int 0, 0, 0, 0, []), (36, .iload 5, 2, .int 0, 0, 0, 0, []), (38, .if_icmp .eq 18, 3, .int 0, 56, 0, 0, []), (41, .aload_n 0, 1, .int 0, 0, 0, 0, []), (42, .iload 4, 2, .int 0, 0, 0, 0, []), (44, .iload 5, 2, .int 0, 0, 0, 0, []), (46, .aload_n 1, 1, .int 0, 0, 0, 0, []), (47, .aload_n 2, 1, .int 0, 0, 0, 0, []), (48, .invokevirtual 22, 3, .int 0, 54, 5, 82, [(0, 6), (0, 2)]), (51, .lconst 0, 1, .long 0, 0, 0, 0, []), (52, .lcmp, 1, .int 0, 0, 0, 0, []), (53, .ifCond .eq 20, 3, .int 0, 73, 0, 0, []), (56, .aload_n 0, 1, .int 0, 0, 0, 0, []), (57, .aload_n 0, 1, .int 0, 0, 0, 0, []), (58, .getfield 15, 3, .ref 0, 6, 1, 146, []), (61, .iconst 2, 1, .int 2, 0, 0, 0, []), (62, .iload_n 3, 1, .int 0, 0, 0, 0, []), (63, .imul, 1, .int 0, 0, 0, 0, []), (64, .iaload, 1, .int 0, 0, 0, 0, []), (65, .iload 4, 2, .int 0, 0, 0, 0, []), (67, .aload_n 1, 1, .int 0, 0, 0, 0, []), (68, .aload_n 2, 1, .int 0, 0, 0, 0, []), (69, .invokevirtual 22, 3, .int 0, 54, 5, 82, [(0, 6), (0, 2)]), (72, .lreturn, 1, .int 0, 0, 0, 0, []), (73, .iinc 3 1, 3, .int 1, 0, 0, 0, []), (76, .goto (-74), 3, .int 0, 2, 0, 0, []), (79, .lconst 0, 1, .long 0, 0, 0, 0, []), (80, .lreturn, 1, .int 0, 0, 0, 0, [])]
set_option maxRecDepth 100000 in
theorem okX6_sumBy : codeOk 53 kX6_sumBy := ⟨_, rfl, by decide +kernel⟩
def kX6_work : List AI := [(0, .iconst 0, 1, .int 0, 0, 0, 0, []), (1, .istore 5, 2, .int 0, 0, 0, 0, []), (3, .iload_n 1, 1, .int 0, 0, 0, 0, []), (4, .istore 6, 2, .int 0, 0, 0, 0, []), (6, .iload 6, 2, .int 0, 0, 0, 0, []), (8, .iload_n 2, 1, .int 0, 0, 0, 0, []), (9, .if_icmp .ge 125, 3, .int 0, 134, 0, 0, []), (12, .aload_n 0, 1, .int 0, 0, 0, 0, []), (13, .getfield 9, 3, .ref 0, 6, 0, 145, []), (16, .iload 6, 2, .int 0, 0, 0, 0, []), (18, .iaload, 1, .int 0, 0, 0, 0, []), (19, .istore 7, 2, .int 0, 0, 0, 0, []), (21, .iload 7, 2, .int 0, 0, 0, 0, []), (23, .bipush (-19), 2, .int (-19), 0, 0, 0, []), (25, .if_icmp .le 39, 3, .int 0, 64, 0, 0, []), (28, .iload 5, 2, .int 0, 0, 0, 0, []), (30, .aload 4, 2, .int 0, 0, 0, 0, []), (32, .arraylength, 1, .int 0, 0, 0, 0, []), (33, .if_icmp .ge 95, 3, .int 0, 128, 0, 0, []), (36, .aload 4, 2, .int 0, 0, 0, 0, []), (38, .iload 5, 2, .int 0, 0, 0, 0, []), (40, .iload 7, 2, .int 0, 0, 0, 0, []), (42, .ifCond .lt 9, 3, .int 0, 51, 0, 0, []), (45, .iload 7, 2, .int 0, 0, 0, 0, []), (47, .i2l, 1, .int 0, 0, 0, 0, []), (48, .goto 9, 3, .int 0, 57, 0, 0, []), (51, .aload_n 3, 1, .int 0, 0, 0, 0, []), (52, .iconst (-1), 1, .int (-1), 0, 0, 0, []), (53, .iload 7, 2, .int 0, 0, 0, 0, []), (55, .isub, 1, .int 0, 0, 0, 0, []), (56, .laload, 1, .int 0, 0, 0, 0, []), (57, .lastore, 1, .int 0, 0, 0, 0, []), (58, .iinc 5 1, 3, .int 1, 0, 0, 0, []), (61, .goto 67, 3, .int 0, 128, 0, 0, []), (64, .iload 7, 2, .int 0, 0, 0, 0, []), (66, .bipush (-32), 2, .int (-32), 0, 0, 0, []), (68, .if_icmp .ne 27, 3, .int 0, 95, 0, 0, []), (71, .iload 5, 2, .int 0, 0, 0, 0, []), (73, .ifCond .le 55, 3, .int 0, 128, 0, 0, []), (76, .aload 4, 2, .int 0, 0, 0, 0, []), (78, .iload 5, 2, .int 0, 0, 0, 0, []), (80, .iconst 1, 1, .int 1, 0, 0, 0, []), (81, .isub, 1, .int 0, 0, 0, 0, []), (82, .lconst 1, 1, .long 1, 0, 0, 0, []), (83, .aload 4, 2, .int 0, 0, 0, 0, []), (85, .iload 5, 2, .int 0, 0, 0, 0, []), (87, .iconst 1, 1, .int 1, 0, 0, 0, []), (88, .isub, 1, .int 0, 0, 0, 0, []), (89, .laload, 1, .int 0, 0, 0, 0, []), (90, .lsub, 1, .int 0, 0, 0, 0, []), (91, .lastore, 1, .int 0, 0, 0, 0, []), (92, .goto 36, 3, .int 0, 128, 0, 0, []), (95, .iload 5, 2, .int 0, 0, 0, 0, []), (97, .iconst 1, 1, .int 1, 0, 0, 0, []), (98, .if_icmp .le 30, 3, .int 0, 128, 0, 0, []), (101, .iinc 5 (-1), 3, .int (-1), 0, 0, 0, []), (104, .aload 4, 2, .int 0, 0, 0, 0, []), (106, .iload 5, 2, .int 0, 0, 0, 0, []), (108, .iconst 1, 1, .int 1, 0, 0, 0, []), (109, .isub, 1, .int 0, 0, 0, 0, []), (110, .iload 7, 2, .int 0, 0, 0, 0, []), (112, .aload 4, 2, .int 0, 0, 0, 0, []), (114, .iload 5, 2, .int 0, 0, 0, 0, []), (116, .iconst 1, 1, .int 1, 0, 0, 0, []), (117, .isub, 1, .int 0, 0, 0, 0, []), (118, .laload, 1, .int 0, 0, 0, 0, []), (119, .aload 4, 2, .int 0, 0, 0, 0, []), (121, .iload 5, 2, .int 0, 0, 0, 0, []), (123, .laload, 1, .int 0, 0, 0, 0, []), (124, .invokestatic 26, 3, .int 0, 55, 3, 83, [(0, 6), (0, 2)]), (127, .lastore, 1, .int 0, 0, 0, 0, []), (128, .iinc 6 1, 3, .int 1, 0, 0, 0, []), (131, .goto (-125), 3, .int 0, 6, 0, 0, []), (134, .aload 4, 2, .int 0, 0, 0, 0, []), (136, .iconst 0, 1, .int 0, 0, 0, 0, []), (137, .laload, 1, .int 0, 0, 0, 0, []), (138, .lreturn, 1, .int 0, 0, 0, 0, [])]
set_option maxRecDepth 100000 in
theorem okX6_work : codeOk 54 kX6_work := ⟨_, rfl, by decide +kernel⟩
def kX6_joined : List AI := [(0, .iload_n 0, 1, .int 0, 0, 0, 0, []), (1, .tableswitch 163 (-30) (-20) #[159, 147, 135, 123, 111, 99, 85, 71, 67, 63, 59], 59, .int 0, 164, 0, 0, [((-30), 160), ((-29), 148), ((-28), 136), ((-27), 124), ((-26), 112), ((-25), 100), ((-24), 86), ((-23), 72), ((-22), 68), ((-21), 64), ((-20), 60)]), (60, .lload_n 1, 1, .int 0, 0, 0, 0, []), (61, .lload_n 3, 1, .int 0, 0, 0, 0, []), (62, .ladd, 1, .int 0, 0, 0, 0, []), (63, .lreturn, 1, .int 0, 0, 0, 0, []), (64, .lload_n 1, 1, .int 0, 0, 0, 0, []), (65, .lload_n 3, 1, .int 0, 0, 0, 0, []), (66, .lsub, 1, .int 0, 0, 0, 0, []), (67, .lreturn, 1, .int 0, 0, 0, 0, []), (68, .lload_n 1, 1, .int 0, 0, 0, 0, []), (69, .lload_n 3, 1, .int 0, 0, 0, 0, []), (70, .lmul, 1, .int 0, 0, 0, 0, []), (71, .lreturn, 1, .int 0, 0, 0, 0, []), (72, .lload_n 3, 1, .int 0, 0, 0, 0, []), (73, .lconst 0, 1, .long 0, 0, 0, 0, []), (74, .lcmp, 1, .int 0, 0, 0, 0, []), (75, .ifCond .ne 7, 3, .int 0, 82, 0, 0, []), (78, .lconst 0, 1, .long 0, 0, 0, 0, []), (79, .goto 6, 3, .int 0, 85, 0, 0, []), (82, .lload_n 1, 1, .int 0, 0, 0, 0, []), (83, .lload_n 3, 1, .int 0, 0, 0, 0, []), (84, .ldiv, 1, .int 0, 0, 0, 0, []), (85, .lreturn, 1, .int 0, 0, 0, 0, []), (86, .lload_n 3, 1, .int 0, 0, 0, 0, []), (87, .lconst 0, 1, .long 0, 0, 0, 0, []), (88, .lcmp, 1, .int 0, 0, 0, 0, []), (89, .ifCond .ne 7, 3, .int 0, 96, 0, 0, []), (92, .lconst 0, 1, .long 0, 0, 0, 0, []), (93, .goto 6, 3, .int 0, 99, 0, 0, []), (96, .lload_n 1, 1, .int 0, 0, 0, 0, []), (97, .lload_n 3, 1, .int 0, 0, 0, 0, []), (98, .lrem, 1, .int 0, 0, 0, 0, []), (99, .lreturn, 1, .int 0, 0, 0, 0, []), (100, .lload_n 1, 1, .int 0, 0, 0, 0, []), (101, .lload_n 3, 1, .int 0, 0, 0, 0, []), (102, .lcmp, 1, .int 0, 0, 0, 0, []), (103, .ifCond .ge 7, 3, .int 0, 110, 0, 0, []), (106, .lconst 1, 1, .long 1, 0, 0, 0, []), (107, .goto 4, 3, .int 0, 111, 0, 0, []), (110, .lconst 0, 1, .long 0, 0, 0, 0, []), (111, .lreturn, 1, .int 0, 0, 0, 0, []), (112, .lload_n 1, 1, .int 0, 0, 0, 0, []), (113, .lload_n 3, 1, .int 0, 0, 0, 0, []), (114, .lcmp, 1, .int 0, 0, 0, 0, []), (115, .ifCond .gt 7, 3, .int 0, 122, 0, 0, []), (118, .lconst 1, 1, .long 1, 0, 0, 0, []), (119, .goto 4, 3, .int 0, 123, 0, 0, []), (122, .lconst 0, 1, .long 0, 0, 0, 0, []), (123, .lreturn, 1, .int 0, 0, 0, 0, []), (124, .lload_n 1, 1, .int 0, 0, 0, 0, []), (125, .lload_n 3, 1, .int 0, 0, 0, 0, []), (126, .lcmp, 1, .int 0, 0, 0, 0, []), (127, .ifCond .ne 7, 3, .int 0, 134, 0, 0, []), (130, .lconst 1, 1, .long 1, 0, 0, 0, []), (131, .goto 4, 3, .int 0, 135, 0, 0, []), (134, .lconst 0, 1, .long 0, 0, 0, 0, []), (135, .lreturn, 1, .int 0, 0, 0, 0, []), (136, .lload_n 1, 1, .int 0, 0, 0, 0, []), (137, .lload_n 3, 1, .int 0, 0, 0, 0, []), (138, .lcmp, 1, .int 0, 0, 0, 0, []), (139, .ifCond .lt 7, 3, .int 0, 146, 0, 0, []), (142, .lconst 1, 1, .long 1, 0, 0, 0, []), (143, .goto 4, 3, .int 0, 147, 0, 0, []), (146, .lconst 0, 1, .long 0, 0, 0, 0, []), (147, .lreturn, 1, .int 0, 0, 0, 0, []), (148, .lload_n 1, 1, .int 0, 0, 0, 0, []), (149, .lload_n 3, 1, .int 0, 0, 0, 0, []), (150, .lcmp, 1, .int 0, 0, 0, 0, []), (151, .ifCond .le 7, 3, .int 0, 158, 0, 0, []), (154, .lconst 1, 1, .long 1, 0, 0, 0, []), (155, .goto 4, 3, .int 0, 159, 0, 0, []), (158, .lconst 0, 1, .long 0, 0, 0, 0, []), (159, .lreturn, 1, .int 0, 0, 0, 0, []), (160, .lload_n 1, 1, .int 0, 0, 0, 0, []), (161, .lload_n 3, 1, .int 0, 0, 0, 0, []), (162, .land, 1, .int 0, 0, 0, 0, []), (163, .lreturn, 1, .int 0, 0, 0, 0, []), (164, .lload_n 1, 1, .int 0, 0, 0, 0, []), (165, .lload_n 3, 1, .int 0, 0, 0, 0, []), (166, .lor, 1, .int 0, 0, 0, 0, []), (167, .lreturn, 1, .int 0, 0, 0, 0, [])]
set_option maxRecDepth 100000 in
theorem okX6_joined : codeOk 55 kX6_joined := ⟨_, rfl, by decide +kernel⟩
def kX7_init : List AI := [(0, .aload_n 0, 1, .int 0, 0, 0, 0, []), (1, .invokespecial 3, 3, .int 0, 1000, 0, 1, [(0, 7)]), (4, .aload_n 0, 1, .int 0, 0, 0, 0, []), (5, .new 9, 3, .int 0, 8, 0, 2, []), (8, .dup, 1, .int 0, 0, 0, 0, []), (9, .invokespecial 11, 3, .long 0, 73, 1, 1, [(0, 8), (0, 0)]), (12, .putfield 12, 3, .ref 0, 7, 0, 14, []), (15, .aload_n 0, 1, .int 0, 0, 0, 0, []), (16, .sipush 400, 3, .int 400, 0, 0, 0, []), (19, .newarray .int, 2, .int 0, 0, 0, 0, []), (21, .putfield 18, 3, .ref 0, 7, 1, 16, []), (24, .aload_n 0, 1, .int 0, 0, 0, 0, []), (25, .bipush 35, 2, .int 35, 0, 0, 0, []), (27, .newarray .int, 2, .int 0, 0, 0, 0, []), (29, .putfield 22, 3, .ref 0, 7, 2, 17, []), (32, .aload_n 0, 1, .int 0, 0, 0, 0, []), (33, .bipush 25, 2, .int 25, 0, 0, 0, []), (35, .newarray .int, 2, .int 0, 0, 0, 0, []), (37, .putfield 25, 3, .ref 0, 7, 3, 18, []), (40, .aload_n 0, 1, .int 0, 0, 0, 0, []), (41, .iconst 0, 1, .int 0, 0, 0, 0, []), (42, .putfield 28, 3, .int 0, 7, 4, 19, []), (45, .aload_n 0, 1, .int 0, 0, 0, 0, []), (46, .iconst 0, 1, .int 0, 0, 0, 0, []), (47, .putfield 32, 3, .int 0, 7, 5, 20, []), (50, .aload_n 0, 1, .int 0, 0, 0, 0, []), (51, .iconst 0, 1, .int 0, 0, 0, 0, []), (52, .putfield 35, 3, .int 0, 7, 6, 21, []), (55, .aload_n 0, 1, .int 0, 0, 0, 0, []), (56, .iconst 0, 1, .int 0, 0, 0, 0, []), (57, .putfield 38, 3, .int 0, 7, 7, 22, []), (60, .aload_n 0, 1, .int 0, 0, 0, 0, []), (61, .iconst 0, 1, .int 0, 0, 0, 0, []), (62, .putfield 41, 3, .int 0, 7, 8, 23, []), (65, .aload_n 0, 1, .int 0, 0, 0, 0, []), (66, .iconst 0, 1, .int 0, 0, 0, 0, []), (67, .putfield 44, 3, .int 0, 7, 9, 24, []), (70, .aload_n 0, 1, .int 0, 0, 0, 0, []), (71, .iconst 0, 1, .int 0, 0, 0, 0, []), (72, .putfield 47, 3, .int 0, 7, 10, 25, []), (75, .return_, 1, .int 0, 0, 0, 0, [])]
set_option maxRecDepth 100000 in
theorem okX7_init : codeOk 56 kX7_init := ⟨_, rfl, by decide +kernel⟩
def kX7_read : List AI := [(0, .aload_n 0, 1, .int 0, 0, 0, 0, []), (1, .getfield 12, 3, .ref 0, 7, 0, 14, []), (4, .invokevirtual 50, 3, .int 0, 75, 1, 36, [(0, 8), (0, 0)]), (7, .aload_n 0, 1, .int 0, 0, 0, 0, []), (8, .iconst 0, 1, .int 0, 0, 0, 0, []), (9, .putfield 28, 3, .int 0, 7, 4, 19, []), (12, .aload_n 0, 1, .int 0, 0, 0, 0, []), (13, .iconst 0, 1, .int 0, 0, 0, 0, []), (14, .putfield 32, 3, .int 0, 7, 5, 20, []), (17, .aload_n 0, 1, .int 0, 0, 0, 0, []), (18, .iconst 0, 1, .int 0, 0, 0, 0, []), (19, .putfield 35, 3, .int 0, 7, 6, 21, []), (22, .aload_n 0, 1, .int 0, 0, 0, 0, []), (23, .iconst 0, 1, .int 0, 0, 0, 0, []), (24, .putfield 38, 3, .int 0, 7, 7, 22, []), (27, .aload_n 0, 1, .int 0, 0, 0, 0, []), (28, .iconst 0, 1, .int 0, 0, 0, 0, []), (29, .putfield 41, 3, .int 0, 7, 8, 23, []), (32, .aload_n 0, 1, .int 0, 0, 0, 0, []), (33, .iconst 0, 1, .int 0, 0, 0, 0, []), (34, .putfield 44, 3, .int 0, 7, 9, 24, []), (37, .aload_n 0, 1, .int 0, 0, 0, 0, []), (38, .iconst 0, 1, .int 0, 0, 0, 0, []), (39, .putfield 47, 3, .int 0, 7, 10, 25, []), (42, .iconst 0, 1, .int 0, 0, 0, 0, []), (43, .istore_n 1, 1, .int 0, 0, 0, 0, []), (44, .iload_n 1, 1, .int 0, 0, 0, 0, []), (45, .sipush 400, 3, .int 400, 0, 0, 0, []), (48, .if_icmp .gt 39, 3, .int 0, 87, 0, 0, []), (51, .aload_n 0, 1, .int 0, 0, 0, 0, []), (52, .getfield 12, 3, .ref 0, 7, 0, 14, []), (55, .getfield 53, 3, .int 0, 8, 2, 5, []), (58, .ifCond .ne 29, 3, .int 0, 87, 0, 0, []), (61, .aload_n 0, 1, .int 0, 0, 0, 0, []), (62, .getfield 47, 3, .int 0, 7, 10, 25, []), (65, .bipush 9, 2, .int 9, 0, 0, 0, []), (67, .if_icmp .eq 20, 3, .int 0, 87, 0, 0, []), (70, .aload_n 0, 1, .int 0, 0, 0, 0, []), (71, .invokevirtual 56, 3, .int 0, 58, 1, 37, [(0, 7), (0, 0)]), (74, .aload_n 0, 1, .int 0, 0, 0, 0, []), (75, .getfield 12, 3, .ref 0, 7, 0, 14, []), (78, .invokevirtual 59, 3, .int 0, 79, 1, 57, [(0, 8), (0, 0)]), (81, .iinc 1 1, 3, .int 1, 0, 0, 0, []), (84, .goto (-40), 3, .int 0, 44, 0, 0, []), (87, .aload_n 0, 1, .int 0, 0, 0, 0, []), (88, .getfield 12, 3, .ref 0, 7, 0, 14, []), (91, .getfield 53, 3, .int 0, 8, 2, 5, []), (94, .ifCond .eq 5, 3, .int 0, 99, 0, 0, []), (97, .aconst_null, 1, .int 0, 0, 0, 0, []), (98, .areturn, 1, .int 0, 0, 0, 0, []), (99, .new 62, 3, .int 0, 6, 0, 18, []), (102, .dup, 1, .int 0, 0, 0, 0, []), (103, .aload_n 0, 1, .int 0, 0, 0, 0, []), (104, .getfield 18, 3, .ref 0, 7, 1, 16, []), (107, .aload_n 0, 1, .int 0, 0, 0, 0, []), (108, .getfield 28, 3, .int 0, 7, 4, 19, []), (111, .invokestatic 64, 3, .long 0, 247, 2, 58, [(0, 99), (0, 3)]), (114, .aload_n 0, 1, .int 0, 0, 0, 0, []), (115, .getfield 25, 3, .ref 0, 7, 3, 18, []), (118, .iconst 2, 1, .int 2, 0, 0, 0, []), (119, .aload_n 0, 1, .int 0, 0, 0, 0, []), (120, .getfield 44, 3, .int 0, 7, 9, 24, []), (123, .imul, 1, .int 0, 0, 0, 0, []), (124, .iconst 1, 1, .int 1, 0, 0, 0, []), (125, .iadd, 1, .int 0, 0, 0, 0, []), (126, .invokestatic 64, 3, .long 0, 247, 2, 58, [(0, 99), (0, 3)]), (129, .aload_n 0, 1, .int 0, 0, 0, 0, []), (130, .getfield 44, 3, .int 0, 7, 9, 24, []), (133, .invokespecial 70, 3, .int 0, 50, 4, 59, [(0, 6), (0, 0)]), (136, .areturn, 1, .int 0, 0, 0, 0, [])]
set_option maxRecDepth 100000 in
theorem okX7_read : codeOk 57 kX7_read := ⟨_, rfl, by decide +kernel⟩
def kX7_takeOne : List AI := [(0, .aload_n 0, 1, .int 0, 0, 0, 0, []), (1, .getfield 47, 3, .int 0, 7, 10, 25, []), (4, .tableswitch 75 0 7 #[48, 55, 75, 55, 75, 55, 75, 68], 48, .int 0, 79, 0, 0, [(0, 52), (1, 59), (2, 79), (3, 59), (4, 79), (5, 59), (6, 79), (7, 72)]), (52, .aload_n 0, 1, .int 0, 0, 0, 0, []), (53, .invokevirtual 73, 3, .int 0, 59, 1, 38, [(0, 7), (0, 0)]), (56, .goto 27, 3, .int 0, 83, 0, 0, []), (59, .aload_n 0, 1, .int 0, 0, 0, 0, []), (60, .aload_n 0, 1, .int 0, 0, 0, 0, []), (61, .getfield 47, 3, .int 0, 7, 10, 25, []), (64, .iconst 1, 1, .int 1, 0, 0, 0, []), (65, .iadd, 1, .int 0, 0, 0, 0, []), (66, .invokevirtual 76, 3, .int 0, 60, 2, 41, [(0, 7), (0, 0)]), (69, .goto 14, 3, .int 0, 83, 0, 0, []), (72, .aload_n 0, 1, .int 0, 0, 0, 0, []), (73, .invokevirtual 80, 3, .int 0, 61, 1, 44, [(0, 7), (0, 0)]), (76, .goto 7, 3, .int 0, 83, 0, 0, []), (79, .aload_n 0, 1, .int 0, 0, 0, 0, []), (80, .invokevirtual 83, 3, .int 0, 62, 1, 47, [(0, 7), (0, 0)]), (83, .return_, 1, .int 0, 0, 0, 0, [])]
set_option maxRecDepth 100000 in
theorem okX7_takeOne : codeOk 58 kX7_takeOne := ⟨_, rfl, by decide +kernel⟩
def kX7_takeRun : List AI := [(0, .aload_n 0, 1, .int 0, 0, 0, 0, []), (1, .getfield 12, 3, .ref 0, 7, 0, 14, []), (4, .bipush 13, 2, .int 13, 0, 0, 0, []), (6, .invokevirtual 86, 3, .int 0, 77, 2, 39, [(0, 8), (0, 1)]), (9, .ifCond .ne 14, 3, .int 0, 23, 0, 0, []), (12, .aload_n 0, 1, .int 0, 0, 0, 0, []), (13, .getfield 12, 3, .ref 0, 7, 0, 14, []), (16, .iconst 0, 1, .int 0, 0, 0, 0, []), (17, .invokevirtual 90, 3, .int 0, 76, 2, 40, [(0, 8), (0, 0)]), (20, .goto 28, 3, .int 0, 48, 0, 0, []), (23, .aload_n 0, 1, .int 0, 0, 0, 0, []), (24, .getfield 44, 3, .int 0, 7, 9, 24, []), (27, .bipush 12, 2, .int 12, 0, 0, 0, []), (29, .if_icmp .lt 14, 3, .int 0, 43, 0, 0, []), (32, .aload_n 0, 1, .int 0, 0, 0, 0, []), (33, .getfield 12, 3, .ref 0, 7, 0, 14, []), (36, .iconst 4, 1, .int 4, 0, 0, 0, []), (37, .invokevirtual 90, 3, .int 0, 76, 2, 40, [(0, 8), (0, 0)]), (40, .goto 8, 3, .int 0, 48, 0, 0, []), (43, .aload_n 0, 1, .int 0, 0, 0, 0, []), (44, .iconst 1, 1, .int 1, 0, 0, 0, []), (45, .putfield 47, 3, .int 0, 7, 10, 25, []), (48, .return_, 1, .int 0, 0, 0, 0, [])]
set_option maxRecDepth 100000 in
theorem okX7_takeRun : codeOk 59 kX7_takeRun := ⟨_, rfl, by decide +kernel⟩
def kX7_takeValue : List AI := [(0, .aload_n 0, 1, .int 0, 0, 0, 0, []), (1, .getfield 12, 3, .ref 0, 7, 0, 14, []), (4, .getfield 93, 3, .int 0, 8, 4, 10, []), (7, .iconst 1, 1, .int 1, 0, 0, 0, []), (8, .if_icmp .ne 7, 3, .int 0, 15, 0, 0, []), (11, .iconst 1, 1, .int 1, 0, 0, 0, []), (12, .goto 4, 3, .int 0, 16, 0, 0, []), (15, .iconst 0, 1, .int 0, 0, 0, 0, []), (16, .istore_n 2, 1, .int 0, 0, 0, 0, []), (17, .aload_n 0, 1, .int 0, 0, 0, 0, []), (18, .getfield 12, 3, .ref 0, 7, 0, 14, []), (21, .getfield 93, 3, .int 0, 8, 4, 10, []), (24, .iconst 2, 1, .int 2, 0, 0, 0, []), (25, .if_icmp .ne 29, 3, .int 0, 54, 0, 0, []), (28, .aload_n 0, 1, .int 0, 0, 0, 0, []), (29, .getfield 12, 3, .ref 0, 7, 0, 14, []), (32, .getfield 96, 3, .int 0, 8, 5, 12, []), (35, .ifCond .lt 19, 3, .int 0, 54, 0, 0, []), (38, .aload_n 0, 1, .int 0, 0, 0, 0, []), (39, .getfield 12, 3, .ref 0, 7, 0, 14, []), (42, .getfield 96, 3, .int 0, 8, 5, 12, []), (45, .bipush 12, 2, .int 12, 0, 0, 0, []), (47, .if_icmp .ge 7, 3, .int 0, 54, 0, 0, []), (50, .iconst 1, 1, .int 1, 0, 0, 0, []), (51, .goto 4, 3, .int 0, 55, 0, 0, []), (54, .iconst 0, 1, .int 0, 0, 0, 0, []), (55, .istore_n 3, 1, .int 0, 0, 0, 0, []), (56, .iload_n 2, 1, .int 0, 0, 0, 0, []), (57, .ifCond .ne 18, 3, .int 0, 75, 0, 0, []), (60, .iload_n 3, 1, .int 0, 0, 0, 0, []), (61, .ifCond .ne 14, 3, .int 0, 75, 0, 0, []), (64, .aload_n 0, 1, .int 0, 0, 0, 0, []), (65, .getfield 12, 3, .ref 0, 7, 0, 14, []), (68, .iconst 0, 1, .int 0, 0, 0, 0, []), (69, .invokevirtual 90, 3, .int 0, 76, 2, 40, [(0, 8), (0, 0)]), (72, .goto 60, 3, .int 0, 132, 0, 0, []), (75, .aload_n 0, 1, .int 0, 0, 0, 0, []), (76, .getfield 12, 3, .ref 0, 7, 0, 14, []), (79, .getfield 96, 3, .int 0, 8, 5, 12, []), (82, .ifCond .ge 14, 3, .int 0, 96, 0, 0, []), (85, .aload_n 0, 1, .int 0, 0, 0, 0, []), (86, .getfield 12, 3, .ref 0, 7, 0, 14, []), (89, .iconst 1, 1, .int 1, 0, 0, 0, []), (90, .invokevirtual 90, 3, .int 0, 76, 2, 40, [(0, 8), (0, 0)]), (93, .goto 39, 3, .int 0, 132, 0, 0, []), (96, .aload_n 0, 1, .int 0, 0, 0, 0, []), (97, .invokevirtual 99, 3, .int 0, 72, 1, 42, [(0, 7), (0, 0)]), (100, .aload_n 0, 1, .int 0, 0, 0, 0, []), (101, .iload_n 2, 1, .int 0, 0, 0, 0, []), (102, .ifCond .eq 13, 3, .int 0, 115, 0, 0, []), (105, .aload_n 0, 1, .int 0, 0, 0, 0, []), (106, .getfield 12, 3, .ref 0, 7, 0, 14, []), (109, .getfield 96, 3, .int 0, 8, 5, 12, []), (112, .goto 12, 3, .int 0, 124, 0, 0, []), (115, .iconst (-1), 1, .int (-1), 0, 0, 0, []), (116, .aload_n 0, 1, .int 0, 0, 0, 0, []), (117, .getfield 12, 3, .ref 0, 7, 0, 14, []), (120, .getfield 96, 3, .int 0, 8, 5, 12, []), (123, .isub, 1, .int 0, 0, 0, 0, []), (124, .invokevirtual 102, 3, .int 0, 71, 2, 43, [(0, 7), (0, 0)]), (127, .aload_n 0, 1, .int 0, 0, 0, 0, []), (128, .iload_n 1, 1, .int 0, 0, 0, 0, []), (129, .putfield 47, 3, .int 0, 7, 10, 25, []), (132, .return_, 1, .int 0, 0, 0, 0, [])]
set_option maxRecDepth 100000 in
theorem okX7_takeValue : codeOk 60 kX7_takeValue := ⟨_, rfl, by decide +kernel⟩
def kX7_takeFact : List AI := [(0, .aload_n 0, 1, .int 0, 0, 0, 0, []), (1, .getfield 12, 3, .ref 0, 7, 0, 14, []), (4, .bipush 17, 2, .int 17, 0, 0, 0, []), (6, .invokevirtual 86, 3, .int 0, 77, 2, 39, [(0, 8), (0, 1)]), (9, .ifCond .ne 23, 3, .int 0, 32, 0, 0, []), (12, .aload_n 0, 1, .int 0, 0, 0, 0, []), (13, .getfield 12, 3, .ref 0, 7, 0, 14, []), (16, .bipush 91, 2, .int 91, 0, 0, 0, []), (18, .invokevirtual 105, 3, .int 0, 78, 2, 45, [(0, 8), (0, 1)]), (21, .ifCond .ne 11, 3, .int 0, 32, 0, 0, []), (24, .aload_n 0, 1, .int 0, 0, 0, 0, []), (25, .iconst 4, 1, .int 4, 0, 0, 0, []), (26, .invokevirtual 76, 3, .int 0, 60, 2, 41, [(0, 7), (0, 0)]), (29, .goto 82, 3, .int 0, 111, 0, 0, []), (32, .aload_n 0, 1, .int 0, 0, 0, 0, []), (33, .getfield 35, 3, .int 0, 7, 6, 21, []), (36, .bipush 10, 2, .int 10, 0, 0, 0, []), (38, .if_icmp .lt 14, 3, .int 0, 52, 0, 0, []), (41, .aload_n 0, 1, .int 0, 0, 0, 0, []), (42, .getfield 12, 3, .ref 0, 7, 0, 14, []), (45, .iconst 2, 1, .int 2, 0, 0, 0, []), (46, .invokevirtual 90, 3, .int 0, 76, 2, 40, [(0, 8), (0, 0)]), (49, .goto 62, 3, .int 0, 111, 0, 0, []), (52, .aload_n 0, 1, .int 0, 0, 0, 0, []), (53, .dup, 1, .int 0, 0, 0, 0, []), (54, .getfield 35, 3, .int 0, 7, 6, 21, []), (57, .iconst 1, 1, .int 1, 0, 0, 0, []), (58, .iadd, 1, .int 0, 0, 0, 0, []), (59, .putfield 35, 3, .int 0, 7, 6, 21, []), (62, .aload_n 0, 1, .int 0, 0, 0, 0, []), (63, .dup, 1, .int 0, 0, 0, 0, []), (64, .getfield 38, 3, .int 0, 7, 7, 22, []), (67, .aload_n 0, 1, .int 0, 0, 0, 0, []), (68, .getfield 12, 3, .ref 0, 7, 0, 14, []), (71, .bipush 91, 2, .int 91, 0, 0, 0, []), (73, .invokevirtual 105, 3, .int 0, 78, 2, 45, [(0, 8), (0, 1)]), (76, .ifCond .eq 7, 3, .int 0, 83, 0, 0, []), (79, .iconst 1, 1, .int 1, 0, 0, 0, []), (80, .goto 4, 3, .int 0, 84, 0, 0, []), (83, .iconst 0, 1, .int 0, 0, 0, 0, []), (84, .iadd, 1, .int 0, 0, 0, 0, []), (85, .putfield 38, 3, .int 0, 7, 7, 22, []), (88, .aload_n 0, 1, .int 0, 0, 0, 0, []), (89, .aload_n 0, 1, .int 0, 0, 0, 0, []), (90, .getfield 12, 3, .ref 0, 7, 0, 14, []), (93, .bipush 91, 2, .int 91, 0, 0, 0, []), (95, .invokevirtual 105, 3, .int 0, 78, 2, 45, [(0, 8), (0, 1)]), (98, .ifCond .eq 8, 3, .int 0, 106, 0, 0, []), (101, .bipush (-33), 2, .int (-33), 0, 0, 0, []), (103, .goto 5, 3, .int 0, 108, 0, 0, []), (106, .bipush (-32), 2, .int (-32), 0, 0, 0, []), (108, .invokevirtual 109, 3, .int 0, 70, 2, 46, [(0, 7), (0, 0)]), (111, .return_, 1, .int 0, 0, 0, 0, [])]
set_option maxRecDepth 100000 in
theorem okX7_takeFact : codeOk 61 kX7_takeFact := ⟨_, rfl, by decide +kernel⟩
end
section
def kX7_goOn : List AI := [(0, .aload_n 0, 1, .int 0, 0, 0, 0, []), (1, .invokevirtual 112, 3, .int 0, 63, 1, 48, [(0, 7), (0, 1)]), (4, .istore_n 1, 1, .int 0, 0, 0, 0, []), (5, .iload_n 1, 1, .int 0, 0, 0, 0, []), (6, .invokestatic 116, 3, .int 0, 52, 1, 50, [(0, 6), (0, 1)]), (9, .istore_n 2, 1, .int 0, 0, 0, 0, []), (10, .aload_n 0, 1, .int 0, 0, 0, 0, []), (11, .getfield 47, 3, .int 0, 7, 10, 25, []), (14, .bipush 6, 2, .int 6, 0, 0, 0, []), (16, .if_icmp .eq 12, 3, .int 0, 28, 0, 0, []), (19, .aload_n 0, 1, .int 0, 0, 0, 0, []), (20, .getfield 47, 3, .int 0, 7, 10, 25, []), (23, .bipush 8, 2, .int 8, 0, 0, 0, []), (25, .if_icmp .ne 7, 3, .int 0, 32, 0, 0, []), (28, .iconst 1, 1, .int 1, 0, 0, 0, []), (29, .goto 4, 3, .int 0, 33, 0, 0, []), (32, .iconst 0, 1, .int 0, 0, 0, 0, []), (33, .istore_n 3, 1, .int 0, 0, 0, 0, []), (34, .iload_n 2, 1, .int 0, 0, 0, 0, []), (35, .iconst 5, 1, .int 5, 0, 0, 0, []), (36, .if_icmp .lt 30, 3, .int 0, 66, 0, 0, []), (39, .aload_n 0, 1, .int 0, 0, 0, 0, []), (40, .getfield 47, 3, .int 0, 7, 10, 25, []), (43, .bipush 8, 2, .int 8, 0, 0, 0, []), (45, .if_icmp .eq 21, 3, .int 0, 66, 0, 0, []), (48, .aload_n 0, 1, .int 0, 0, 0, 0, []), (49, .iload_n 1, 1, .int 0, 0, 0, 0, []), (50, .invokevirtual 120, 3, .int 0, 68, 2, 51, [(0, 7), (0, 0)]), (53, .aload_n 0, 1, .int 0, 0, 0, 0, []), (54, .dup, 1, .int 0, 0, 0, 0, []), (55, .getfield 47, 3, .int 0, 7, 10, 25, []), (58, .iconst 1, 1, .int 1, 0, 0, 0, []), (59, .isub, 1, .int 0, 0, 0, 0, []), (60, .putfield 47, 3, .int 0, 7, 10, 25, []), (63, .goto 167, 3, .int 0, 230, 0, 0, []), (66, .iload_n 2, 1, .int 0, 0, 0, 0, []), (67, .iconst 4, 1, .int 4, 0, 0, 0, []), (68, .if_icmp .ne 28, 3, .int 0, 96, 0, 0, []), (71, .aload_n 0, 1, .int 0, 0, 0, 0, []), (72, .getfield 47, 3, .int 0, 7, 10, 25, []), (75, .iconst 4, 1, .int 4, 0, 0, 0, []), (76, .if_icmp .ne 20, 3, .int 0, 96, 0, 0, []), (79, .aload_n 0, 1, .int 0, 0, 0, 0, []), (80, .invokevirtual 99, 3, .int 0, 72, 1, 42, [(0, 7), (0, 0)]), (83, .aload_n 0, 1, .int 0, 0, 0, 0, []), (84, .iload_n 1, 1, .int 0, 0, 0, 0, []), (85, .invokevirtual 120, 3, .int 0, 68, 2, 51, [(0, 7), (0, 0)]), (88, .aload_n 0, 1, .int 0, 0, 0, 0, []), (89, .iconst 5, 1, .int 5, 0, 0, 0, []), (90, .putfield 47, 3, .int 0, 7, 10, 25, []), (93, .goto 137, 3, .int 0, 230, 0, 0, []), (96, .iload_n 1, 1, .int 0, 0, 0, 0, []), (97, .bipush (-30), 2, .int (-30), 0, 0, 0, []), (99, .if_icmp .eq 9, 3, .int 0, 108, 0, 0, []), (102, .iload_n 1, 1, .int 0, 0, 0, 0, []), (103, .bipush (-31), 2, .int (-31), 0, 0, 0, []), (105, .if_icmp .ne 21, 3, .int 0, 126, 0, 0, []), (108, .iload_n 3, 1, .int 0, 0, 0, 0, []), (109, .ifCond .eq 17, 3, .int 0, 126, 0, 0, []), (112, .aload_n 0, 1, .int 0, 0, 0, 0, []), (113, .iload_n 1, 1, .int 0, 0, 0, 0, []), (114, .invokevirtual 120, 3, .int 0, 68, 2, 51, [(0, 7), (0, 0)]), (117, .aload_n 0, 1, .int 0, 0, 0, 0, []), (118, .bipush 7, 2, .int 7, 0, 0, 0, []), (120, .putfield 47, 3, .int 0, 7, 10, 25, []), (123, .goto 107, 3, .int 0, 230, 0, 0, []), (126, .aload_n 0, 1, .int 0, 0, 0, 0, []), (127, .getfield 12, 3, .ref 0, 7, 0, 14, []), (130, .bipush 14, 2, .int 14, 0, 0, 0, []), (132, .invokevirtual 86, 3, .int 0, 77, 2, 39, [(0, 8), (0, 1)]), (135, .ifCond .eq 24, 3, .int 0, 159, 0, 0, []), (138, .aload_n 0, 1, .int 0, 0, 0, 0, []), (139, .getfield 47, 3, .int 0, 7, 10, 25, []), (142, .iconst 2, 1, .int 2, 0, 0, 0, []), (143, .if_icmp .ne 16, 3, .int 0, 159, 0, 0, []), (146, .aload_n 0, 1, .int 0, 0, 0, 0, []), (147, .invokevirtual 123, 3, .int 0, 65, 1, 53, [(0, 7), (0, 0)]), (150, .aload_n 0, 1, .int 0, 0, 0, 0, []), (151, .bipush 7, 2, .int 7, 0, 0, 0, []), (153, .putfield 47, 3, .int 0, 7, 10, 25, []), (156, .goto 74, 3, .int 0, 230, 0, 0, []), (159, .aload_n 0, 1, .int 0, 0, 0, 0, []), (160, .getfield 12, 3, .ref 0, 7, 0, 14, []), (163, .bipush 93, 2, .int 93, 0, 0, 0, []), (165, .invokevirtual 105, 3, .int 0, 78, 2, 45, [(0, 8), (0, 1)]), (168, .ifCond .eq 21, 3, .int 0, 189, 0, 0, []), (171, .iload_n 3, 1, .int 0, 0, 0, 0, []), (172, .ifCond .eq 17, 3, .int 0, 189, 0, 0, []), (175, .aload_n 0, 1, .int 0, 0, 0, 0, []), (176, .getfield 38, 3, .int 0, 7, 7, 22, []), (179, .ifCond .le 10, 3, .int 0, 189, 0, 0, []), (182, .aload_n 0, 1, .int 0, 0, 0, 0, []), (183, .invokevirtual 126, 3, .int 0, 67, 1, 54, [(0, 7), (0, 0)]), (186, .goto 44, 3, .int 0, 230, 0, 0, []), (189, .aload_n 0, 1, .int 0, 0, 0, 0, []), (190, .invokevirtual 129, 3, .int 0, 64, 1, 55, [(0, 7), (0, 1)]), (193, .ifCond .eq 29, 3, .int 0, 222, 0, 0, []), (196, .iload_n 3, 1, .int 0, 0, 0, 0, []), (197, .ifCond .eq 10, 3, .int 0, 207, 0, 0, []), (200, .aload_n 0, 1, .int 0, 0, 0, 0, []), (201, .getfield 38, 3, .int 0, 7, 7, 22, []), (204, .ifCond .eq 11, 3, .int 0, 215, 0, 0, []), (207, .aload_n 0, 1, .int 0, 0, 0, 0, []), (208, .getfield 47, 3, .int 0, 7, 10, 25, []), (211, .iconst 2, 1, .int 2, 0, 0, 0, []), (212, .if_icmp .ne 10, 3, .int 0, 222, 0, 0, []), (215, .aload_n 0, 1, .int 0, 0, 0, 0, []), (216, .invokevirtual 133, 3, .int 0, 66, 1, 56, [(0, 7), (0, 0)]), (219, .goto 11, 3, .int 0, 230, 0, 0, []), (222, .aload_n 0, 1, .int 0, 0, 0, 0, []), (223, .getfield 12, 3, .ref 0, 7, 0, 14, []), (226, .iconst 0, 1, .int 0, 0, 0, 0, []), (227, .invokevirtual 90, 3, .int 0, 76, 2, 40, [(0, 8), (0, 0)]), (230, .return_, 1, .int 0, 0, 0, 0, [])]
set_option maxRecDepth 100000 in
theorem okX7_goOn : codeOk 62 kX7_goOn := ⟨_, rfl, by decide +kernel⟩
def kX7_stepOfToken : List AI := [(0, .aload_n 0, 1, .int 0, 0, 0, 0, []), (1, .getfield 12, 3, .ref 0, 7, 0, 14, []), (4, .getfield 93, 3, .int 0, 8, 4, 10, []), (7, .iconst 3, 1, .int 3, 0, 0, 0, []), (8, .if_icmp .ne 14, 3, .int 0, 22, 0, 0, []), (11, .aload_n 0, 1, .int 0, 0, 0, 0, []), (12, .getfield 12, 3, .ref 0, 7, 0, 14, []), (15, .getfield 96, 3, .int 0, 8, 5, 12, []), (18, .invokestatic 136, 3, .int 0, 51, 1, 49, [(0, 6), (0, 1)]), (21, .ireturn, 1, .int 0, 0, 0, 0, []), (22, .aload_n 0, 1, .int 0, 0, 0, 0, []), (23, .getfield 12, 3, .ref 0, 7, 0, 14, []), (26, .bipush 15, 2, .int 15, 0, 0, 0, []), (28, .invokevirtual 86, 3, .int 0, 77, 2, 39, [(0, 8), (0, 1)]), (31, .ifCond .eq 6, 3, .int 0, 37, 0, 0, []), (34, .bipush (-30), 2, .int (-30), 0, 0, 0, []), (36, .ireturn, 1, .int 0, 0, 0, 0, []), (37, .aload_n 0, 1, .int 0, 0, 0, 0, []), (38, .getfield 12, 3, .ref 0, 7, 0, 14, []), (41, .bipush 16, 2, .int 16, 0, 0, 0, []), (43, .invokevirtual 86, 3, .int 0, 77, 2, 39, [(0, 8), (0, 1)]), (46, .ifCond .eq 8, 3, .int 0, 54, 0, 0, []), (49, .bipush (-31), 2, .int (-31), 0, 0, 0, []), (51, .goto 5, 3, .int 0, 56, 0, 0, []), (54, .bipush (-19), 2, .int (-19), 0, 0, 0, []), (56, .ireturn, 1, .int 0, 0, 0, 0, [])]
set_option maxRecDepth 100000 in
theorem okX7_stepOfToken : codeOk 63 kX7_stepOfToken := ⟨_, rfl, by decide +kernel⟩
def kX7_isClauseEnd : List AI := [(0, .aload_n 0, 1, .int 0, 0, 0, 0, []), (1, .getfield 12, 3, .ref 0, 7, 0, 14, []), (4, .getfield 93, 3, .int 0, 8, 4, 10, []), (7, .ifCond .eq 15, 3, .int 0, 22, 0, 0, []), (10, .aload_n 0, 1, .int 0, 0, 0, 0, []), (11, .getfield 12, 3, .ref 0, 7, 0, 14, []), (14, .bipush 59, 2, .int 59, 0, 0, 0, []), (16, .invokevirtual 105, 3, .int 0, 78, 2, 45, [(0, 8), (0, 1)]), (19, .ifCond .eq 7, 3, .int 0, 26, 0, 0, []), (22, .iconst 1, 1, .int 1, 0, 0, 0, []), (23, .goto 4, 3, .int 0, 27, 0, 0, []), (26, .iconst 0, 1, .int 0, 0, 0, 0, []), (27, .ireturn, 1, .int 0, 0, 0, 0, [])]
set_option maxRecDepth 100000 in
theorem okX7_isClauseEnd : codeOk 64 kX7_isClauseEnd := ⟨_, rfl, by decide +kernel⟩
def kX7_endSum : List AI := [(0, .aload_n 0, 1, .int 0, 0, 0, 0, []), (1, .iconst 0, 1, .int 0, 0, 0, 0, []), (2, .invokevirtual 139, 3, .int 0, 69, 2, 52, [(0, 7), (0, 0)]), (5, .aload_n 0, 1, .int 0, 0, 0, 0, []), (6, .getfield 25, 3, .ref 0, 7, 3, 18, []), (9, .iconst 2, 1, .int 2, 0, 0, 0, []), (10, .aload_n 0, 1, .int 0, 0, 0, 0, []), (11, .getfield 44, 3, .int 0, 7, 9, 24, []), (14, .imul, 1, .int 0, 0, 0, 0, []), (15, .iconst 1, 1, .int 1, 0, 0, 0, []), (16, .iadd, 1, .int 0, 0, 0, 0, []), (17, .aload_n 0, 1, .int 0, 0, 0, 0, []), (18, .getfield 28, 3, .int 0, 7, 4, 19, []), (21, .iastore, 1, .int 0, 0, 0, 0, []), (22, .return_, 1, .int 0, 0, 0, 0, [])]
set_option maxRecDepth 100000 in
theorem okX7_endSum : codeOk 65 kX7_endSum := ⟨_, rfl, by decide +kernel⟩
def kX7_endClause : List AI := [(0, .aload_n 0, 1, .int 0, 0, 0, 0, []), (1, .getfield 47, 3, .int 0, 7, 10, 25, []), (4, .iconst 2, 1, .int 2, 0, 0, 0, []), (5, .if_icmp .ne 7, 3, .int 0, 12, 0, 0, []), (8, .aload_n 0, 1, .int 0, 0, 0, 0, []), (9, .invokevirtual 123, 3, .int 0, 65, 1, 53, [(0, 7), (0, 0)]), (12, .aload_n 0, 1, .int 0, 0, 0, 0, []), (13, .iconst 0, 1, .int 0, 0, 0, 0, []), (14, .invokevirtual 139, 3, .int 0, 69, 2, 52, [(0, 7), (0, 0)]), (17, .aload_n 0, 1, .int 0, 0, 0, 0, []), (18, .getfield 25, 3, .ref 0, 7, 3, 18, []), (21, .iconst 2, 1, .int 2, 0, 0, 0, []), (22, .aload_n 0, 1, .int 0, 0, 0, 0, []), (23, .getfield 44, 3, .int 0, 7, 9, 24, []), (26, .imul, 1, .int 0, 0, 0, 0, []), (27, .iconst 2, 1, .int 2, 0, 0, 0, []), (28, .iadd, 1, .int 0, 0, 0, 0, []), (29, .aload_n 0, 1, .int 0, 0, 0, 0, []), (30, .getfield 28, 3, .int 0, 7, 4, 19, []), (33, .iastore, 1, .int 0, 0, 0, 0, []), (34, .aload_n 0, 1, .int 0, 0, 0, 0, []), (35, .dup, 1, .int 0, 0, 0, 0, []), (36, .getfield 44, 3, .int 0, 7, 9, 24, []), (39, .iconst 1, 1, .int 1, 0, 0, 0, []), (40, .iadd, 1, .int 0, 0, 0, 0, []), (41, .putfield 44, 3, .int 0, 7, 9, 24, []), (44, .aload_n 0, 1, .int 0, 0, 0, 0, []), (45, .aload_n 0, 1, .int 0, 0, 0, 0, []), (46, .getfield 12, 3, .ref 0, 7, 0, 14, []), (49, .getfield 93, 3, .int 0, 8, 4, 10, []), (52, .ifCond .ne 8, 3, .int 0, 60, 0, 0, []), (55, .bipush 9, 2, .int 9, 0, 0, 0, []), (57, .goto 4, 3, .int 0, 61, 0, 0, []), (60, .iconst 0, 1, .int 0, 0, 0, 0, []), (61, .putfield 47, 3, .int 0, 7, 10, 25, []), (64, .return_, 1, .int 0, 0, 0, 0, [])]
set_option maxRecDepth 100000 in
theorem okX7_endClause : codeOk 66 kX7_endClause := ⟨_, rfl, by decide +kernel⟩
def kX7_closeBracket : List AI := [(0, .aload_n 0, 1, .int 0, 0, 0, 0, []), (1, .iconst 0, 1, .int 0, 0, 0, 0, []), (2, .invokevirtual 139, 3, .int 0, 69, 2, 52, [(0, 7), (0, 0)]), (5, .aload_n 0, 1, .int 0, 0, 0, 0, []), (6, .getfield 32, 3, .int 0, 7, 5, 20, []), (9, .ifCond .le 13, 3, .int 0, 22, 0, 0, []), (12, .aload_n 0, 1, .int 0, 0, 0, 0, []), (13, .dup, 1, .int 0, 0, 0, 0, []), (14, .getfield 32, 3, .int 0, 7, 5, 20, []), (17, .iconst 1, 1, .int 1, 0, 0, 0, []), (18, .isub, 1, .int 0, 0, 0, 0, []), (19, .putfield 32, 3, .int 0, 7, 5, 20, []), (22, .aload_n 0, 1, .int 0, 0, 0, 0, []), (23, .dup, 1, .int 0, 0, 0, 0, []), (24, .getfield 38, 3, .int 0, 7, 7, 22, []), (27, .iconst 1, 1, .int 1, 0, 0, 0, []), (28, .isub, 1, .int 0, 0, 0, 0, []), (29, .putfield 38, 3, .int 0, 7, 7, 22, []), (32, .aload_n 0, 1, .int 0, 0, 0, 0, []), (33, .dup, 1, .int 0, 0, 0, 0, []), (34, .getfield 35, 3, .int 0, 7, 6, 21, []), (37, .iconst 1, 1, .int 1, 0, 0, 0, []), (38, .isub, 1, .int 0, 0, 0, 0, []), (39, .putfield 35, 3, .int 0, 7, 6, 21, []), (42, .aload_n 0, 1, .int 0, 0, 0, 0, []), (43, .bipush 8, 2, .int 8, 0, 0, 0, []), (45, .putfield 47, 3, .int 0, 7, 10, 25, []), (48, .return_, 1, .int 0, 0, 0, 0, [])]
set_option maxRecDepth 100000 in
theorem okX7_closeBracket : codeOk 67 kX7_closeBracket := ⟨_, rfl, by decide +kernel⟩
def kX7_join : List AI := [(0, .aload_n 0, 1, .int 0, 0, 0, 0, []), (1, .iload_n 1, 1, .int 0, 0, 0, 0, []), (2, .invokestatic 116, 3, .int 0, 52, 1, 50, [(0, 6), (0, 1)]), (5, .iconst 1, 1, .int 1, 0, 0, 0, []), (6, .isub, 1, .int 0, 0, 0, 0, []), (7, .invokevirtual 139, 3, .int 0, 69, 2, 52, [(0, 7), (0, 0)]), (10, .aload_n 0, 1, .int 0, 0, 0, 0, []), (11, .iload_n 1, 1, .int 0, 0, 0, 0, []), (12, .invokevirtual 109, 3, .int 0, 70, 2, 46, [(0, 7), (0, 0)]), (15, .return_, 1, .int 0, 0, 0, 0, [])]
set_option maxRecDepth 100000 in
theorem okX7_join : codeOk 68 kX7_join := ⟨_, rfl, by decide +kernel⟩
def kX7_release : List AI := [(0, .aload_n 0, 1, .int 0, 0, 0, 0, []), (1, .getfield 32, 3, .int 0, 7, 5, 20, []), (4, .ifCond .le 75, 3, .int 0, 79, 0, 0, []), (7, .aload_n 0, 1, .int 0, 0, 0, 0, []), (8, .getfield 22, 3, .ref 0, 7, 2, 17, []), (11, .aload_n 0, 1, .int 0, 0, 0, 0, []), (12, .getfield 32, 3, .int 0, 7, 5, 20, []), (15, .iconst 1, 1, .int 1, 0, 0, 0, []), (16, .isub, 1, .int 0, 0, 0, 0, []), (17, .iaload, 1, .int 0, 0, 0, 0, []), (18, .invokestatic 116, 3, .int 0, 52, 1, 50, [(0, 6), (0, 1)]), (21, .iload_n 1, 1, .int 0, 0, 0, 0, []), (22, .if_icmp .le 57, 3, .int 0, 79, 0, 0, []), (25, .aload_n 0, 1, .int 0, 0, 0, 0, []), (26, .dup, 1, .int 0, 0, 0, 0, []), (27, .getfield 32, 3, .int 0, 7, 5, 20, []), (30, .iconst 1, 1, .int 1, 0, 0, 0, []), (31, .isub, 1, .int 0, 0, 0, 0, []), (32, .putfield 32, 3, .int 0, 7, 5, 20, []), (35, .aload_n 0, 1, .int 0, 0, 0, 0, []), (36, .dup, 1, .int 0, 0, 0, 0, []), (37, .getfield 35, 3, .int 0, 7, 6, 21, []), (40, .aload_n 0, 1, .int 0, 0, 0, 0, []), (41, .getfield 22, 3, .ref 0, 7, 2, 17, []), (44, .aload_n 0, 1, .int 0, 0, 0, 0, []), (45, .getfield 32, 3, .int 0, 7, 5, 20, []), (48, .iaload, 1, .int 0, 0, 0, 0, []), (49, .bipush (-32), 2, .int (-32), 0, 0, 0, []), (51, .if_icmp .ne 7, 3, .int 0, 58, 0, 0, []), (54, .iconst 1, 1, .int 1, 0, 0, 0, []), (55, .goto 4, 3, .int 0, 59, 0, 0, []), (58, .iconst 0, 1, .int 0, 0, 0, 0, []), (59, .isub, 1, .int 0, 0, 0, 0, []), (60, .putfield 35, 3, .int 0, 7, 6, 21, []), (63, .aload_n 0, 1, .int 0, 0, 0, 0, []), (64, .aload_n 0, 1, .int 0, 0, 0, 0, []), (65, .getfield 22, 3, .ref 0, 7, 2, 17, []), (68, .aload_n 0, 1, .int 0, 0, 0, 0, []), (69, .getfield 32, 3, .int 0, 7, 5, 20, []), (72, .iaload, 1, .int 0, 0, 0, 0, []), (73, .invokevirtual 102, 3, .int 0, 71, 2, 43, [(0, 7), (0, 0)]), (76, .goto (-76), 3, .int 0, 0, 0, 0, []), (79, .return_, 1, .int 0, 0, 0, 0, [])]
set_option maxRecDepth 100000 in
theorem okX7_release : codeOk 69 kX7_release := ⟨_, rfl, by decide +kernel⟩
def kX7_pile : List AI := [(0, .aload_n 0, 1, .int 0, 0, 0, 0, []), (1, .getfield 32, 3, .int 0, 7, 5, 20, []), (4, .aload_n 0, 1, .int 0, 0, 0, 0, []), (5, .getfield 22, 3, .ref 0, 7, 2, 17, []), (8, .arraylength, 1, .int 0, 0, 0, 0, []), (9, .if_icmp .ge 23, 3, .int 0, 32, 0, 0, []), (12, .aload_n 0, 1, .int 0, 0, 0, 0, []), (13, .getfield 22, 3, .ref 0, 7, 2, 17, []), (16, .aload_n 0, 1, .int 0, 0, 0, 0, []), (17, .getfield 32, 3, .int 0, 7, 5, 20, []), (20, .iload_n 1, 1, .int 0, 0, 0, 0, []), (21, .iastore, 1, .int 0, 0, 0, 0, []), (22, .aload_n 0, 1, .int 0, 0, 0, 0, []), (23, .dup, 1, .int 0, 0, 0, 0, []), (24, .getfield 32, 3, .int 0, 7, 5, 20, []), (27, .iconst 1, 1, .int 1, 0, 0, 0, []), (28, .iadd, 1, .int 0, 0, 0, 0, []), (29, .putfield 32, 3, .int 0, 7, 5, 20, []), (32, .return_, 1, .int 0, 0, 0, 0, [])]
set_option maxRecDepth 100000 in
theorem okX7_pile : codeOk 70 kX7_pile := ⟨_, rfl, by decide +kernel⟩
def kX7_addStep : List AI := [(0, .aload_n 0, 1, .int 0, 0, 0, 0, []), (1, .getfield 28, 3, .int 0, 7, 4, 19, []), (4, .aload_n 0, 1, .int 0, 0, 0, 0, []), (5, .getfield 18, 3, .ref 0, 7, 1, 16, []), (8, .arraylength, 1, .int 0, 0, 0, 0, []), (9, .if_icmp .ge 23, 3, .int 0, 32, 0, 0, []), (12, .aload_n 0, 1, .int 0, 0, 0, 0, []), (13, .getfield 18, 3, .ref 0, 7, 1, 16, []), (16, .aload_n 0, 1, .int 0, 0, 0, 0, []), (17, .getfield 28, 3, .int 0, 7, 4, 19, []), (20, .iload_n 1, 1, .int 0, 0, 0, 0, []), (21, .iastore, 1, .int 0, 0, 0, 0, []), (22, .aload_n 0, 1, .int 0, 0, 0, 0, []), (23, .dup, 1, .int 0, 0, 0, 0, []), (24, .getfield 28, 3, .int 0, 7, 4, 19, []), (27, .iconst 1, 1, .int 1, 0, 0, 0, []), (28, .iadd, 1, .int 0, 0, 0, 0, []), (29, .putfield 28, 3, .int 0, 7, 4, 19, []), (32, .return_, 1, .int 0, 0, 0, 0, [])]
set_option maxRecDepth 100000 in
theorem okX7_addStep : codeOk 71 kX7_addStep := ⟨_, rfl, by decide +kernel⟩
def kX7_countPart : List AI := [(0, .aload_n 0, 1, .int 0, 0, 0, 0, []), (1, .dup, 1, .int 0, 0, 0, 0, []), (2, .getfield 41, 3, .int 0, 7, 8, 23, []), (5, .iconst 1, 1, .int 1, 0, 0, 0, []), (6, .iadd, 1, .int 0, 0, 0, 0, []), (7, .putfield 41, 3, .int 0, 7, 8, 23, []), (10, .aload_n 0, 1, .int 0, 0, 0, 0, []), (11, .getfield 41, 3, .int 0, 7, 8, 23, []), (14, .bipush 60, 2, .int 60, 0, 0, 0, []), (16, .if_icmp .le 11, 3, .int 0, 27, 0, 0, []), (19, .aload_n 0, 1, .int 0, 0, 0, 0, []), (20, .getfield 12, 3, .ref 0, 7, 0, 14, []), (23, .iconst 3, 1, .int 3, 0, 0, 0, []), (24, .invokevirtual 90, 3, .int 0, 76, 2, 40, [(0, 8), (0, 0)]), (27, .return_, 1, .int 0, 0, 0, 0, [])]
set_option maxRecDepth 100000 in
theorem okX7_countPart : codeOk 72 kX7_countPart := ⟨_, rfl, by decide +kernel⟩
def kX8_init : List AI := [(0, .aload_n 0, 1, .int 0, 0, 0, 0, []), (1, .invokespecial 3, 3, .int 0, 1000, 0, 2, [(0, 8)]), (4, .aload_n 0, 1, .int 0, 0, 0, 0, []), (5, .sipush 400, 3, .int 400, 0, 0, 0, []), (8, .newarray .byte, 2, .int 0, 0, 0, 0, []), (10, .putfield 9, 3, .ref 0, 8, 0, 0, []), (13, .aload_n 0, 1, .int 0, 0, 0, 0, []), (14, .iconst 0, 1, .int 0, 0, 0, 0, []), (15, .putfield 15, 3, .int 0, 8, 1, 1, []), (18, .aload_n 0, 1, .int 0, 0, 0, 0, []), (19, .iconst 0, 1, .int 0, 0, 0, 0, []), (20, .putfield 19, 3, .int 0, 8, 2, 3, []), (23, .aload_n 0, 1, .int 0, 0, 0, 0, []), (24, .iconst 0, 1, .int 0, 0, 0, 0, []), (25, .putfield 22, 3, .int 0, 8, 3, 7, []), (28, .aload_n 0, 1, .int 0, 0, 0, 0, []), (29, .iconst 0, 1, .int 0, 0, 0, 0, []), (30, .putfield 25, 3, .int 0, 8, 4, 8, []), (33, .aload_n 0, 1, .int 0, 0, 0, 0, []), (34, .iconst 0, 1, .int 0, 0, 0, 0, []), (35, .putfield 28, 3, .int 0, 8, 5, 11, []), (38, .aload_n 0, 1, .int 0, 0, 0, 0, []), (39, .iconst 0, 1, .int 0, 0, 0, 0, []), (40, .putfield 31, 3, .int 0, 8, 6, 13, []), (43, .return_, 1, .int 0, 0, 0, 0, [])]
set_option maxRecDepth 100000 in
theorem okX8_init : codeOk 73 kX8_init := ⟨_, rfl, by decide +kernel⟩
def kX8_append : List AI := [(0, .bipush 24, 2, .int 24, 0, 0, 0, []), (2, .istore_n 2, 1, .int 0, 0, 0, 0, []), (3, .iload_n 2, 1, .int 0, 0, 0, 0, []), (4, .ifCond .lt 42, 3, .int 0, 46, 0, 0, []), (7, .aload_n 0, 1, .int 0, 0, 0, 0, []), (8, .getfield 15, 3, .int 0, 8, 1, 1, []), (11, .sipush 400, 3, .int 400, 0, 0, 0, []), (14, .if_icmp .ge 32, 3, .int 0, 46, 0, 0, []), (17, .aload_n 0, 1, .int 0, 0, 0, 0, []), (18, .getfield 9, 3, .ref 0, 8, 0, 0, []), (21, .aload_n 0, 1, .int 0, 0, 0, 0, []), (22, .getfield 15, 3, .int 0, 8, 1, 1, []), (25, .iload_n 1, 1, .int 0, 0, 0, 0, []), (26, .iload_n 2, 1, .int 0, 0, 0, 0, []), (27, .iushr, 1, .int 0, 0, 0, 0, []), (28, .i2b, 1, .int 0, 0, 0, 0, []), (29, .bastore, 1, .int 0, 0, 0, 0, []), (30, .aload_n 0, 1, .int 0, 0, 0, 0, []), (31, .dup, 1, .int 0, 0, 0, 0, []), (32, .getfield 15, 3, .int 0, 8, 1, 1, []), (35, .iconst 1, 1, .int 1, 0, 0, 0, []), (36, .iadd, 1, .int 0, 0, 0, 0, []), (37, .putfield 15, 3, .int 0, 8, 1, 1, []), (40, .iinc 2 (-8), 3, .int (-8), 0, 0, 0, []), (43, .goto (-40), 3, .int 0, 3, 0, 0, []), (46, .return_, 1, .int 0, 0, 0, 0, [])]
set_option maxRecDepth 100000 in
theorem okX8_append : codeOk 74 kX8_append := ⟨_, rfl, by decide +kernel⟩
def kX8_start : List AI := [(0, .aload_n 0, 1, .int 0, 0, 0, 0, []), (1, .iconst 0, 1, .int 0, 0, 0, 0, []), (2, .putfield 31, 3, .int 0, 8, 6, 13, []), (5, .aload_n 0, 1, .int 0, 0, 0, 0, []), (6, .iconst 0, 1, .int 0, 0, 0, 0, []), (7, .putfield 19, 3, .int 0, 8, 2, 3, []), (10, .aload_n 0, 1, .int 0, 0, 0, 0, []), (11, .invokevirtual 34, 3, .int 0, 79, 1, 12, [(0, 8), (0, 0)]), (14, .return_, 1, .int 0, 0, 0, 0, [])]
set_option maxRecDepth 100000 in
theorem okX8_start : codeOk 75 kX8_start := ⟨_, rfl, by decide +kernel⟩
def kX8_refuse : List AI := [(0, .aload_n 0, 1, .int 0, 0, 0, 0, []), (1, .getfield 19, 3, .int 0, 8, 2, 3, []), (4, .ifCond .ne 18, 3, .int 0, 22, 0, 0, []), (7, .aload_n 0, 1, .int 0, 0, 0, 0, []), (8, .iconst 1, 1, .int 1, 0, 0, 0, []), (9, .bipush 8, 2, .int 8, 0, 0, 0, []), (11, .aload_n 0, 1, .int 0, 0, 0, 0, []), (12, .getfield 22, 3, .int 0, 8, 3, 7, []), (15, .imul, 1, .int 0, 0, 0, 0, []), (16, .iadd, 1, .int 0, 0, 0, 0, []), (17, .iload_n 1, 1, .int 0, 0, 0, 0, []), (18, .iadd, 1, .int 0, 0, 0, 0, []), (19, .putfield 19, 3, .int 0, 8, 2, 3, []), (22, .return_, 1, .int 0, 0, 0, 0, [])]
set_option maxRecDepth 100000 in
theorem okX8_refuse : codeOk 76 kX8_refuse := ⟨_, rfl, by decide +kernel⟩
def kX8_isWord : List AI := [(0, .aload_n 0, 1, .int 0, 0, 0, 0, []), (1, .getfield 25, 3, .int 0, 8, 4, 8, []), (4, .iconst 2, 1, .int 2, 0, 0, 0, []), (5, .if_icmp .ne 15, 3, .int 0, 20, 0, 0, []), (8, .aload_n 0, 1, .int 0, 0, 0, 0, []), (9, .getfield 28, 3, .int 0, 8, 5, 11, []), (12, .iload_n 1, 1, .int 0, 0, 0, 0, []), (13, .if_icmp .ne 7, 3, .int 0, 20, 0, 0, []), (16, .iconst 1, 1, .int 1, 0, 0, 0, []), (17, .goto 4, 3, .int 0, 21, 0, 0, []), (20, .iconst 0, 1, .int 0, 0, 0, 0, []), (21, .ireturn, 1, .int 0, 0, 0, 0, [])]
set_option maxRecDepth 100000 in
theorem okX8_isWord : codeOk 77 kX8_isWord := ⟨_, rfl, by decide +kernel⟩
def kX8_isSign : List AI := [(0, .aload_n 0, 1, .int 0, 0, 0, 0, []), (1, .getfield 25, 3, .int 0, 8, 4, 8, []), (4, .iconst 3, 1, .int 3, 0, 0, 0, []), (5, .if_icmp .ne 15, 3, .int 0, 20, 0, 0, []), (8, .aload_n 0, 1, .int 0, 0, 0, 0, []), (9, .getfield 28, 3, .int 0, 8, 5, 11, []), (12, .iload_n 1, 1, .int 0, 0, 0, 0, []), (13, .if_icmp .ne 7, 3, .int 0, 20, 0, 0, []), (16, .iconst 1, 1, .int 1, 0, 0, 0, []), (17, .goto 4, 3, .int 0, 21, 0, 0, []), (20, .iconst 0, 1, .int 0, 0, 0, 0, []), (21, .ireturn, 1, .int 0, 0, 0, 0, [])]
set_option maxRecDepth 100000 in
theorem okX8_isSign : codeOk 78 kX8_isSign := ⟨_, rfl, by decide +kernel⟩
def kX8_next : List AI := [(0, .aload_n 0, 1, .int 0, 0, 0, 0, []), (1, .getfield 31, 3, .int 0, 8, 6, 13, []), (4, .aload_n 0, 1, .int 0, 0, 0, 0, []), (5, .getfield 15, 3, .int 0, 8, 1, 1, []), (8, .if_icmp .ge 30, 3, .int 0, 38, 0, 0, []), (11, .aload_n 0, 1, .int 0, 0, 0, 0, []), (12, .getfield 9, 3, .ref 0, 8, 0, 0, []), (15, .aload_n 0, 1, .int 0, 0, 0, 0, []), (16, .getfield 31, 3, .int 0, 8, 6, 13, []), (19, .baload, 1, .int 0, 0, 0, 0, []), (20, .bipush 32, 2, .int 32, 0, 0, 0, []), (22, .if_icmp .ne 16, 3, .int 0, 38, 0, 0, []), (25, .aload_n 0, 1, .int 0, 0, 0, 0, []), (26, .dup, 1, .int 0, 0, 0, 0, []), (27, .getfield 31, 3, .int 0, 8, 6, 13, []), (30, .iconst 1, 1, .int 1, 0, 0, 0, []), (31, .iadd, 1, .int 0, 0, 0, 0, []), (32, .putfield 31, 3, .int 0, 8, 6, 13, []), (35, .goto (-35), 3, .int 0, 0, 0, 0, []), (38, .aload_n 0, 1, .int 0, 0, 0, 0, []), (39, .aload_n 0, 1, .int 0, 0, 0, 0, []), (40, .getfield 31, 3, .int 0, 8, 6, 13, []), (43, .putfield 22, 3, .int 0, 8, 3, 7, []), (46, .aload_n 0, 1, .int 0, 0, 0, 0, []), (47, .getfield 31, 3, .int 0, 8, 6, 13, []), (50, .aload_n 0, 1, .int 0, 0, 0, 0, []), (51, .getfield 15, 3, .int 0, 8, 1, 1, []), (54, .if_icmp .lt 11, 3, .int 0, 65, 0, 0, []), (57, .aload_n 0, 1, .int 0, 0, 0, 0, []), (58, .iconst 0, 1, .int 0, 0, 0, 0, []), (59, .putfield 25, 3, .int 0, 8, 4, 8, []), (62, .goto 51, 3, .int 0, 113, 0, 0, []), (65, .aload_n 0, 1, .int 0, 0, 0, 0, []), (66, .getfield 9, 3, .ref 0, 8, 0, 0, []), (69, .aload_n 0, 1, .int 0, 0, 0, 0, []), (70, .getfield 31, 3, .int 0, 8, 6, 13, []), (73, .baload, 1, .int 0, 0, 0, 0, []), (74, .invokestatic 37, 3, .int 0, 85, 1, 13, [(0, 8), (0, 1)]), (77, .ifCond .eq 10, 3, .int 0, 87, 0, 0, []), (80, .aload_n 0, 1, .int 0, 0, 0, 0, []), (81, .invokevirtual 41, 3, .int 0, 80, 1, 14, [(0, 8), (0, 0)]), (84, .goto 29, 3, .int 0, 113, 0, 0, []), (87, .aload_n 0, 1, .int 0, 0, 0, 0, []), (88, .getfield 9, 3, .ref 0, 8, 0, 0, []), (91, .aload_n 0, 1, .int 0, 0, 0, 0, []), (92, .getfield 31, 3, .int 0, 8, 6, 13, []), (95, .baload, 1, .int 0, 0, 0, 0, []), (96, .invokestatic 44, 3, .int 0, 84, 1, 15, [(0, 8), (0, 1)]), (99, .ifCond .eq 10, 3, .int 0, 109, 0, 0, []), (102, .aload_n 0, 1, .int 0, 0, 0, 0, []), (103, .invokevirtual 47, 3, .int 0, 81, 1, 16, [(0, 8), (0, 0)]), (106, .goto 7, 3, .int 0, 113, 0, 0, []), (109, .aload_n 0, 1, .int 0, 0, 0, 0, []), (110, .invokevirtual 50, 3, .int 0, 82, 1, 23, [(0, 8), (0, 0)]), (113, .return_, 1, .int 0, 0, 0, 0, [])]
set_option maxRecDepth 100000 in
theorem okX8_next : codeOk 79 kX8_next := ⟨_, rfl, by decide +kernel⟩
def kX8_takeNumber : List AI := [(0, .aload_n 0, 1, .int 0, 0, 0, 0, []), (1, .iconst 1, 1, .int 1, 0, 0, 0, []), (2, .putfield 25, 3, .int 0, 8, 4, 8, []), (5, .aload_n 0, 1, .int 0, 0, 0, 0, []), (6, .iconst 0, 1, .int 0, 0, 0, 0, []), (7, .putfield 28, 3, .int 0, 8, 5, 11, []), (10, .aload_n 0, 1, .int 0, 0, 0, 0, []), (11, .getfield 31, 3, .int 0, 8, 6, 13, []), (14, .aload_n 0, 1, .int 0, 0, 0, 0, []), (15, .getfield 15, 3, .int 0, 8, 1, 1, []), (18, .if_icmp .ge 72, 3, .int 0, 90, 0, 0, []), (21, .aload_n 0, 1, .int 0, 0, 0, 0, []), (22, .getfield 9, 3, .ref 0, 8, 0, 0, []), (25, .aload_n 0, 1, .int 0, 0, 0, 0, []), (26, .getfield 31, 3, .int 0, 8, 6, 13, []), (29, .baload, 1, .int 0, 0, 0, 0, []), (30, .invokestatic 37, 3, .int 0, 85, 1, 13, [(0, 8), (0, 1)]), (33, .ifCond .eq 57, 3, .int 0, 90, 0, 0, []), (36, .aload_n 0, 1, .int 0, 0, 0, 0, []), (37, .aload_n 0, 1, .int 0, 0, 0, 0, []), (38, .getfield 31, 3, .int 0, 8, 6, 13, []), (41, .aload_n 0, 1, .int 0, 0, 0, 0, []), (42, .getfield 22, 3, .int 0, 8, 3, 7, []), (45, .isub, 1, .int 0, 0, 0, 0, []), (46, .iconst 5, 1, .int 5, 0, 0, 0, []), (47, .if_icmp .ge 26, 3, .int 0, 73, 0, 0, []), (50, .aload_n 0, 1, .int 0, 0, 0, 0, []), (51, .getfield 28, 3, .int 0, 8, 5, 11, []), (54, .bipush 10, 2, .int 10, 0, 0, 0, []), (56, .imul, 1, .int 0, 0, 0, 0, []), (57, .aload_n 0, 1, .int 0, 0, 0, 0, []), (58, .getfield 9, 3, .ref 0, 8, 0, 0, []), (61, .aload_n 0, 1, .int 0, 0, 0, 0, []), (62, .getfield 31, 3, .int 0, 8, 6, 13, []), (65, .baload, 1, .int 0, 0, 0, 0, []), (66, .iadd, 1, .int 0, 0, 0, 0, []), (67, .bipush 48, 2, .int 48, 0, 0, 0, []), (69, .isub, 1, .int 0, 0, 0, 0, []), (70, .goto 4, 3, .int 0, 74, 0, 0, []), (73, .iconst (-1), 1, .int (-1), 0, 0, 0, []), (74, .putfield 28, 3, .int 0, 8, 5, 11, []), (77, .aload_n 0, 1, .int 0, 0, 0, 0, []), (78, .dup, 1, .int 0, 0, 0, 0, []), (79, .getfield 31, 3, .int 0, 8, 6, 13, []), (82, .iconst 1, 1, .int 1, 0, 0, 0, []), (83, .iadd, 1, .int 0, 0, 0, 0, []), (84, .putfield 31, 3, .int 0, 8, 6, 13, []), (87, .goto (-77), 3, .int 0, 10, 0, 0, []), (90, .return_, 1, .int 0, 0, 0, 0, [])]
set_option maxRecDepth 100000 in
theorem okX8_takeNumber : codeOk 80 kX8_takeNumber := ⟨_, rfl, by decide +kernel⟩
def kX8_takeWord : List AI := [(0, .aload_n 0, 1, .int 0, 0, 0, 0, []), (1, .iconst 2, 1, .int 2, 0, 0, 0, []), (2, .putfield 25, 3, .int 0, 8, 4, 8, []), (5, .aload_n 0, 1, .int 0, 0, 0, 0, []), (6, .getfield 31, 3, .int 0, 8, 6, 13, []), (9, .aload_n 0, 1, .int 0, 0, 0, 0, []), (10, .getfield 15, 3, .int 0, 8, 1, 1, []), (13, .if_icmp .ge 31, 3, .int 0, 44, 0, 0, []), (16, .aload_n 0, 1, .int 0, 0, 0, 0, []), (17, .getfield 9, 3, .ref 0, 8, 0, 0, []), (20, .aload_n 0, 1, .int 0, 0, 0, 0, []), (21, .getfield 31, 3, .int 0, 8, 6, 13, []), (24, .baload, 1, .int 0, 0, 0, 0, []), (25, .invokestatic 44, 3, .int 0, 84, 1, 15, [(0, 8), (0, 1)]), (28, .ifCond .eq 16, 3, .int 0, 44, 0, 0, []), (31, .aload_n 0, 1, .int 0, 0, 0, 0, []), (32, .dup, 1, .int 0, 0, 0, 0, []), (33, .getfield 31, 3, .int 0, 8, 6, 13, []), (36, .iconst 1, 1, .int 1, 0, 0, 0, []), (37, .iadd, 1, .int 0, 0, 0, 0, []), (38, .putfield 31, 3, .int 0, 8, 6, 13, []), (41, .goto (-36), 3, .int 0, 5, 0, 0, []), (44, .aload_n 0, 1, .int 0, 0, 0, 0, []), (45, .iconst (-1), 1, .int (-1), 0, 0, 0, []), (46, .putfield 28, 3, .int 0, 8, 5, 11, []), (49, .iconst 0, 1, .int 0, 0, 0, 0, []), (50, .istore_n 1, 1, .int 0, 0, 0, 0, []), (51, .aload_n 0, 1, .int 0, 0, 0, 0, []), (52, .getfield 22, 3, .int 0, 8, 3, 7, []), (55, .istore_n 2, 1, .int 0, 0, 0, 0, []), (56, .iconst 1, 1, .int 1, 0, 0, 0, []), (57, .istore_n 3, 1, .int 0, 0, 0, 0, []), (58, .iconst 0, 1, .int 0, 0, 0, 0, []), (59, .istore 4, 2, .int 0, 0, 0, 0, []), (61, .iload 4, 2, .int 0, 0, 0, 0, []), (63, .ldc 53, 2, .retAddr 0, 0, 0, 0, []), (65, .invokevirtual 55, 3, .int 0, 1005, 0, 11, []), (68, .if_icmp .ge 87, 3, .int 0, 155, 0, 0, []), (71, .ldc 53, 2, .retAddr 0, 0, 0, 0, []), (73, .iload 4, 2, .int 0, 0, 0, 0, []), (75, .invokevirtual 60, 3, .int 0, 1006, 0, 12, []), (78, .istore 5, 2, .int 0, 0, 0, 0, []), (80, .iload 5, 2, .int 0, 0, 0, 0, []), (82, .bipush 32, 2, .int 32, 0, 0, 0, []), (84, .if_icmp .ne 33, 3, .int 0, 117, 0, 0, []), (87, .iload_n 3, 1, .int 0, 0, 0, 0, []), (88, .ifCond .eq 16, 3, .int 0, 104, 0, 0, []), (91, .iload_n 2, 1, .int 0, 0, 0, 0, []), (92, .aload_n 0, 1, .int 0, 0, 0, 0, []), (93, .getfield 31, 3, .int 0, 8, 6, 13, []), (96, .if_icmp .ne 8, 3, .int 0, 104, 0, 0, []), (99, .aload_n 0, 1, .int 0, 0, 0, 0, []), (100, .iload_n 1, 1, .int 0, 0, 0, 0, []), (101, .putfield 28, 3, .int 0, 8, 5, 11, []), (104, .iinc 1 1, 3, .int 1, 0, 0, 0, []), (107, .aload_n 0, 1, .int 0, 0, 0, 0, []), (108, .getfield 22, 3, .int 0, 8, 3, 7, []), (111, .istore_n 2, 1, .int 0, 0, 0, 0, []), (112, .iconst 1, 1, .int 1, 0, 0, 0, []), (113, .istore_n 3, 1, .int 0, 0, 0, 0, []), (114, .goto 35, 3, .int 0, 149, 0, 0, []), (117, .iload_n 3, 1, .int 0, 0, 0, 0, []), (118, .ifCond .eq 26, 3, .int 0, 144, 0, 0, []), (121, .iload_n 2, 1, .int 0, 0, 0, 0, []), (122, .aload_n 0, 1, .int 0, 0, 0, 0, []), (123, .getfield 31, 3, .int 0, 8, 6, 13, []), (126, .if_icmp .ge 18, 3, .int 0, 144, 0, 0, []), (129, .aload_n 0, 1, .int 0, 0, 0, 0, []), (130, .getfield 9, 3, .ref 0, 8, 0, 0, []), (133, .iload_n 2, 1, .int 0, 0, 0, 0, []), (134, .baload, 1, .int 0, 0, 0, 0, []), (135, .iload 5, 2, .int 0, 0, 0, 0, []), (137, .if_icmp .ne 7, 3, .int 0, 144, 0, 0, []), (140, .iconst 1, 1, .int 1, 0, 0, 0, []), (141, .goto 4, 3, .int 0, 145, 0, 0, []), (144, .iconst 0, 1, .int 0, 0, 0, 0, []), (145, .istore_n 3, 1, .int 0, 0, 0, 0, []), (146, .iinc 2 1, 3, .int 1, 0, 0, 0, []), (149, .iinc 4 1, 3, .int 1, 0, 0, 0, []), (152, .goto (-91), 3, .int 0, 61, 0, 0, []), (155, .return_, 1, .int 0, 0, 0, 0, [])]
set_option maxRecDepth 100000 in
theorem okX8_takeWord : codeOk 81 kX8_takeWord := ⟨_, rfl, by decide +kernel⟩
def kX8_takeSign : List AI := [(0, .aload_n 0, 1, .int 0, 0, 0, 0, []), (1, .iconst 3, 1, .int 3, 0, 0, 0, []), (2, .putfield 25, 3, .int 0, 8, 4, 8, []), (5, .aload_n 0, 1, .int 0, 0, 0, 0, []), (6, .aload_n 0, 1, .int 0, 0, 0, 0, []), (7, .getfield 9, 3, .ref 0, 8, 0, 0, []), (10, .aload_n 0, 1, .int 0, 0, 0, 0, []), (11, .getfield 31, 3, .int 0, 8, 6, 13, []), (14, .baload, 1, .int 0, 0, 0, 0, []), (15, .sipush 255, 3, .int 255, 0, 0, 0, []), (18, .iand, 1, .int 0, 0, 0, 0, []), (19, .putfield 28, 3, .int 0, 8, 5, 11, []), (22, .aload_n 0, 1, .int 0, 0, 0, 0, []), (23, .dup, 1, .int 0, 0, 0, 0, []), (24, .getfield 31, 3, .int 0, 8, 6, 13, []), (27, .iconst 1, 1, .int 1, 0, 0, 0, []), (28, .iadd, 1, .int 0, 0, 0, 0, []), (29, .putfield 31, 3, .int 0, 8, 6, 13, []), (32, .aload_n 0, 1, .int 0, 0, 0, 0, []), (33, .getfield 28, 3, .int 0, 8, 5, 11, []), (36, .bipush 60, 2, .int 60, 0, 0, 0, []), (38, .if_icmp .eq 12, 3, .int 0, 50, 0, 0, []), (41, .aload_n 0, 1, .int 0, 0, 0, 0, []), (42, .getfield 28, 3, .int 0, 8, 5, 11, []), (45, .bipush 62, 2, .int 62, 0, 0, 0, []), (47, .if_icmp .ne 50, 3, .int 0, 97, 0, 0, []), (50, .aload_n 0, 1, .int 0, 0, 0, 0, []), (51, .getfield 31, 3, .int 0, 8, 6, 13, []), (54, .aload_n 0, 1, .int 0, 0, 0, 0, []), (55, .getfield 15, 3, .int 0, 8, 1, 1, []), (58, .if_icmp .ge 39, 3, .int 0, 97, 0, 0, []), (61, .aload_n 0, 1, .int 0, 0, 0, 0, []), (62, .getfield 9, 3, .ref 0, 8, 0, 0, []), (65, .aload_n 0, 1, .int 0, 0, 0, 0, []), (66, .getfield 31, 3, .int 0, 8, 6, 13, []), (69, .baload, 1, .int 0, 0, 0, 0, []), (70, .bipush 61, 2, .int 61, 0, 0, 0, []), (72, .if_icmp .ne 25, 3, .int 0, 97, 0, 0, []), (75, .aload_n 0, 1, .int 0, 0, 0, 0, []), (76, .dup, 1, .int 0, 0, 0, 0, []), (77, .getfield 28, 3, .int 0, 8, 5, 11, []), (80, .sipush 256, 3, .int 256, 0, 0, 0, []), (83, .iadd, 1, .int 0, 0, 0, 0, []), (84, .putfield 28, 3, .int 0, 8, 5, 11, []), (87, .aload_n 0, 1, .int 0, 0, 0, 0, []), (88, .dup, 1, .int 0, 0, 0, 0, []), (89, .getfield 31, 3, .int 0, 8, 6, 13, []), (92, .iconst 1, 1, .int 1, 0, 0, 0, []), (93, .iadd, 1, .int 0, 0, 0, 0, []), (94, .putfield 31, 3, .int 0, 8, 6, 13, []), (97, .return_, 1, .int 0, 0, 0, 0, [])]
set_option maxRecDepth 100000 in
theorem okX8_takeSign : codeOk 82 kX8_takeSign := ⟨_, rfl, by decide +kernel⟩
def kX8_number : List AI := [(0, .aload_n 0, 1, .int 0, 0, 0, 0, []), (1, .getfield 28, 3, .int 0, 8, 5, 11, []), (4, .istore_n 3, 1, .int 0, 0, 0, 0, []), (5, .aload_n 0, 1, .int 0, 0, 0, 0, []), (6, .getfield 25, 3, .int 0, 8, 4, 8, []), (9, .iconst 1, 1, .int 1, 0, 0, 0, []), (10, .if_icmp .eq 11, 3, .int 0, 21, 0, 0, []), (13, .aload_n 0, 1, .int 0, 0, 0, 0, []), (14, .iconst 0, 1, .int 0, 0, 0, 0, []), (15, .invokevirtual 64, 3, .int 0, 76, 2, 28, [(0, 8), (0, 0)]), (18, .goto 18, 3, .int 0, 36, 0, 0, []), (21, .iload_n 3, 1, .int 0, 0, 0, 0, []), (22, .iload_n 1, 1, .int 0, 0, 0, 0, []), (23, .if_icmp .lt 8, 3, .int 0, 31, 0, 0, []), (26, .iload_n 3, 1, .int 0, 0, 0, 0, []), (27, .iload_n 2, 1, .int 0, 0, 0, 0, []), (28, .if_icmp .le 8, 3, .int 0, 36, 0, 0, []), (31, .aload_n 0, 1, .int 0, 0, 0, 0, []), (32, .iconst 1, 1, .int 1, 0, 0, 0, []), (33, .invokevirtual 64, 3, .int 0, 76, 2, 28, [(0, 8), (0, 0)]), (36, .aload_n 0, 1, .int 0, 0, 0, 0, []), (37, .invokevirtual 34, 3, .int 0, 79, 1, 12, [(0, 8), (0, 0)]), (40, .iload_n 3, 1, .int 0, 0, 0, 0, []), (41, .ireturn, 1, .int 0, 0, 0, 0, [])]
set_option maxRecDepth 100000 in
theorem okX8_number : codeOk 83 kX8_number := ⟨_, rfl, by decide +kernel⟩
def kX8_isLetter : List AI := [(0, .iload_n 0, 1, .int 0, 0, 0, 0, []), (1, .bipush 97, 2, .int 97, 0, 0, 0, []), (3, .if_icmp .lt 13, 3, .int 0, 16, 0, 0, []), (6, .iload_n 0, 1, .int 0, 0, 0, 0, []), (7, .bipush 122, 2, .int 122, 0, 0, 0, []), (9, .if_icmp .gt 7, 3, .int 0, 16, 0, 0, []), (12, .iconst 1, 1, .int 1, 0, 0, 0, []), (13, .goto 4, 3, .int 0, 17, 0, 0, []), (16, .iconst 0, 1, .int 0, 0, 0, 0, []), (17, .ireturn, 1, .int 0, 0, 0, 0, [])]
set_option maxRecDepth 100000 in
theorem okX8_isLetter : codeOk 84 kX8_isLetter := ⟨_, rfl, by decide +kernel⟩
def kX8_isDigit : List AI := [(0, .iload_n 0, 1, .int 0, 0, 0, 0, []), (1, .bipush 48, 2, .int 48, 0, 0, 0, []), (3, .if_icmp .lt 13, 3, .int 0, 16, 0, 0, []), (6, .iload_n 0, 1, .int 0, 0, 0, 0, []), (7, .bipush 57, 2, .int 57, 0, 0, 0, []), (9, .if_icmp .gt 7, 3, .int 0, 16, 0, 0, []), (12, .iconst 1, 1, .int 1, 0, 0, 0, []), (13, .goto 4, 3, .int 0, 17, 0, 0, []), (16, .iconst 0, 1, .int 0, 0, 0, 0, []), (17, .ireturn, 1, .int 0, 0, 0, 0, [])]
set_option maxRecDepth 100000 in
theorem okX8_isDigit : codeOk 85 kX8_isDigit := ⟨_, rfl, by decide +kernel⟩
def kX9_init : List AI := [(0, .aload_n 0, 1, .int 0, 0, 0, 0, []), (1, .invokespecial 3, 3, .int 0, 1000, 0, 3, [(0, 9)]), (4, .aload_n 0, 1, .int 0, 0, 0, 0, []), (5, .aconst_null, 1, .int 0, 0, 0, 0, []), (6, .putfield 9, 3, .ref 0, 9, 0, 54, []), (9, .aload_n 0, 1, .int 0, 0, 0, 0, []), (10, .iconst (-1), 1, .int (-1), 0, 0, 0, []), (11, .putfield 15, 3, .int 0, 9, 1, 59, []), (14, .aload_n 0, 1, .int 0, 0, 0, 0, []), (15, .iconst 0, 1, .int 0, 0, 0, 0, []), (16, .putfield 19, 3, .int 0, 9, 2, 61, []), (19, .aload_n 0, 1, .int 0, 0, 0, 0, []), (20, .new 22, 3, .int 0, 4, 0, 5, []), (23, .dup, 1, .int 0, 0, 0, 0, []), (24, .invokespecial 24, 3, .long 0, 38, 1, 3, [(0, 4), (0, 0)]), (27, .putfield 25, 3, .ref 0, 9, 3, 64, []), (30, .aload_n 0, 1, .int 0, 0, 0, 0, []), (31, .bipush 20, 2, .int 20, 0, 0, 0, []), (33, .anewarray 22, 3, .int 0, 7, 0, 5, []), (36, .putfield 29, 3, .ref 0, 9, 4, 68, []), (39, .aload_n 0, 1, .int 0, 0, 0, 0, []), (40, .iconst 0, 1, .int 0, 0, 0, 0, []), (41, .putfield 33, 3, .int 0, 9, 5, 69, []), (44, .aload_n 0, 1, .int 0, 0, 0, 0, []), (45, .bipush 10, 2, .int 10, 0, 0, 0, []), (47, .newarray .int, 2, .int 0, 0, 0, 0, []), (49, .putfield 36, 3, .ref 0, 9, 6, 71, []), (52, .aload_n 0, 1, .int 0, 0, 0, 0, []), (53, .bipush 10, 2, .int 10, 0, 0, 0, []), (55, .newarray .int, 2, .int 0, 0, 0, 0, []), (57, .putfield 40, 3, .ref 0, 9, 7, 73, []), (60, .aload_n 0, 1, .int 0, 0, 0, 0, []), (61, .bipush 10, 2, .int 10, 0, 0, 0, []), (63, .newarray .int, 2, .int 0, 0, 0, 0, []), (65, .putfield 43, 3, .ref 0, 9, 8, 75, []), (68, .aload_n 0, 1, .int 0, 0, 0, 0, []), (69, .iconst 0, 1, .int 0, 0, 0, 0, []), (70, .putfield 46, 3, .int 0, 9, 9, 77, []), (73, .return_, 1, .int 0, 0, 0, 0, [])]
set_option maxRecDepth 100000 in
theorem okX9_init : codeOk 86 kX9_init := ⟨_, rfl, by decide +kernel⟩
def kX9_settleOn : List AI := [(0, .aload_n 0, 1, .int 0, 0, 0, 0, []), (1, .aload_n 1, 1, .int 0, 0, 0, 0, []), (2, .putfield 9, 3, .ref 0, 9, 0, 54, []), (5, .aload_n 0, 1, .int 0, 0, 0, 0, []), (6, .getfield 25, 3, .ref 0, 9, 3, 64, []), (9, .aload_n 1, 1, .int 0, 0, 0, 0, []), (10, .invokevirtual 49, 3, .int 0, 39, 2, 32, [(0, 4), (0, 0)]), (13, .aload_n 0, 1, .int 0, 0, 0, 0, []), (14, .iconst 0, 1, .int 0, 0, 0, 0, []), (15, .putfield 33, 3, .int 0, 9, 5, 69, []), (18, .aload_n 0, 1, .int 0, 0, 0, 0, []), (19, .iconst 0, 1, .int 0, 0, 0, 0, []), (20, .putfield 46, 3, .int 0, 9, 9, 77, []), (23, .return_, 1, .int 0, 0, 0, 0, [])]
set_option maxRecDepth 100000 in
theorem okX9_settleOn : codeOk 87 kX9_settleOn := ⟨_, rfl, by decide +kernel⟩
def kX9_hasRunner : List AI := [(0, .aload_n 0, 1, .int 0, 0, 0, 0, []), (1, .getfield 9, 3, .ref 0, 9, 0, 54, []), (4, .ifnull 22, 3, .int 0, 26, 0, 0, []), (7, .iload_n 1, 1, .int 0, 0, 0, 0, []), (8, .ifCond .lt 18, 3, .int 0, 26, 0, 0, []), (11, .iload_n 1, 1, .int 0, 0, 0, 0, []), (12, .aload_n 0, 1, .int 0, 0, 0, 0, []), (13, .getfield 9, 3, .ref 0, 9, 0, 54, []), (16, .getfield 53, 3, .int 0, 3, 1, 125, []), (19, .if_icmp .ge 7, 3, .int 0, 26, 0, 0, []), (22, .iconst 1, 1, .int 1, 0, 0, 0, []), (23, .goto 4, 3, .int 0, 27, 0, 0, []), (26, .iconst 0, 1, .int 0, 0, 0, 0, []), (27, .ireturn, 1, .int 0, 0, 0, 0, [])]
set_option maxRecDepth 100000 in
theorem okX9_hasRunner : codeOk 88 kX9_hasRunner := ⟨_, rfl, by decide +kernel⟩
def kX9_hasWare : List AI := [(0, .aload_n 0, 1, .int 0, 0, 0, 0, []), (1, .getfield 9, 3, .ref 0, 9, 0, 54, []), (4, .ifnull 22, 3, .int 0, 26, 0, 0, []), (7, .iload_n 1, 1, .int 0, 0, 0, 0, []), (8, .ifCond .lt 18, 3, .int 0, 26, 0, 0, []), (11, .iload_n 1, 1, .int 0, 0, 0, 0, []), (12, .aload_n 0, 1, .int 0, 0, 0, 0, []), (13, .getfield 9, 3, .ref 0, 9, 0, 54, []), (16, .getfield 58, 3, .int 0, 3, 2, 130, []), (19, .if_icmp .ge 7, 3, .int 0, 26, 0, 0, []), (22, .iconst 1, 1, .int 1, 0, 0, 0, []), (23, .goto 4, 3, .int 0, 27, 0, 0, []), (26, .iconst 0, 1, .int 0, 0, 0, 0, []), (27, .ireturn, 1, .int 0, 0, 0, 0, [])]
set_option maxRecDepth 100000 in
theorem okX9_hasWare : codeOk 89 kX9_hasWare := ⟨_, rfl, by decide +kernel⟩
def kX9_wealthOfAll : List AI := [(0, .iconst 0, 1, .int 0, 0, 0, 0, []), (1, .istore_n 1, 1, .int 0, 0, 0, 0, []), (2, .iconst 0, 1, .int 0, 0, 0, 0, []), (3, .istore_n 2, 1, .int 0, 0, 0, 0, []), (4, .iload_n 2, 1, .int 0, 0, 0, 0, []), (5, .iconst 5, 1, .int 5, 0, 0, 0, []), (6, .if_icmp .ge 21, 3, .int 0, 27, 0, 0, []), (9, .iload_n 1, 1, .int 0, 0, 0, 0, []), (10, .aload_n 0, 1, .int 0, 0, 0, 0, []), (11, .getfield 25, 3, .ref 0, 9, 3, 64, []), (14, .getfield 61, 3, .ref 0, 4, 3, 42, []), (17, .iload_n 2, 1, .int 0, 0, 0, 0, []), (18, .iaload, 1, .int 0, 0, 0, 0, []), (19, .iadd, 1, .int 0, 0, 0, 0, []), (20, .istore_n 1, 1, .int 0, 0, 0, 0, []), (21, .iinc 2 1, 3, .int 1, 0, 0, 0, []), (24, .goto (-20), 3, .int 0, 4, 0, 0, []), (27, .iload_n 1, 1, .int 0, 0, 0, 0, []), (28, .ireturn, 1, .int 0, 0, 0, 0, [])]
set_option maxRecDepth 100000 in
theorem okX9_wealthOfAll : codeOk 90 kX9_wealthOfAll := ⟨_, rfl, by decide +kernel⟩
def kX9_waresThere : List AI := [(0, .iconst 0, 1, .int 0, 0, 0, 0, []), (1, .istore_n 1, 1, .int 0, 0, 0, 0, []), (2, .iconst 0, 1, .int 0, 0, 0, 0, []), (3, .istore_n 2, 1, .int 0, 0, 0, 0, []), (4, .iload_n 2, 1, .int 0, 0, 0, 0, []), (5, .bipush 6, 2, .int 6, 0, 0, 0, []), (7, .if_icmp .ge 41, 3, .int 0, 48, 0, 0, []), (10, .aload_n 0, 1, .int 0, 0, 0, 0, []), (11, .iload_n 2, 1, .int 0, 0, 0, 0, []), (12, .invokevirtual 64, 3, .int 0, 89, 2, 162, [(0, 9), (0, 1)]), (15, .ifCond .eq 27, 3, .int 0, 42, 0, 0, []), (18, .aload_n 0, 1, .int 0, 0, 0, 0, []), (19, .getfield 9, 3, .ref 0, 9, 0, 54, []), (22, .iload_n 2, 1, .int 0, 0, 0, 0, []), (23, .aload_n 0, 1, .int 0, 0, 0, 0, []), (24, .getfield 25, 3, .ref 0, 9, 3, 64, []), (27, .getfield 68, 3, .int 0, 4, 0, 30, []), (30, .invokevirtual 71, 3, .int 0, 36, 3, 163, [(0, 3), (0, 1)]), (33, .ifCond .eq 9, 3, .int 0, 42, 0, 0, []), (36, .iload_n 1, 1, .int 0, 0, 0, 0, []), (37, .iconst 1, 1, .int 1, 0, 0, 0, []), (38, .iload_n 2, 1, .int 0, 0, 0, 0, []), (39, .ishl, 1, .int 0, 0, 0, 0, []), (40, .ior, 1, .int 0, 0, 0, 0, []), (41, .istore_n 1, 1, .int 0, 0, 0, 0, []), (42, .iinc 2 1, 3, .int 1, 0, 0, 0, []), (45, .goto (-41), 3, .int 0, 4, 0, 0, []), (48, .iload_n 1, 1, .int 0, 0, 0, 0, []), (49, .ireturn, 1, .int 0, 0, 0, 0, [])]
set_option maxRecDepth 100000 in
theorem okX9_waresThere : codeOk 91 kX9_waresThere := ⟨_, rfl, by decide +kernel⟩
def kX9_writeDown : List AI := [(0, .aload_n 0, 1, .int 0, 0, 0, 0, []), (1, .getfield 46, 3, .int 0, 9, 9, 77, []), (4, .bipush 10, 2, .int 10, 0, 0, 0, []), (6, .if_icmp .ge 43, 3, .int 0, 49, 0, 0, []), (9, .aload_n 0, 1, .int 0, 0, 0, 0, []), (10, .getfield 36, 3, .ref 0, 9, 6, 71, []), (13, .aload_n 0, 1, .int 0, 0, 0, 0, []), (14, .getfield 46, 3, .int 0, 9, 9, 77, []), (17, .iload_n 1, 1, .int 0, 0, 0, 0, []), (18, .iastore, 1, .int 0, 0, 0, 0, []), (19, .aload_n 0, 1, .int 0, 0, 0, 0, []), (20, .getfield 40, 3, .ref 0, 9, 7, 73, []), (23, .aload_n 0, 1, .int 0, 0, 0, 0, []), (24, .getfield 46, 3, .int 0, 9, 9, 77, []), (27, .iload_n 2, 1, .int 0, 0, 0, 0, []), (28, .iastore, 1, .int 0, 0, 0, 0, []), (29, .aload_n 0, 1, .int 0, 0, 0, 0, []), (30, .getfield 43, 3, .ref 0, 9, 8, 75, []), (33, .aload_n 0, 1, .int 0, 0, 0, 0, []), (34, .getfield 46, 3, .int 0, 9, 9, 77, []), (37, .iload_n 3, 1, .int 0, 0, 0, 0, []), (38, .iastore, 1, .int 0, 0, 0, 0, []), (39, .aload_n 0, 1, .int 0, 0, 0, 0, []), (40, .dup, 1, .int 0, 0, 0, 0, []), (41, .getfield 46, 3, .int 0, 9, 9, 77, []), (44, .iconst 1, 1, .int 1, 0, 0, 0, []), (45, .iadd, 1, .int 0, 0, 0, 0, []), (46, .putfield 46, 3, .int 0, 9, 9, 77, []), (49, .return_, 1, .int 0, 0, 0, 0, [])]
set_option maxRecDepth 100000 in
theorem okX9_writeDown : codeOk 92 kX9_writeDown := ⟨_, rfl, by decide +kernel⟩
def kX9_remember : List AI := [(0, .aload_n 0, 1, .int 0, 0, 0, 0, []), (1, .getfield 33, 3, .int 0, 9, 5, 69, []), (4, .bipush 20, 2, .int 20, 0, 0, 0, []), (6, .if_icmp .lt 7, 3, .int 0, 13, 0, 0, []), (9, .aload_n 0, 1, .int 0, 0, 0, 0, []), (10, .invokevirtual 75, 3, .int 0, 94, 1, 68, [(0, 9), (0, 0)]), (13, .aload_n 0, 1, .int 0, 0, 0, 0, []), (14, .aload_n 0, 1, .int 0, 0, 0, 0, []), (15, .getfield 33, 3, .int 0, 9, 5, 69, []), (18, .aload_n 0, 1, .int 0, 0, 0, 0, []), (19, .getfield 25, 3, .ref 0, 9, 3, 64, []), (22, .invokevirtual 78, 3, .long 0, 95, 3, 69, [(0, 9), (0, 0)]), (25, .aload_n 0, 1, .int 0, 0, 0, 0, []), (26, .dup, 1, .int 0, 0, 0, 0, []), (27, .getfield 33, 3, .int 0, 9, 5, 69, []), (30, .iconst 1, 1, .int 1, 0, 0, 0, []), (31, .iadd, 1, .int 0, 0, 0, 0, []), (32, .putfield 33, 3, .int 0, 9, 5, 69, []), (35, .return_, 1, .int 0, 0, 0, 0, [])]
set_option maxRecDepth 100000 in
theorem okX9_remember : codeOk 93 kX9_remember := ⟨_, rfl, by decide +kernel⟩
def kX9_forgetOldest : List AI := [(0, .aload_n 0, 1, .int 0, 0, 0, 0, []), (1, .getfield 29, 3, .ref 0, 9, 4, 68, []), (4, .iconst 0, 1, .int 0, 0, 0, 0, []), (5, .aaload, 1, .int 0, 0, 0, 0, []), (6, .astore_n 1, 1, .int 0, 0, 0, 0, []), (7, .iconst 1, 1, .int 1, 0, 0, 0, []), (8, .istore_n 2, 1, .int 0, 0, 0, 0, []), (9, .iload_n 2, 1, .int 0, 0, 0, 0, []), (10, .bipush 20, 2, .int 20, 0, 0, 0, []), (12, .if_icmp .ge 23, 3, .int 0, 35, 0, 0, []), (15, .aload_n 0, 1, .int 0, 0, 0, 0, []), (16, .getfield 29, 3, .ref 0, 9, 4, 68, []), (19, .iload_n 2, 1, .int 0, 0, 0, 0, []), (20, .iconst 1, 1, .int 1, 0, 0, 0, []), (21, .isub, 1, .int 0, 0, 0, 0, []), (22, .aload_n 0, 1, .int 0, 0, 0, 0, []), (23, .getfield 29, 3, .ref 0, 9, 4, 68, []), (26, .iload_n 2, 1, .int 0, 0, 0, 0, []), (27, .aaload, 1, .int 0, 0, 0, 0, []), (28, .aastore, 1, .int 0, 0, 0, 0, []), (29, .iinc 2 1, 3, .int 1, 0, 0, 0, []), (32, .goto (-23), 3, .int 0, 9, 0, 0, []), (35, .aload_n 0, 1, .int 0, 0, 0, 0, []), (36, .getfield 29, 3, .ref 0, 9, 4, 68, []), (39, .bipush 19, 2, .int 19, 0, 0, 0, []), (41, .aload_n 1, 1, .int 0, 0, 0, 0, []), (42, .aastore, 1, .int 0, 0, 0, 0, []), (43, .aload_n 0, 1, .int 0, 0, 0, 0, []), (44, .bipush 19, 2, .int 19, 0, 0, 0, []), (46, .putfield 33, 3, .int 0, 9, 5, 69, []), (49, .return_, 1, .int 0, 0, 0, 0, [])]
set_option maxRecDepth 100000 in
theorem okX9_forgetOldest : codeOk 94 kX9_forgetOldest := ⟨_, rfl, by decide +kernel⟩
def kX9_keep : List AI := [(0, .aload_n 0, 1, .int 0, 0, 0, 0, []), (1, .getfield 29, 3, .ref 0, 9, 4, 68, []), (4, .iload_n 1, 1, .int 0, 0, 0, 0, []), (5, .aaload, 1, .int 0, 0, 0, 0, []), (6, .ifnonnull 16, 3, .int 0, 22, 0, 0, []), (9, .aload_n 0, 1, .int 0, 0, 0, 0, []), (10, .getfield 29, 3, .ref 0, 9, 4, 68, []), (13, .iload_n 1, 1, .int 0, 0, 0, 0, []), (14, .new 22, 3, .int 0, 4, 0, 5, []), (17, .dup, 1, .int 0, 0, 0, 0, []), (18, .invokespecial 24, 3, .long 0, 38, 1, 3, [(0, 4), (0, 0)]), (21, .aastore, 1, .int 0, 0, 0, 0, []), (22, .aload_n 0, 1, .int 0, 0, 0, 0, []), (23, .getfield 29, 3, .ref 0, 9, 4, 68, []), (26, .iload_n 1, 1, .int 0, 0, 0, 0, []), (27, .aaload, 1, .int 0, 0, 0, 0, []), (28, .aload_n 2, 1, .int 0, 0, 0, 0, []), (29, .invokevirtual 82, 3, .int 0, 40, 2, 70, [(0, 4), (0, 0)]), (32, .return_, 1, .int 0, 0, 0, 0, [])]
set_option maxRecDepth 100000 in
theorem okX9_keep : codeOk 95 kX9_keep := ⟨_, rfl, by decide +kernel⟩
def kX9_takeBack : List AI := [(0, .aload_n 0, 1, .int 0, 0, 0, 0, []), (1, .getfield 33, 3, .int 0, 9, 5, 69, []), (4, .iconst 1, 1, .int 1, 0, 0, 0, []), (5, .if_icmp .lt 17, 3, .int 0, 22, 0, 0, []), (8, .aload_n 0, 1, .int 0, 0, 0, 0, []), (9, .getfield 29, 3, .ref 0, 9, 4, 68, []), (12, .aload_n 0, 1, .int 0, 0, 0, 0, []), (13, .getfield 33, 3, .int 0, 9, 5, 69, []), (16, .iconst 1, 1, .int 1, 0, 0, 0, []), (17, .isub, 1, .int 0, 0, 0, 0, []), (18, .aaload, 1, .int 0, 0, 0, 0, []), (19, .ifnonnull 5, 3, .int 0, 24, 0, 0, []), (22, .iconst 0, 1, .int 0, 0, 0, 0, []), (23, .ireturn, 1, .int 0, 0, 0, 0, []), (24, .aload_n 0, 1, .int 0, 0, 0, 0, []), (25, .dup, 1, .int 0, 0, 0, 0, []), (26, .getfield 33, 3, .int 0, 9, 5, 69, []), (29, .iconst 1, 1, .int 1, 0, 0, 0, []), (30, .isub, 1, .int 0, 0, 0, 0, []), (31, .putfield 33, 3, .int 0, 9, 5, 69, []), (34, .aload_n 0, 1, .int 0, 0, 0, 0, []), (35, .getfield 25, 3, .ref 0, 9, 3, 64, []), (38, .aload_n 0, 1, .int 0, 0, 0, 0, []), (39, .getfield 29, 3, .ref 0, 9, 4, 68, []), (42, .aload_n 0, 1, .int 0, 0, 0, 0, []), (43, .getfield 33, 3, .int 0, 9, 5, 69, []), (46, .aaload, 1, .int 0, 0, 0, 0, []), (47, .invokevirtual 82, 3, .int 0, 40, 2, 70, [(0, 4), (0, 0)]), (50, .iconst 1, 1, .int 1, 0, 0, 0, []), (51, .ireturn, 1, .int 0, 0, 0, 0, [])]
set_option maxRecDepth 100000 in
theorem okX9_takeBack : codeOk 96 kX9_takeBack := ⟨_, rfl, by decide +kernel⟩
def kX9_become : List AI := [(0, .aload_n 0, 1, .int 0, 0, 0, 0, []), (1, .aload_n 1, 1, .int 0, 0, 0, 0, []), (2, .getfield 9, 3, .ref 0, 9, 0, 54, []), (5, .putfield 9, 3, .ref 0, 9, 0, 54, []), (8, .aload_n 0, 1, .int 0, 0, 0, 0, []), (9, .aload_n 1, 1, .int 0, 0, 0, 0, []), (10, .getfield 15, 3, .int 0, 9, 1, 59, []), (13, .putfield 15, 3, .int 0, 9, 1, 59, []), (16, .aload_n 0, 1, .int 0, 0, 0, 0, []), (17, .aload_n 1, 1, .int 0, 0, 0, 0, []), (18, .getfield 19, 3, .int 0, 9, 2, 61, []), (21, .putfield 19, 3, .int 0, 9, 2, 61, []), (24, .aload_n 0, 1, .int 0, 0, 0, 0, []), (25, .getfield 25, 3, .ref 0, 9, 3, 64, []), (28, .aload_n 1, 1, .int 0, 0, 0, 0, []), (29, .getfield 25, 3, .ref 0, 9, 3, 64, []), (32, .invokevirtual 82, 3, .int 0, 40, 2, 70, [(0, 4), (0, 0)]), (35, .aload_n 0, 1, .int 0, 0, 0, 0, []), (36, .aload_n 1, 1, .int 0, 0, 0, 0, []), (37, .getfield 33, 3, .int 0, 9, 5, 69, []), (40, .putfield 33, 3, .int 0, 9, 5, 69, []), (43, .iconst 0, 1, .int 0, 0, 0, 0, []), (44, .istore_n 2, 1, .int 0, 0, 0, 0, []), (45, .iload_n 2, 1, .int 0, 0, 0, 0, []), (46, .aload_n 0, 1, .int 0, 0, 0, 0, []), (47, .getfield 33, 3, .int 0, 9, 5, 69, []), (50, .if_icmp .ge 20, 3, .int 0, 70, 0, 0, []), (53, .aload_n 0, 1, .int 0, 0, 0, 0, []), (54, .iload_n 2, 1, .int 0, 0, 0, 0, []), (55, .aload_n 1, 1, .int 0, 0, 0, 0, []), (56, .getfield 29, 3, .ref 0, 9, 4, 68, []), (59, .iload_n 2, 1, .int 0, 0, 0, 0, []), (60, .aaload, 1, .int 0, 0, 0, 0, []), (61, .invokevirtual 78, 3, .long 0, 95, 3, 69, [(0, 9), (0, 0)]), (64, .iinc 2 1, 3, .int 1, 0, 0, 0, []), (67, .goto (-22), 3, .int 0, 45, 0, 0, []), (70, .aload_n 1, 1, .int 0, 0, 0, 0, []), (71, .getfield 36, 3, .ref 0, 9, 6, 71, []), (74, .iconst 0, 1, .int 0, 0, 0, 0, []), (75, .aload_n 0, 1, .int 0, 0, 0, 0, []), (76, .getfield 36, 3, .ref 0, 9, 6, 71, []), (79, .iconst 0, 1, .int 0, 0, 0, 0, []), (80, .bipush 10, 2, .int 10, 0, 0, 0, []), (82, .invokestatic 86, 3, .int 0, 1001, 0, 25, []), (85, .aload_n 1, 1, .int 0, 0, 0, 0, []), (86, .getfield 40, 3, .ref 0, 9, 7, 73, []), (89, .iconst 0, 1, .int 0, 0, 0, 0, []), (90, .aload_n 0, 1, .int 0, 0, 0, 0, []), (91, .getfield 40, 3, .ref 0, 9, 7, 73, []), (94, .iconst 0, 1, .int 0, 0, 0, 0, []), (95, .bipush 10, 2, .int 10, 0, 0, 0, []), (97, .invokestatic 86, 3, .int 0, 1001, 0, 25, []), (100, .aload_n 1, 1, .int 0, 0, 0, 0, []), (101, .getfield 43, 3, .ref 0, 9, 8, 75, []), (104, .iconst 0, 1, .int 0, 0, 0, 0, []), (105, .aload_n 0, 1, .int 0, 0, 0, 0, []), (106, .getfield 43, 3, .ref 0, 9, 8, 75, []), (109, .iconst 0, 1, .int 0, 0, 0, 0, []), (110, .bipush 10, 2, .int 10, 0, 0, 0, []), (112, .invokestatic 86, 3, .int 0, 1001, 0, 25, []), (115, .aload_n 0, 1, .int 0, 0, 0, 0, []), (116, .aload_n 1, 1, .int 0, 0, 0, 0, []), (117, .getfield 46, 3, .int 0, 9, 9, 77, []), (120, .putfield 46, 3, .int 0, 9, 9, 77, []), (123, .return_, 1, .int 0, 0, 0, 0, [])]
set_option maxRecDepth 100000 in
theorem okX9_become : codeOk 97 kX9_become := ⟨_, rfl, by decide +kernel⟩
def kX10_init : List AI := [(0, .aload_n 0, 1, .int 0, 0, 0, 0, []), (1, .invokespecial 3, 3, .int 0, 1000, 0, 8, [(0, 10)]), (4, .aload_n 0, 1, .int 0, 0, 0, 0, []), (5, .new 9, 3, .int 0, 1, 0, 14, []), (8, .dup, 1, .int 0, 0, 0, 0, []), (9, .invokespecial 11, 3, .long 0, 10, 1, 5, [(0, 1), (0, 0)]), (12, .putfield 12, 3, .ref 0, 10, 0, 102, []), (15, .aload_n 0, 1, .int 0, 0, 0, 0, []), (16, .new 18, 3, .int 0, 4, 0, 15, []), (19, .dup, 1, .int 0, 0, 0, 0, []), (20, .invokespecial 20, 3, .long 0, 38, 1, 9, [(0, 4), (0, 0)]), (23, .putfield 21, 3, .ref 0, 10, 1, 103, []), (26, .aload_n 0, 1, .int 0, 0, 0, 0, []), (27, .bipush 7, 2, .int 7, 0, 0, 0, []), (29, .bipush 6, 2, .int 6, 0, 0, 0, []), (31, .multianewarray 25 2, 4, .int 0, 0, 0, 1, []), (35, .putfield 27, 3, .ref 0, 10, 2, 104, []), (38, .aload_n 0, 1, .int 0, 0, 0, 0, []), (39, .iconst 0, 1, .int 0, 0, 0, 0, []), (40, .putfield 30, 3, .int 0, 10, 3, 105, []), (43, .aload_n 0, 1, .int 0, 0, 0, 0, []), (44, .bipush (-2), 2, .int (-2), 0, 0, 0, []), (46, .putfield 34, 3, .int 0, 10, 4, 107, []), (49, .return_, 1, .int 0, 0, 0, 0, [])]
set_option maxRecDepth 100000 in
theorem okX10_init : codeOk 98 kX10_init := ⟨_, rfl, by decide +kernel⟩
def kX10_hear : List AI := [(0, .aload_n 0, 1, .int 0, 0, 0, 0, []), (1, .iconst 0, 1, .int 0, 0, 0, 0, []), (2, .putfield 30, 3, .int 0, 10, 3, 105, []), (5, .aload_n 0, 1, .int 0, 0, 0, 0, []), (6, .bipush (-2), 2, .int (-2), 0, 0, 0, []), (8, .putfield 34, 3, .int 0, 10, 4, 107, []), (11, .iconst (-1), 1, .int (-1), 0, 0, 0, []), (12, .istore 5, 2, .int 0, 0, 0, 0, []), (14, .iload 5, 2, .int 0, 0, 0, 0, []), (16, .iload_n 3, 1, .int 0, 0, 0, 0, []), (17, .if_icmp .ge 65, 3, .int 0, 82, 0, 0, []), (20, .aload_n 0, 1, .int 0, 0, 0, 0, []), (21, .getfield 30, 3, .int 0, 10, 3, 105, []), (24, .bipush 6, 2, .int 6, 0, 0, 0, []), (26, .if_icmp .gt 56, 3, .int 0, 82, 0, 0, []), (29, .aload_n 0, 1, .int 0, 0, 0, 0, []), (30, .aload_n 1, 1, .int 0, 0, 0, 0, []), (31, .iload 5, 2, .int 0, 0, 0, 0, []), (33, .iconst (-1), 1, .int (-1), 0, 0, 0, []), (34, .if_icmp .ne 7, 3, .int 0, 41, 0, 0, []), (37, .aconst_null, 1, .int 0, 0, 0, 0, []), (38, .goto 7, 3, .int 0, 45, 0, 0, []), (41, .aload_n 2, 1, .int 0, 0, 0, 0, []), (42, .iload 5, 2, .int 0, 0, 0, 0, []), (44, .aaload, 1, .int 0, 0, 0, 0, []), (45, .iload 4, 2, .int 0, 0, 0, 0, []), (47, .invokevirtual 37, 3, .int 0, 100, 4, 144, [(0, 10), (0, 1)]), (50, .ifCond .eq 26, 3, .int 0, 76, 0, 0, []), (53, .aload_n 0, 1, .int 0, 0, 0, 0, []), (54, .getfield 30, 3, .int 0, 10, 3, 105, []), (57, .ifCond .ne 9, 3, .int 0, 66, 0, 0, []), (60, .aload_n 0, 1, .int 0, 0, 0, 0, []), (61, .iload 5, 2, .int 0, 0, 0, 0, []), (63, .putfield 34, 3, .int 0, 10, 4, 107, []), (66, .aload_n 0, 1, .int 0, 0, 0, 0, []), (67, .dup, 1, .int 0, 0, 0, 0, []), (68, .getfield 30, 3, .int 0, 10, 3, 105, []), (71, .iconst 1, 1, .int 1, 0, 0, 0, []), (72, .iadd, 1, .int 0, 0, 0, 0, []), (73, .putfield 30, 3, .int 0, 10, 3, 105, []), (76, .iinc 5 1, 3, .int 1, 0, 0, 0, []), (79, .goto (-65), 3, .int 0, 14, 0, 0, []), (82, .return_, 1, .int 0, 0, 0, 0, [])]
set_option maxRecDepth 100000 in
theorem okX10_hear : codeOk 99 kX10_hear := ⟨_, rfl, by decide +kernel⟩
def kX10_fits : List AI := [(0, .aload_n 0, 1, .int 0, 0, 0, 0, []), (1, .getfield 21, 3, .ref 0, 10, 1, 103, []), (4, .aload_n 1, 1, .int 0, 0, 0, 0, []), (5, .getfield 41, 3, .ref 0, 9, 0, 55, []), (8, .invokevirtual 47, 3, .int 0, 39, 2, 145, [(0, 4), (0, 0)]), (11, .aload_n 1, 1, .int 0, 0, 0, 0, []), (12, .iload_n 3, 1, .int 0, 0, 0, 0, []), (13, .invokestatic 51, 3, .int 0, 101, 2, 146, [(0, 10), (0, 1)]), (16, .istore 4, 2, .int 0, 0, 0, 0, []), (18, .iconst 0, 1, .int 0, 0, 0, 0, []), (19, .istore 5, 2, .int 0, 0, 0, 0, []), (21, .iload 5, 2, .int 0, 0, 0, 0, []), (23, .iload 4, 2, .int 0, 0, 0, 0, []), (25, .if_icmp .gt 67, 3, .int 0, 92, 0, 0, []), (28, .aload_n 0, 1, .int 0, 0, 0, 0, []), (29, .getfield 12, 3, .ref 0, 10, 0, 102, []), (32, .aload_n 1, 1, .int 0, 0, 0, 0, []), (33, .getfield 41, 3, .ref 0, 9, 0, 55, []), (36, .aload_n 0, 1, .int 0, 0, 0, 0, []), (37, .getfield 21, 3, .ref 0, 10, 1, 103, []), (40, .aload_n 2, 1, .int 0, 0, 0, 0, []), (41, .invokevirtual 55, 3, .int 0, 11, 4, 147, [(0, 1), (0, 1)]), (44, .pop, 1, .int 0, 0, 0, 0, []), (45, .aload_n 0, 1, .int 0, 0, 0, 0, []), (46, .aload_n 1, 1, .int 0, 0, 0, 0, []), (47, .iload 5, 2, .int 0, 0, 0, 0, []), (49, .invokevirtual 59, 3, .int 0, 102, 3, 148, [(0, 10), (0, 1)]), (52, .ifCond .ne 5, 3, .int 0, 57, 0, 0, []), (55, .iconst 0, 1, .int 0, 0, 0, 0, []), (56, .ireturn, 1, .int 0, 0, 0, 0, []), (57, .iload 5, 2, .int 0, 0, 0, 0, []), (59, .iload_n 3, 1, .int 0, 0, 0, 0, []), (60, .if_icmp .ne 26, 3, .int 0, 86, 0, 0, []), (63, .aload_n 0, 1, .int 0, 0, 0, 0, []), (64, .getfield 21, 3, .ref 0, 10, 1, 103, []), (67, .getfield 63, 3, .ref 0, 4, 5, 51, []), (70, .iconst 0, 1, .int 0, 0, 0, 0, []), (71, .aload_n 0, 1, .int 0, 0, 0, 0, []), (72, .getfield 27, 3, .ref 0, 10, 2, 104, []), (75, .aload_n 0, 1, .int 0, 0, 0, 0, []), (76, .getfield 30, 3, .int 0, 10, 3, 105, []), (79, .aaload, 1, .int 0, 0, 0, 0, []), (80, .iconst 0, 1, .int 0, 0, 0, 0, []), (81, .bipush 6, 2, .int 6, 0, 0, 0, []), (83, .invokestatic 67, 3, .int 0, 1001, 0, 23, []), (86, .iinc 5 1, 3, .int 1, 0, 0, 0, []), (89, .goto (-68), 3, .int 0, 21, 0, 0, []), (92, .iconst 1, 1, .int 1, 0, 0, 0, []), (93, .ireturn, 1, .int 0, 0, 0, 0, [])]
set_option maxRecDepth 100000 in
theorem okX10_fits : codeOk 100 kX10_fits := ⟨_, rfl, by decide +kernel⟩
def kX10_lastOf : List AI := [(0, .iload_n 1, 1, .int 0, 0, 0, 0, []), (1, .istore_n 2, 1, .int 0, 0, 0, 0, []), (2, .iconst 0, 1, .int 0, 0, 0, 0, []), (3, .istore_n 3, 1, .int 0, 0, 0, 0, []), (4, .iload_n 3, 1, .int 0, 0, 0, 0, []), (5, .aload_n 0, 1, .int 0, 0, 0, 0, []), (6, .getfield 73, 3, .int 0, 9, 9, 78, []), (9, .if_icmp .ge 20, 3, .int 0, 29, 0, 0, []), (12, .iload_n 2, 1, .int 0, 0, 0, 0, []), (13, .aload_n 0, 1, .int 0, 0, 0, 0, []), (14, .getfield 76, 3, .ref 0, 9, 6, 72, []), (17, .iload_n 3, 1, .int 0, 0, 0, 0, []), (18, .iaload, 1, .int 0, 0, 0, 0, []), (19, .invokestatic 79, 3, .int 0, 1002, 0, 22, []), (22, .istore_n 2, 1, .int 0, 0, 0, 0, []), (23, .iinc 3 1, 3, .int 1, 0, 0, 0, []), (26, .goto (-22), 3, .int 0, 4, 0, 0, []), (29, .iload_n 2, 1, .int 0, 0, 0, 0, []), (30, .ireturn, 1, .int 0, 0, 0, 0, [])]
set_option maxRecDepth 100000 in
theorem okX10_lastOf : codeOk 101 kX10_lastOf := ⟨_, rfl, by decide +kernel⟩
def kX10_agrees : List AI := [(0, .iconst 0, 1, .int 0, 0, 0, 0, []), (1, .istore_n 3, 1, .int 0, 0, 0, 0, []), (2, .iload_n 3, 1, .int 0, 0, 0, 0, []), (3, .aload_n 1, 1, .int 0, 0, 0, 0, []), (4, .getfield 73, 3, .int 0, 9, 9, 78, []), (7, .if_icmp .ge 44, 3, .int 0, 51, 0, 0, []), (10, .aload_n 1, 1, .int 0, 0, 0, 0, []), (11, .getfield 76, 3, .ref 0, 9, 6, 72, []), (14, .iload_n 3, 1, .int 0, 0, 0, 0, []), (15, .iaload, 1, .int 0, 0, 0, 0, []), (16, .iload_n 2, 1, .int 0, 0, 0, 0, []), (17, .if_icmp .ne 28, 3, .int 0, 45, 0, 0, []), (20, .aload_n 0, 1, .int 0, 0, 0, 0, []), (21, .getfield 21, 3, .ref 0, 10, 1, 103, []), (24, .getfield 63, 3, .ref 0, 4, 5, 51, []), (27, .aload_n 1, 1, .int 0, 0, 0, 0, []), (28, .getfield 85, 3, .ref 0, 9, 7, 74, []), (31, .iload_n 3, 1, .int 0, 0, 0, 0, []), (32, .iaload, 1, .int 0, 0, 0, 0, []), (33, .iaload, 1, .int 0, 0, 0, 0, []), (34, .aload_n 1, 1, .int 0, 0, 0, 0, []), (35, .getfield 88, 3, .ref 0, 9, 8, 76, []), (38, .iload_n 3, 1, .int 0, 0, 0, 0, []), (39, .iaload, 1, .int 0, 0, 0, 0, []), (40, .if_icmp .eq 5, 3, .int 0, 45, 0, 0, []), (43, .iconst 0, 1, .int 0, 0, 0, 0, []), (44, .ireturn, 1, .int 0, 0, 0, 0, []), (45, .iinc 3 1, 3, .int 1, 0, 0, 0, []), (48, .goto (-46), 3, .int 0, 2, 0, 0, []), (51, .iconst 1, 1, .int 1, 0, 0, 0, []), (52, .ireturn, 1, .int 0, 0, 0, 0, [])]
set_option maxRecDepth 100000 in
theorem okX10_agrees : codeOk 102 kX10_agrees := ⟨_, rfl, by decide +kernel⟩
def kX10_bestWare : List AI := [(0, .bipush (-2), 2, .int (-2), 0, 0, 0, []), (2, .istore_n 3, 1, .int 0, 0, 0, 0, []), (3, .bipush (-2), 2, .int (-2), 0, 0, 0, []), (5, .istore 4, 2, .int 0, 0, 0, 0, []), (7, .iconst 0, 1, .int 0, 0, 0, 0, []), (8, .istore 5, 2, .int 0, 0, 0, 0, []), (10, .aload_n 0, 1, .int 0, 0, 0, 0, []), (11, .getfield 30, 3, .int 0, 10, 3, 105, []), (14, .ifCond .le 41, 3, .int 0, 55, 0, 0, []), (17, .iload 5, 2, .int 0, 0, 0, 0, []), (19, .iload_n 1, 1, .int 0, 0, 0, 0, []), (20, .if_icmp .ge 35, 3, .int 0, 55, 0, 0, []), (23, .aload_n 0, 1, .int 0, 0, 0, 0, []), (24, .iload 5, 2, .int 0, 0, 0, 0, []), (26, .invokevirtual 91, 3, .int 0, 104, 2, 151, [(0, 10), (0, 1)]), (29, .istore 6, 2, .int 0, 0, 0, 0, []), (31, .iload_n 3, 1, .int 0, 0, 0, 0, []), (32, .ifCond .lt 10, 3, .int 0, 42, 0, 0, []), (35, .iload 6, 2, .int 0, 0, 0, 0, []), (37, .iload 4, 2, .int 0, 0, 0, 0, []), (39, .if_icmp .ge 10, 3, .int 0, 49, 0, 0, []), (42, .iload 5, 2, .int 0, 0, 0, 0, []), (44, .istore_n 3, 1, .int 0, 0, 0, 0, []), (45, .iload 6, 2, .int 0, 0, 0, 0, []), (47, .istore 4, 2, .int 0, 0, 0, 0, []), (49, .iinc 5 1, 3, .int 1, 0, 0, 0, []), (52, .goto (-42), 3, .int 0, 10, 0, 0, []), (55, .iload_n 2, 1, .int 0, 0, 0, 0, []), (56, .ifCond .eq 8, 3, .int 0, 64, 0, 0, []), (59, .iload 4, 2, .int 0, 0, 0, 0, []), (61, .goto 4, 3, .int 0, 65, 0, 0, []), (64, .iload_n 3, 1, .int 0, 0, 0, 0, []), (65, .ireturn, 1, .int 0, 0, 0, 0, [])]
set_option maxRecDepth 100000 in
theorem okX10_bestWare : codeOk 103 kX10_bestWare := ⟨_, rfl, by decide +kernel⟩
def kX10_mostAlike : List AI := [(0, .iconst 0, 1, .int 0, 0, 0, 0, []), (1, .istore_n 2, 1, .int 0, 0, 0, 0, []), (2, .iconst 0, 1, .int 0, 0, 0, 0, []), (3, .istore_n 3, 1, .int 0, 0, 0, 0, []), (4, .iload_n 3, 1, .int 0, 0, 0, 0, []), (5, .aload_n 0, 1, .int 0, 0, 0, 0, []), (6, .getfield 30, 3, .int 0, 10, 3, 105, []), (9, .if_icmp .ge 60, 3, .int 0, 69, 0, 0, []), (12, .iconst 0, 1, .int 0, 0, 0, 0, []), (13, .istore 4, 2, .int 0, 0, 0, 0, []), (15, .iconst 0, 1, .int 0, 0, 0, 0, []), (16, .istore 5, 2, .int 0, 0, 0, 0, []), (18, .iload 5, 2, .int 0, 0, 0, 0, []), (20, .aload_n 0, 1, .int 0, 0, 0, 0, []), (21, .getfield 30, 3, .int 0, 10, 3, 105, []), (24, .if_icmp .ge 32, 3, .int 0, 56, 0, 0, []), (27, .aload_n 0, 1, .int 0, 0, 0, 0, []), (28, .getfield 27, 3, .ref 0, 10, 2, 104, []), (31, .iload 5, 2, .int 0, 0, 0, 0, []), (33, .aaload, 1, .int 0, 0, 0, 0, []), (34, .iload_n 1, 1, .int 0, 0, 0, 0, []), (35, .iaload, 1, .int 0, 0, 0, 0, []), (36, .aload_n 0, 1, .int 0, 0, 0, 0, []), (37, .getfield 27, 3, .ref 0, 10, 2, 104, []), (40, .iload_n 3, 1, .int 0, 0, 0, 0, []), (41, .aaload, 1, .int 0, 0, 0, 0, []), (42, .iload_n 1, 1, .int 0, 0, 0, 0, []), (43, .iaload, 1, .int 0, 0, 0, 0, []), (44, .if_icmp .ne 6, 3, .int 0, 50, 0, 0, []), (47, .iinc 4 1, 3, .int 1, 0, 0, 0, []), (50, .iinc 5 1, 3, .int 1, 0, 0, 0, []), (53, .goto (-35), 3, .int 0, 18, 0, 0, []), (56, .iload_n 2, 1, .int 0, 0, 0, 0, []), (57, .iload 4, 2, .int 0, 0, 0, 0, []), (59, .invokestatic 79, 3, .int 0, 1002, 0, 22, []), (62, .istore_n 2, 1, .int 0, 0, 0, 0, []), (63, .iinc 3 1, 3, .int 1, 0, 0, 0, []), (66, .goto (-62), 3, .int 0, 4, 0, 0, []), (69, .iload_n 2, 1, .int 0, 0, 0, 0, []), (70, .ireturn, 1, .int 0, 0, 0, 0, [])]
set_option maxRecDepth 100000 in
theorem okX10_mostAlike : codeOk 104 kX10_mostAlike := ⟨_, rfl, by decide +kernel⟩
end
section
def kX11_init : List AI := [(0, .aload_n 0, 1, .int 0, 0, 0, 0, []), (1, .invokespecial 1, 3, .int 0, 1000, 0, 0, [(0, 11)]), (4, .aload_n 0, 1, .int 0, 0, 0, 0, []), (5, .new 7, 3, .int 0, 7, 0, 1, []), (8, .dup, 1, .int 0, 0, 0, 0, []), (9, .invokespecial 9, 3, .long 0, 56, 1, 0, [(0, 7), (0, 0)]), (12, .putfield 10, 3, .ref 0, 11, 0, 110, []), (15, .aload_n 0, 1, .int 0, 0, 0, 0, []), (16, .aload_n 0, 1, .int 0, 0, 0, 0, []), (17, .getfield 10, 3, .ref 0, 11, 0, 110, []), (20, .getfield 16, 3, .ref 0, 7, 0, 15, []), (23, .putfield 20, 3, .ref 0, 11, 1, 111, []), (26, .aload_n 0, 1, .int 0, 0, 0, 0, []), (27, .bipush 6, 2, .int 6, 0, 0, 0, []), (29, .anewarray 23, 3, .int 0, 5, 0, 3, []), (32, .putfield 25, 3, .ref 0, 11, 2, 112, []), (35, .aload_n 0, 1, .int 0, 0, 0, 0, []), (36, .iconst 0, 1, .int 0, 0, 0, 0, []), (37, .putfield 29, 3, .int 0, 11, 3, 113, []), (40, .aload_n 0, 1, .int 0, 0, 0, 0, []), (41, .new 33, 3, .int 0, 9, 0, 4, []), (44, .dup, 1, .int 0, 0, 0, 0, []), (45, .invokespecial 35, 3, .long 0, 86, 1, 2, [(0, 9), (0, 0)]), (48, .putfield 36, 3, .ref 0, 11, 4, 114, []), (51, .aload_n 0, 1, .int 0, 0, 0, 0, []), (52, .iconst 4, 1, .int 4, 0, 0, 0, []), (53, .anewarray 33, 3, .int 0, 6, 0, 4, []), (56, .putfield 40, 3, .ref 0, 11, 5, 115, []), (59, .aload_n 0, 1, .int 0, 0, 0, 0, []), (60, .new 44, 3, .int 0, 1, 0, 6, []), (63, .dup, 1, .int 0, 0, 0, 0, []), (64, .invokespecial 46, 3, .long 0, 10, 1, 1, [(0, 1), (0, 0)]), (67, .putfield 47, 3, .ref 0, 11, 6, 116, []), (70, .aload_n 0, 1, .int 0, 0, 0, 0, []), (71, .new 51, 3, .int 0, 2, 0, 7, []), (74, .dup, 1, .int 0, 0, 0, 0, []), (75, .invokespecial 53, 3, .long 0, 20, 1, 4, [(0, 2), (0, 0)]), (78, .putfield 54, 3, .ref 0, 11, 7, 117, []), (81, .aload_n 0, 1, .int 0, 0, 0, 0, []), (82, .new 58, 3, .int 0, 0, 0, 10, []), (85, .dup, 1, .int 0, 0, 0, 0, []), (86, .invokespecial 60, 3, .long 0, 0, 1, 6, [(0, 0), (0, 0)]), (89, .putfield 61, 3, .ref 0, 11, 8, 118, []), (92, .aload_n 0, 1, .int 0, 0, 0, 0, []), (93, .new 65, 3, .int 0, 10, 0, 13, []), (96, .dup, 1, .int 0, 0, 0, 0, []), (97, .invokespecial 67, 3, .long 0, 98, 1, 8, [(0, 10), (0, 0)]), (100, .putfield 68, 3, .ref 0, 11, 9, 119, []), (103, .aload_n 0, 1, .int 0, 0, 0, 0, []), (104, .new 72, 3, .int 0, 5, 0, 16, []), (107, .dup, 1, .int 0, 0, 0, 0, []), (108, .invokespecial 74, 3, .long 0, 44, 1, 10, [(0, 5), (0, 0)]), (111, .putfield 75, 3, .ref 0, 11, 10, 120, []), (114, .return_, 1, .int 0, 0, 0, 0, [])]
set_option maxRecDepth 100000 in
theorem okX11_init : codeOk 105 kX11_init := ⟨_, rfl, by decide +kernel⟩
def kX11_feed : List AI := [(0, .aload_n 0, 1, .int 0, 0, 0, 0, []), (1, .getfield 20, 3, .ref 0, 11, 1, 111, []), (4, .getfield 79, 3, .int 0, 8, 1, 2, []), (7, .bipush 20, 2, .int 20, 0, 0, 0, []), (9, .iadd, 1, .int 0, 0, 0, 0, []), (10, .sipush 400, 3, .int 400, 0, 0, 0, []), (13, .if_icmp .le 5, 3, .int 0, 18, 0, 0, []), (16, .iconst (-1), 1, .int (-1), 0, 0, 0, []), (17, .ireturn, 1, .int 0, 0, 0, 0, []), (18, .aload_n 0, 1, .int 0, 0, 0, 0, []), (19, .getfield 20, 3, .ref 0, 11, 1, 111, []), (22, .iload_n 1, 1, .int 0, 0, 0, 0, []), (23, .invokevirtual 84, 3, .int 0, 74, 2, 7, [(0, 8), (0, 0)]), (26, .aload_n 0, 1, .int 0, 0, 0, 0, []), (27, .getfield 20, 3, .ref 0, 11, 1, 111, []), (30, .iload_n 2, 1, .int 0, 0, 0, 0, []), (31, .invokevirtual 84, 3, .int 0, 74, 2, 7, [(0, 8), (0, 0)]), (34, .aload_n 0, 1, .int 0, 0, 0, 0, []), (35, .getfield 20, 3, .ref 0, 11, 1, 111, []), (38, .iload_n 3, 1, .int 0, 0, 0, 0, []), (39, .invokevirtual 84, 3, .int 0, 74, 2, 7, [(0, 8), (0, 0)]), (42, .aload_n 0, 1, .int 0, 0, 0, 0, []), (43, .getfield 20, 3, .ref 0, 11, 1, 111, []), (46, .iload 4, 2, .int 0, 0, 0, 0, []), (48, .invokevirtual 84, 3, .int 0, 74, 2, 7, [(0, 8), (0, 0)]), (51, .aload_n 0, 1, .int 0, 0, 0, 0, []), (52, .getfield 20, 3, .ref 0, 11, 1, 111, []), (55, .iload 5, 2, .int 0, 0, 0, 0, []), (57, .invokevirtual 84, 3, .int 0, 74, 2, 7, [(0, 8), (0, 0)]), (60, .aload_n 0, 1, .int 0, 0, 0, 0, []), (61, .getfield 20, 3, .ref 0, 11, 1, 111, []), (64, .getfield 79, 3, .int 0, 8, 1, 2, []), (67, .ireturn, 1, .int 0, 0, 0, 0, [])]
set_option maxRecDepth 100000 in
theorem okX11_feed : codeOk 106 kX11_feed := ⟨_, rfl, by decide +kernel⟩
def kX11_end : List AI := [(0, .iload_n 1, 1, .int 0, 0, 0, 0, []), (1, .ifCond .lt 14, 3, .int 0, 15, 0, 0, []), (4, .iload_n 1, 1, .int 0, 0, 0, 0, []), (5, .aload_n 0, 1, .int 0, 0, 0, 0, []), (6, .getfield 20, 3, .ref 0, 11, 1, 111, []), (9, .getfield 79, 3, .int 0, 8, 1, 2, []), (12, .if_icmp .le 5, 3, .int 0, 17, 0, 0, []), (15, .iconst (-1), 1, .int (-1), 0, 0, 0, []), (16, .ireturn, 1, .int 0, 0, 0, 0, []), (17, .aload_n 0, 1, .int 0, 0, 0, 0, []), (18, .getfield 20, 3, .ref 0, 11, 1, 111, []), (21, .iload_n 1, 1, .int 0, 0, 0, 0, []), (22, .putfield 79, 3, .int 0, 8, 1, 2, []), (25, .iload_n 1, 1, .int 0, 0, 0, 0, []), (26, .ireturn, 1, .int 0, 0, 0, 0, [])]
set_option maxRecDepth 100000 in
theorem okX11_end : codeOk 107 kX11_end := ⟨_, rfl, by decide +kernel⟩
def kX11_hill : List AI := [(0, .new 88, 3, .int 0, 3, 0, 17, []), (3, .dup, 1, .int 0, 0, 0, 0, []), (4, .invokespecial 90, 3, .long 0, 33, 1, 11, [(0, 3), (0, 0)]), (7, .astore_n 1, 1, .int 0, 0, 0, 0, []), (8, .aload_n 1, 1, .int 0, 0, 0, 0, []), (9, .aload_n 0, 1, .int 0, 0, 0, 0, []), (10, .getfield 20, 3, .ref 0, 11, 1, 111, []), (13, .invokevirtual 91, 3, .int 0, 34, 2, 10, [(0, 3), (0, 1)]), (16, .istore_n 2, 1, .int 0, 0, 0, 0, []), (17, .aload_n 0, 1, .int 0, 0, 0, 0, []), (18, .getfield 20, 3, .ref 0, 11, 1, 111, []), (21, .iconst 0, 1, .int 0, 0, 0, 0, []), (22, .putfield 79, 3, .int 0, 8, 1, 2, []), (25, .iload_n 2, 1, .int 0, 0, 0, 0, []), (26, .ifCond .ne 14, 3, .int 0, 40, 0, 0, []), (29, .bipush (-2), 2, .int (-2), 0, 0, 0, []), (31, .aload_n 0, 1, .int 0, 0, 0, 0, []), (32, .getfield 20, 3, .ref 0, 11, 1, 111, []), (35, .getfield 95, 3, .int 0, 8, 2, 6, []), (38, .isub, 1, .int 0, 0, 0, 0, []), (39, .ireturn, 1, .int 0, 0, 0, 0, []), (40, .aload_n 0, 1, .int 0, 0, 0, 0, []), (41, .getfield 36, 3, .ref 0, 11, 4, 114, []), (44, .aload_n 1, 1, .int 0, 0, 0, 0, []), (45, .invokevirtual 98, 3, .int 0, 87, 2, 31, [(0, 9), (0, 0)]), (48, .aload_n 1, 1, .int 0, 0, 0, 0, []), (49, .getfield 102, 3, .int 0, 3, 1, 126, []), (52, .ireturn, 1, .int 0, 0, 0, 0, [])]
set_option maxRecDepth 100000 in
theorem okX11_hill : codeOk 108 kX11_hill := ⟨_, rfl, by decide +kernel⟩
def kX11_rule : List AI := [(0, .aload_n 0, 1, .int 0, 0, 0, 0, []), (1, .getfield 29, 3, .int 0, 11, 3, 113, []), (4, .bipush 6, 2, .int 6, 0, 0, 0, []), (6, .if_icmp .lt 5, 3, .int 0, 11, 0, 0, []), (9, .iconst (-1), 1, .int (-1), 0, 0, 0, []), (10, .ireturn, 1, .int 0, 0, 0, 0, []), (11, .aload_n 0, 1, .int 0, 0, 0, 0, []), (12, .getfield 10, 3, .ref 0, 11, 0, 110, []), (15, .invokevirtual 105, 3, .long 0, 57, 1, 35, [(0, 7), (0, 3)]), (18, .astore_n 1, 1, .int 0, 0, 0, 0, []), (19, .aload_n 0, 1, .int 0, 0, 0, 0, []), (20, .getfield 20, 3, .ref 0, 11, 1, 111, []), (23, .iconst 0, 1, .int 0, 0, 0, 0, []), (24, .putfield 79, 3, .int 0, 8, 1, 2, []), (27, .aload_n 1, 1, .int 0, 0, 0, 0, []), (28, .ifnonnull 14, 3, .int 0, 42, 0, 0, []), (31, .bipush (-2), 2, .int (-2), 0, 0, 0, []), (33, .aload_n 0, 1, .int 0, 0, 0, 0, []), (34, .getfield 20, 3, .ref 0, 11, 1, 111, []), (37, .getfield 95, 3, .int 0, 8, 2, 6, []), (40, .isub, 1, .int 0, 0, 0, 0, []), (41, .ireturn, 1, .int 0, 0, 0, 0, []), (42, .aload_n 0, 1, .int 0, 0, 0, 0, []), (43, .getfield 25, 3, .ref 0, 11, 2, 112, []), (46, .aload_n 0, 1, .int 0, 0, 0, 0, []), (47, .getfield 29, 3, .int 0, 11, 3, 113, []), (50, .aload_n 1, 1, .int 0, 0, 0, 0, []), (51, .aastore, 1, .int 0, 0, 0, 0, []), (52, .aload_n 0, 1, .int 0, 0, 0, 0, []), (53, .dup, 1, .int 0, 0, 0, 0, []), (54, .getfield 29, 3, .int 0, 11, 3, 113, []), (57, .iconst 1, 1, .int 1, 0, 0, 0, []), (58, .iadd, 1, .int 0, 0, 0, 0, []), (59, .putfield 29, 3, .int 0, 11, 3, 113, []), (62, .aload_n 0, 1, .int 0, 0, 0, 0, []), (63, .getfield 29, 3, .int 0, 11, 3, 113, []), (66, .iconst 1, 1, .int 1, 0, 0, 0, []), (67, .isub, 1, .int 0, 0, 0, 0, []), (68, .ireturn, 1, .int 0, 0, 0, 0, [])]
set_option maxRecDepth 100000 in
theorem okX11_rule : codeOk 109 kX11_rule := ⟨_, rfl, by decide +kernel⟩
def kX11_force : List AI := [(0, .iload_n 1, 1, .int 0, 0, 0, 0, []), (1, .iconst (-1), 1, .int (-1), 0, 0, 0, []), (2, .if_icmp .lt 11, 3, .int 0, 13, 0, 0, []), (5, .iload_n 1, 1, .int 0, 0, 0, 0, []), (6, .aload_n 0, 1, .int 0, 0, 0, 0, []), (7, .getfield 29, 3, .int 0, 11, 3, 113, []), (10, .if_icmp .lt 6, 3, .int 0, 16, 0, 0, []), (13, .bipush (-2), 2, .int (-2), 0, 0, 0, []), (15, .ireturn, 1, .int 0, 0, 0, 0, []), (16, .aload_n 0, 1, .int 0, 0, 0, 0, []), (17, .getfield 36, 3, .ref 0, 11, 4, 114, []), (20, .getfield 108, 3, .int 0, 9, 1, 60, []), (23, .istore_n 2, 1, .int 0, 0, 0, 0, []), (24, .aload_n 0, 1, .int 0, 0, 0, 0, []), (25, .getfield 36, 3, .ref 0, 11, 4, 114, []), (28, .iload_n 1, 1, .int 0, 0, 0, 0, []), (29, .putfield 108, 3, .int 0, 9, 1, 60, []), (32, .iload_n 2, 1, .int 0, 0, 0, 0, []), (33, .ireturn, 1, .int 0, 0, 0, 0, [])]
set_option maxRecDepth 100000 in
theorem okX11_force : codeOk 110 kX11_force := ⟨_, rfl, by decide +kernel⟩
def kX11_runner : List AI := [(0, .aload_n 0, 1, .int 0, 0, 0, 0, []), (1, .getfield 36, 3, .ref 0, 11, 4, 114, []), (4, .iload_n 1, 1, .int 0, 0, 0, 0, []), (5, .invokevirtual 111, 3, .int 0, 88, 2, 62, [(0, 9), (0, 1)]), (8, .ifCond .ne 7, 3, .int 0, 15, 0, 0, []), (11, .sipush (-1000), 3, .int (-1000), 0, 0, 0, []), (14, .ireturn, 1, .int 0, 0, 0, 0, []), (15, .iload_n 2, 1, .int 0, 0, 0, 0, []), (16, .tableswitch 67 0 2 #[28, 41, 54], 28, .int 0, 83, 0, 0, [(0, 44), (1, 57), (2, 70)]), (44, .aload_n 0, 1, .int 0, 0, 0, 0, []), (45, .getfield 36, 3, .ref 0, 11, 4, 114, []), (48, .getfield 115, 3, .ref 0, 9, 3, 67, []), (51, .getfield 119, 3, .ref 0, 4, 1, 34, []), (54, .iload_n 1, 1, .int 0, 0, 0, 0, []), (55, .iaload, 1, .int 0, 0, 0, 0, []), (56, .ireturn, 1, .int 0, 0, 0, 0, []), (57, .aload_n 0, 1, .int 0, 0, 0, 0, []), (58, .getfield 36, 3, .ref 0, 11, 4, 114, []), (61, .getfield 115, 3, .ref 0, 9, 3, 67, []), (64, .getfield 125, 3, .ref 0, 4, 2, 38, []), (67, .iload_n 1, 1, .int 0, 0, 0, 0, []), (68, .iaload, 1, .int 0, 0, 0, 0, []), (69, .ireturn, 1, .int 0, 0, 0, 0, []), (70, .aload_n 0, 1, .int 0, 0, 0, 0, []), (71, .getfield 36, 3, .ref 0, 11, 4, 114, []), (74, .getfield 115, 3, .ref 0, 9, 3, 67, []), (77, .getfield 128, 3, .ref 0, 4, 3, 45, []), (80, .iload_n 1, 1, .int 0, 0, 0, 0, []), (81, .iaload, 1, .int 0, 0, 0, 0, []), (82, .ireturn, 1, .int 0, 0, 0, 0, []), (83, .sipush (-1000), 3, .int (-1000), 0, 0, 0, []), (86, .ireturn, 1, .int 0, 0, 0, 0, [])]
set_option maxRecDepth 100000 in
theorem okX11_runner : codeOk 111 kX11_runner := ⟨_, rfl, by decide +kernel⟩
def kX11_ware : List AI := [(0, .aload_n 0, 1, .int 0, 0, 0, 0, []), (1, .getfield 36, 3, .ref 0, 11, 4, 114, []), (4, .iload_n 1, 1, .int 0, 0, 0, 0, []), (5, .invokevirtual 131, 3, .int 0, 89, 2, 64, [(0, 9), (0, 1)]), (8, .ifCond .ne 6, 3, .int 0, 14, 0, 0, []), (11, .bipush (-2), 2, .int (-2), 0, 0, 0, []), (13, .ireturn, 1, .int 0, 0, 0, 0, []), (14, .iload_n 2, 1, .int 0, 0, 0, 0, []), (15, .tableswitch 115 0 4 #[33, 46, 59, 72, 102], 33, .int 0, 130, 0, 0, [(0, 48), (1, 61), (2, 74), (3, 87), (4, 117)]), (48, .aload_n 0, 1, .int 0, 0, 0, 0, []), (49, .getfield 36, 3, .ref 0, 11, 4, 114, []), (52, .getfield 115, 3, .ref 0, 9, 3, 67, []), (55, .getfield 134, 3, .ref 0, 4, 4, 48, []), (58, .iload_n 1, 1, .int 0, 0, 0, 0, []), (59, .iaload, 1, .int 0, 0, 0, 0, []), (60, .ireturn, 1, .int 0, 0, 0, 0, []), (61, .aload_n 0, 1, .int 0, 0, 0, 0, []), (62, .getfield 36, 3, .ref 0, 11, 4, 114, []), (65, .getfield 137, 3, .ref 0, 9, 0, 58, []), (68, .getfield 141, 3, .ref 0, 3, 6, 142, []), (71, .iload_n 1, 1, .int 0, 0, 0, 0, []), (72, .iaload, 1, .int 0, 0, 0, 0, []), (73, .ireturn, 1, .int 0, 0, 0, 0, []), (74, .aload_n 0, 1, .int 0, 0, 0, 0, []), (75, .getfield 36, 3, .ref 0, 11, 4, 114, []), (78, .getfield 137, 3, .ref 0, 9, 0, 58, []), (81, .getfield 144, 3, .ref 0, 3, 7, 144, []), (84, .iload_n 1, 1, .int 0, 0, 0, 0, []), (85, .iaload, 1, .int 0, 0, 0, 0, []), (86, .ireturn, 1, .int 0, 0, 0, 0, []), (87, .aload_n 0, 1, .int 0, 0, 0, 0, []), (88, .getfield 36, 3, .ref 0, 11, 4, 114, []), (91, .getfield 137, 3, .ref 0, 9, 0, 58, []), (94, .iload_n 1, 1, .int 0, 0, 0, 0, []), (95, .aload_n 0, 1, .int 0, 0, 0, 0, []), (96, .getfield 36, 3, .ref 0, 11, 4, 114, []), (99, .getfield 115, 3, .ref 0, 9, 3, 67, []), (102, .getfield 147, 3, .int 0, 4, 0, 31, []), (105, .invokevirtual 150, 3, .int 0, 36, 3, 65, [(0, 3), (0, 1)]), (108, .ifCond .eq 7, 3, .int 0, 115, 0, 0, []), (111, .iconst 1, 1, .int 1, 0, 0, 0, []), (112, .goto 4, 3, .int 0, 116, 0, 0, []), (115, .iconst 0, 1, .int 0, 0, 0, 0, []), (116, .ireturn, 1, .int 0, 0, 0, 0, []), (117, .aload_n 0, 1, .int 0, 0, 0, 0, []), (118, .getfield 36, 3, .ref 0, 11, 4, 114, []), (121, .getfield 115, 3, .ref 0, 9, 3, 67, []), (124, .getfield 154, 3, .ref 0, 4, 5, 53, []), (127, .iload_n 1, 1, .int 0, 0, 0, 0, []), (128, .iaload, 1, .int 0, 0, 0, 0, []), (129, .ireturn, 1, .int 0, 0, 0, 0, []), (130, .bipush (-2), 2, .int (-2), 0, 0, 0, []), (132, .ireturn, 1, .int 0, 0, 0, 0, [])]
set_option maxRecDepth 100000 in
theorem okX11_ware : codeOk 112 kX11_ware := ⟨_, rfl, by decide +kernel⟩
def kX11_day : List AI := [(0, .aload_n 0, 1, .int 0, 0, 0, 0, []), (1, .getfield 36, 3, .ref 0, 11, 4, 114, []), (4, .getfield 137, 3, .ref 0, 9, 0, 58, []), (7, .ifnull 19, 3, .int 0, 26, 0, 0, []), (10, .aload_n 0, 1, .int 0, 0, 0, 0, []), (11, .getfield 36, 3, .ref 0, 11, 4, 114, []), (14, .getfield 115, 3, .ref 0, 9, 3, 67, []), (17, .getfield 147, 3, .int 0, 4, 0, 31, []), (20, .sipush 999, 3, .int 999, 0, 0, 0, []), (23, .if_icmp .lt 5, 3, .int 0, 28, 0, 0, []), (26, .iconst (-1), 1, .int (-1), 0, 0, 0, []), (27, .ireturn, 1, .int 0, 0, 0, 0, []), (28, .aload_n 0, 1, .int 0, 0, 0, 0, []), (29, .getfield 36, 3, .ref 0, 11, 4, 114, []), (32, .invokevirtual 157, 3, .long 0, 93, 1, 67, [(0, 9), (0, 0)]), (35, .aload_n 0, 1, .int 0, 0, 0, 0, []), (36, .getfield 47, 3, .ref 0, 11, 6, 116, []), (39, .aload_n 0, 1, .int 0, 0, 0, 0, []), (40, .getfield 36, 3, .ref 0, 11, 4, 114, []), (43, .getfield 137, 3, .ref 0, 9, 0, 58, []), (46, .aload_n 0, 1, .int 0, 0, 0, 0, []), (47, .getfield 36, 3, .ref 0, 11, 4, 114, []), (50, .getfield 115, 3, .ref 0, 9, 3, 67, []), (53, .aload_n 0, 1, .int 0, 0, 0, 0, []), (54, .invokevirtual 160, 3, .int 0, 138, 1, 71, [(0, 11), (0, 3)]), (57, .invokevirtual 163, 3, .int 0, 11, 4, 73, [(0, 1), (0, 1)]), (60, .ireturn, 1, .int 0, 0, 0, 0, [])]
set_option maxRecDepth 100000 in
theorem okX11_day : codeOk 113 kX11_day := ⟨_, rfl, by decide +kernel⟩
def kX11_lend : List AI := [(0, .aload_n 0, 1, .int 0, 0, 0, 0, []), (1, .getfield 36, 3, .ref 0, 11, 4, 114, []), (4, .iload_n 1, 1, .int 0, 0, 0, 0, []), (5, .invokevirtual 111, 3, .int 0, 88, 2, 62, [(0, 9), (0, 1)]), (8, .ifCond .eq 19, 3, .int 0, 27, 0, 0, []), (11, .aload_n 0, 1, .int 0, 0, 0, 0, []), (12, .getfield 36, 3, .ref 0, 11, 4, 114, []), (15, .iload_n 2, 1, .int 0, 0, 0, 0, []), (16, .invokevirtual 111, 3, .int 0, 88, 2, 62, [(0, 9), (0, 1)]), (19, .ifCond .eq 8, 3, .int 0, 27, 0, 0, []), (22, .iload_n 1, 1, .int 0, 0, 0, 0, []), (23, .iload_n 2, 1, .int 0, 0, 0, 0, []), (24, .if_icmp .ne 7, 3, .int 0, 31, 0, 0, []), (27, .sipush (-1000), 3, .int (-1000), 0, 0, 0, []), (30, .ireturn, 1, .int 0, 0, 0, 0, []), (31, .iload_n 3, 1, .int 0, 0, 0, 0, []), (32, .iconst 1, 1, .int 1, 0, 0, 0, []), (33, .if_icmp .lt 25, 3, .int 0, 58, 0, 0, []), (36, .iload_n 3, 1, .int 0, 0, 0, 0, []), (37, .bipush 20, 2, .int 20, 0, 0, 0, []), (39, .if_icmp .gt 19, 3, .int 0, 58, 0, 0, []), (42, .aload_n 0, 1, .int 0, 0, 0, 0, []), (43, .getfield 36, 3, .ref 0, 11, 4, 114, []), (46, .getfield 115, 3, .ref 0, 9, 3, 67, []), (49, .iload_n 1, 1, .int 0, 0, 0, 0, []), (50, .iload_n 2, 1, .int 0, 0, 0, 0, []), (51, .iload_n 3, 1, .int 0, 0, 0, 0, []), (52, .invokevirtual 167, 3, .int 0, 42, 4, 91, [(0, 4), (0, 1)]), (55, .ifCond .ne 7, 3, .int 0, 62, 0, 0, []), (58, .sipush (-1000), 3, .int (-1000), 0, 0, 0, []), (61, .ireturn, 1, .int 0, 0, 0, 0, []), (62, .aload_n 0, 1, .int 0, 0, 0, 0, []), (63, .getfield 36, 3, .ref 0, 11, 4, 114, []), (66, .invokevirtual 157, 3, .long 0, 93, 1, 67, [(0, 9), (0, 0)]), (69, .aload_n 0, 1, .int 0, 0, 0, 0, []), (70, .getfield 36, 3, .ref 0, 11, 4, 114, []), (73, .getfield 115, 3, .ref 0, 9, 3, 67, []), (76, .iload_n 1, 1, .int 0, 0, 0, 0, []), (77, .iload_n 2, 1, .int 0, 0, 0, 0, []), (78, .iload_n 3, 1, .int 0, 0, 0, 0, []), (79, .invokevirtual 171, 3, .int 0, 43, 4, 92, [(0, 4), (0, 0)]), (82, .aload_n 0, 1, .int 0, 0, 0, 0, []), (83, .getfield 36, 3, .ref 0, 11, 4, 114, []), (86, .getfield 115, 3, .ref 0, 9, 3, 67, []), (89, .getfield 125, 3, .ref 0, 4, 2, 38, []), (92, .iload_n 1, 1, .int 0, 0, 0, 0, []), (93, .iaload, 1, .int 0, 0, 0, 0, []), (94, .ireturn, 1, .int 0, 0, 0, 0, [])]
set_option maxRecDepth 100000 in
theorem okX11_lend : codeOk 114 kX11_lend := ⟨_, rfl, by decide +kernel⟩
def kX11_fall : List AI := [(0, .aload_n 0, 1, .int 0, 0, 0, 0, []), (1, .getfield 36, 3, .ref 0, 11, 4, 114, []), (4, .iload_n 1, 1, .int 0, 0, 0, 0, []), (5, .invokevirtual 111, 3, .int 0, 88, 2, 62, [(0, 9), (0, 1)]), (8, .ifCond .eq 18, 3, .int 0, 26, 0, 0, []), (11, .aload_n 0, 1, .int 0, 0, 0, 0, []), (12, .getfield 36, 3, .ref 0, 11, 4, 114, []), (15, .getfield 115, 3, .ref 0, 9, 3, 67, []), (18, .getfield 125, 3, .ref 0, 4, 2, 38, []), (21, .iload_n 1, 1, .int 0, 0, 0, 0, []), (22, .iaload, 1, .int 0, 0, 0, 0, []), (23, .ifCond .ne 7, 3, .int 0, 30, 0, 0, []), (26, .sipush (-1000), 3, .int (-1000), 0, 0, 0, []), (29, .ireturn, 1, .int 0, 0, 0, 0, []), (30, .aload_n 0, 1, .int 0, 0, 0, 0, []), (31, .getfield 36, 3, .ref 0, 11, 4, 114, []), (34, .invokevirtual 157, 3, .long 0, 93, 1, 67, [(0, 9), (0, 0)]), (37, .aload_n 0, 1, .int 0, 0, 0, 0, []), (38, .getfield 36, 3, .ref 0, 11, 4, 114, []), (41, .getfield 115, 3, .ref 0, 9, 3, 67, []), (44, .getfield 125, 3, .ref 0, 4, 2, 38, []), (47, .iload_n 1, 1, .int 0, 0, 0, 0, []), (48, .iaload, 1, .int 0, 0, 0, 0, []), (49, .istore_n 2, 1, .int 0, 0, 0, 0, []), (50, .aload_n 0, 1, .int 0, 0, 0, 0, []), (51, .getfield 36, 3, .ref 0, 11, 4, 114, []), (54, .getfield 115, 3, .ref 0, 9, 3, 67, []), (57, .getfield 125, 3, .ref 0, 4, 2, 38, []), (60, .iload_n 1, 1, .int 0, 0, 0, 0, []), (61, .iconst 0, 1, .int 0, 0, 0, 0, []), (62, .iastore, 1, .int 0, 0, 0, 0, []), (63, .iload_n 2, 1, .int 0, 0, 0, 0, []), (64, .ireturn, 1, .int 0, 0, 0, 0, [])]
set_option maxRecDepth 100000 in
theorem okX11_fall : codeOk 115 kX11_fall := ⟨_, rfl, by decide +kernel⟩
def kX11_shift : List AI := [(0, .aload_n 0, 1, .int 0, 0, 0, 0, []), (1, .getfield 36, 3, .ref 0, 11, 4, 114, []), (4, .iload_n 1, 1, .int 0, 0, 0, 0, []), (5, .invokevirtual 131, 3, .int 0, 89, 2, 64, [(0, 9), (0, 1)]), (8, .ifCond .eq 29, 3, .int 0, 37, 0, 0, []), (11, .iload_n 2, 1, .int 0, 0, 0, 0, []), (12, .iconst 1, 1, .int 1, 0, 0, 0, []), (13, .bipush 99, 2, .int 99, 0, 0, 0, []), (15, .invokestatic 175, 3, .int 0, 139, 3, 72, [(0, 11), (0, 1)]), (18, .ifCond .eq 19, 3, .int 0, 37, 0, 0, []), (21, .aload_n 0, 1, .int 0, 0, 0, 0, []), (22, .getfield 36, 3, .ref 0, 11, 4, 114, []), (25, .getfield 115, 3, .ref 0, 9, 3, 67, []), (28, .getfield 134, 3, .ref 0, 4, 4, 48, []), (31, .iload_n 1, 1, .int 0, 0, 0, 0, []), (32, .iaload, 1, .int 0, 0, 0, 0, []), (33, .iload_n 2, 1, .int 0, 0, 0, 0, []), (34, .if_icmp .ne 5, 3, .int 0, 39, 0, 0, []), (37, .iconst (-1), 1, .int (-1), 0, 0, 0, []), (38, .ireturn, 1, .int 0, 0, 0, 0, []), (39, .aload_n 0, 1, .int 0, 0, 0, 0, []), (40, .getfield 36, 3, .ref 0, 11, 4, 114, []), (43, .invokevirtual 157, 3, .long 0, 93, 1, 67, [(0, 9), (0, 0)]), (46, .aload_n 0, 1, .int 0, 0, 0, 0, []), (47, .getfield 36, 3, .ref 0, 11, 4, 114, []), (50, .getfield 115, 3, .ref 0, 9, 3, 67, []), (53, .getfield 134, 3, .ref 0, 4, 4, 48, []), (56, .iload_n 1, 1, .int 0, 0, 0, 0, []), (57, .iaload, 1, .int 0, 0, 0, 0, []), (58, .istore_n 3, 1, .int 0, 0, 0, 0, []), (59, .aload_n 0, 1, .int 0, 0, 0, 0, []), (60, .getfield 36, 3, .ref 0, 11, 4, 114, []), (63, .getfield 115, 3, .ref 0, 9, 3, 67, []), (66, .getfield 134, 3, .ref 0, 4, 4, 48, []), (69, .iload_n 1, 1, .int 0, 0, 0, 0, []), (70, .iload_n 2, 1, .int 0, 0, 0, 0, []), (71, .iastore, 1, .int 0, 0, 0, 0, []), (72, .iload_n 3, 1, .int 0, 0, 0, 0, []), (73, .ireturn, 1, .int 0, 0, 0, 0, [])]
set_option maxRecDepth 100000 in
theorem okX11_shift : codeOk 116 kX11_shift := ⟨_, rfl, by decide +kernel⟩
def kX11_train : List AI := [(0, .aload_n 0, 1, .int 0, 0, 0, 0, []), (1, .getfield 36, 3, .ref 0, 11, 4, 114, []), (4, .iload_n 1, 1, .int 0, 0, 0, 0, []), (5, .invokevirtual 111, 3, .int 0, 88, 2, 62, [(0, 9), (0, 1)]), (8, .ifCond .eq 29, 3, .int 0, 37, 0, 0, []), (11, .iload_n 2, 1, .int 0, 0, 0, 0, []), (12, .iconst 1, 1, .int 1, 0, 0, 0, []), (13, .bipush 20, 2, .int 20, 0, 0, 0, []), (15, .invokestatic 175, 3, .int 0, 139, 3, 72, [(0, 11), (0, 1)]), (18, .ifCond .eq 19, 3, .int 0, 37, 0, 0, []), (21, .aload_n 0, 1, .int 0, 0, 0, 0, []), (22, .getfield 36, 3, .ref 0, 11, 4, 114, []), (25, .getfield 115, 3, .ref 0, 9, 3, 67, []), (28, .getfield 119, 3, .ref 0, 4, 1, 34, []), (31, .iload_n 1, 1, .int 0, 0, 0, 0, []), (32, .iaload, 1, .int 0, 0, 0, 0, []), (33, .iload_n 2, 1, .int 0, 0, 0, 0, []), (34, .if_icmp .ne 5, 3, .int 0, 39, 0, 0, []), (37, .iconst (-1), 1, .int (-1), 0, 0, 0, []), (38, .ireturn, 1, .int 0, 0, 0, 0, []), (39, .aload_n 0, 1, .int 0, 0, 0, 0, []), (40, .getfield 36, 3, .ref 0, 11, 4, 114, []), (43, .invokevirtual 157, 3, .long 0, 93, 1, 67, [(0, 9), (0, 0)]), (46, .aload_n 0, 1, .int 0, 0, 0, 0, []), (47, .getfield 36, 3, .ref 0, 11, 4, 114, []), (50, .getfield 115, 3, .ref 0, 9, 3, 67, []), (53, .getfield 119, 3, .ref 0, 4, 1, 34, []), (56, .iload_n 1, 1, .int 0, 0, 0, 0, []), (57, .iaload, 1, .int 0, 0, 0, 0, []), (58, .istore_n 3, 1, .int 0, 0, 0, 0, []), (59, .aload_n 0, 1, .int 0, 0, 0, 0, []), (60, .getfield 36, 3, .ref 0, 11, 4, 114, []), (63, .getfield 115, 3, .ref 0, 9, 3, 67, []), (66, .getfield 119, 3, .ref 0, 4, 1, 34, []), (69, .iload_n 1, 1, .int 0, 0, 0, 0, []), (70, .iload_n 2, 1, .int 0, 0, 0, 0, []), (71, .iastore, 1, .int 0, 0, 0, 0, []), (72, .iload_n 3, 1, .int 0, 0, 0, 0, []), (73, .ireturn, 1, .int 0, 0, 0, 0, [])]
set_option maxRecDepth 100000 in
theorem okX11_train : codeOk 117 kX11_train := ⟨_, rfl, by decide +kernel⟩
def kX11_undo : List AI := [(0, .aload_n 0, 1, .int 0, 0, 0, 0, []), (1, .getfield 36, 3, .ref 0, 11, 4, 114, []), (4, .invokevirtual 178, 3, .int 0, 96, 1, 97, [(0, 9), (0, 1)]), (7, .ifCond .eq 13, 3, .int 0, 20, 0, 0, []), (10, .aload_n 0, 1, .int 0, 0, 0, 0, []), (11, .getfield 36, 3, .ref 0, 11, 4, 114, []), (14, .getfield 182, 3, .int 0, 9, 5, 70, []), (17, .goto 5, 3, .int 0, 22, 0, 0, []), (20, .bipush (-2), 2, .int (-2), 0, 0, 0, []), (22, .ireturn, 1, .int 0, 0, 0, 0, [])]
set_option maxRecDepth 100000 in
theorem okX11_undo : codeOk 118 kX11_undo := ⟨_, rfl, by decide +kernel⟩
def kX11_ahead : List AI := [(0, .iload_n 3, 1, .int 0, 0, 0, 0, []), (1, .iconst 2, 1, .int 2, 0, 0, 0, []), (2, .if_icmp .ne 14, 3, .int 0, 16, 0, 0, []), (5, .aload_n 0, 1, .int 0, 0, 0, 0, []), (6, .getfield 36, 3, .ref 0, 11, 4, 114, []), (9, .iload_n 1, 1, .int 0, 0, 0, 0, []), (10, .invokevirtual 131, 3, .int 0, 89, 2, 64, [(0, 9), (0, 1)]), (13, .goto 11, 3, .int 0, 24, 0, 0, []), (16, .aload_n 0, 1, .int 0, 0, 0, 0, []), (17, .getfield 36, 3, .ref 0, 11, 4, 114, []), (20, .iload_n 1, 1, .int 0, 0, 0, 0, []), (21, .invokevirtual 111, 3, .int 0, 88, 2, 62, [(0, 9), (0, 1)]), (24, .istore 4, 2, .int 0, 0, 0, 0, []), (26, .iload 4, 2, .int 0, 0, 0, 0, []), (28, .ifCond .eq 22, 3, .int 0, 50, 0, 0, []), (31, .iload_n 2, 1, .int 0, 0, 0, 0, []), (32, .iconst 0, 1, .int 0, 0, 0, 0, []), (33, .bipush 100, 2, .int 100, 0, 0, 0, []), (35, .invokestatic 175, 3, .int 0, 139, 3, 72, [(0, 11), (0, 1)]), (38, .ifCond .eq 12, 3, .int 0, 50, 0, 0, []), (41, .iload_n 3, 1, .int 0, 0, 0, 0, []), (42, .iconst 0, 1, .int 0, 0, 0, 0, []), (43, .iconst 2, 1, .int 2, 0, 0, 0, []), (44, .invokestatic 175, 3, .int 0, 139, 3, 72, [(0, 11), (0, 1)]), (47, .ifCond .ne 7, 3, .int 0, 54, 0, 0, []), (50, .sipush (-1000), 3, .int (-1000), 0, 0, 0, []), (53, .ireturn, 1, .int 0, 0, 0, 0, []), (54, .aload_n 0, 1, .int 0, 0, 0, 0, []), (55, .getfield 54, 3, .ref 0, 11, 7, 117, []), (58, .aload_n 0, 1, .int 0, 0, 0, 0, []), (59, .getfield 36, 3, .ref 0, 11, 4, 114, []), (62, .aload_n 0, 1, .int 0, 0, 0, 0, []), (63, .invokevirtual 160, 3, .int 0, 138, 1, 71, [(0, 11), (0, 3)]), (66, .invokevirtual 185, 3, .int 0, 21, 3, 99, [(0, 2), (0, 0)]), (69, .aload_n 0, 1, .int 0, 0, 0, 0, []), (70, .getfield 54, 3, .ref 0, 11, 7, 117, []), (73, .iload_n 2, 1, .int 0, 0, 0, 0, []), (74, .invokevirtual 189, 3, .int 0, 22, 2, 101, [(0, 2), (0, 0)]), (77, .iload_n 3, 1, .int 0, 0, 0, 0, []), (78, .ifCond .ne 16, 3, .int 0, 94, 0, 0, []), (81, .aload_n 0, 1, .int 0, 0, 0, 0, []), (82, .getfield 54, 3, .ref 0, 11, 7, 117, []), (85, .getfield 192, 3, .ref 0, 2, 1, 87, []), (88, .getfield 125, 3, .ref 0, 4, 2, 38, []), (91, .iload_n 1, 1, .int 0, 0, 0, 0, []), (92, .iaload, 1, .int 0, 0, 0, 0, []), (93, .ireturn, 1, .int 0, 0, 0, 0, []), (94, .iload_n 3, 1, .int 0, 0, 0, 0, []), (95, .iconst 1, 1, .int 1, 0, 0, 0, []), (96, .if_icmp .ne 18, 3, .int 0, 114, 0, 0, []), (99, .aload_n 0, 1, .int 0, 0, 0, 0, []), (100, .getfield 54, 3, .ref 0, 11, 7, 117, []), (103, .getfield 192, 3, .ref 0, 2, 1, 87, []), (106, .getfield 128, 3, .ref 0, 4, 3, 45, []), (109, .iload_n 1, 1, .int 0, 0, 0, 0, []), (110, .iaload, 1, .int 0, 0, 0, 0, []), (111, .goto 15, 3, .int 0, 126, 0, 0, []), (114, .aload_n 0, 1, .int 0, 0, 0, 0, []), (115, .getfield 54, 3, .ref 0, 11, 7, 117, []), (118, .getfield 192, 3, .ref 0, 2, 1, 87, []), (121, .getfield 154, 3, .ref 0, 4, 5, 53, []), (124, .iload_n 1, 1, .int 0, 0, 0, 0, []), (125, .iaload, 1, .int 0, 0, 0, 0, []), (126, .ireturn, 1, .int 0, 0, 0, 0, [])]
set_option maxRecDepth 100000 in
theorem okX11_ahead : codeOk 119 kX11_ahead := ⟨_, rfl, by decide +kernel⟩
def kX11_gets : List AI := [(0, .aload_n 0, 1, .int 0, 0, 0, 0, []), (1, .getfield 36, 3, .ref 0, 11, 4, 114, []), (4, .iload_n 1, 1, .int 0, 0, 0, 0, []), (5, .invokevirtual 111, 3, .int 0, 88, 2, 62, [(0, 9), (0, 1)]), (8, .ifCond .eq 12, 3, .int 0, 20, 0, 0, []), (11, .iload_n 2, 1, .int 0, 0, 0, 0, []), (12, .iconst 0, 1, .int 0, 0, 0, 0, []), (13, .iconst 1, 1, .int 1, 0, 0, 0, []), (14, .invokestatic 175, 3, .int 0, 139, 3, 72, [(0, 11), (0, 1)]), (17, .ifCond .ne 5, 3, .int 0, 22, 0, 0, []), (20, .iconst (-1), 1, .int (-1), 0, 0, 0, []), (21, .ireturn, 1, .int 0, 0, 0, 0, []), (22, .aload_n 0, 1, .int 0, 0, 0, 0, []), (23, .getfield 54, 3, .ref 0, 11, 7, 117, []), (26, .aload_n 0, 1, .int 0, 0, 0, 0, []), (27, .getfield 36, 3, .ref 0, 11, 4, 114, []), (30, .aload_n 0, 1, .int 0, 0, 0, 0, []), (31, .invokevirtual 160, 3, .int 0, 138, 1, 71, [(0, 11), (0, 3)]), (34, .invokevirtual 185, 3, .int 0, 21, 3, 99, [(0, 2), (0, 0)]), (37, .aload_n 0, 1, .int 0, 0, 0, 0, []), (38, .getfield 54, 3, .ref 0, 11, 7, 117, []), (41, .iload_n 1, 1, .int 0, 0, 0, 0, []), (42, .iload_n 2, 1, .int 0, 0, 0, 0, []), (43, .iconst 1, 1, .int 1, 0, 0, 0, []), (44, .if_icmp .ne 7, 3, .int 0, 51, 0, 0, []), (47, .iconst 1, 1, .int 1, 0, 0, 0, []), (48, .goto 4, 3, .int 0, 52, 0, 0, []), (51, .iconst 0, 1, .int 0, 0, 0, 0, []), (52, .invokevirtual 195, 3, .int 0, 23, 3, 104, [(0, 2), (0, 1)]), (55, .ireturn, 1, .int 0, 0, 0, 0, [])]
set_option maxRecDepth 100000 in
theorem okX11_gets : codeOk 120 kX11_gets := ⟨_, rfl, by decide +kernel⟩
def kX11_rank : List AI := [(0, .aload_n 0, 1, .int 0, 0, 0, 0, []), (1, .getfield 36, 3, .ref 0, 11, 4, 114, []), (4, .iload_n 1, 1, .int 0, 0, 0, 0, []), (5, .invokevirtual 111, 3, .int 0, 88, 2, 62, [(0, 9), (0, 1)]), (8, .ifCond .eq 13, 3, .int 0, 21, 0, 0, []), (11, .iload_n 2, 1, .int 0, 0, 0, 0, []), (12, .iconst 1, 1, .int 1, 0, 0, 0, []), (13, .bipush 99, 2, .int 99, 0, 0, 0, []), (15, .invokestatic 175, 3, .int 0, 139, 3, 72, [(0, 11), (0, 1)]), (18, .ifCond .ne 5, 3, .int 0, 23, 0, 0, []), (21, .iconst (-1), 1, .int (-1), 0, 0, 0, []), (22, .ireturn, 1, .int 0, 0, 0, 0, []), (23, .iconst 0, 1, .int 0, 0, 0, 0, []), (24, .istore_n 3, 1, .int 0, 0, 0, 0, []), (25, .iconst 0, 1, .int 0, 0, 0, 0, []), (26, .istore 4, 2, .int 0, 0, 0, 0, []), (28, .iload 4, 2, .int 0, 0, 0, 0, []), (30, .aload_n 0, 1, .int 0, 0, 0, 0, []), (31, .getfield 36, 3, .ref 0, 11, 4, 114, []), (34, .getfield 137, 3, .ref 0, 9, 0, 58, []), (37, .getfield 102, 3, .int 0, 3, 1, 126, []), (40, .if_icmp .ge 35, 3, .int 0, 75, 0, 0, []), (43, .iload 4, 2, .int 0, 0, 0, 0, []), (45, .iload_n 1, 1, .int 0, 0, 0, 0, []), (46, .if_icmp .eq 23, 3, .int 0, 69, 0, 0, []), (49, .aload_n 0, 1, .int 0, 0, 0, 0, []), (50, .getfield 36, 3, .ref 0, 11, 4, 114, []), (53, .getfield 115, 3, .ref 0, 9, 3, 67, []), (56, .iload 4, 2, .int 0, 0, 0, 0, []), (58, .iload_n 1, 1, .int 0, 0, 0, 0, []), (59, .iload_n 2, 1, .int 0, 0, 0, 0, []), (60, .invokevirtual 199, 3, .int 0, 41, 4, 107, [(0, 4), (0, 1)]), (63, .ifCond .eq 6, 3, .int 0, 69, 0, 0, []), (66, .iinc 3 1, 3, .int 1, 0, 0, 0, []), (69, .iinc 4 1, 3, .int 1, 0, 0, 0, []), (72, .goto (-44), 3, .int 0, 28, 0, 0, []), (75, .iload_n 3, 1, .int 0, 0, 0, 0, []), (76, .ireturn, 1, .int 0, 0, 0, 0, [])]
set_option maxRecDepth 100000 in
theorem okX11_rank : codeOk 121 kX11_rank := ⟨_, rfl, by decide +kernel⟩
def kX11_need : List AI := [(0, .aload_n 0, 1, .int 0, 0, 0, 0, []), (1, .getfield 36, 3, .ref 0, 11, 4, 114, []), (4, .iload_n 1, 1, .int 0, 0, 0, 0, []), (5, .invokevirtual 111, 3, .int 0, 88, 2, 62, [(0, 9), (0, 1)]), (8, .ifCond .eq 24, 3, .int 0, 32, 0, 0, []), (11, .iload_n 2, 1, .int 0, 0, 0, 0, []), (12, .iconst 1, 1, .int 1, 0, 0, 0, []), (13, .bipush 60, 2, .int 60, 0, 0, 0, []), (15, .invokestatic 175, 3, .int 0, 139, 3, 72, [(0, 11), (0, 1)]), (18, .ifCond .eq 14, 3, .int 0, 32, 0, 0, []), (21, .iload_n 3, 1, .int 0, 0, 0, 0, []), (22, .iconst 1, 1, .int 1, 0, 0, 0, []), (23, .sipush 9999, 3, .int 9999, 0, 0, 0, []), (26, .invokestatic 175, 3, .int 0, 139, 3, 72, [(0, 11), (0, 1)]), (29, .ifCond .ne 5, 3, .int 0, 34, 0, 0, []), (32, .iconst (-1), 1, .int (-1), 0, 0, 0, []), (33, .ireturn, 1, .int 0, 0, 0, 0, []), (34, .aload_n 0, 1, .int 0, 0, 0, 0, []), (35, .getfield 54, 3, .ref 0, 11, 7, 117, []), (38, .aload_n 0, 1, .int 0, 0, 0, 0, []), (39, .getfield 36, 3, .ref 0, 11, 4, 114, []), (42, .aload_n 0, 1, .int 0, 0, 0, 0, []), (43, .invokevirtual 160, 3, .int 0, 138, 1, 71, [(0, 11), (0, 3)]), (46, .invokevirtual 185, 3, .int 0, 21, 3, 99, [(0, 2), (0, 0)]), (49, .aload_n 0, 1, .int 0, 0, 0, 0, []), (50, .getfield 54, 3, .ref 0, 11, 7, 117, []), (53, .iload_n 1, 1, .int 0, 0, 0, 0, []), (54, .iload_n 2, 1, .int 0, 0, 0, 0, []), (55, .iload_n 3, 1, .int 0, 0, 0, 0, []), (56, .invokevirtual 202, 3, .int 0, 24, 4, 109, [(0, 2), (0, 1)]), (59, .ireturn, 1, .int 0, 0, 0, 0, [])]
set_option maxRecDepth 100000 in
theorem okX11_need : codeOk 122 kX11_need := ⟨_, rfl, by decide +kernel⟩
def kX11_lender : List AI := [(0, .aload_n 0, 1, .int 0, 0, 0, 0, []), (1, .getfield 36, 3, .ref 0, 11, 4, 114, []), (4, .iload_n 1, 1, .int 0, 0, 0, 0, []), (5, .invokevirtual 111, 3, .int 0, 88, 2, 62, [(0, 9), (0, 1)]), (8, .ifCond .eq 22, 3, .int 0, 30, 0, 0, []), (11, .iload_n 2, 1, .int 0, 0, 0, 0, []), (12, .iconst 1, 1, .int 1, 0, 0, 0, []), (13, .bipush 60, 2, .int 60, 0, 0, 0, []), (15, .invokestatic 175, 3, .int 0, 139, 3, 72, [(0, 11), (0, 1)]), (18, .ifCond .eq 12, 3, .int 0, 30, 0, 0, []), (21, .iload_n 3, 1, .int 0, 0, 0, 0, []), (22, .iconst 0, 1, .int 0, 0, 0, 0, []), (23, .iconst 1, 1, .int 1, 0, 0, 0, []), (24, .invokestatic 175, 3, .int 0, 139, 3, 72, [(0, 11), (0, 1)]), (27, .ifCond .ne 6, 3, .int 0, 33, 0, 0, []), (30, .bipush (-2), 2, .int (-2), 0, 0, 0, []), (32, .ireturn, 1, .int 0, 0, 0, 0, []), (33, .aload_n 0, 1, .int 0, 0, 0, 0, []), (34, .getfield 54, 3, .ref 0, 11, 7, 117, []), (37, .aload_n 0, 1, .int 0, 0, 0, 0, []), (38, .getfield 36, 3, .ref 0, 11, 4, 114, []), (41, .aload_n 0, 1, .int 0, 0, 0, 0, []), (42, .invokevirtual 160, 3, .int 0, 138, 1, 71, [(0, 11), (0, 3)]), (45, .invokevirtual 185, 3, .int 0, 21, 3, 99, [(0, 2), (0, 0)]), (48, .aload_n 0, 1, .int 0, 0, 0, 0, []), (49, .getfield 54, 3, .ref 0, 11, 7, 117, []), (52, .iload_n 1, 1, .int 0, 0, 0, 0, []), (53, .iload_n 2, 1, .int 0, 0, 0, 0, []), (54, .iload_n 3, 1, .int 0, 0, 0, 0, []), (55, .iconst 1, 1, .int 1, 0, 0, 0, []), (56, .if_icmp .ne 7, 3, .int 0, 63, 0, 0, []), (59, .iconst 1, 1, .int 1, 0, 0, 0, []), (60, .goto 4, 3, .int 0, 64, 0, 0, []), (63, .iconst 0, 1, .int 0, 0, 0, 0, []), (64, .invokevirtual 206, 3, .int 0, 26, 4, 112, [(0, 2), (0, 1)]), (67, .ireturn, 1, .int 0, 0, 0, 0, [])]
set_option maxRecDepth 100000 in
theorem okX11_lender : codeOk 123 kX11_lender := ⟨_, rfl, by decide +kernel⟩
def kX11_row : List AI := [(0, .aload_n 0, 1, .int 0, 0, 0, 0, []), (1, .getfield 36, 3, .ref 0, 11, 4, 114, []), (4, .iload_n 1, 1, .int 0, 0, 0, 0, []), (5, .invokevirtual 111, 3, .int 0, 88, 2, 62, [(0, 9), (0, 1)]), (8, .ifCond .eq 21, 3, .int 0, 29, 0, 0, []), (11, .iload_n 2, 1, .int 0, 0, 0, 0, []), (12, .iconst 1, 1, .int 1, 0, 0, 0, []), (13, .iconst 3, 1, .int 3, 0, 0, 0, []), (14, .invokestatic 175, 3, .int 0, 139, 3, 72, [(0, 11), (0, 1)]), (17, .ifCond .eq 12, 3, .int 0, 29, 0, 0, []), (20, .iload_n 3, 1, .int 0, 0, 0, 0, []), (21, .iconst 0, 1, .int 0, 0, 0, 0, []), (22, .iconst 3, 1, .int 3, 0, 0, 0, []), (23, .invokestatic 175, 3, .int 0, 139, 3, 72, [(0, 11), (0, 1)]), (26, .ifCond .ne 6, 3, .int 0, 32, 0, 0, []), (29, .bipush (-3), 2, .int (-3), 0, 0, 0, []), (31, .ireturn, 1, .int 0, 0, 0, 0, []), (32, .iload_n 3, 1, .int 0, 0, 0, 0, []), (33, .iload_n 2, 1, .int 0, 0, 0, 0, []), (34, .if_icmp .le 6, 3, .int 0, 40, 0, 0, []), (37, .bipush (-2), 2, .int (-2), 0, 0, 0, []), (39, .ireturn, 1, .int 0, 0, 0, 0, []), (40, .aload_n 0, 1, .int 0, 0, 0, 0, []), (41, .getfield 61, 3, .ref 0, 11, 8, 118, []), (44, .aload_n 0, 1, .int 0, 0, 0, 0, []), (45, .getfield 36, 3, .ref 0, 11, 4, 114, []), (48, .aload_n 0, 1, .int 0, 0, 0, 0, []), (49, .invokevirtual 160, 3, .int 0, 138, 1, 71, [(0, 11), (0, 3)]), (52, .invokevirtual 210, 3, .int 0, 1, 3, 116, [(0, 0), (0, 0)]), (55, .aload_n 0, 1, .int 0, 0, 0, 0, []), (56, .getfield 61, 3, .ref 0, 11, 8, 118, []), (59, .iload_n 1, 1, .int 0, 0, 0, 0, []), (60, .iload_n 2, 1, .int 0, 0, 0, 0, []), (61, .iload_n 3, 1, .int 0, 0, 0, 0, []), (62, .invokevirtual 211, 3, .int 0, 2, 4, 117, [(0, 0), (0, 1)]), (65, .ireturn, 1, .int 0, 0, 0, 0, [])]
set_option maxRecDepth 100000 in
theorem okX11_row : codeOk 124 kX11_row := ⟨_, rfl, by decide +kernel⟩
def kX11_settle : List AI := [(0, .aload_n 0, 1, .int 0, 0, 0, 0, []), (1, .getfield 36, 3, .ref 0, 11, 4, 114, []), (4, .getfield 137, 3, .ref 0, 9, 0, 58, []), (7, .ifnonnull 7, 3, .int 0, 14, 0, 0, []), (10, .iconst (-1), 1, .int (-1), 0, 0, 0, []), (11, .goto 30, 3, .int 0, 41, 0, 0, []), (14, .aload_n 0, 1, .int 0, 0, 0, 0, []), (15, .getfield 75, 3, .ref 0, 11, 10, 120, []), (18, .aload_n 0, 1, .int 0, 0, 0, 0, []), (19, .getfield 36, 3, .ref 0, 11, 4, 114, []), (22, .getfield 115, 3, .ref 0, 9, 3, 67, []), (25, .getfield 125, 3, .ref 0, 4, 2, 38, []), (28, .aload_n 0, 1, .int 0, 0, 0, 0, []), (29, .getfield 36, 3, .ref 0, 11, 4, 114, []), (32, .getfield 137, 3, .ref 0, 9, 0, 58, []), (35, .getfield 102, 3, .int 0, 3, 1, 126, []), (38, .invokevirtual 214, 3, .int 0, 46, 3, 125, [(0, 5), (0, 1)]), (41, .ireturn, 1, .int 0, 0, 0, 0, [])]
set_option maxRecDepth 100000 in
theorem okX11_settle : codeOk 125 kX11_settle := ⟨_, rfl, by decide +kernel⟩
def kX11_rings : List AI := [(0, .aload_n 0, 1, .int 0, 0, 0, 0, []), (1, .getfield 36, 3, .ref 0, 11, 4, 114, []), (4, .getfield 137, 3, .ref 0, 9, 0, 58, []), (7, .ifnull 12, 3, .int 0, 19, 0, 0, []), (10, .iload_n 1, 1, .int 0, 0, 0, 0, []), (11, .iconst 0, 1, .int 0, 0, 0, 0, []), (12, .iconst 1, 1, .int 1, 0, 0, 0, []), (13, .invokestatic 175, 3, .int 0, 139, 3, 72, [(0, 11), (0, 1)]), (16, .ifCond .ne 5, 3, .int 0, 21, 0, 0, []), (19, .iconst (-1), 1, .int (-1), 0, 0, 0, []), (20, .ireturn, 1, .int 0, 0, 0, 0, []), (21, .aload_n 0, 1, .int 0, 0, 0, 0, []), (22, .getfield 36, 3, .ref 0, 11, 4, 114, []), (25, .getfield 137, 3, .ref 0, 9, 0, 58, []), (28, .getfield 102, 3, .int 0, 3, 1, 126, []), (31, .istore_n 2, 1, .int 0, 0, 0, 0, []), (32, .iload_n 1, 1, .int 0, 0, 0, 0, []), (33, .ifCond .ne 24, 3, .int 0, 57, 0, 0, []), (36, .aload_n 0, 1, .int 0, 0, 0, 0, []), (37, .getfield 75, 3, .ref 0, 11, 10, 120, []), (40, .aload_n 0, 1, .int 0, 0, 0, 0, []), (41, .getfield 36, 3, .ref 0, 11, 4, 114, []), (44, .getfield 115, 3, .ref 0, 9, 3, 67, []), (47, .getfield 125, 3, .ref 0, 4, 2, 38, []), (50, .iload_n 2, 1, .int 0, 0, 0, 0, []), (51, .invokevirtual 218, 3, .int 0, 47, 3, 128, [(0, 5), (0, 1)]), (54, .goto 21, 3, .int 0, 75, 0, 0, []), (57, .aload_n 0, 1, .int 0, 0, 0, 0, []), (58, .getfield 75, 3, .ref 0, 11, 10, 120, []), (61, .aload_n 0, 1, .int 0, 0, 0, 0, []), (62, .getfield 36, 3, .ref 0, 11, 4, 114, []), (65, .getfield 115, 3, .ref 0, 9, 3, 67, []), (68, .getfield 125, 3, .ref 0, 4, 2, 38, []), (71, .iload_n 2, 1, .int 0, 0, 0, 0, []), (72, .invokevirtual 221, 3, .int 0, 48, 3, 129, [(0, 5), (0, 1)]), (75, .ireturn, 1, .int 0, 0, 0, 0, [])]
set_option maxRecDepth 100000 in
theorem okX11_rings : codeOk 126 kX11_rings := ⟨_, rfl, by decide +kernel⟩
def kX11_had : List AI := [(0, .aload_n 0, 1, .int 0, 0, 0, 0, []), (1, .getfield 36, 3, .ref 0, 11, 4, 114, []), (4, .iload_n 1, 1, .int 0, 0, 0, 0, []), (5, .invokevirtual 111, 3, .int 0, 88, 2, 62, [(0, 9), (0, 1)]), (8, .ifCond .eq 18, 3, .int 0, 26, 0, 0, []), (11, .aload_n 0, 1, .int 0, 0, 0, 0, []), (12, .getfield 36, 3, .ref 0, 11, 4, 114, []), (15, .iload_n 3, 1, .int 0, 0, 0, 0, []), (16, .invokevirtual 131, 3, .int 0, 89, 2, 64, [(0, 9), (0, 1)]), (19, .ifCond .eq 7, 3, .int 0, 26, 0, 0, []), (22, .iconst 1, 1, .int 1, 0, 0, 0, []), (23, .goto 4, 3, .int 0, 27, 0, 0, []), (26, .iconst 0, 1, .int 0, 0, 0, 0, []), (27, .istore 5, 2, .int 0, 0, 0, 0, []), (29, .iload 5, 2, .int 0, 0, 0, 0, []), (31, .ifCond .eq 23, 3, .int 0, 54, 0, 0, []), (34, .iload_n 2, 1, .int 0, 0, 0, 0, []), (35, .iconst 1, 1, .int 1, 0, 0, 0, []), (36, .bipush 20, 2, .int 20, 0, 0, 0, []), (38, .invokestatic 175, 3, .int 0, 139, 3, 72, [(0, 11), (0, 1)]), (41, .ifCond .eq 13, 3, .int 0, 54, 0, 0, []), (44, .iload 4, 2, .int 0, 0, 0, 0, []), (46, .iconst 0, 1, .int 0, 0, 0, 0, []), (47, .iconst 1, 1, .int 1, 0, 0, 0, []), (48, .invokestatic 175, 3, .int 0, 139, 3, 72, [(0, 11), (0, 1)]), (51, .ifCond .ne 7, 3, .int 0, 58, 0, 0, []), (54, .sipush (-1001), 3, .int (-1001), 0, 0, 0, []), (57, .ireturn, 1, .int 0, 0, 0, 0, []), (58, .aload_n 0, 1, .int 0, 0, 0, 0, []), (59, .getfield 54, 3, .ref 0, 11, 7, 117, []), (62, .aload_n 0, 1, .int 0, 0, 0, 0, []), (63, .getfield 36, 3, .ref 0, 11, 4, 114, []), (66, .aload_n 0, 1, .int 0, 0, 0, 0, []), (67, .invokevirtual 160, 3, .int 0, 138, 1, 71, [(0, 11), (0, 3)]), (70, .invokevirtual 185, 3, .int 0, 21, 3, 99, [(0, 2), (0, 0)]), (73, .aload_n 0, 1, .int 0, 0, 0, 0, []), (74, .getfield 54, 3, .ref 0, 11, 7, 117, []), (77, .iload_n 1, 1, .int 0, 0, 0, 0, []), (78, .iload_n 2, 1, .int 0, 0, 0, 0, []), (79, .iload_n 3, 1, .int 0, 0, 0, 0, []), (80, .iload 4, 2, .int 0, 0, 0, 0, []), (82, .iconst 1, 1, .int 1, 0, 0, 0, []), (83, .if_icmp .ne 7, 3, .int 0, 90, 0, 0, []), (86, .iconst 1, 1, .int 1, 0, 0, 0, []), (87, .goto 4, 3, .int 0, 91, 0, 0, []), (90, .iconst 0, 1, .int 0, 0, 0, 0, []), (91, .invokevirtual 224, 3, .int 0, 27, 5, 132, [(0, 2), (0, 1)]), (94, .ireturn, 1, .int 0, 0, 0, 0, [])]
set_option maxRecDepth 100000 in
theorem okX11_had : codeOk 127 kX11_had := ⟨_, rfl, by decide +kernel⟩
def kX11_rests : List AI := [(0, .aload_n 0, 1, .int 0, 0, 0, 0, []), (1, .getfield 36, 3, .ref 0, 11, 4, 114, []), (4, .iload_n 1, 1, .int 0, 0, 0, 0, []), (5, .invokevirtual 111, 3, .int 0, 88, 2, 62, [(0, 9), (0, 1)]), (8, .ifCond .eq 23, 3, .int 0, 31, 0, 0, []), (11, .aload_n 0, 1, .int 0, 0, 0, 0, []), (12, .getfield 36, 3, .ref 0, 11, 4, 114, []), (15, .iload_n 2, 1, .int 0, 0, 0, 0, []), (16, .invokevirtual 111, 3, .int 0, 88, 2, 62, [(0, 9), (0, 1)]), (19, .ifCond .eq 12, 3, .int 0, 31, 0, 0, []), (22, .iload_n 1, 1, .int 0, 0, 0, 0, []), (23, .iload_n 2, 1, .int 0, 0, 0, 0, []), (24, .if_icmp .eq 7, 3, .int 0, 31, 0, 0, []), (27, .iconst 1, 1, .int 1, 0, 0, 0, []), (28, .goto 4, 3, .int 0, 32, 0, 0, []), (31, .iconst 0, 1, .int 0, 0, 0, 0, []), (32, .istore 4, 2, .int 0, 0, 0, 0, []), (34, .iload 4, 2, .int 0, 0, 0, 0, []), (36, .ifCond .eq 12, 3, .int 0, 48, 0, 0, []), (39, .iload_n 3, 1, .int 0, 0, 0, 0, []), (40, .iconst 0, 1, .int 0, 0, 0, 0, []), (41, .iconst 2, 1, .int 2, 0, 0, 0, []), (42, .invokestatic 175, 3, .int 0, 139, 3, 72, [(0, 11), (0, 1)]), (45, .ifCond .ne 6, 3, .int 0, 51, 0, 0, []), (48, .bipush (-3), 2, .int (-3), 0, 0, 0, []), (50, .ireturn, 1, .int 0, 0, 0, 0, []), (51, .aload_n 0, 1, .int 0, 0, 0, 0, []), (52, .getfield 61, 3, .ref 0, 11, 8, 118, []), (55, .aload_n 0, 1, .int 0, 0, 0, 0, []), (56, .getfield 36, 3, .ref 0, 11, 4, 114, []), (59, .aload_n 0, 1, .int 0, 0, 0, 0, []), (60, .invokevirtual 160, 3, .int 0, 138, 1, 71, [(0, 11), (0, 3)]), (63, .invokevirtual 210, 3, .int 0, 1, 3, 116, [(0, 0), (0, 0)]), (66, .aload_n 0, 1, .int 0, 0, 0, 0, []), (67, .getfield 61, 3, .ref 0, 11, 8, 118, []), (70, .iload_n 1, 1, .int 0, 0, 0, 0, []), (71, .iload_n 2, 1, .int 0, 0, 0, 0, []), (72, .iload_n 3, 1, .int 0, 0, 0, 0, []), (73, .invokevirtual 228, 3, .int 0, 6, 4, 134, [(0, 0), (0, 1)]), (76, .ireturn, 1, .int 0, 0, 0, 0, [])]
set_option maxRecDepth 100000 in
theorem okX11_rests : codeOk 128 kX11_rests := ⟨_, rfl, by decide +kernel⟩
def kX11_pence : List AI := [(0, .aload_n 0, 1, .int 0, 0, 0, 0, []), (1, .getfield 36, 3, .ref 0, 11, 4, 114, []), (4, .iload_n 2, 1, .int 0, 0, 0, 0, []), (5, .invokevirtual 111, 3, .int 0, 88, 2, 62, [(0, 9), (0, 1)]), (8, .ifCond .eq 14, 3, .int 0, 22, 0, 0, []), (11, .iload_n 1, 1, .int 0, 0, 0, 0, []), (12, .iconst 0, 1, .int 0, 0, 0, 0, []), (13, .sipush 9999, 3, .int 9999, 0, 0, 0, []), (16, .invokestatic 175, 3, .int 0, 139, 3, 72, [(0, 11), (0, 1)]), (19, .ifCond .ne 5, 3, .int 0, 24, 0, 0, []), (22, .iconst (-1), 1, .int (-1), 0, 0, 0, []), (23, .ireturn, 1, .int 0, 0, 0, 0, []), (24, .aload_n 0, 1, .int 0, 0, 0, 0, []), (25, .getfield 75, 3, .ref 0, 11, 10, 120, []), (28, .iload_n 1, 1, .int 0, 0, 0, 0, []), (29, .iload_n 2, 1, .int 0, 0, 0, 0, []), (30, .aload_n 0, 1, .int 0, 0, 0, 0, []), (31, .getfield 36, 3, .ref 0, 11, 4, 114, []), (34, .getfield 115, 3, .ref 0, 9, 3, 67, []), (37, .getfield 128, 3, .ref 0, 4, 3, 45, []), (40, .aload_n 0, 1, .int 0, 0, 0, 0, []), (41, .getfield 36, 3, .ref 0, 11, 4, 114, []), (44, .getfield 137, 3, .ref 0, 9, 0, 58, []), (47, .getfield 102, 3, .int 0, 3, 1, 126, []), (50, .invokevirtual 231, 3, .int 0, 49, 5, 139, [(0, 5), (0, 1)]), (53, .ireturn, 1, .int 0, 0, 0, 0, [])]
set_option maxRecDepth 100000 in
theorem okX11_pence : codeOk 129 kX11_pence := ⟨_, rfl, by decide +kernel⟩
def kX11_note : List AI := [(0, .iload_n 1, 1, .int 0, 0, 0, 0, []), (1, .iconst (-1), 1, .int (-1), 0, 0, 0, []), (2, .if_icmp .ne 13, 3, .int 0, 15, 0, 0, []), (5, .aload_n 0, 1, .int 0, 0, 0, 0, []), (6, .getfield 36, 3, .ref 0, 11, 4, 114, []), (9, .iconst 0, 1, .int 0, 0, 0, 0, []), (10, .putfield 235, 3, .int 0, 9, 9, 79, []), (13, .iconst 0, 1, .int 0, 0, 0, 0, []), (14, .ireturn, 1, .int 0, 0, 0, 0, []), (15, .aload_n 0, 1, .int 0, 0, 0, 0, []), (16, .getfield 36, 3, .ref 0, 11, 4, 114, []), (19, .iload_n 2, 1, .int 0, 0, 0, 0, []), (20, .invokevirtual 131, 3, .int 0, 89, 2, 64, [(0, 9), (0, 1)]), (23, .ifCond .eq 23, 3, .int 0, 46, 0, 0, []), (26, .iload_n 3, 1, .int 0, 0, 0, 0, []), (27, .iconst (-1), 1, .int (-1), 0, 0, 0, []), (28, .if_icmp .eq 14, 3, .int 0, 42, 0, 0, []), (31, .aload_n 0, 1, .int 0, 0, 0, 0, []), (32, .getfield 36, 3, .ref 0, 11, 4, 114, []), (35, .iload_n 3, 1, .int 0, 0, 0, 0, []), (36, .invokevirtual 111, 3, .int 0, 88, 2, 62, [(0, 9), (0, 1)]), (39, .ifCond .eq 7, 3, .int 0, 46, 0, 0, []), (42, .iconst 1, 1, .int 1, 0, 0, 0, []), (43, .goto 4, 3, .int 0, 47, 0, 0, []), (46, .iconst 0, 1, .int 0, 0, 0, 0, []), (47, .istore 4, 2, .int 0, 0, 0, 0, []), (49, .iload 4, 2, .int 0, 0, 0, 0, []), (51, .ifCond .eq 25, 3, .int 0, 76, 0, 0, []), (54, .iload_n 1, 1, .int 0, 0, 0, 0, []), (55, .iconst 0, 1, .int 0, 0, 0, 0, []), (56, .bipush 60, 2, .int 60, 0, 0, 0, []), (58, .invokestatic 175, 3, .int 0, 139, 3, 72, [(0, 11), (0, 1)]), (61, .ifCond .eq 15, 3, .int 0, 76, 0, 0, []), (64, .aload_n 0, 1, .int 0, 0, 0, 0, []), (65, .getfield 36, 3, .ref 0, 11, 4, 114, []), (68, .getfield 235, 3, .int 0, 9, 9, 79, []), (71, .bipush 10, 2, .int 10, 0, 0, 0, []), (73, .if_icmp .lt 6, 3, .int 0, 79, 0, 0, []), (76, .bipush (-2), 2, .int (-2), 0, 0, 0, []), (78, .ireturn, 1, .int 0, 0, 0, 0, []), (79, .aload_n 0, 1, .int 0, 0, 0, 0, []), (80, .getfield 36, 3, .ref 0, 11, 4, 114, []), (83, .iload_n 1, 1, .int 0, 0, 0, 0, []), (84, .iload_n 2, 1, .int 0, 0, 0, 0, []), (85, .iload_n 3, 1, .int 0, 0, 0, 0, []), (86, .invokevirtual 238, 3, .int 0, 92, 4, 141, [(0, 9), (0, 0)]), (89, .aload_n 0, 1, .int 0, 0, 0, 0, []), (90, .getfield 36, 3, .ref 0, 11, 4, 114, []), (93, .getfield 235, 3, .int 0, 9, 9, 79, []), (96, .ireturn, 1, .int 0, 0, 0, 0, [])]
set_option maxRecDepth 100000 in
theorem okX11_note : codeOk 130 kX11_note := ⟨_, rfl, by decide +kernel⟩
def kX11_ruled : List AI := [(0, .aload_n 0, 1, .int 0, 0, 0, 0, []), (1, .getfield 36, 3, .ref 0, 11, 4, 114, []), (4, .getfield 137, 3, .ref 0, 9, 0, 58, []), (7, .ifnull 12, 3, .int 0, 19, 0, 0, []), (10, .iload_n 1, 1, .int 0, 0, 0, 0, []), (11, .iconst 0, 1, .int 0, 0, 0, 0, []), (12, .iconst 1, 1, .int 1, 0, 0, 0, []), (13, .invokestatic 175, 3, .int 0, 139, 3, 72, [(0, 11), (0, 1)]), (16, .ifCond .ne 6, 3, .int 0, 22, 0, 0, []), (19, .bipush (-3), 2, .int (-3), 0, 0, 0, []), (21, .ireturn, 1, .int 0, 0, 0, 0, []), (22, .aload_n 0, 1, .int 0, 0, 0, 0, []), (23, .getfield 68, 3, .ref 0, 11, 9, 119, []), (26, .aload_n 0, 1, .int 0, 0, 0, 0, []), (27, .getfield 36, 3, .ref 0, 11, 4, 114, []), (30, .aload_n 0, 1, .int 0, 0, 0, 0, []), (31, .getfield 25, 3, .ref 0, 11, 2, 112, []), (34, .aload_n 0, 1, .int 0, 0, 0, 0, []), (35, .getfield 29, 3, .int 0, 11, 3, 113, []), (38, .iconst 0, 1, .int 0, 0, 0, 0, []), (39, .invokevirtual 241, 3, .int 0, 99, 5, 143, [(0, 10), (0, 0)]), (42, .iload_n 1, 1, .int 0, 0, 0, 0, []), (43, .ifCond .ne 13, 3, .int 0, 56, 0, 0, []), (46, .aload_n 0, 1, .int 0, 0, 0, 0, []), (47, .getfield 68, 3, .ref 0, 11, 9, 119, []), (50, .getfield 245, 3, .int 0, 10, 3, 106, []), (53, .goto 10, 3, .int 0, 63, 0, 0, []), (56, .aload_n 0, 1, .int 0, 0, 0, 0, []), (57, .getfield 68, 3, .ref 0, 11, 9, 119, []), (60, .getfield 248, 3, .int 0, 10, 4, 108, []), (63, .ireturn, 1, .int 0, 0, 0, 0, [])]
set_option maxRecDepth 100000 in
theorem okX11_ruled : codeOk 131 kX11_ruled := ⟨_, rfl, by decide +kernel⟩
def kX11_look : List AI := [(0, .aload_n 0, 1, .int 0, 0, 0, 0, []), (1, .getfield 36, 3, .ref 0, 11, 4, 114, []), (4, .getfield 137, 3, .ref 0, 9, 0, 58, []), (7, .ifnull 22, 3, .int 0, 29, 0, 0, []), (10, .iload_n 1, 1, .int 0, 0, 0, 0, []), (11, .iconst 0, 1, .int 0, 0, 0, 0, []), (12, .bipush 60, 2, .int 60, 0, 0, 0, []), (14, .invokestatic 175, 3, .int 0, 139, 3, 72, [(0, 11), (0, 1)]), (17, .ifCond .eq 12, 3, .int 0, 29, 0, 0, []), (20, .iload_n 2, 1, .int 0, 0, 0, 0, []), (21, .iconst 0, 1, .int 0, 0, 0, 0, []), (22, .iconst 1, 1, .int 1, 0, 0, 0, []), (23, .invokestatic 175, 3, .int 0, 139, 3, 72, [(0, 11), (0, 1)]), (26, .ifCond .ne 5, 3, .int 0, 31, 0, 0, []), (29, .iconst (-1), 1, .int (-1), 0, 0, 0, []), (30, .ireturn, 1, .int 0, 0, 0, 0, []), (31, .aload_n 0, 1, .int 0, 0, 0, 0, []), (32, .getfield 68, 3, .ref 0, 11, 9, 119, []), (35, .aload_n 0, 1, .int 0, 0, 0, 0, []), (36, .getfield 36, 3, .ref 0, 11, 4, 114, []), (39, .aload_n 0, 1, .int 0, 0, 0, 0, []), (40, .getfield 25, 3, .ref 0, 11, 2, 112, []), (43, .aload_n 0, 1, .int 0, 0, 0, 0, []), (44, .getfield 29, 3, .int 0, 11, 3, 113, []), (47, .iload_n 1, 1, .int 0, 0, 0, 0, []), (48, .invokevirtual 241, 3, .int 0, 99, 5, 143, [(0, 10), (0, 0)]), (51, .aload_n 0, 1, .int 0, 0, 0, 0, []), (52, .getfield 68, 3, .ref 0, 11, 9, 119, []), (55, .aload_n 0, 1, .int 0, 0, 0, 0, []), (56, .getfield 36, 3, .ref 0, 11, 4, 114, []), (59, .getfield 137, 3, .ref 0, 9, 0, 58, []), (62, .getfield 251, 3, .int 0, 3, 2, 133, []), (65, .iload_n 2, 1, .int 0, 0, 0, 0, []), (66, .iconst 1, 1, .int 1, 0, 0, 0, []), (67, .if_icmp .ne 7, 3, .int 0, 74, 0, 0, []), (70, .iconst 1, 1, .int 1, 0, 0, 0, []), (71, .goto 4, 3, .int 0, 75, 0, 0, []), (74, .iconst 0, 1, .int 0, 0, 0, 0, []), (75, .invokevirtual 254, 3, .int 0, 103, 3, 150, [(0, 10), (0, 1)]), (78, .ireturn, 1, .int 0, 0, 0, 0, [])]
set_option maxRecDepth 100000 in
theorem okX11_look : codeOk 132 kX11_look := ⟨_, rfl, by decide +kernel⟩
def kX11_seed : List AI := [(0, .iload_n 1, 1, .int 0, 0, 0, 0, []), (1, .ifCond .ge 5, 3, .int 0, 6, 0, 0, []), (4, .iconst (-1), 1, .int (-1), 0, 0, 0, []), (5, .ireturn, 1, .int 0, 0, 0, 0, []), (6, .aload_n 0, 1, .int 0, 0, 0, 0, []), (7, .getfield 36, 3, .ref 0, 11, 4, 114, []), (10, .getfield 257, 3, .int 0, 9, 2, 63, []), (13, .istore_n 2, 1, .int 0, 0, 0, 0, []), (14, .aload_n 0, 1, .int 0, 0, 0, 0, []), (15, .getfield 36, 3, .ref 0, 11, 4, 114, []), (18, .iload_n 1, 1, .int 0, 0, 0, 0, []), (19, .putfield 257, 3, .int 0, 9, 2, 63, []), (22, .iload_n 2, 1, .int 0, 0, 0, 0, []), (23, .ireturn, 1, .int 0, 0, 0, 0, [])]
set_option maxRecDepth 100000 in
theorem okX11_seed : codeOk 133 kX11_seed := ⟨_, rfl, by decide +kernel⟩
def kX11_falls : List AI := [(0, .iload_n 1, 1, .int 0, 0, 0, 0, []), (1, .iconst 1, 1, .int 1, 0, 0, 0, []), (2, .bipush 10, 2, .int 10, 0, 0, 0, []), (4, .invokestatic 175, 3, .int 0, 139, 3, 72, [(0, 11), (0, 1)]), (7, .ifCond .eq 27, 3, .int 0, 34, 0, 0, []), (10, .iload_n 2, 1, .int 0, 0, 0, 0, []), (11, .iconst 1, 1, .int 1, 0, 0, 0, []), (12, .bipush 60, 2, .int 60, 0, 0, 0, []), (14, .invokestatic 175, 3, .int 0, 139, 3, 72, [(0, 11), (0, 1)]), (17, .ifCond .eq 17, 3, .int 0, 34, 0, 0, []), (20, .iload_n 3, 1, .int 0, 0, 0, 0, []), (21, .iconst 0, 1, .int 0, 0, 0, 0, []), (22, .bipush 100, 2, .int 100, 0, 0, 0, []), (24, .invokestatic 175, 3, .int 0, 139, 3, 72, [(0, 11), (0, 1)]), (27, .ifCond .eq 7, 3, .int 0, 34, 0, 0, []), (30, .iconst 1, 1, .int 1, 0, 0, 0, []), (31, .goto 4, 3, .int 0, 35, 0, 0, []), (34, .iconst 0, 1, .int 0, 0, 0, 0, []), (35, .istore 5, 2, .int 0, 0, 0, 0, []), (37, .aload_n 0, 1, .int 0, 0, 0, 0, []), (38, .getfield 36, 3, .ref 0, 11, 4, 114, []), (41, .getfield 137, 3, .ref 0, 9, 0, 58, []), (44, .ifnull 18, 3, .int 0, 62, 0, 0, []), (47, .iload 5, 2, .int 0, 0, 0, 0, []), (49, .ifCond .eq 13, 3, .int 0, 62, 0, 0, []), (52, .iload 4, 2, .int 0, 0, 0, 0, []), (54, .iconst 0, 1, .int 0, 0, 0, 0, []), (55, .iconst 1, 1, .int 1, 0, 0, 0, []), (56, .invokestatic 175, 3, .int 0, 139, 3, 72, [(0, 11), (0, 1)]), (59, .ifCond .ne 5, 3, .int 0, 64, 0, 0, []), (62, .iconst (-1), 1, .int (-1), 0, 0, 0, []), (63, .ireturn, 1, .int 0, 0, 0, 0, []), (64, .aload_n 0, 1, .int 0, 0, 0, 0, []), (65, .getfield 54, 3, .ref 0, 11, 7, 117, []), (68, .aload_n 0, 1, .int 0, 0, 0, 0, []), (69, .getfield 36, 3, .ref 0, 11, 4, 114, []), (72, .aload_n 0, 1, .int 0, 0, 0, 0, []), (73, .invokevirtual 160, 3, .int 0, 138, 1, 71, [(0, 11), (0, 3)]), (76, .invokevirtual 185, 3, .int 0, 21, 3, 99, [(0, 2), (0, 0)]), (79, .aload_n 0, 1, .int 0, 0, 0, 0, []), (80, .getfield 54, 3, .ref 0, 11, 7, 117, []), (83, .iload_n 1, 1, .int 0, 0, 0, 0, []), (84, .iload_n 2, 1, .int 0, 0, 0, 0, []), (85, .iload_n 3, 1, .int 0, 0, 0, 0, []), (86, .iload 4, 2, .int 0, 0, 0, 0, []), (88, .iconst 1, 1, .int 1, 0, 0, 0, []), (89, .if_icmp .ne 7, 3, .int 0, 96, 0, 0, []), (92, .iconst 1, 1, .int 1, 0, 0, 0, []), (93, .goto 4, 3, .int 0, 97, 0, 0, []), (96, .iconst 0, 1, .int 0, 0, 0, 0, []), (97, .invokevirtual 260, 3, .int 0, 28, 5, 154, [(0, 2), (0, 1)]), (100, .ireturn, 1, .int 0, 0, 0, 0, [])]
set_option maxRecDepth 100000 in
theorem okX11_falls : codeOk 134 kX11_falls := ⟨_, rfl, by decide +kernel⟩
def kX11_count : List AI := [(0, .iload_n 1, 1, .int 0, 0, 0, 0, []), (1, .tableswitch 210 0 11 #[63, 88, 113, 138, 143, 151, 162, 170, 178, 186, 194, 202], 63, .int 0, 211, 0, 0, [(0, 64), (1, 89), (2, 114), (3, 139), (4, 144), (5, 152), (6, 163), (7, 171), (8, 179), (9, 187), (10, 195), (11, 203)]), (64, .aload_n 0, 1, .int 0, 0, 0, 0, []), (65, .getfield 36, 3, .ref 0, 11, 4, 114, []), (68, .getfield 137, 3, .ref 0, 9, 0, 58, []), (71, .ifnonnull 7, 3, .int 0, 78, 0, 0, []), (74, .iconst 0, 1, .int 0, 0, 0, 0, []), (75, .goto 13, 3, .int 0, 88, 0, 0, []), (78, .aload_n 0, 1, .int 0, 0, 0, 0, []), (79, .getfield 36, 3, .ref 0, 11, 4, 114, []), (82, .getfield 137, 3, .ref 0, 9, 0, 58, []), (85, .getfield 263, 3, .int 0, 3, 0, 122, []), (88, .ireturn, 1, .int 0, 0, 0, 0, []), (89, .aload_n 0, 1, .int 0, 0, 0, 0, []), (90, .getfield 36, 3, .ref 0, 11, 4, 114, []), (93, .getfield 137, 3, .ref 0, 9, 0, 58, []), (96, .ifnonnull 7, 3, .int 0, 103, 0, 0, []), (99, .iconst 0, 1, .int 0, 0, 0, 0, []), (100, .goto 13, 3, .int 0, 113, 0, 0, []), (103, .aload_n 0, 1, .int 0, 0, 0, 0, []), (104, .getfield 36, 3, .ref 0, 11, 4, 114, []), (107, .getfield 137, 3, .ref 0, 9, 0, 58, []), (110, .getfield 102, 3, .int 0, 3, 1, 126, []), (113, .ireturn, 1, .int 0, 0, 0, 0, []), (114, .aload_n 0, 1, .int 0, 0, 0, 0, []), (115, .getfield 36, 3, .ref 0, 11, 4, 114, []), (118, .getfield 137, 3, .ref 0, 9, 0, 58, []), (121, .ifnonnull 7, 3, .int 0, 128, 0, 0, []), (124, .iconst 0, 1, .int 0, 0, 0, 0, []), (125, .goto 13, 3, .int 0, 138, 0, 0, []), (128, .aload_n 0, 1, .int 0, 0, 0, 0, []), (129, .getfield 36, 3, .ref 0, 11, 4, 114, []), (132, .getfield 137, 3, .ref 0, 9, 0, 58, []), (135, .getfield 251, 3, .int 0, 3, 2, 133, []), (138, .ireturn, 1, .int 0, 0, 0, 0, []), (139, .aload_n 0, 1, .int 0, 0, 0, 0, []), (140, .getfield 29, 3, .int 0, 11, 3, 113, []), (143, .ireturn, 1, .int 0, 0, 0, 0, []), (144, .aload_n 0, 1, .int 0, 0, 0, 0, []), (145, .getfield 36, 3, .ref 0, 11, 4, 114, []), (148, .getfield 108, 3, .int 0, 9, 1, 60, []), (151, .ireturn, 1, .int 0, 0, 0, 0, []), (152, .aload_n 0, 1, .int 0, 0, 0, 0, []), (153, .getfield 36, 3, .ref 0, 11, 4, 114, []), (156, .getfield 115, 3, .ref 0, 9, 3, 67, []), (159, .getfield 147, 3, .int 0, 4, 0, 31, []), (162, .ireturn, 1, .int 0, 0, 0, 0, []), (163, .aload_n 0, 1, .int 0, 0, 0, 0, []), (164, .getfield 36, 3, .ref 0, 11, 4, 114, []), (167, .invokevirtual 266, 3, .int 0, 90, 1, 160, [(0, 9), (0, 1)]), (170, .ireturn, 1, .int 0, 0, 0, 0, []), (171, .aload_n 0, 1, .int 0, 0, 0, 0, []), (172, .getfield 36, 3, .ref 0, 11, 4, 114, []), (175, .invokevirtual 270, 3, .int 0, 91, 1, 161, [(0, 9), (0, 1)]), (178, .ireturn, 1, .int 0, 0, 0, 0, []), (179, .aload_n 0, 1, .int 0, 0, 0, 0, []), (180, .getfield 36, 3, .ref 0, 11, 4, 114, []), (183, .getfield 235, 3, .int 0, 9, 9, 79, []), (186, .ireturn, 1, .int 0, 0, 0, 0, []), (187, .aload_n 0, 1, .int 0, 0, 0, 0, []), (188, .getfield 36, 3, .ref 0, 11, 4, 114, []), (191, .getfield 182, 3, .int 0, 9, 5, 70, []), (194, .ireturn, 1, .int 0, 0, 0, 0, []), (195, .aload_n 0, 1, .int 0, 0, 0, 0, []), (196, .getfield 36, 3, .ref 0, 11, 4, 114, []), (199, .getfield 257, 3, .int 0, 9, 2, 63, []), (202, .ireturn, 1, .int 0, 0, 0, 0, []), (203, .aload_n 0, 1, .int 0, 0, 0, 0, []), (204, .getfield 20, 3, .ref 0, 11, 1, 111, []), (207, .getfield 79, 3, .int 0, 8, 1, 2, []), (210, .ireturn, 1, .int 0, 0, 0, 0, []), (211, .iconst (-1), 1, .int (-1), 0, 0, 0, []), (212, .ireturn, 1, .int 0, 0, 0, 0, [])]
set_option maxRecDepth 100000 in
theorem okX11_count : codeOk 135 kX11_count := ⟨_, rfl, by decide +kernel⟩
def kX11_image : List AI := [(0, .iload_n 1, 1, .int 0, 0, 0, 0, []), (1, .iconst 0, 1, .int 0, 0, 0, 0, []), (2, .iconst 3, 1, .int 3, 0, 0, 0, []), (3, .invokestatic 175, 3, .int 0, 139, 3, 72, [(0, 11), (0, 1)]), (6, .ifCond .ne 5, 3, .int 0, 11, 0, 0, []), (9, .iconst (-1), 1, .int (-1), 0, 0, 0, []), (10, .ireturn, 1, .int 0, 0, 0, 0, []), (11, .aload_n 0, 1, .int 0, 0, 0, 0, []), (12, .getfield 40, 3, .ref 0, 11, 5, 115, []), (15, .iload_n 1, 1, .int 0, 0, 0, 0, []), (16, .aaload, 1, .int 0, 0, 0, 0, []), (17, .ifnonnull 16, 3, .int 0, 33, 0, 0, []), (20, .aload_n 0, 1, .int 0, 0, 0, 0, []), (21, .getfield 40, 3, .ref 0, 11, 5, 115, []), (24, .iload_n 1, 1, .int 0, 0, 0, 0, []), (25, .new 33, 3, .int 0, 9, 0, 4, []), (28, .dup, 1, .int 0, 0, 0, 0, []), (29, .invokespecial 35, 3, .long 0, 86, 1, 2, [(0, 9), (0, 0)]), (32, .aastore, 1, .int 0, 0, 0, 0, []), (33, .aload_n 0, 1, .int 0, 0, 0, 0, []), (34, .getfield 40, 3, .ref 0, 11, 5, 115, []), (37, .iload_n 1, 1, .int 0, 0, 0, 0, []), (38, .aaload, 1, .int 0, 0, 0, 0, []), (39, .aload_n 0, 1, .int 0, 0, 0, 0, []), (40, .getfield 36, 3, .ref 0, 11, 4, 114, []), (43, .invokevirtual 273, 3, .long 0, 97, 2, 165, [(0, 9), (0, 0)]), (46, .aload_n 0, 1, .int 0, 0, 0, 0, []), (47, .getfield 36, 3, .ref 0, 11, 4, 114, []), (50, .getfield 115, 3, .ref 0, 9, 3, 67, []), (53, .getfield 147, 3, .int 0, 4, 0, 31, []), (56, .ireturn, 1, .int 0, 0, 0, 0, [])]
set_option maxRecDepth 100000 in
theorem okX11_image : codeOk 136 kX11_image := ⟨_, rfl, by decide +kernel⟩
def kX11_back : List AI := [(0, .iload_n 1, 1, .int 0, 0, 0, 0, []), (1, .iconst 0, 1, .int 0, 0, 0, 0, []), (2, .iconst 3, 1, .int 3, 0, 0, 0, []), (3, .invokestatic 175, 3, .int 0, 139, 3, 72, [(0, 11), (0, 1)]), (6, .ifCond .eq 12, 3, .int 0, 18, 0, 0, []), (9, .aload_n 0, 1, .int 0, 0, 0, 0, []), (10, .getfield 40, 3, .ref 0, 11, 5, 115, []), (13, .iload_n 1, 1, .int 0, 0, 0, 0, []), (14, .aaload, 1, .int 0, 0, 0, 0, []), (15, .ifnonnull 5, 3, .int 0, 20, 0, 0, []), (18, .iconst (-1), 1, .int (-1), 0, 0, 0, []), (19, .ireturn, 1, .int 0, 0, 0, 0, []), (20, .aload_n 0, 1, .int 0, 0, 0, 0, []), (21, .getfield 36, 3, .ref 0, 11, 4, 114, []), (24, .aload_n 0, 1, .int 0, 0, 0, 0, []), (25, .getfield 40, 3, .ref 0, 11, 5, 115, []), (28, .iload_n 1, 1, .int 0, 0, 0, 0, []), (29, .aaload, 1, .int 0, 0, 0, 0, []), (30, .invokevirtual 273, 3, .long 0, 97, 2, 165, [(0, 9), (0, 0)]), (33, .aload_n 0, 1, .int 0, 0, 0, 0, []), (34, .getfield 36, 3, .ref 0, 11, 4, 114, []), (37, .getfield 115, 3, .ref 0, 9, 3, 67, []), (40, .getfield 147, 3, .int 0, 4, 0, 31, []), (43, .ireturn, 1, .int 0, 0, 0, 0, [])]
set_option maxRecDepth 100000 in
theorem okX11_back : codeOk 137 kX11_back := ⟨_, rfl, by decide +kernel⟩
def kX11_ruleInForce : List AI := [(0, .aload_n 0, 1, .int 0, 0, 0, 0, []), (1, .getfield 36, 3, .ref 0, 11, 4, 114, []), (4, .getfield 108, 3, .int 0, 9, 1, 60, []), (7, .iconst 0, 1, .int 0, 0, 0, 0, []), (8, .aload_n 0, 1, .int 0, 0, 0, 0, []), (9, .getfield 29, 3, .int 0, 11, 3, 113, []), (12, .iconst 1, 1, .int 1, 0, 0, 0, []), (13, .isub, 1, .int 0, 0, 0, 0, []), (14, .invokestatic 175, 3, .int 0, 139, 3, 72, [(0, 11), (0, 1)]), (17, .ifCond .eq 18, 3, .int 0, 35, 0, 0, []), (20, .aload_n 0, 1, .int 0, 0, 0, 0, []), (21, .getfield 25, 3, .ref 0, 11, 2, 112, []), (24, .aload_n 0, 1, .int 0, 0, 0, 0, []), (25, .getfield 36, 3, .ref 0, 11, 4, 114, []), (28, .getfield 108, 3, .int 0, 9, 1, 60, []), (31, .aaload, 1, .int 0, 0, 0, 0, []), (32, .goto 4, 3, .int 0, 36, 0, 0, []), (35, .aconst_null, 1, .int 0, 0, 0, 0, []), (36, .areturn, 1, .int 0, 0, 0, 0, [])]
set_option maxRecDepth 100000 in
theorem okX11_ruleInForce : codeOk 138 kX11_ruleInForce := ⟨_, rfl, by decide +kernel⟩
def kX11_isWithin : List AI := [(0, .iload_n 0, 1, .int 0, 0, 0, 0, []), (1, .iload_n 1, 1, .int 0, 0, 0, 0, []), (2, .if_icmp .lt 12, 3, .int 0, 14, 0, 0, []), (5, .iload_n 0, 1, .int 0, 0, 0, 0, []), (6, .iload_n 2, 1, .int 0, 0, 0, 0, []), (7, .if_icmp .gt 7, 3, .int 0, 14, 0, 0, []), (10, .iconst 1, 1, .int 1, 0, 0, 0, []), (11, .goto 4, 3, .int 0, 15, 0, 0, []), (14, .iconst 0, 1, .int 0, 0, 0, 0, []), (15, .ireturn, 1, .int 0, 0, 0, 0, [])]
set_option maxRecDepth 100000 in
theorem okX11_isWithin : codeOk 139 kX11_isWithin := ⟨_, rfl, by decide +kernel⟩
end
section
def kX12_init : List AI := [(0, .aload_n 0, 1, .int 0, 0, 0, 0, []), (1, .invokespecial 3, 3, .int 0, 1000, 0, 26, [(0, 12)]), (4, .aload_n 0, 1, .int 0, 0, 0, 0, []), (5, .bipush 7, 2, .int 7, 0, 0, 0, []), (7, .newarray .int, 2, .int 0, 0, 0, 0, []), (9, .dup, 1, .int 0, 0, 0, 0, []), (10, .iconst 0, 1, .int 0, 0, 0, 0, []), (11, .iconst 0, 1, .int 0, 0, 0, 0, []), (12, .iastore, 1, .int 0, 0, 0, 0, []), (13, .dup, 1, .int 0, 0, 0, 0, []), (14, .iconst 1, 1, .int 1, 0, 0, 0, []), (15, .iconst 0, 1, .int 0, 0, 0, 0, []), (16, .iastore, 1, .int 0, 0, 0, 0, []), (17, .dup, 1, .int 0, 0, 0, 0, []), (18, .iconst 2, 1, .int 2, 0, 0, 0, []), (19, .iconst 0, 1, .int 0, 0, 0, 0, []), (20, .iastore, 1, .int 0, 0, 0, 0, []), (21, .dup, 1, .int 0, 0, 0, 0, []), (22, .iconst 3, 1, .int 3, 0, 0, 0, []), (23, .iconst 0, 1, .int 0, 0, 0, 0, []), (24, .iastore, 1, .int 0, 0, 0, 0, []), (25, .dup, 1, .int 0, 0, 0, 0, []), (26, .iconst 4, 1, .int 4, 0, 0, 0, []), (27, .iconst 0, 1, .int 0, 0, 0, 0, []), (28, .iastore, 1, .int 0, 0, 0, 0, []), (29, .dup, 1, .int 0, 0, 0, 0, []), (30, .iconst 5, 1, .int 5, 0, 0, 0, []), (31, .iconst 0, 1, .int 0, 0, 0, 0, []), (32, .iastore, 1, .int 0, 0, 0, 0, []), (33, .dup, 1, .int 0, 0, 0, 0, []), (34, .bipush 6, 2, .int 6, 0, 0, 0, []), (36, .iconst (-1), 1, .int (-1), 0, 0, 0, []), (37, .iastore, 1, .int 0, 0, 0, 0, []), (38, .putfield 9, 3, .ref 0, 12, 1, 148, []), (41, .aload_n 0, 1, .int 0, 0, 0, 0, []), (42, .iconst 5, 1, .int 5, 0, 0, 0, []), (43, .newarray .int, 2, .int 0, 0, 0, 0, []), (45, .putfield 13, 3, .ref 0, 12, 2, 149, []), (48, .aload_n 0, 1, .int 0, 0, 0, 0, []), (49, .iconst 5, 1, .int 5, 0, 0, 0, []), (50, .newarray .int, 2, .int 0, 0, 0, 0, []), (52, .putfield 16, 3, .ref 0, 12, 3, 150, []), (55, .aload_n 0, 1, .int 0, 0, 0, 0, []), (56, .iconst 5, 1, .int 5, 0, 0, 0, []), (57, .newarray .int, 2, .int 0, 0, 0, 0, []), (59, .putfield 19, 3, .ref 0, 12, 4, 151, []), (62, .aload_n 0, 1, .int 0, 0, 0, 0, []), (63, .bipush 6, 2, .int 6, 0, 0, 0, []), (65, .newarray .int, 2, .int 0, 0, 0, 0, []), (67, .putfield 22, 3, .ref 0, 12, 5, 152, []), (70, .aload_n 0, 1, .int 0, 0, 0, 0, []), (71, .bipush 6, 2, .int 6, 0, 0, 0, []), (73, .newarray .int, 2, .int 0, 0, 0, 0, []), (75, .putfield 25, 3, .ref 0, 12, 6, 153, []), (78, .aload_n 0, 1, .int 0, 0, 0, 0, []), (79, .bipush 6, 2, .int 6, 0, 0, 0, []), (81, .newarray .int, 2, .int 0, 0, 0, 0, []), (83, .putfield 28, 3, .ref 0, 12, 7, 154, []), (86, .aload_n 0, 1, .int 0, 0, 0, 0, []), (87, .bipush 6, 2, .int 6, 0, 0, 0, []), (89, .newarray .int, 2, .int 0, 0, 0, 0, []), (91, .putfield 31, 3, .ref 0, 12, 8, 155, []), (94, .aload_n 0, 1, .int 0, 0, 0, 0, []), (95, .bipush 10, 2, .int 10, 0, 0, 0, []), (97, .newarray .int, 2, .int 0, 0, 0, 0, []), (99, .putfield 34, 3, .ref 0, 12, 9, 156, []), (102, .aload_n 0, 1, .int 0, 0, 0, 0, []), (103, .bipush 10, 2, .int 10, 0, 0, 0, []), (105, .newarray .int, 2, .int 0, 0, 0, 0, []), (107, .putfield 37, 3, .ref 0, 12, 10, 157, []), (110, .aload_n 0, 1, .int 0, 0, 0, 0, []), (111, .bipush 10, 2, .int 10, 0, 0, 0, []), (113, .newarray .int, 2, .int 0, 0, 0, 0, []), (115, .putfield 40, 3, .ref 0, 12, 11, 158, []), (118, .aload_n 0, 1, .int 0, 0, 0, 0, []), (119, .iconst 5, 1, .int 5, 0, 0, 0, []), (120, .newarray .int, 2, .int 0, 0, 0, 0, []), (122, .putfield 43, 3, .ref 0, 12, 12, 159, []), (125, .aload_n 0, 1, .int 0, 0, 0, 0, []), (126, .iconst 5, 1, .int 5, 0, 0, 0, []), (127, .newarray .int, 2, .int 0, 0, 0, 0, []), (129, .putfield 46, 3, .ref 0, 12, 13, 160, []), (132, .aload_n 0, 1, .int 0, 0, 0, 0, []), (133, .bipush 6, 2, .int 6, 0, 0, 0, []), (135, .newarray .int, 2, .int 0, 0, 0, 0, []), (137, .putfield 49, 3, .ref 0, 12, 14, 161, []), (140, .aload_n 0, 1, .int 0, 0, 0, 0, []), (141, .iconst 3, 1, .int 3, 0, 0, 0, []), (142, .newarray .int, 2, .int 0, 0, 0, 0, []), (144, .putfield 52, 3, .ref 0, 12, 15, 162, []), (147, .aload_n 0, 1, .int 0, 0, 0, 0, []), (148, .iconst 5, 1, .int 5, 0, 0, 0, []), (149, .newarray .int, 2, .int 0, 0, 0, 0, []), (151, .putfield 55, 3, .ref 0, 12, 16, 163, []), (154, .aload_n 0, 1, .int 0, 0, 0, 0, []), (155, .iconst 5, 1, .int 5, 0, 0, 0, []), (156, .newarray .int, 2, .int 0, 0, 0, 0, []), (158, .putfield 58, 3, .ref 0, 12, 17, 164, []), (161, .aload_n 0, 1, .int 0, 0, 0, 0, []), (162, .bipush 6, 2, .int 6, 0, 0, 0, []), (164, .newarray .int, 2, .int 0, 0, 0, 0, []), (166, .putfield 61, 3, .ref 0, 12, 18, 165, []), (169, .aload_n 0, 1, .int 0, 0, 0, 0, []), (170, .bipush 6, 2, .int 6, 0, 0, 0, []), (172, .newarray .int, 2, .int 0, 0, 0, 0, []), (174, .putfield 64, 3, .ref 0, 12, 19, 166, []), (177, .aload_n 0, 1, .int 0, 0, 0, 0, []), (178, .bipush 6, 2, .int 6, 0, 0, 0, []), (180, .newarray .int, 2, .int 0, 0, 0, 0, []), (182, .putfield 67, 3, .ref 0, 12, 20, 167, []), (185, .aload_n 0, 1, .int 0, 0, 0, 0, []), (186, .bipush 12, 2, .int 12, 0, 0, 0, []), (188, .putfield 70, 3, .int 0, 12, 30, 177, []), (191, .aload_n 0, 1, .int 0, 0, 0, 0, []), (192, .sipush 400, 3, .int 400, 0, 0, 0, []), (195, .newarray .byte, 2, .int 0, 0, 0, 0, []), (197, .putfield 74, 3, .ref 0, 12, 31, 178, []), (200, .aload_n 0, 1, .int 0, 0, 0, 0, []), (201, .sipush 1800, 3, .int 1800, 0, 0, 0, []), (204, .newarray .int, 2, .int 0, 0, 0, 0, []), (206, .putfield 78, 3, .ref 0, 12, 32, 179, []), (209, .aload_n 0, 1, .int 0, 0, 0, 0, []), (210, .sipush 1800, 3, .int 1800, 0, 0, 0, []), (213, .newarray .int, 2, .int 0, 0, 0, 0, []), (215, .putfield 81, 3, .ref 0, 12, 33, 180, []), (218, .aload_n 0, 1, .int 0, 0, 0, 0, []), (219, .bipush 6, 2, .int 6, 0, 0, 0, []), (221, .newarray .int, 2, .int 0, 0, 0, 0, []), (223, .putfield 84, 3, .ref 0, 12, 34, 181, []), (226, .aload_n 0, 1, .int 0, 0, 0, 0, []), (227, .bipush 72, 2, .int 72, 0, 0, 0, []), (229, .newarray .int, 2, .int 0, 0, 0, 0, []), (231, .putfield 87, 3, .ref 0, 12, 35, 182, []), (234, .aload_n 0, 1, .int 0, 0, 0, 0, []), (235, .bipush 72, 2, .int 72, 0, 0, 0, []), (237, .newarray .int, 2, .int 0, 0, 0, 0, []), (239, .putfield 90, 3, .ref 0, 12, 36, 183, []), (242, .aload_n 0, 1, .int 0, 0, 0, 0, []), (243, .bipush 72, 2, .int 72, 0, 0, 0, []), (245, .newarray .int, 2, .int 0, 0, 0, 0, []), (247, .putfield 93, 3, .ref 0, 12, 37, 184, []), (250, .aload_n 0, 1, .int 0, 0, 0, 0, []), (251, .sipush 402, 3, .int 402, 0, 0, 0, []), (254, .newarray .int, 2, .int 0, 0, 0, 0, []), (256, .putfield 96, 3, .ref 0, 12, 38, 185, []), (259, .aload_n 0, 1, .int 0, 0, 0, 0, []), (260, .bipush 12, 2, .int 12, 0, 0, 0, []), (262, .newarray .long, 2, .int 0, 0, 0, 0, []), (264, .putfield 99, 3, .ref 0, 12, 39, 186, []), (267, .aload_n 0, 1, .int 0, 0, 0, 0, []), (268, .sipush 300, 3, .int 300, 0, 0, 0, []), (271, .newarray .long, 2, .int 0, 0, 0, 0, []), (273, .putfield 103, 3, .ref 0, 12, 40, 187, []), (276, .aload_n 0, 1, .int 0, 0, 0, 0, []), (277, .iconst 5, 1, .int 5, 0, 0, 0, []), (278, .newarray .int, 2, .int 0, 0, 0, 0, []), (280, .putfield 106, 3, .ref 0, 12, 41, 188, []), (283, .aload_n 0, 1, .int 0, 0, 0, 0, []), (284, .iconst 5, 1, .int 5, 0, 0, 0, []), (285, .newarray .int, 2, .int 0, 0, 0, 0, []), (287, .dup, 1, .int 0, 0, 0, 0, []), (288, .iconst 0, 1, .int 0, 0, 0, 0, []), (289, .bipush (-5), 2, .int (-5), 0, 0, 0, []), (291, .iastore, 1, .int 0, 0, 0, 0, []), (292, .dup, 1, .int 0, 0, 0, 0, []), (293, .iconst 1, 1, .int 1, 0, 0, 0, []), (294, .bipush (-5), 2, .int (-5), 0, 0, 0, []), (296, .iastore, 1, .int 0, 0, 0, 0, []), (297, .dup, 1, .int 0, 0, 0, 0, []), (298, .iconst 2, 1, .int 2, 0, 0, 0, []), (299, .bipush (-5), 2, .int (-5), 0, 0, 0, []), (301, .iastore, 1, .int 0, 0, 0, 0, []), (302, .dup, 1, .int 0, 0, 0, 0, []), (303, .iconst 3, 1, .int 3, 0, 0, 0, []), (304, .bipush (-5), 2, .int (-5), 0, 0, 0, []), (306, .iastore, 1, .int 0, 0, 0, 0, []), (307, .dup, 1, .int 0, 0, 0, 0, []), (308, .iconst 4, 1, .int 4, 0, 0, 0, []), (309, .bipush (-5), 2, .int (-5), 0, 0, 0, []), (311, .iastore, 1, .int 0, 0, 0, 0, []), (312, .putfield 109, 3, .ref 0, 12, 42, 189, []), (315, .aload_n 0, 1, .int 0, 0, 0, 0, []), (316, .sipush 560, 3, .int 560, 0, 0, 0, []), (319, .newarray .int, 2, .int 0, 0, 0, 0, []), (321, .putfield 112, 3, .ref 0, 12, 43, 190, []), (324, .aload_n 0, 1, .int 0, 0, 0, 0, []), (325, .iconst 1, 1, .int 1, 0, 0, 0, []), (326, .newarray .int, 2, .int 0, 0, 0, 0, []), (328, .putfield 115, 3, .ref 0, 12, 44, 191, []), (331, .aload_n 0, 1, .int 0, 0, 0, 0, []), (332, .iconst 3, 1, .int 3, 0, 0, 0, []), (333, .newarray .int, 2, .int 0, 0, 0, 0, []), (335, .putfield 118, 3, .ref 0, 12, 48, 195, []), (338, .aload_n 0, 1, .int 0, 0, 0, 0, []), (339, .iconst 3, 1, .int 3, 0, 0, 0, []), (340, .newarray .int, 2, .int 0, 0, 0, 0, []), (342, .putfield 121, 3, .ref 0, 12, 49, 196, []), (345, .aload_n 0, 1, .int 0, 0, 0, 0, []), (346, .bipush 32, 2, .int 32, 0, 0, 0, []), (348, .newarray .int, 2, .int 0, 0, 0, 0, []), (350, .putfield 124, 3, .ref 0, 12, 50, 197, []), (353, .aload_n 0, 1, .int 0, 0, 0, 0, []), (354, .bipush 49, 2, .int 49, 0, 0, 0, []), (356, .newarray .int, 2, .int 0, 0, 0, 0, []), (358, .putfield 127, 3, .ref 0, 12, 51, 198, []), (361, .aload_n 0, 1, .int 0, 0, 0, 0, []), (362, .bipush 49, 2, .int 49, 0, 0, 0, []), (364, .newarray .int, 2, .int 0, 0, 0, 0, []), (366, .putfield 130, 3, .ref 0, 12, 52, 199, []), (369, .aload_n 0, 1, .int 0, 0, 0, 0, []), (370, .sipush 366, 3, .int 366, 0, 0, 0, []), (373, .newarray .int, 2, .int 0, 0, 0, 0, []), (375, .putfield 133, 3, .ref 0, 12, 53, 200, []), (378, .aload_n 0, 1, .int 0, 0, 0, 0, []), (379, .bipush 42, 2, .int 42, 0, 0, 0, []), (381, .newarray .int, 2, .int 0, 0, 0, 0, []), (383, .putfield 136, 3, .ref 0, 12, 54, 201, []), (386, .aload_n 0, 1, .int 0, 0, 0, 0, []), (387, .sipush 3500, 3, .int 3500, 0, 0, 0, []), (390, .newarray .int, 2, .int 0, 0, 0, 0, []), (392, .putfield 139, 3, .ref 0, 12, 55, 202, []), (395, .aload_n 0, 1, .int 0, 0, 0, 0, []), (396, .iconst 4, 1, .int 4, 0, 0, 0, []), (397, .newarray .boolean, 2, .int 0, 0, 0, 0, []), (399, .putfield 142, 3, .ref 0, 12, 56, 203, []), (402, .return_, 1, .int 0, 0, 0, 0, [])]
set_option maxRecDepth 100000 in
theorem okX12_init : codeOk 140 kX12_init := ⟨_, rfl, by decide +kernel⟩
def kX12_in : List AI := [(0, .lload_n 0, 1, .int 0, 0, 0, 0, []), (1, .lload_n 2, 1, .int 0, 0, 0, 0, []), (2, .lcmp, 1, .int 0, 0, 0, 0, []), (3, .ifCond .lt 14, 3, .int 0, 17, 0, 0, []), (6, .lload_n 0, 1, .int 0, 0, 0, 0, []), (7, .lload 4, 2, .int 0, 0, 0, 0, []), (9, .lcmp, 1, .int 0, 0, 0, 0, []), (10, .ifCond .gt 7, 3, .int 0, 17, 0, 0, []), (13, .iconst 1, 1, .int 1, 0, 0, 0, []), (14, .goto 4, 3, .int 0, 18, 0, 0, []), (17, .iconst 0, 1, .int 0, 0, 0, 0, []), (18, .ireturn, 1, .int 0, 0, 0, 0, [])]
set_option maxRecDepth 100000 in
theorem okX12_in : codeOk 141 kX12_in := ⟨_, rfl, by decide +kernel⟩
def kX12_bits : List AI := [(0, .iconst 0, 1, .int 0, 0, 0, 0, []), (1, .istore_n 1, 1, .int 0, 0, 0, 0, []), (2, .iconst 0, 1, .int 0, 0, 0, 0, []), (3, .istore_n 2, 1, .int 0, 0, 0, 0, []), (4, .iload_n 2, 1, .int 0, 0, 0, 0, []), (5, .bipush 16, 2, .int 16, 0, 0, 0, []), (7, .if_icmp .ge 17, 3, .int 0, 24, 0, 0, []), (10, .iload_n 1, 1, .int 0, 0, 0, 0, []), (11, .iload_n 0, 1, .int 0, 0, 0, 0, []), (12, .iload_n 2, 1, .int 0, 0, 0, 0, []), (13, .ishr, 1, .int 0, 0, 0, 0, []), (14, .iconst 1, 1, .int 1, 0, 0, 0, []), (15, .iand, 1, .int 0, 0, 0, 0, []), (16, .iadd, 1, .int 0, 0, 0, 0, []), (17, .istore_n 1, 1, .int 0, 0, 0, 0, []), (18, .iinc 2 1, 3, .int 1, 0, 0, 0, []), (21, .goto (-17), 3, .int 0, 4, 0, 0, []), (24, .iload_n 1, 1, .int 0, 0, 0, 0, []), (25, .ireturn, 1, .int 0, 0, 0, 0, [])]
set_option maxRecDepth 100000 in
theorem okX12_bits : codeOk 142 kX12_bits := ⟨_, rfl, by decide +kernel⟩
def kX12_has : List AI := [(0, .iload_n 0, 1, .int 0, 0, 0, 0, []), (1, .iload_n 1, 1, .int 0, 0, 0, 0, []), (2, .ishr, 1, .int 0, 0, 0, 0, []), (3, .iconst 1, 1, .int 1, 0, 0, 0, []), (4, .iand, 1, .int 0, 0, 0, 0, []), (5, .iconst 1, 1, .int 1, 0, 0, 0, []), (6, .if_icmp .ne 7, 3, .int 0, 13, 0, 0, []), (9, .iconst 1, 1, .int 1, 0, 0, 0, []), (10, .goto 4, 3, .int 0, 14, 0, 0, []), (13, .iconst 0, 1, .int 0, 0, 0, 0, []), (14, .ireturn, 1, .int 0, 0, 0, 0, [])]
set_option maxRecDepth 100000 in
theorem okX12_has : codeOk 143 kX12_has := ⟨_, rfl, by decide +kernel⟩
def kX12_isHill : List AI := [(0, .aload_n 0, 1, .int 0, 0, 0, 0, []), (1, .getfield 9, 3, .ref 0, 12, 1, 148, []), (4, .iconst 0, 1, .int 0, 0, 0, 0, []), (5, .iaload, 1, .int 0, 0, 0, 0, []), (6, .ifCond .le 7, 3, .int 0, 13, 0, 0, []), (9, .iconst 1, 1, .int 1, 0, 0, 0, []), (10, .goto 4, 3, .int 0, 14, 0, 0, []), (13, .iconst 0, 1, .int 0, 0, 0, 0, []), (14, .ireturn, 1, .int 0, 0, 0, 0, [])]
set_option maxRecDepth 100000 in
theorem okX12_isHill : codeOk 144 kX12_isHill := ⟨_, rfl, by decide +kernel⟩
def kX12_isRunner : List AI := [(0, .iload_n 1, 1, .int 0, 0, 0, 0, []), (1, .i2l, 1, .int 0, 0, 0, 0, []), (2, .lconst 0, 1, .long 0, 0, 0, 0, []), (3, .aload_n 0, 1, .int 0, 0, 0, 0, []), (4, .getfield 9, 3, .ref 0, 12, 1, 148, []), (7, .iconst 1, 1, .int 1, 0, 0, 0, []), (8, .iaload, 1, .int 0, 0, 0, 0, []), (9, .iconst 1, 1, .int 1, 0, 0, 0, []), (10, .isub, 1, .int 0, 0, 0, 0, []), (11, .i2l, 1, .int 0, 0, 0, 0, []), (12, .invokestatic 149, 3, .int 0, 141, 3, 185, [(0, 12), (0, 1)]), (15, .ireturn, 1, .int 0, 0, 0, 0, [])]
set_option maxRecDepth 100000 in
theorem okX12_isRunner : codeOk 145 kX12_isRunner := ⟨_, rfl, by decide +kernel⟩
def kX12_isWare : List AI := [(0, .iload_n 1, 1, .int 0, 0, 0, 0, []), (1, .i2l, 1, .int 0, 0, 0, 0, []), (2, .lconst 0, 1, .long 0, 0, 0, 0, []), (3, .aload_n 0, 1, .int 0, 0, 0, 0, []), (4, .getfield 9, 3, .ref 0, 12, 1, 148, []), (7, .iconst 2, 1, .int 2, 0, 0, 0, []), (8, .iaload, 1, .int 0, 0, 0, 0, []), (9, .iconst 1, 1, .int 1, 0, 0, 0, []), (10, .isub, 1, .int 0, 0, 0, 0, []), (11, .i2l, 1, .int 0, 0, 0, 0, []), (12, .invokestatic 149, 3, .int 0, 141, 3, 185, [(0, 12), (0, 1)]), (15, .ireturn, 1, .int 0, 0, 0, 0, [])]
set_option maxRecDepth 100000 in
theorem okX12_isWare : codeOk 146 kX12_isWare := ⟨_, rfl, by decide +kernel⟩
def kX12_feed : List AI := [(0, .aload_n 0, 1, .int 0, 0, 0, 0, []), (1, .getfield 153, 3, .int 0, 12, 21, 168, []), (4, .bipush 20, 2, .int 20, 0, 0, 0, []), (6, .iadd, 1, .int 0, 0, 0, 0, []), (7, .sipush 400, 3, .int 400, 0, 0, 0, []), (10, .if_icmp .le 5, 3, .int 0, 15, 0, 0, []), (13, .iconst (-1), 1, .int (-1), 0, 0, 0, []), (14, .ireturn, 1, .int 0, 0, 0, 0, []), (15, .aload_n 0, 1, .int 0, 0, 0, 0, []), (16, .iload_n 1, 1, .int 0, 0, 0, 0, []), (17, .invokevirtual 156, 3, .int 0, 148, 2, 169, [(0, 12), (0, 0)]), (20, .aload_n 0, 1, .int 0, 0, 0, 0, []), (21, .iload_n 2, 1, .int 0, 0, 0, 0, []), (22, .invokevirtual 156, 3, .int 0, 148, 2, 169, [(0, 12), (0, 0)]), (25, .aload_n 0, 1, .int 0, 0, 0, 0, []), (26, .iload_n 3, 1, .int 0, 0, 0, 0, []), (27, .invokevirtual 156, 3, .int 0, 148, 2, 169, [(0, 12), (0, 0)]), (30, .aload_n 0, 1, .int 0, 0, 0, 0, []), (31, .iload 4, 2, .int 0, 0, 0, 0, []), (33, .invokevirtual 156, 3, .int 0, 148, 2, 169, [(0, 12), (0, 0)]), (36, .aload_n 0, 1, .int 0, 0, 0, 0, []), (37, .iload 5, 2, .int 0, 0, 0, 0, []), (39, .invokevirtual 156, 3, .int 0, 148, 2, 169, [(0, 12), (0, 0)]), (42, .aload_n 0, 1, .int 0, 0, 0, 0, []), (43, .getfield 153, 3, .int 0, 12, 21, 168, []), (46, .ireturn, 1, .int 0, 0, 0, 0, [])]
set_option maxRecDepth 100000 in
theorem okX12_feed : codeOk 147 kX12_feed := ⟨_, rfl, by decide +kernel⟩
def kX12_put : List AI := [(0, .bipush 24, 2, .int 24, 0, 0, 0, []), (2, .istore_n 2, 1, .int 0, 0, 0, 0, []), (3, .iload_n 2, 1, .int 0, 0, 0, 0, []), (4, .ifCond .lt 32, 3, .int 0, 36, 0, 0, []), (7, .aload_n 0, 1, .int 0, 0, 0, 0, []), (8, .getfield 74, 3, .ref 0, 12, 31, 178, []), (11, .aload_n 0, 1, .int 0, 0, 0, 0, []), (12, .getfield 153, 3, .int 0, 12, 21, 168, []), (15, .iload_n 1, 1, .int 0, 0, 0, 0, []), (16, .iload_n 2, 1, .int 0, 0, 0, 0, []), (17, .ishr, 1, .int 0, 0, 0, 0, []), (18, .i2b, 1, .int 0, 0, 0, 0, []), (19, .bastore, 1, .int 0, 0, 0, 0, []), (20, .aload_n 0, 1, .int 0, 0, 0, 0, []), (21, .dup, 1, .int 0, 0, 0, 0, []), (22, .getfield 153, 3, .int 0, 12, 21, 168, []), (25, .iconst 1, 1, .int 1, 0, 0, 0, []), (26, .iadd, 1, .int 0, 0, 0, 0, []), (27, .putfield 153, 3, .int 0, 12, 21, 168, []), (30, .iinc 2 (-8), 3, .int (-8), 0, 0, 0, []), (33, .goto (-30), 3, .int 0, 3, 0, 0, []), (36, .return_, 1, .int 0, 0, 0, 0, [])]
set_option maxRecDepth 100000 in
theorem okX12_put : codeOk 148 kX12_put := ⟨_, rfl, by decide +kernel⟩
def kX12_end : List AI := [(0, .iload_n 1, 1, .int 0, 0, 0, 0, []), (1, .ifCond .lt 11, 3, .int 0, 12, 0, 0, []), (4, .iload_n 1, 1, .int 0, 0, 0, 0, []), (5, .aload_n 0, 1, .int 0, 0, 0, 0, []), (6, .getfield 153, 3, .int 0, 12, 21, 168, []), (9, .if_icmp .le 5, 3, .int 0, 14, 0, 0, []), (12, .iconst (-1), 1, .int (-1), 0, 0, 0, []), (13, .ireturn, 1, .int 0, 0, 0, 0, []), (14, .aload_n 0, 1, .int 0, 0, 0, 0, []), (15, .iload_n 1, 1, .int 0, 0, 0, 0, []), (16, .putfield 153, 3, .int 0, 12, 21, 168, []), (19, .iload_n 1, 1, .int 0, 0, 0, 0, []), (20, .ireturn, 1, .int 0, 0, 0, 0, [])]
set_option maxRecDepth 100000 in
theorem okX12_end : codeOk 149 kX12_end := ⟨_, rfl, by decide +kernel⟩
def kX12_wordOf : List AI := [(0, .iload_n 0, 1, .int 0, 0, 0, 0, []), (1, .tableswitch 92 0 10 #[59, 62, 65, 68, 71, 74, 77, 80, 83, 86, 89], 59, .int 0, 93, 0, 0, [(0, 60), (1, 63), (2, 66), (3, 69), (4, 72), (5, 75), (6, 78), (7, 81), (8, 84), (9, 87), (10, 90)]), (60, .ldc 160, 2, .retAddr 2, 0, 0, 0, []), (62, .areturn, 1, .int 0, 0, 0, 0, []), (63, .ldc 162, 2, .retAddr 3, 0, 0, 0, []), (65, .areturn, 1, .int 0, 0, 0, 0, []), (66, .ldc 164, 2, .retAddr 5, 0, 0, 0, []), (68, .areturn, 1, .int 0, 0, 0, 0, []), (69, .ldc 165, 2, .retAddr 6, 0, 0, 0, []), (71, .areturn, 1, .int 0, 0, 0, 0, []), (72, .ldc 166, 2, .retAddr 7, 0, 0, 0, []), (74, .areturn, 1, .int 0, 0, 0, 0, []), (75, .ldc 167, 2, .retAddr 8, 0, 0, 0, []), (77, .areturn, 1, .int 0, 0, 0, 0, []), (78, .ldc 168, 2, .retAddr 9, 0, 0, 0, []), (80, .areturn, 1, .int 0, 0, 0, 0, []), (81, .ldc 170, 2, .retAddr 10, 0, 0, 0, []), (83, .areturn, 1, .int 0, 0, 0, 0, []), (84, .ldc 172, 2, .retAddr 11, 0, 0, 0, []), (86, .areturn, 1, .int 0, 0, 0, 0, []), (87, .ldc 174, 2, .retAddr 12, 0, 0, 0, []), (89, .areturn, 1, .int 0, 0, 0, 0, []), (90, .ldc 175, 2, .retAddr 13, 0, 0, 0, []), (92, .areturn, 1, .int 0, 0, 0, 0, []), (93, .ldc 177, 2, .retAddr 14, 0, 0, 0, []), (95, .areturn, 1, .int 0, 0, 0, 0, [])]
set_option maxRecDepth 100000 in
theorem okX12_wordOf : codeOk 150 kX12_wordOf := ⟨_, rfl, by decide +kernel⟩
def kX12_fails : List AI := [(0, .aload_n 0, 1, .int 0, 0, 0, 0, []), (1, .aload_n 0, 1, .int 0, 0, 0, 0, []), (2, .getfield 179, 3, .int 0, 12, 23, 170, []), (5, .ifCond .ne 14, 3, .int 0, 19, 0, 0, []), (8, .iconst 1, 1, .int 1, 0, 0, 0, []), (9, .bipush 8, 2, .int 8, 0, 0, 0, []), (11, .iload_n 2, 1, .int 0, 0, 0, 0, []), (12, .imul, 1, .int 0, 0, 0, 0, []), (13, .iadd, 1, .int 0, 0, 0, 0, []), (14, .iload_n 1, 1, .int 0, 0, 0, 0, []), (15, .iadd, 1, .int 0, 0, 0, 0, []), (16, .goto 7, 3, .int 0, 23, 0, 0, []), (19, .aload_n 0, 1, .int 0, 0, 0, 0, []), (20, .getfield 179, 3, .int 0, 12, 23, 170, []), (23, .putfield 179, 3, .int 0, 12, 23, 170, []), (26, .return_, 1, .int 0, 0, 0, 0, [])]
set_option maxRecDepth 100000 in
theorem okX12_fails : codeOk 151 kX12_fails := ⟨_, rfl, by decide +kernel⟩
def kX12_sign : List AI := [(0, .aload_n 0, 1, .int 0, 0, 0, 0, []), (1, .getfield 182, 3, .int 0, 12, 22, 169, []), (4, .aload_n 0, 1, .int 0, 0, 0, 0, []), (5, .getfield 153, 3, .int 0, 12, 21, 168, []), (8, .if_icmp .ge 19, 3, .int 0, 27, 0, 0, []), (11, .aload_n 0, 1, .int 0, 0, 0, 0, []), (12, .getfield 74, 3, .ref 0, 12, 31, 178, []), (15, .aload_n 0, 1, .int 0, 0, 0, 0, []), (16, .getfield 182, 3, .int 0, 12, 22, 169, []), (19, .baload, 1, .int 0, 0, 0, 0, []), (20, .sipush 255, 3, .int 255, 0, 0, 0, []), (23, .iand, 1, .int 0, 0, 0, 0, []), (24, .goto 4, 3, .int 0, 28, 0, 0, []), (27, .iconst (-1), 1, .int (-1), 0, 0, 0, []), (28, .ireturn, 1, .int 0, 0, 0, 0, [])]
set_option maxRecDepth 100000 in
theorem okX12_sign : codeOk 152 kX12_sign := ⟨_, rfl, by decide +kernel⟩
def kX12_blanks : List AI := [(0, .aload_n 0, 1, .int 0, 0, 0, 0, []), (1, .invokevirtual 185, 3, .int 0, 152, 1, 176, [(0, 12), (0, 1)]), (4, .bipush 32, 2, .int 32, 0, 0, 0, []), (6, .if_icmp .ne 16, 3, .int 0, 22, 0, 0, []), (9, .aload_n 0, 1, .int 0, 0, 0, 0, []), (10, .dup, 1, .int 0, 0, 0, 0, []), (11, .getfield 182, 3, .int 0, 12, 22, 169, []), (14, .iconst 1, 1, .int 1, 0, 0, 0, []), (15, .iadd, 1, .int 0, 0, 0, 0, []), (16, .putfield 182, 3, .int 0, 12, 22, 169, []), (19, .goto (-19), 3, .int 0, 0, 0, 0, []), (22, .return_, 1, .int 0, 0, 0, 0, [])]
set_option maxRecDepth 100000 in
theorem okX12_blanks : codeOk 153 kX12_blanks := ⟨_, rfl, by decide +kernel⟩
def kX12_isDigit : List AI := [(0, .aload_n 0, 1, .int 0, 0, 0, 0, []), (1, .invokevirtual 185, 3, .int 0, 152, 1, 176, [(0, 12), (0, 1)]), (4, .i2l, 1, .int 0, 0, 0, 0, []), (5, .ldc2_w 189, 3, .long 48, 0, 0, 3, []), (8, .ldc2_w 191, 3, .long 57, 0, 0, 4, []), (11, .invokestatic 149, 3, .int 0, 141, 3, 185, [(0, 12), (0, 1)]), (14, .ireturn, 1, .int 0, 0, 0, 0, [])]
set_option maxRecDepth 100000 in
theorem okX12_isDigit : codeOk 154 kX12_isDigit := ⟨_, rfl, by decide +kernel⟩
def kX12_stood : List AI := [(0, .aload_n 0, 1, .int 0, 0, 0, 0, []), (1, .getfield 182, 3, .int 0, 12, 22, 169, []), (4, .istore_n 2, 1, .int 0, 0, 0, 0, []), (5, .iload_n 2, 1, .int 0, 0, 0, 0, []), (6, .aload_n 0, 1, .int 0, 0, 0, 0, []), (7, .getfield 153, 3, .int 0, 12, 21, 168, []), (10, .if_icmp .ge 31, 3, .int 0, 41, 0, 0, []), (13, .aload_n 0, 1, .int 0, 0, 0, 0, []), (14, .getfield 74, 3, .ref 0, 12, 31, 178, []), (17, .iload_n 2, 1, .int 0, 0, 0, 0, []), (18, .baload, 1, .int 0, 0, 0, 0, []), (19, .bipush 97, 2, .int 97, 0, 0, 0, []), (21, .if_icmp .lt 20, 3, .int 0, 41, 0, 0, []), (24, .aload_n 0, 1, .int 0, 0, 0, 0, []), (25, .getfield 74, 3, .ref 0, 12, 31, 178, []), (28, .iload_n 2, 1, .int 0, 0, 0, 0, []), (29, .baload, 1, .int 0, 0, 0, 0, []), (30, .bipush 122, 2, .int 122, 0, 0, 0, []), (32, .if_icmp .gt 9, 3, .int 0, 41, 0, 0, []), (35, .iinc 2 1, 3, .int 1, 0, 0, 0, []), (38, .goto (-33), 3, .int 0, 5, 0, 0, []), (41, .iload_n 2, 1, .int 0, 0, 0, 0, []), (42, .aload_n 0, 1, .int 0, 0, 0, 0, []), (43, .getfield 182, 3, .int 0, 12, 22, 169, []), (46, .isub, 1, .int 0, 0, 0, 0, []), (47, .aload_n 1, 1, .int 0, 0, 0, 0, []), (48, .invokevirtual 193, 3, .int 0, 1005, 0, 27, []), (51, .if_icmp .ne 7, 3, .int 0, 58, 0, 0, []), (54, .iconst 1, 1, .int 1, 0, 0, 0, []), (55, .goto 4, 3, .int 0, 59, 0, 0, []), (58, .iconst 0, 1, .int 0, 0, 0, 0, []), (59, .istore_n 3, 1, .int 0, 0, 0, 0, []), (60, .iconst 0, 1, .int 0, 0, 0, 0, []), (61, .istore 4, 2, .int 0, 0, 0, 0, []), (63, .iload 4, 2, .int 0, 0, 0, 0, []), (65, .aload_n 1, 1, .int 0, 0, 0, 0, []), (66, .invokevirtual 193, 3, .int 0, 1005, 0, 27, []), (69, .if_icmp .ge 40, 3, .int 0, 109, 0, 0, []), (72, .iload_n 3, 1, .int 0, 0, 0, 0, []), (73, .ifCond .eq 36, 3, .int 0, 109, 0, 0, []), (76, .aload_n 0, 1, .int 0, 0, 0, 0, []), (77, .getfield 74, 3, .ref 0, 12, 31, 178, []), (80, .aload_n 0, 1, .int 0, 0, 0, 0, []), (81, .getfield 182, 3, .int 0, 12, 22, 169, []), (84, .iload 4, 2, .int 0, 0, 0, 0, []), (86, .iadd, 1, .int 0, 0, 0, 0, []), (87, .baload, 1, .int 0, 0, 0, 0, []), (88, .aload_n 1, 1, .int 0, 0, 0, 0, []), (89, .iload 4, 2, .int 0, 0, 0, 0, []), (91, .invokevirtual 198, 3, .int 0, 1006, 0, 28, []), (94, .if_icmp .ne 7, 3, .int 0, 101, 0, 0, []), (97, .iconst 1, 1, .int 1, 0, 0, 0, []), (98, .goto 4, 3, .int 0, 102, 0, 0, []), (101, .iconst 0, 1, .int 0, 0, 0, 0, []), (102, .istore_n 3, 1, .int 0, 0, 0, 0, []), (103, .iinc 4 1, 3, .int 1, 0, 0, 0, []), (106, .goto (-43), 3, .int 0, 63, 0, 0, []), (109, .iload_n 3, 1, .int 0, 0, 0, 0, []), (110, .ireturn, 1, .int 0, 0, 0, 0, [])]
set_option maxRecDepth 100000 in
theorem okX12_stood : codeOk 155 kX12_stood := ⟨_, rfl, by decide +kernel⟩
def kX12_takes : List AI := [(0, .aload_n 0, 1, .int 0, 0, 0, 0, []), (1, .invokevirtual 202, 3, .int 0, 153, 1, 175, [(0, 12), (0, 0)]), (4, .aload_n 0, 1, .int 0, 0, 0, 0, []), (5, .aload_n 1, 1, .int 0, 0, 0, 0, []), (6, .invokevirtual 205, 3, .int 0, 155, 2, 178, [(0, 12), (0, 1)]), (9, .istore_n 2, 1, .int 0, 0, 0, 0, []), (10, .aload_n 0, 1, .int 0, 0, 0, 0, []), (11, .dup, 1, .int 0, 0, 0, 0, []), (12, .getfield 182, 3, .int 0, 12, 22, 169, []), (15, .iload_n 2, 1, .int 0, 0, 0, 0, []), (16, .ifCond .eq 10, 3, .int 0, 26, 0, 0, []), (19, .aload_n 1, 1, .int 0, 0, 0, 0, []), (20, .invokevirtual 193, 3, .int 0, 1005, 0, 27, []), (23, .goto 4, 3, .int 0, 27, 0, 0, []), (26, .iconst 0, 1, .int 0, 0, 0, 0, []), (27, .iadd, 1, .int 0, 0, 0, 0, []), (28, .putfield 182, 3, .int 0, 12, 22, 169, []), (31, .iload_n 2, 1, .int 0, 0, 0, 0, []), (32, .ireturn, 1, .int 0, 0, 0, 0, [])]
set_option maxRecDepth 100000 in
theorem okX12_takes : codeOk 156 kX12_takes := ⟨_, rfl, by decide +kernel⟩
def kX12_entry : List AI := [(0, .aload_n 0, 1, .int 0, 0, 0, 0, []), (1, .getfield 179, 3, .int 0, 12, 23, 170, []), (4, .ifCond .ne 51, 3, .int 0, 55, 0, 0, []), (7, .aload_n 0, 1, .int 0, 0, 0, 0, []), (8, .getfield 78, 3, .ref 0, 12, 32, 179, []), (11, .sipush 300, 3, .int 300, 0, 0, 0, []), (14, .aload_n 0, 1, .int 0, 0, 0, 0, []), (15, .getfield 209, 3, .int 0, 12, 24, 171, []), (18, .imul, 1, .int 0, 0, 0, 0, []), (19, .aload_n 0, 1, .int 0, 0, 0, 0, []), (20, .getfield 212, 3, .int 0, 12, 26, 173, []), (23, .iadd, 1, .int 0, 0, 0, 0, []), (24, .iload_n 1, 1, .int 0, 0, 0, 0, []), (25, .iastore, 1, .int 0, 0, 0, 0, []), (26, .aload_n 0, 1, .int 0, 0, 0, 0, []), (27, .getfield 81, 3, .ref 0, 12, 33, 180, []), (30, .sipush 300, 3, .int 300, 0, 0, 0, []), (33, .aload_n 0, 1, .int 0, 0, 0, 0, []), (34, .getfield 209, 3, .int 0, 12, 24, 171, []), (37, .imul, 1, .int 0, 0, 0, 0, []), (38, .aload_n 0, 1, .int 0, 0, 0, 0, []), (39, .getfield 212, 3, .int 0, 12, 26, 173, []), (42, .iadd, 1, .int 0, 0, 0, 0, []), (43, .iload_n 2, 1, .int 0, 0, 0, 0, []), (44, .iastore, 1, .int 0, 0, 0, 0, []), (45, .aload_n 0, 1, .int 0, 0, 0, 0, []), (46, .dup, 1, .int 0, 0, 0, 0, []), (47, .getfield 212, 3, .int 0, 12, 26, 173, []), (50, .iconst 1, 1, .int 1, 0, 0, 0, []), (51, .iadd, 1, .int 0, 0, 0, 0, []), (52, .putfield 212, 3, .int 0, 12, 26, 173, []), (55, .return_, 1, .int 0, 0, 0, 0, [])]
set_option maxRecDepth 100000 in
theorem okX12_entry : codeOk 157 kX12_entry := ⟨_, rfl, by decide +kernel⟩
def kX12_isCounted : List AI := [(0, .aload_n 0, 1, .int 0, 0, 0, 0, []), (1, .getfield 215, 3, .int 0, 12, 28, 175, []), (4, .bipush 60, 2, .int 60, 0, 0, 0, []), (6, .if_icmp .ne 9, 3, .int 0, 15, 0, 0, []), (9, .aload_n 0, 1, .int 0, 0, 0, 0, []), (10, .iconst 3, 1, .int 3, 0, 0, 0, []), (11, .iload_n 1, 1, .int 0, 0, 0, 0, []), (12, .invokevirtual 218, 3, .int 0, 151, 3, 179, [(0, 12), (0, 0)]), (15, .aload_n 0, 1, .int 0, 0, 0, 0, []), (16, .dup, 1, .int 0, 0, 0, 0, []), (17, .getfield 215, 3, .int 0, 12, 28, 175, []), (20, .iconst 1, 1, .int 1, 0, 0, 0, []), (21, .iadd, 1, .int 0, 0, 0, 0, []), (22, .putfield 215, 3, .int 0, 12, 28, 175, []), (25, .return_, 1, .int 0, 0, 0, 0, [])]
set_option maxRecDepth 100000 in
theorem okX12_isCounted : codeOk 158 kX12_isCounted := ⟨_, rfl, by decide +kernel⟩
def kX12_digits : List AI := [(0, .aload_n 0, 1, .int 0, 0, 0, 0, []), (1, .invokevirtual 222, 3, .int 0, 154, 1, 184, [(0, 12), (0, 1)]), (4, .ifCond .ne 14, 3, .int 0, 18, 0, 0, []), (7, .aload_n 0, 1, .int 0, 0, 0, 0, []), (8, .iconst 0, 1, .int 0, 0, 0, 0, []), (9, .aload_n 0, 1, .int 0, 0, 0, 0, []), (10, .getfield 182, 3, .int 0, 12, 22, 169, []), (13, .invokevirtual 218, 3, .int 0, 151, 3, 179, [(0, 12), (0, 0)]), (16, .iconst 0, 1, .int 0, 0, 0, 0, []), (17, .ireturn, 1, .int 0, 0, 0, 0, []), (18, .aload_n 0, 1, .int 0, 0, 0, 0, []), (19, .getfield 182, 3, .int 0, 12, 22, 169, []), (22, .istore_n 2, 1, .int 0, 0, 0, 0, []), (23, .iconst 0, 1, .int 0, 0, 0, 0, []), (24, .istore_n 3, 1, .int 0, 0, 0, 0, []), (25, .aload_n 0, 1, .int 0, 0, 0, 0, []), (26, .invokevirtual 222, 3, .int 0, 154, 1, 184, [(0, 12), (0, 1)]), (29, .ifCond .eq 43, 3, .int 0, 72, 0, 0, []), (32, .aload_n 0, 1, .int 0, 0, 0, 0, []), (33, .getfield 182, 3, .int 0, 12, 22, 169, []), (36, .iload_n 2, 1, .int 0, 0, 0, 0, []), (37, .isub, 1, .int 0, 0, 0, 0, []), (38, .iconst 5, 1, .int 5, 0, 0, 0, []), (39, .if_icmp .ge 18, 3, .int 0, 57, 0, 0, []), (42, .bipush 10, 2, .int 10, 0, 0, 0, []), (44, .iload_n 3, 1, .int 0, 0, 0, 0, []), (45, .imul, 1, .int 0, 0, 0, 0, []), (46, .aload_n 0, 1, .int 0, 0, 0, 0, []), (47, .invokevirtual 185, 3, .int 0, 152, 1, 176, [(0, 12), (0, 1)]), (50, .iadd, 1, .int 0, 0, 0, 0, []), (51, .bipush 48, 2, .int 48, 0, 0, 0, []), (53, .isub, 1, .int 0, 0, 0, 0, []), (54, .goto 4, 3, .int 0, 58, 0, 0, []), (57, .iload_n 3, 1, .int 0, 0, 0, 0, []), (58, .istore_n 3, 1, .int 0, 0, 0, 0, []), (59, .aload_n 0, 1, .int 0, 0, 0, 0, []), (60, .dup, 1, .int 0, 0, 0, 0, []), (61, .getfield 182, 3, .int 0, 12, 22, 169, []), (64, .iconst 1, 1, .int 1, 0, 0, 0, []), (65, .iadd, 1, .int 0, 0, 0, 0, []), (66, .putfield 182, 3, .int 0, 12, 22, 169, []), (69, .goto (-44), 3, .int 0, 25, 0, 0, []), (72, .aload_n 0, 1, .int 0, 0, 0, 0, []), (73, .getfield 182, 3, .int 0, 12, 22, 169, []), (76, .iload_n 2, 1, .int 0, 0, 0, 0, []), (77, .isub, 1, .int 0, 0, 0, 0, []), (78, .iconst 5, 1, .int 5, 0, 0, 0, []), (79, .if_icmp .gt 8, 3, .int 0, 87, 0, 0, []), (82, .iload_n 3, 1, .int 0, 0, 0, 0, []), (83, .iload_n 1, 1, .int 0, 0, 0, 0, []), (84, .if_icmp .le 9, 3, .int 0, 93, 0, 0, []), (87, .aload_n 0, 1, .int 0, 0, 0, 0, []), (88, .iconst 1, 1, .int 1, 0, 0, 0, []), (89, .iload_n 2, 1, .int 0, 0, 0, 0, []), (90, .invokevirtual 218, 3, .int 0, 151, 3, 179, [(0, 12), (0, 0)]), (93, .iload_n 3, 1, .int 0, 0, 0, 0, []), (94, .ireturn, 1, .int 0, 0, 0, 0, [])]
set_option maxRecDepth 100000 in
theorem okX12_digits : codeOk 159 kX12_digits := ⟨_, rfl, by decide +kernel⟩
def kX12_value : List AI := [(0, .aload_n 0, 1, .int 0, 0, 0, 0, []), (1, .invokevirtual 202, 3, .int 0, 153, 1, 175, [(0, 12), (0, 0)]), (4, .aload_n 0, 1, .int 0, 0, 0, 0, []), (5, .getfield 182, 3, .int 0, 12, 22, 169, []), (8, .istore_n 1, 1, .int 0, 0, 0, 0, []), (9, .aload_n 0, 1, .int 0, 0, 0, 0, []), (10, .invokevirtual 222, 3, .int 0, 154, 1, 184, [(0, 12), (0, 1)]), (13, .ifCond .eq 22, 3, .int 0, 35, 0, 0, []), (16, .aload_n 0, 1, .int 0, 0, 0, 0, []), (17, .ldc 226, 2, .int 99999, 0, 0, 5, []), (19, .invokevirtual 227, 3, .int 0, 159, 2, 183, [(0, 12), (0, 1)]), (22, .istore_n 2, 1, .int 0, 0, 0, 0, []), (23, .aload_n 0, 1, .int 0, 0, 0, 0, []), (24, .iload_n 1, 1, .int 0, 0, 0, 0, []), (25, .invokevirtual 231, 3, .int 0, 158, 2, 194, [(0, 12), (0, 0)]), (28, .aload_n 0, 1, .int 0, 0, 0, 0, []), (29, .iconst 0, 1, .int 0, 0, 0, 0, []), (30, .iload_n 2, 1, .int 0, 0, 0, 0, []), (31, .invokevirtual 234, 3, .int 0, 157, 3, 195, [(0, 12), (0, 0)]), (34, .return_, 1, .int 0, 0, 0, 0, []), (35, .iconst 0, 1, .int 0, 0, 0, 0, []), (36, .istore_n 2, 1, .int 0, 0, 0, 0, []), (37, .iload_n 2, 1, .int 0, 0, 0, 0, []), (38, .aload_n 0, 1, .int 0, 0, 0, 0, []), (39, .getfield 70, 3, .int 0, 12, 30, 177, []), (42, .if_icmp .ge 20, 3, .int 0, 62, 0, 0, []), (45, .aload_n 0, 1, .int 0, 0, 0, 0, []), (46, .iload_n 2, 1, .int 0, 0, 0, 0, []), (47, .invokestatic 237, 3, .int 0, 150, 1, 196, [(0, 12), (0, 4)]), (50, .invokevirtual 205, 3, .int 0, 155, 2, 178, [(0, 12), (0, 1)]), (53, .ifCond .ne 9, 3, .int 0, 62, 0, 0, []), (56, .iinc 2 1, 3, .int 1, 0, 0, 0, []), (59, .goto (-22), 3, .int 0, 37, 0, 0, []), (62, .iload_n 2, 1, .int 0, 0, 0, 0, []), (63, .aload_n 0, 1, .int 0, 0, 0, 0, []), (64, .getfield 70, 3, .int 0, 12, 30, 177, []), (67, .if_icmp .ne 10, 3, .int 0, 77, 0, 0, []), (70, .aload_n 0, 1, .int 0, 0, 0, 0, []), (71, .iconst 0, 1, .int 0, 0, 0, 0, []), (72, .iload_n 1, 1, .int 0, 0, 0, 0, []), (73, .invokevirtual 218, 3, .int 0, 151, 3, 179, [(0, 12), (0, 0)]), (76, .return_, 1, .int 0, 0, 0, 0, []), (77, .aload_n 0, 1, .int 0, 0, 0, 0, []), (78, .iload_n 1, 1, .int 0, 0, 0, 0, []), (79, .invokevirtual 231, 3, .int 0, 158, 2, 194, [(0, 12), (0, 0)]), (82, .aload_n 0, 1, .int 0, 0, 0, 0, []), (83, .dup, 1, .int 0, 0, 0, 0, []), (84, .getfield 182, 3, .int 0, 12, 22, 169, []), (87, .iload_n 2, 1, .int 0, 0, 0, 0, []), (88, .invokestatic 237, 3, .int 0, 150, 1, 196, [(0, 12), (0, 4)]), (91, .invokevirtual 193, 3, .int 0, 1005, 0, 27, []), (94, .iadd, 1, .int 0, 0, 0, 0, []), (95, .putfield 182, 3, .int 0, 12, 22, 169, []), (98, .aload_n 0, 1, .int 0, 0, 0, 0, []), (99, .iconst 1, 1, .int 1, 0, 0, 0, []), (100, .iload_n 2, 1, .int 0, 0, 0, 0, []), (101, .invokevirtual 234, 3, .int 0, 157, 3, 195, [(0, 12), (0, 0)]), (104, .return_, 1, .int 0, 0, 0, 0, [])]
set_option maxRecDepth 100000 in
theorem okX12_value : codeOk 160 kX12_value := ⟨_, rfl, by decide +kernel⟩
def kX12_term : List AI := [(0, .aload_n 0, 1, .int 0, 0, 0, 0, []), (1, .invokevirtual 241, 3, .int 0, 160, 1, 193, [(0, 12), (0, 0)]), (4, .aload_n 0, 1, .int 0, 0, 0, 0, []), (5, .invokevirtual 202, 3, .int 0, 153, 1, 175, [(0, 12), (0, 0)]), (8, .aload_n 0, 1, .int 0, 0, 0, 0, []), (9, .getfield 179, 3, .int 0, 12, 23, 170, []), (12, .ifCond .ne 88, 3, .int 0, 100, 0, 0, []), (15, .aload_n 0, 1, .int 0, 0, 0, 0, []), (16, .invokevirtual 185, 3, .int 0, 152, 1, 176, [(0, 12), (0, 1)]), (19, .bipush 42, 2, .int 42, 0, 0, 0, []), (21, .if_icmp .eq 21, 3, .int 0, 42, 0, 0, []), (24, .aload_n 0, 1, .int 0, 0, 0, 0, []), (25, .invokevirtual 185, 3, .int 0, 152, 1, 176, [(0, 12), (0, 1)]), (28, .bipush 47, 2, .int 47, 0, 0, 0, []), (30, .if_icmp .eq 12, 3, .int 0, 42, 0, 0, []), (33, .aload_n 0, 1, .int 0, 0, 0, 0, []), (34, .invokevirtual 185, 3, .int 0, 152, 1, 176, [(0, 12), (0, 1)]), (37, .bipush 37, 2, .int 37, 0, 0, 0, []), (39, .if_icmp .ne 61, 3, .int 0, 100, 0, 0, []), (42, .aload_n 0, 1, .int 0, 0, 0, 0, []), (43, .invokevirtual 185, 3, .int 0, 152, 1, 176, [(0, 12), (0, 1)]), (46, .bipush 42, 2, .int 42, 0, 0, 0, []), (48, .if_icmp .ne 8, 3, .int 0, 56, 0, 0, []), (51, .bipush 13, 2, .int 13, 0, 0, 0, []), (53, .goto 19, 3, .int 0, 72, 0, 0, []), (56, .aload_n 0, 1, .int 0, 0, 0, 0, []), (57, .invokevirtual 185, 3, .int 0, 152, 1, 176, [(0, 12), (0, 1)]), (60, .bipush 47, 2, .int 47, 0, 0, 0, []), (62, .if_icmp .ne 8, 3, .int 0, 70, 0, 0, []), (65, .bipush 14, 2, .int 14, 0, 0, 0, []), (67, .goto 5, 3, .int 0, 72, 0, 0, []), (70, .bipush 15, 2, .int 15, 0, 0, 0, []), (72, .istore_n 1, 1, .int 0, 0, 0, 0, []), (73, .aload_n 0, 1, .int 0, 0, 0, 0, []), (74, .dup, 1, .int 0, 0, 0, 0, []), (75, .getfield 182, 3, .int 0, 12, 22, 169, []), (78, .iconst 1, 1, .int 1, 0, 0, 0, []), (79, .iadd, 1, .int 0, 0, 0, 0, []), (80, .putfield 182, 3, .int 0, 12, 22, 169, []), (83, .aload_n 0, 1, .int 0, 0, 0, 0, []), (84, .invokevirtual 241, 3, .int 0, 160, 1, 193, [(0, 12), (0, 0)]), (87, .aload_n 0, 1, .int 0, 0, 0, 0, []), (88, .iload_n 1, 1, .int 0, 0, 0, 0, []), (89, .iconst 0, 1, .int 0, 0, 0, 0, []), (90, .invokevirtual 234, 3, .int 0, 157, 3, 195, [(0, 12), (0, 0)]), (93, .aload_n 0, 1, .int 0, 0, 0, 0, []), (94, .invokevirtual 202, 3, .int 0, 153, 1, 175, [(0, 12), (0, 0)]), (97, .goto (-89), 3, .int 0, 8, 0, 0, []), (100, .return_, 1, .int 0, 0, 0, 0, [])]
set_option maxRecDepth 100000 in
theorem okX12_term : codeOk 161 kX12_term := ⟨_, rfl, by decide +kernel⟩
def kX12_sum : List AI := [(0, .aload_n 0, 1, .int 0, 0, 0, 0, []), (1, .invokevirtual 244, 3, .int 0, 161, 1, 192, [(0, 12), (0, 0)]), (4, .aload_n 0, 1, .int 0, 0, 0, 0, []), (5, .getfield 179, 3, .int 0, 12, 23, 170, []), (8, .ifCond .ne 59, 3, .int 0, 67, 0, 0, []), (11, .aload_n 0, 1, .int 0, 0, 0, 0, []), (12, .invokevirtual 185, 3, .int 0, 152, 1, 176, [(0, 12), (0, 1)]), (15, .bipush 43, 2, .int 43, 0, 0, 0, []), (17, .if_icmp .eq 12, 3, .int 0, 29, 0, 0, []), (20, .aload_n 0, 1, .int 0, 0, 0, 0, []), (21, .invokevirtual 185, 3, .int 0, 152, 1, 176, [(0, 12), (0, 1)]), (24, .bipush 45, 2, .int 45, 0, 0, 0, []), (26, .if_icmp .ne 41, 3, .int 0, 67, 0, 0, []), (29, .aload_n 0, 1, .int 0, 0, 0, 0, []), (30, .invokevirtual 185, 3, .int 0, 152, 1, 176, [(0, 12), (0, 1)]), (33, .bipush 43, 2, .int 43, 0, 0, 0, []), (35, .if_icmp .ne 7, 3, .int 0, 42, 0, 0, []), (38, .iconst 2, 1, .int 2, 0, 0, 0, []), (39, .goto 4, 3, .int 0, 43, 0, 0, []), (42, .iconst 3, 1, .int 3, 0, 0, 0, []), (43, .istore_n 1, 1, .int 0, 0, 0, 0, []), (44, .aload_n 0, 1, .int 0, 0, 0, 0, []), (45, .dup, 1, .int 0, 0, 0, 0, []), (46, .getfield 182, 3, .int 0, 12, 22, 169, []), (49, .iconst 1, 1, .int 1, 0, 0, 0, []), (50, .iadd, 1, .int 0, 0, 0, 0, []), (51, .putfield 182, 3, .int 0, 12, 22, 169, []), (54, .aload_n 0, 1, .int 0, 0, 0, 0, []), (55, .invokevirtual 244, 3, .int 0, 161, 1, 192, [(0, 12), (0, 0)]), (58, .aload_n 0, 1, .int 0, 0, 0, 0, []), (59, .iload_n 1, 1, .int 0, 0, 0, 0, []), (60, .iconst 0, 1, .int 0, 0, 0, 0, []), (61, .invokevirtual 234, 3, .int 0, 157, 3, 195, [(0, 12), (0, 0)]), (64, .goto (-60), 3, .int 0, 4, 0, 0, []), (67, .return_, 1, .int 0, 0, 0, 0, [])]
set_option maxRecDepth 100000 in
theorem okX12_sum : codeOk 162 kX12_sum := ⟨_, rfl, by decide +kernel⟩
def kX12_compared : List AI := [(0, .aload_n 0, 1, .int 0, 0, 0, 0, []), (1, .invokevirtual 247, 3, .int 0, 162, 1, 191, [(0, 12), (0, 0)]), (4, .aload_n 0, 1, .int 0, 0, 0, 0, []), (5, .invokevirtual 185, 3, .int 0, 152, 1, 176, [(0, 12), (0, 1)]), (8, .istore_n 1, 1, .int 0, 0, 0, 0, []), (9, .iload_n 1, 1, .int 0, 0, 0, 0, []), (10, .bipush 60, 2, .int 60, 0, 0, 0, []), (12, .if_icmp .eq 25, 3, .int 0, 37, 0, 0, []), (15, .iload_n 1, 1, .int 0, 0, 0, 0, []), (16, .bipush 61, 2, .int 61, 0, 0, 0, []), (18, .if_icmp .eq 19, 3, .int 0, 37, 0, 0, []), (21, .iload_n 1, 1, .int 0, 0, 0, 0, []), (22, .bipush 62, 2, .int 62, 0, 0, 0, []), (24, .if_icmp .eq 13, 3, .int 0, 37, 0, 0, []), (27, .aload_n 0, 1, .int 0, 0, 0, 0, []), (28, .iconst 0, 1, .int 0, 0, 0, 0, []), (29, .aload_n 0, 1, .int 0, 0, 0, 0, []), (30, .getfield 182, 3, .int 0, 12, 22, 169, []), (33, .invokevirtual 218, 3, .int 0, 151, 3, 179, [(0, 12), (0, 0)]), (36, .return_, 1, .int 0, 0, 0, 0, []), (37, .aload_n 0, 1, .int 0, 0, 0, 0, []), (38, .aload_n 0, 1, .int 0, 0, 0, 0, []), (39, .getfield 182, 3, .int 0, 12, 22, 169, []), (42, .invokevirtual 231, 3, .int 0, 158, 2, 194, [(0, 12), (0, 0)]), (45, .aload_n 0, 1, .int 0, 0, 0, 0, []), (46, .dup, 1, .int 0, 0, 0, 0, []), (47, .getfield 182, 3, .int 0, 12, 22, 169, []), (50, .iconst 1, 1, .int 1, 0, 0, 0, []), (51, .iadd, 1, .int 0, 0, 0, 0, []), (52, .putfield 182, 3, .int 0, 12, 22, 169, []), (55, .iload_n 1, 1, .int 0, 0, 0, 0, []), (56, .bipush 61, 2, .int 61, 0, 0, 0, []), (58, .if_icmp .eq 16, 3, .int 0, 74, 0, 0, []), (61, .aload_n 0, 1, .int 0, 0, 0, 0, []), (62, .invokevirtual 185, 3, .int 0, 152, 1, 176, [(0, 12), (0, 1)]), (65, .bipush 61, 2, .int 61, 0, 0, 0, []), (67, .if_icmp .ne 7, 3, .int 0, 74, 0, 0, []), (70, .iconst 1, 1, .int 1, 0, 0, 0, []), (71, .goto 4, 3, .int 0, 75, 0, 0, []), (74, .iconst 0, 1, .int 0, 0, 0, 0, []), (75, .istore_n 2, 1, .int 0, 0, 0, 0, []), (76, .aload_n 0, 1, .int 0, 0, 0, 0, []), (77, .dup, 1, .int 0, 0, 0, 0, []), (78, .getfield 182, 3, .int 0, 12, 22, 169, []), (81, .iload_n 2, 1, .int 0, 0, 0, 0, []), (82, .ifCond .eq 7, 3, .int 0, 89, 0, 0, []), (85, .iconst 1, 1, .int 1, 0, 0, 0, []), (86, .goto 4, 3, .int 0, 90, 0, 0, []), (89, .iconst 0, 1, .int 0, 0, 0, 0, []), (90, .iadd, 1, .int 0, 0, 0, 0, []), (91, .putfield 182, 3, .int 0, 12, 22, 169, []), (94, .aload_n 0, 1, .int 0, 0, 0, 0, []), (95, .invokevirtual 247, 3, .int 0, 162, 1, 191, [(0, 12), (0, 0)]), (98, .aload_n 0, 1, .int 0, 0, 0, 0, []), (99, .iload_n 1, 1, .int 0, 0, 0, 0, []), (100, .bipush 61, 2, .int 61, 0, 0, 0, []), (102, .if_icmp .ne 8, 3, .int 0, 110, 0, 0, []), (105, .bipush 6, 2, .int 6, 0, 0, 0, []), (107, .goto 32, 3, .int 0, 139, 0, 0, []), (110, .iload_n 1, 1, .int 0, 0, 0, 0, []), (111, .bipush 60, 2, .int 60, 0, 0, 0, []), (113, .if_icmp .ne 15, 3, .int 0, 128, 0, 0, []), (116, .iload_n 2, 1, .int 0, 0, 0, 0, []), (117, .ifCond .eq 7, 3, .int 0, 124, 0, 0, []), (120, .iconst 5, 1, .int 5, 0, 0, 0, []), (121, .goto 18, 3, .int 0, 139, 0, 0, []), (124, .iconst 4, 1, .int 4, 0, 0, 0, []), (125, .goto 14, 3, .int 0, 139, 0, 0, []), (128, .iload_n 2, 1, .int 0, 0, 0, 0, []), (129, .ifCond .eq 8, 3, .int 0, 137, 0, 0, []), (132, .bipush 7, 2, .int 7, 0, 0, 0, []), (134, .goto 5, 3, .int 0, 139, 0, 0, []), (137, .bipush 8, 2, .int 8, 0, 0, 0, []), (139, .iconst 0, 1, .int 0, 0, 0, 0, []), (140, .invokevirtual 234, 3, .int 0, 157, 3, 195, [(0, 12), (0, 0)]), (143, .return_, 1, .int 0, 0, 0, 0, [])]
set_option maxRecDepth 100000 in
theorem okX12_compared : codeOk 163 kX12_compared := ⟨_, rfl, by decide +kernel⟩
def kX12_top : List AI := [(0, .aload_n 0, 1, .int 0, 0, 0, 0, []), (1, .getfield 250, 3, .int 0, 12, 29, 176, []), (4, .ifCond .ne 7, 3, .int 0, 11, 0, 0, []), (7, .iconst (-1), 1, .int (-1), 0, 0, 0, []), (8, .goto 14, 3, .int 0, 22, 0, 0, []), (11, .aload_n 0, 1, .int 0, 0, 0, 0, []), (12, .getfield 96, 3, .ref 0, 12, 38, 185, []), (15, .aload_n 0, 1, .int 0, 0, 0, 0, []), (16, .getfield 250, 3, .int 0, 12, 29, 176, []), (19, .iconst 1, 1, .int 1, 0, 0, 0, []), (20, .isub, 1, .int 0, 0, 0, 0, []), (21, .iaload, 1, .int 0, 0, 0, 0, []), (22, .ireturn, 1, .int 0, 0, 0, 0, [])]
set_option maxRecDepth 100000 in
theorem okX12_top : codeOk 164 kX12_top := ⟨_, rfl, by decide +kernel⟩
def kX12_opens : List AI := [(0, .iload_n 1, 1, .int 0, 0, 0, 0, []), (1, .bipush 9, 2, .int 9, 0, 0, 0, []), (3, .if_icmp .eq 9, 3, .int 0, 12, 0, 0, []), (6, .iload_n 1, 1, .int 0, 0, 0, 0, []), (7, .bipush 12, 2, .int 12, 0, 0, 0, []), (9, .if_icmp .ne 31, 3, .int 0, 40, 0, 0, []), (12, .aload_n 0, 1, .int 0, 0, 0, 0, []), (13, .getfield 253, 3, .int 0, 12, 27, 174, []), (16, .bipush 10, 2, .int 10, 0, 0, 0, []), (18, .if_icmp .ne 12, 3, .int 0, 30, 0, 0, []), (21, .aload_n 0, 1, .int 0, 0, 0, 0, []), (22, .iconst 2, 1, .int 2, 0, 0, 0, []), (23, .aload_n 0, 1, .int 0, 0, 0, 0, []), (24, .getfield 182, 3, .int 0, 12, 22, 169, []), (27, .invokevirtual 218, 3, .int 0, 151, 3, 179, [(0, 12), (0, 0)]), (30, .aload_n 0, 1, .int 0, 0, 0, 0, []), (31, .dup, 1, .int 0, 0, 0, 0, []), (32, .getfield 253, 3, .int 0, 12, 27, 174, []), (35, .iconst 1, 1, .int 1, 0, 0, 0, []), (36, .iadd, 1, .int 0, 0, 0, 0, []), (37, .putfield 253, 3, .int 0, 12, 27, 174, []), (40, .aload_n 0, 1, .int 0, 0, 0, 0, []), (41, .getfield 96, 3, .ref 0, 12, 38, 185, []), (44, .aload_n 0, 1, .int 0, 0, 0, 0, []), (45, .getfield 250, 3, .int 0, 12, 29, 176, []), (48, .iload_n 1, 1, .int 0, 0, 0, 0, []), (49, .iastore, 1, .int 0, 0, 0, 0, []), (50, .aload_n 0, 1, .int 0, 0, 0, 0, []), (51, .dup, 1, .int 0, 0, 0, 0, []), (52, .getfield 250, 3, .int 0, 12, 29, 176, []), (55, .iconst 1, 1, .int 1, 0, 0, 0, []), (56, .iadd, 1, .int 0, 0, 0, 0, []), (57, .putfield 250, 3, .int 0, 12, 29, 176, []), (60, .return_, 1, .int 0, 0, 0, 0, [])]
set_option maxRecDepth 100000 in
theorem okX12_opens : codeOk 165 kX12_opens := ⟨_, rfl, by decide +kernel⟩
def kX12_answers : List AI := [(0, .aload_n 0, 1, .int 0, 0, 0, 0, []), (1, .invokevirtual 256, 3, .int 0, 164, 1, 203, [(0, 12), (0, 1)]), (4, .iload_n 1, 1, .int 0, 0, 0, 0, []), (5, .if_icmp .ne 49, 3, .int 0, 54, 0, 0, []), (8, .aload_n 0, 1, .int 0, 0, 0, 0, []), (9, .getfield 179, 3, .int 0, 12, 23, 170, []), (12, .ifCond .ne 42, 3, .int 0, 54, 0, 0, []), (15, .aload_n 0, 1, .int 0, 0, 0, 0, []), (16, .iload_n 1, 1, .int 0, 0, 0, 0, []), (17, .iconst 0, 1, .int 0, 0, 0, 0, []), (18, .invokevirtual 234, 3, .int 0, 157, 3, 195, [(0, 12), (0, 0)]), (21, .aload_n 0, 1, .int 0, 0, 0, 0, []), (22, .dup, 1, .int 0, 0, 0, 0, []), (23, .getfield 250, 3, .int 0, 12, 29, 176, []), (26, .iconst 1, 1, .int 1, 0, 0, 0, []), (27, .isub, 1, .int 0, 0, 0, 0, []), (28, .putfield 250, 3, .int 0, 12, 29, 176, []), (31, .aload_n 0, 1, .int 0, 0, 0, 0, []), (32, .dup, 1, .int 0, 0, 0, 0, []), (33, .getfield 253, 3, .int 0, 12, 27, 174, []), (36, .iload_n 1, 1, .int 0, 0, 0, 0, []), (37, .bipush 9, 2, .int 9, 0, 0, 0, []), (39, .if_icmp .ne 7, 3, .int 0, 46, 0, 0, []), (42, .iconst 1, 1, .int 1, 0, 0, 0, []), (43, .goto 4, 3, .int 0, 47, 0, 0, []), (46, .iconst 0, 1, .int 0, 0, 0, 0, []), (47, .isub, 1, .int 0, 0, 0, 0, []), (48, .putfield 253, 3, .int 0, 12, 27, 174, []), (51, .goto (-51), 3, .int 0, 0, 0, 0, []), (54, .return_, 1, .int 0, 0, 0, 0, [])]
set_option maxRecDepth 100000 in
theorem okX12_answers : codeOk 166 kX12_answers := ⟨_, rfl, by decide +kernel⟩
def kX12_fact : List AI := [(0, .aload_n 0, 1, .int 0, 0, 0, 0, []), (1, .invokevirtual 202, 3, .int 0, 153, 1, 175, [(0, 12), (0, 0)]), (4, .aload_n 0, 1, .int 0, 0, 0, 0, []), (5, .ldc_w 259, 3, .retAddr 16, 0, 0, 0, []), (8, .invokevirtual 205, 3, .int 0, 155, 2, 178, [(0, 12), (0, 1)]), (11, .ifCond .eq 21, 3, .int 0, 32, 0, 0, []), (14, .aload_n 0, 1, .int 0, 0, 0, 0, []), (15, .bipush 9, 2, .int 9, 0, 0, 0, []), (17, .invokevirtual 261, 3, .int 0, 165, 2, 200, [(0, 12), (0, 0)]), (20, .aload_n 0, 1, .int 0, 0, 0, 0, []), (21, .dup, 1, .int 0, 0, 0, 0, []), (22, .getfield 182, 3, .int 0, 12, 22, 169, []), (25, .iconst 3, 1, .int 3, 0, 0, 0, []), (26, .iadd, 1, .int 0, 0, 0, 0, []), (27, .putfield 182, 3, .int 0, 12, 22, 169, []), (30, .iconst 0, 1, .int 0, 0, 0, 0, []), (31, .ireturn, 1, .int 0, 0, 0, 0, []), (32, .aload_n 0, 1, .int 0, 0, 0, 0, []), (33, .invokevirtual 185, 3, .int 0, 152, 1, 176, [(0, 12), (0, 1)]), (36, .bipush 91, 2, .int 91, 0, 0, 0, []), (38, .if_icmp .ne 21, 3, .int 0, 59, 0, 0, []), (41, .aload_n 0, 1, .int 0, 0, 0, 0, []), (42, .bipush 12, 2, .int 12, 0, 0, 0, []), (44, .invokevirtual 261, 3, .int 0, 165, 2, 200, [(0, 12), (0, 0)]), (47, .aload_n 0, 1, .int 0, 0, 0, 0, []), (48, .dup, 1, .int 0, 0, 0, 0, []), (49, .getfield 182, 3, .int 0, 12, 22, 169, []), (52, .iconst 1, 1, .int 1, 0, 0, 0, []), (53, .iadd, 1, .int 0, 0, 0, 0, []), (54, .putfield 182, 3, .int 0, 12, 22, 169, []), (57, .iconst 0, 1, .int 0, 0, 0, 0, []), (58, .ireturn, 1, .int 0, 0, 0, 0, []), (59, .aload_n 0, 1, .int 0, 0, 0, 0, []), (60, .invokevirtual 264, 3, .int 0, 163, 1, 201, [(0, 12), (0, 0)]), (63, .iconst 1, 1, .int 1, 0, 0, 0, []), (64, .ireturn, 1, .int 0, 0, 0, 0, [])]
set_option maxRecDepth 100000 in
theorem okX12_fact : codeOk 167 kX12_fact := ⟨_, rfl, by decide +kernel⟩
def kX12_test : List AI := [(0, .aload_n 0, 1, .int 0, 0, 0, 0, []), (1, .iconst 0, 1, .int 0, 0, 0, 0, []), (2, .putfield 250, 3, .int 0, 12, 29, 176, []), (5, .iconst 1, 1, .int 1, 0, 0, 0, []), (6, .istore_n 1, 1, .int 0, 0, 0, 0, []), (7, .iconst 1, 1, .int 1, 0, 0, 0, []), (8, .istore_n 2, 1, .int 0, 0, 0, 0, []), (9, .iload_n 2, 1, .int 0, 0, 0, 0, []), (10, .ifCond .eq 192, 3, .int 0, 202, 0, 0, []), (13, .aload_n 0, 1, .int 0, 0, 0, 0, []), (14, .getfield 179, 3, .int 0, 12, 23, 170, []), (17, .ifCond .ne 185, 3, .int 0, 202, 0, 0, []), (20, .iload_n 1, 1, .int 0, 0, 0, 0, []), (21, .ifCond .eq 19, 3, .int 0, 40, 0, 0, []), (24, .aload_n 0, 1, .int 0, 0, 0, 0, []), (25, .invokevirtual 267, 3, .int 0, 167, 1, 199, [(0, 12), (0, 1)]), (28, .ifCond .ne 7, 3, .int 0, 35, 0, 0, []), (31, .iconst 1, 1, .int 1, 0, 0, 0, []), (32, .goto 4, 3, .int 0, 36, 0, 0, []), (35, .iconst 0, 1, .int 0, 0, 0, 0, []), (36, .istore_n 1, 1, .int 0, 0, 0, 0, []), (37, .goto (-28), 3, .int 0, 9, 0, 0, []), (40, .aload_n 0, 1, .int 0, 0, 0, 0, []), (41, .bipush 9, 2, .int 9, 0, 0, 0, []), (43, .invokevirtual 270, 3, .int 0, 166, 2, 202, [(0, 12), (0, 0)]), (46, .aload_n 0, 1, .int 0, 0, 0, 0, []), (47, .invokevirtual 202, 3, .int 0, 153, 1, 175, [(0, 12), (0, 0)]), (50, .aload_n 0, 1, .int 0, 0, 0, 0, []), (51, .ldc_w 273, 3, .retAddr 17, 0, 0, 0, []), (54, .invokevirtual 205, 3, .int 0, 155, 2, 178, [(0, 12), (0, 1)]), (57, .istore_n 3, 1, .int 0, 0, 0, 0, []), (58, .aload_n 0, 1, .int 0, 0, 0, 0, []), (59, .ldc_w 275, 3, .retAddr 18, 0, 0, 0, []), (62, .invokevirtual 205, 3, .int 0, 155, 2, 178, [(0, 12), (0, 1)]), (65, .istore 4, 2, .int 0, 0, 0, 0, []), (67, .aload_n 0, 1, .int 0, 0, 0, 0, []), (68, .bipush 10, 2, .int 10, 0, 0, 0, []), (70, .invokevirtual 270, 3, .int 0, 166, 2, 202, [(0, 12), (0, 0)]), (73, .iload_n 3, 1, .int 0, 0, 0, 0, []), (74, .ifCond .ne 8, 3, .int 0, 82, 0, 0, []), (77, .iload 4, 2, .int 0, 0, 0, 0, []), (79, .ifCond .eq 52, 3, .int 0, 131, 0, 0, []), (82, .iload 4, 2, .int 0, 0, 0, 0, []), (84, .ifCond .eq 9, 3, .int 0, 93, 0, 0, []), (87, .aload_n 0, 1, .int 0, 0, 0, 0, []), (88, .bipush 11, 2, .int 11, 0, 0, 0, []), (90, .invokevirtual 270, 3, .int 0, 166, 2, 202, [(0, 12), (0, 0)]), (93, .aload_n 0, 1, .int 0, 0, 0, 0, []), (94, .iload_n 3, 1, .int 0, 0, 0, 0, []), (95, .ifCond .eq 8, 3, .int 0, 103, 0, 0, []), (98, .bipush 10, 2, .int 10, 0, 0, 0, []), (100, .goto 5, 3, .int 0, 105, 0, 0, []), (103, .bipush 11, 2, .int 11, 0, 0, 0, []), (105, .invokevirtual 261, 3, .int 0, 165, 2, 200, [(0, 12), (0, 0)]), (108, .aload_n 0, 1, .int 0, 0, 0, 0, []), (109, .dup, 1, .int 0, 0, 0, 0, []), (110, .getfield 182, 3, .int 0, 12, 22, 169, []), (113, .iload_n 3, 1, .int 0, 0, 0, 0, []), (114, .ifCond .eq 7, 3, .int 0, 121, 0, 0, []), (117, .iconst 3, 1, .int 3, 0, 0, 0, []), (118, .goto 4, 3, .int 0, 122, 0, 0, []), (121, .iconst 2, 1, .int 2, 0, 0, 0, []), (122, .iadd, 1, .int 0, 0, 0, 0, []), (123, .putfield 182, 3, .int 0, 12, 22, 169, []), (126, .iconst 1, 1, .int 1, 0, 0, 0, []), (127, .istore_n 1, 1, .int 0, 0, 0, 0, []), (128, .goto 71, 3, .int 0, 199, 0, 0, []), (131, .aload_n 0, 1, .int 0, 0, 0, 0, []), (132, .bipush 11, 2, .int 11, 0, 0, 0, []), (134, .invokevirtual 270, 3, .int 0, 166, 2, 202, [(0, 12), (0, 0)]), (137, .aload_n 0, 1, .int 0, 0, 0, 0, []), (138, .invokevirtual 256, 3, .int 0, 164, 1, 203, [(0, 12), (0, 1)]), (141, .bipush 12, 2, .int 12, 0, 0, 0, []), (143, .if_icmp .ne 54, 3, .int 0, 197, 0, 0, []), (146, .aload_n 0, 1, .int 0, 0, 0, 0, []), (147, .invokevirtual 185, 3, .int 0, 152, 1, 176, [(0, 12), (0, 1)]), (150, .bipush 93, 2, .int 93, 0, 0, 0, []), (152, .if_icmp .eq 12, 3, .int 0, 164, 0, 0, []), (155, .aload_n 0, 1, .int 0, 0, 0, 0, []), (156, .iconst 0, 1, .int 0, 0, 0, 0, []), (157, .aload_n 0, 1, .int 0, 0, 0, 0, []), (158, .getfield 182, 3, .int 0, 12, 22, 169, []), (161, .invokevirtual 218, 3, .int 0, 151, 3, 179, [(0, 12), (0, 0)]), (164, .aload_n 0, 1, .int 0, 0, 0, 0, []), (165, .dup, 1, .int 0, 0, 0, 0, []), (166, .getfield 182, 3, .int 0, 12, 22, 169, []), (169, .iconst 1, 1, .int 1, 0, 0, 0, []), (170, .iadd, 1, .int 0, 0, 0, 0, []), (171, .putfield 182, 3, .int 0, 12, 22, 169, []), (174, .aload_n 0, 1, .int 0, 0, 0, 0, []), (175, .dup, 1, .int 0, 0, 0, 0, []), (176, .getfield 250, 3, .int 0, 12, 29, 176, []), (179, .iconst 1, 1, .int 1, 0, 0, 0, []), (180, .isub, 1, .int 0, 0, 0, 0, []), (181, .putfield 250, 3, .int 0, 12, 29, 176, []), (184, .aload_n 0, 1, .int 0, 0, 0, 0, []), (185, .dup, 1, .int 0, 0, 0, 0, []), (186, .getfield 253, 3, .int 0, 12, 27, 174, []), (189, .iconst 1, 1, .int 1, 0, 0, 0, []), (190, .isub, 1, .int 0, 0, 0, 0, []), (191, .putfield 253, 3, .int 0, 12, 27, 174, []), (194, .goto 5, 3, .int 0, 199, 0, 0, []), (197, .iconst 0, 1, .int 0, 0, 0, 0, []), (198, .istore_n 2, 1, .int 0, 0, 0, 0, []), (199, .goto (-190), 3, .int 0, 9, 0, 0, []), (202, .return_, 1, .int 0, 0, 0, 0, [])]
set_option maxRecDepth 100000 in
theorem okX12_test : codeOk 168 kX12_test := ⟨_, rfl, by decide +kernel⟩
def kX12_amount : List AI := [(0, .aload_n 0, 1, .int 0, 0, 0, 0, []), (1, .invokevirtual 202, 3, .int 0, 153, 1, 175, [(0, 12), (0, 0)]), (4, .aload_n 0, 1, .int 0, 0, 0, 0, []), (5, .getfield 182, 3, .int 0, 12, 22, 169, []), (8, .istore_n 3, 1, .int 0, 0, 0, 0, []), (9, .aload_n 0, 1, .int 0, 0, 0, 0, []), (10, .getfield 179, 3, .int 0, 12, 23, 170, []), (13, .ifCond .ne 12, 3, .int 0, 25, 0, 0, []), (16, .aload_n 0, 1, .int 0, 0, 0, 0, []), (17, .ldc 226, 2, .int 99999, 0, 0, 5, []), (19, .invokevirtual 227, 3, .int 0, 159, 2, 183, [(0, 12), (0, 1)]), (22, .goto 4, 3, .int 0, 26, 0, 0, []), (25, .iconst 0, 1, .int 0, 0, 0, 0, []), (26, .istore 4, 2, .int 0, 0, 0, 0, []), (28, .aload_n 0, 1, .int 0, 0, 0, 0, []), (29, .getfield 179, 3, .int 0, 12, 23, 170, []), (32, .ifCond .ne 22, 3, .int 0, 54, 0, 0, []), (35, .iload 4, 2, .int 0, 0, 0, 0, []), (37, .i2l, 1, .int 0, 0, 0, 0, []), (38, .iload_n 1, 1, .int 0, 0, 0, 0, []), (39, .i2l, 1, .int 0, 0, 0, 0, []), (40, .iload_n 2, 1, .int 0, 0, 0, 0, []), (41, .i2l, 1, .int 0, 0, 0, 0, []), (42, .invokestatic 149, 3, .int 0, 141, 3, 185, [(0, 12), (0, 1)]), (45, .ifCond .ne 9, 3, .int 0, 54, 0, 0, []), (48, .aload_n 0, 1, .int 0, 0, 0, 0, []), (49, .iconst 1, 1, .int 1, 0, 0, 0, []), (50, .iload_n 3, 1, .int 0, 0, 0, 0, []), (51, .invokevirtual 218, 3, .int 0, 151, 3, 179, [(0, 12), (0, 0)]), (54, .iload 4, 2, .int 0, 0, 0, 0, []), (56, .ireturn, 1, .int 0, 0, 0, 0, [])]
set_option maxRecDepth 100000 in
theorem okX12_amount : codeOk 169 kX12_amount := ⟨_, rfl, by decide +kernel⟩
def kX12_hillWord : List AI := [(0, .iload_n 0, 1, .int 0, 0, 0, 0, []), (1, .lookupswitch 34 #[(0, 27), (1, 31)], 27, .int 0, 35, 0, 0, [(0, 28), (1, 32)]), (28, .ldc_w 277, 3, .retAddr 1, 0, 0, 0, []), (31, .areturn, 1, .int 0, 0, 0, 0, []), (32, .ldc 160, 2, .retAddr 2, 0, 0, 0, []), (34, .areturn, 1, .int 0, 0, 0, 0, []), (35, .ldc 162, 2, .retAddr 3, 0, 0, 0, []), (37, .areturn, 1, .int 0, 0, 0, 0, [])]
set_option maxRecDepth 100000 in
theorem okX12_hillWord : codeOk 170 kX12_hillWord := ⟨_, rfl, by decide +kernel⟩
def kX12_hillPart : List AI := [(0, .iload_n 1, 1, .int 0, 0, 0, 0, []), (1, .lookupswitch 89 #[(0, 27), (1, 43)], 27, .int 0, 90, 0, 0, [(0, 28), (1, 44)]), (28, .aload_n 0, 1, .int 0, 0, 0, 0, []), (29, .getfield 52, 3, .ref 0, 12, 15, 162, []), (32, .iconst 0, 1, .int 0, 0, 0, 0, []), (33, .aload_n 0, 1, .int 0, 0, 0, 0, []), (34, .iconst 1, 1, .int 1, 0, 0, 0, []), (35, .bipush 60, 2, .int 60, 0, 0, 0, []), (37, .invokevirtual 279, 3, .int 0, 169, 3, 182, [(0, 12), (0, 1)]), (40, .iastore, 1, .int 0, 0, 0, 0, []), (41, .goto 105, 3, .int 0, 146, 0, 0, []), (44, .aload_n 0, 1, .int 0, 0, 0, 0, []), (45, .getfield 52, 3, .ref 0, 12, 15, 162, []), (48, .iconst 1, 1, .int 1, 0, 0, 0, []), (49, .iaload, 1, .int 0, 0, 0, 0, []), (50, .istore_n 2, 1, .int 0, 0, 0, 0, []), (51, .aload_n 0, 1, .int 0, 0, 0, 0, []), (52, .getfield 55, 3, .ref 0, 12, 16, 163, []), (55, .iload_n 2, 1, .int 0, 0, 0, 0, []), (56, .aload_n 0, 1, .int 0, 0, 0, 0, []), (57, .iconst 1, 1, .int 1, 0, 0, 0, []), (58, .bipush 20, 2, .int 20, 0, 0, 0, []), (60, .invokevirtual 279, 3, .int 0, 169, 3, 182, [(0, 12), (0, 1)]), (63, .iastore, 1, .int 0, 0, 0, 0, []), (64, .aload_n 0, 1, .int 0, 0, 0, 0, []), (65, .getfield 58, 3, .ref 0, 12, 17, 164, []), (68, .iload_n 2, 1, .int 0, 0, 0, 0, []), (69, .aload_n 0, 1, .int 0, 0, 0, 0, []), (70, .iconst 0, 1, .int 0, 0, 0, 0, []), (71, .bipush 40, 2, .int 40, 0, 0, 0, []), (73, .invokevirtual 279, 3, .int 0, 169, 3, 182, [(0, 12), (0, 1)]), (76, .iastore, 1, .int 0, 0, 0, 0, []), (77, .aload_n 0, 1, .int 0, 0, 0, 0, []), (78, .getfield 52, 3, .ref 0, 12, 15, 162, []), (81, .iconst 1, 1, .int 1, 0, 0, 0, []), (82, .dup2, 1, .int 0, 0, 0, 0, []), (83, .iaload, 1, .int 0, 0, 0, 0, []), (84, .iconst 1, 1, .int 1, 0, 0, 0, []), (85, .iadd, 1, .int 0, 0, 0, 0, []), (86, .iastore, 1, .int 0, 0, 0, 0, []), (87, .goto 59, 3, .int 0, 146, 0, 0, []), (90, .aload_n 0, 1, .int 0, 0, 0, 0, []), (91, .getfield 52, 3, .ref 0, 12, 15, 162, []), (94, .iconst 2, 1, .int 2, 0, 0, 0, []), (95, .iaload, 1, .int 0, 0, 0, 0, []), (96, .istore_n 2, 1, .int 0, 0, 0, 0, []), (97, .aload_n 0, 1, .int 0, 0, 0, 0, []), (98, .getfield 61, 3, .ref 0, 12, 18, 165, []), (101, .iload_n 2, 1, .int 0, 0, 0, 0, []), (102, .aload_n 0, 1, .int 0, 0, 0, 0, []), (103, .iconst 1, 1, .int 1, 0, 0, 0, []), (104, .bipush 99, 2, .int 99, 0, 0, 0, []), (106, .invokevirtual 279, 3, .int 0, 169, 3, 182, [(0, 12), (0, 1)]), (109, .iastore, 1, .int 0, 0, 0, 0, []), (110, .aload_n 0, 1, .int 0, 0, 0, 0, []), (111, .getfield 64, 3, .ref 0, 12, 19, 166, []), (114, .iload_n 2, 1, .int 0, 0, 0, 0, []), (115, .aload_n 0, 1, .int 0, 0, 0, 0, []), (116, .iconst 1, 1, .int 1, 0, 0, 0, []), (117, .bipush 50, 2, .int 50, 0, 0, 0, []), (119, .invokevirtual 279, 3, .int 0, 169, 3, 182, [(0, 12), (0, 1)]), (122, .iastore, 1, .int 0, 0, 0, 0, []), (123, .aload_n 0, 1, .int 0, 0, 0, 0, []), (124, .getfield 67, 3, .ref 0, 12, 20, 167, []), (127, .iload_n 2, 1, .int 0, 0, 0, 0, []), (128, .aload_n 0, 1, .int 0, 0, 0, 0, []), (129, .iconst 1, 1, .int 1, 0, 0, 0, []), (130, .bipush 9, 2, .int 9, 0, 0, 0, []), (132, .invokevirtual 279, 3, .int 0, 169, 3, 182, [(0, 12), (0, 1)]), (135, .iastore, 1, .int 0, 0, 0, 0, []), (136, .aload_n 0, 1, .int 0, 0, 0, 0, []), (137, .getfield 52, 3, .ref 0, 12, 15, 162, []), (140, .iconst 2, 1, .int 2, 0, 0, 0, []), (141, .dup2, 1, .int 0, 0, 0, 0, []), (142, .iaload, 1, .int 0, 0, 0, 0, []), (143, .iconst 1, 1, .int 1, 0, 0, 0, []), (144, .iadd, 1, .int 0, 0, 0, 0, []), (145, .iastore, 1, .int 0, 0, 0, 0, []), (146, .return_, 1, .int 0, 0, 0, 0, [])]
set_option maxRecDepth 100000 in
theorem okX12_hillPart : codeOk 171 kX12_hillPart := ⟨_, rfl, by decide +kernel⟩
def kX12_isFull : List AI := [(0, .iload_n 2, 1, .int 0, 0, 0, 0, []), (1, .bipush 40, 2, .int 40, 0, 0, 0, []), (3, .if_icmp .eq 24, 3, .int 0, 27, 0, 0, []), (6, .iload_n 1, 1, .int 0, 0, 0, 0, []), (7, .ifCond .ne 7, 3, .int 0, 14, 0, 0, []), (10, .iconst 1, 1, .int 1, 0, 0, 0, []), (11, .goto 4, 3, .int 0, 15, 0, 0, []), (14, .iconst 0, 1, .int 0, 0, 0, 0, []), (15, .iload_n 2, 1, .int 0, 0, 0, 0, []), (16, .ifCond .ne 7, 3, .int 0, 23, 0, 0, []), (19, .iconst 1, 1, .int 1, 0, 0, 0, []), (20, .goto 4, 3, .int 0, 24, 0, 0, []), (23, .iconst 0, 1, .int 0, 0, 0, 0, []), (24, .if_icmp .eq 5, 3, .int 0, 29, 0, 0, []), (27, .iconst 1, 1, .int 1, 0, 0, 0, []), (28, .ireturn, 1, .int 0, 0, 0, 0, []), (29, .iload_n 1, 1, .int 0, 0, 0, 0, []), (30, .iconst 1, 1, .int 1, 0, 0, 0, []), (31, .if_icmp .ne 13, 3, .int 0, 44, 0, 0, []), (34, .aload_n 0, 1, .int 0, 0, 0, 0, []), (35, .getfield 52, 3, .ref 0, 12, 15, 162, []), (38, .iconst 1, 1, .int 1, 0, 0, 0, []), (39, .iaload, 1, .int 0, 0, 0, 0, []), (40, .iconst 5, 1, .int 5, 0, 0, 0, []), (41, .if_icmp .eq 19, 3, .int 0, 60, 0, 0, []), (44, .iload_n 1, 1, .int 0, 0, 0, 0, []), (45, .iconst 2, 1, .int 2, 0, 0, 0, []), (46, .if_icmp .ne 18, 3, .int 0, 64, 0, 0, []), (49, .aload_n 0, 1, .int 0, 0, 0, 0, []), (50, .getfield 52, 3, .ref 0, 12, 15, 162, []), (53, .iconst 2, 1, .int 2, 0, 0, 0, []), (54, .iaload, 1, .int 0, 0, 0, 0, []), (55, .bipush 6, 2, .int 6, 0, 0, 0, []), (57, .if_icmp .ne 7, 3, .int 0, 64, 0, 0, []), (60, .iconst 1, 1, .int 1, 0, 0, 0, []), (61, .goto 4, 3, .int 0, 65, 0, 0, []), (64, .iconst 0, 1, .int 0, 0, 0, 0, []), (65, .ireturn, 1, .int 0, 0, 0, 0, [])]
set_option maxRecDepth 100000 in
theorem okX12_isFull : codeOk 172 kX12_isFull := ⟨_, rfl, by decide +kernel⟩
def kX12_hillClause : List AI := [(0, .aload_n 0, 1, .int 0, 0, 0, 0, []), (1, .invokevirtual 202, 3, .int 0, 153, 1, 175, [(0, 12), (0, 0)]), (4, .aload_n 0, 1, .int 0, 0, 0, 0, []), (5, .getfield 182, 3, .int 0, 12, 22, 169, []), (8, .istore_n 2, 1, .int 0, 0, 0, 0, []), (9, .iconst 0, 1, .int 0, 0, 0, 0, []), (10, .istore_n 3, 1, .int 0, 0, 0, 0, []), (11, .iload_n 3, 1, .int 0, 0, 0, 0, []), (12, .iconst 3, 1, .int 3, 0, 0, 0, []), (13, .if_icmp .ge 20, 3, .int 0, 33, 0, 0, []), (16, .aload_n 0, 1, .int 0, 0, 0, 0, []), (17, .iload_n 3, 1, .int 0, 0, 0, 0, []), (18, .invokestatic 283, 3, .int 0, 170, 1, 177, [(0, 12), (0, 4)]), (21, .invokevirtual 205, 3, .int 0, 155, 2, 178, [(0, 12), (0, 1)]), (24, .ifCond .ne 9, 3, .int 0, 33, 0, 0, []), (27, .iinc 3 1, 3, .int 1, 0, 0, 0, []), (30, .goto (-19), 3, .int 0, 11, 0, 0, []), (33, .iload_n 3, 1, .int 0, 0, 0, 0, []), (34, .iconst 3, 1, .int 3, 0, 0, 0, []), (35, .if_icmp .ne 10, 3, .int 0, 45, 0, 0, []), (38, .aload_n 0, 1, .int 0, 0, 0, 0, []), (39, .iconst 0, 1, .int 0, 0, 0, 0, []), (40, .iload_n 2, 1, .int 0, 0, 0, 0, []), (41, .invokevirtual 218, 3, .int 0, 151, 3, 179, [(0, 12), (0, 0)]), (44, .return_, 1, .int 0, 0, 0, 0, []), (45, .aload_n 0, 1, .int 0, 0, 0, 0, []), (46, .iload_n 3, 1, .int 0, 0, 0, 0, []), (47, .iload_n 1, 1, .int 0, 0, 0, 0, []), (48, .invokevirtual 286, 3, .int 0, 172, 3, 180, [(0, 12), (0, 1)]), (51, .ifCond .eq 10, 3, .int 0, 61, 0, 0, []), (54, .aload_n 0, 1, .int 0, 0, 0, 0, []), (55, .iconst 4, 1, .int 4, 0, 0, 0, []), (56, .iload_n 2, 1, .int 0, 0, 0, 0, []), (57, .invokevirtual 218, 3, .int 0, 151, 3, 179, [(0, 12), (0, 0)]), (60, .return_, 1, .int 0, 0, 0, 0, []), (61, .aload_n 0, 1, .int 0, 0, 0, 0, []), (62, .dup, 1, .int 0, 0, 0, 0, []), (63, .getfield 182, 3, .int 0, 12, 22, 169, []), (66, .iload_n 3, 1, .int 0, 0, 0, 0, []), (67, .invokestatic 283, 3, .int 0, 170, 1, 177, [(0, 12), (0, 4)]), (70, .invokevirtual 193, 3, .int 0, 1005, 0, 27, []), (73, .iadd, 1, .int 0, 0, 0, 0, []), (74, .putfield 182, 3, .int 0, 12, 22, 169, []), (77, .aload_n 0, 1, .int 0, 0, 0, 0, []), (78, .iload_n 3, 1, .int 0, 0, 0, 0, []), (79, .invokevirtual 290, 3, .int 0, 171, 2, 181, [(0, 12), (0, 0)]), (82, .return_, 1, .int 0, 0, 0, 0, [])]
set_option maxRecDepth 100000 in
theorem okX12_hillClause : codeOk 173 kX12_hillClause := ⟨_, rfl, by decide +kernel⟩
def kX12_copies : List AI := [(0, .iconst 0, 1, .int 0, 0, 0, 0, []), (1, .istore_n 2, 1, .int 0, 0, 0, 0, []), (2, .iload_n 2, 1, .int 0, 0, 0, 0, []), (3, .aload_n 0, 1, .int 0, 0, 0, 0, []), (4, .arraylength, 1, .int 0, 0, 0, 0, []), (5, .if_icmp .ge 15, 3, .int 0, 20, 0, 0, []), (8, .aload_n 1, 1, .int 0, 0, 0, 0, []), (9, .iload_n 2, 1, .int 0, 0, 0, 0, []), (10, .aload_n 0, 1, .int 0, 0, 0, 0, []), (11, .iload_n 2, 1, .int 0, 0, 0, 0, []), (12, .iaload, 1, .int 0, 0, 0, 0, []), (13, .iastore, 1, .int 0, 0, 0, 0, []), (14, .iinc 2 1, 3, .int 1, 0, 0, 0, []), (17, .goto (-15), 3, .int 0, 2, 0, 0, []), (20, .return_, 1, .int 0, 0, 0, 0, [])]
set_option maxRecDepth 100000 in
theorem okX12_copies : codeOk 174 kX12_copies := ⟨_, rfl, by decide +kernel⟩
end
section
def kX12_goesOn : List AI := [(0, .aload_n 0, 1, .int 0, 0, 0, 0, []), (1, .invokevirtual 202, 3, .int 0, 153, 1, 175, [(0, 12), (0, 0)]), (4, .aload_n 0, 1, .int 0, 0, 0, 0, []), (5, .getfield 179, 3, .int 0, 12, 23, 170, []), (8, .ifCond .ne 32, 3, .int 0, 40, 0, 0, []), (11, .aload_n 0, 1, .int 0, 0, 0, 0, []), (12, .getfield 182, 3, .int 0, 12, 22, 169, []), (15, .aload_n 0, 1, .int 0, 0, 0, 0, []), (16, .getfield 153, 3, .int 0, 12, 21, 168, []), (19, .if_icmp .ge 21, 3, .int 0, 40, 0, 0, []), (22, .aload_n 0, 1, .int 0, 0, 0, 0, []), (23, .invokevirtual 185, 3, .int 0, 152, 1, 176, [(0, 12), (0, 1)]), (26, .bipush 59, 2, .int 59, 0, 0, 0, []), (28, .if_icmp .eq 12, 3, .int 0, 40, 0, 0, []), (31, .aload_n 0, 1, .int 0, 0, 0, 0, []), (32, .iconst 0, 1, .int 0, 0, 0, 0, []), (33, .aload_n 0, 1, .int 0, 0, 0, 0, []), (34, .getfield 182, 3, .int 0, 12, 22, 169, []), (37, .invokevirtual 218, 3, .int 0, 151, 3, 179, [(0, 12), (0, 0)]), (40, .aload_n 0, 1, .int 0, 0, 0, 0, []), (41, .getfield 179, 3, .int 0, 12, 23, 170, []), (44, .ifCond .ne 18, 3, .int 0, 62, 0, 0, []), (47, .aload_n 0, 1, .int 0, 0, 0, 0, []), (48, .getfield 182, 3, .int 0, 12, 22, 169, []), (51, .aload_n 0, 1, .int 0, 0, 0, 0, []), (52, .getfield 153, 3, .int 0, 12, 21, 168, []), (55, .if_icmp .ge 7, 3, .int 0, 62, 0, 0, []), (58, .iconst 1, 1, .int 1, 0, 0, 0, []), (59, .goto 4, 3, .int 0, 63, 0, 0, []), (62, .iconst 0, 1, .int 0, 0, 0, 0, []), (63, .istore_n 1, 1, .int 0, 0, 0, 0, []), (64, .aload_n 0, 1, .int 0, 0, 0, 0, []), (65, .dup, 1, .int 0, 0, 0, 0, []), (66, .getfield 182, 3, .int 0, 12, 22, 169, []), (69, .iconst 1, 1, .int 1, 0, 0, 0, []), (70, .iadd, 1, .int 0, 0, 0, 0, []), (71, .putfield 182, 3, .int 0, 12, 22, 169, []), (74, .iload_n 1, 1, .int 0, 0, 0, 0, []), (75, .ireturn, 1, .int 0, 0, 0, 0, [])]
set_option maxRecDepth 100000 in
theorem okX12_goesOn : codeOk 175 kX12_goesOn := ⟨_, rfl, by decide +kernel⟩
def kX12_starts : List AI := [(0, .aload_n 0, 1, .int 0, 0, 0, 0, []), (1, .iconst 0, 1, .int 0, 0, 0, 0, []), (2, .putfield 182, 3, .int 0, 12, 22, 169, []), (5, .aload_n 0, 1, .int 0, 0, 0, 0, []), (6, .iconst 0, 1, .int 0, 0, 0, 0, []), (7, .putfield 179, 3, .int 0, 12, 23, 170, []), (10, .aload_n 0, 1, .int 0, 0, 0, 0, []), (11, .iconst 0, 1, .int 0, 0, 0, 0, []), (12, .putfield 212, 3, .int 0, 12, 26, 173, []), (15, .aload_n 0, 1, .int 0, 0, 0, 0, []), (16, .iconst 0, 1, .int 0, 0, 0, 0, []), (17, .putfield 253, 3, .int 0, 12, 27, 174, []), (20, .aload_n 0, 1, .int 0, 0, 0, 0, []), (21, .iconst 0, 1, .int 0, 0, 0, 0, []), (22, .putfield 215, 3, .int 0, 12, 28, 175, []), (25, .return_, 1, .int 0, 0, 0, 0, [])]
set_option maxRecDepth 100000 in
theorem okX12_starts : codeOk 176 kX12_starts := ⟨_, rfl, by decide +kernel⟩
def kX12_readsAll : List AI := [(0, .aload_n 0, 1, .int 0, 0, 0, 0, []), (1, .invokevirtual 293, 3, .int 0, 176, 1, 173, [(0, 12), (0, 0)]), (4, .iconst 0, 1, .int 0, 0, 0, 0, []), (5, .istore_n 1, 1, .int 0, 0, 0, 0, []), (6, .iload_n 1, 1, .int 0, 0, 0, 0, []), (7, .iconst 3, 1, .int 3, 0, 0, 0, []), (8, .if_icmp .ge 16, 3, .int 0, 24, 0, 0, []), (11, .aload_n 0, 1, .int 0, 0, 0, 0, []), (12, .getfield 52, 3, .ref 0, 12, 15, 162, []), (15, .iload_n 1, 1, .int 0, 0, 0, 0, []), (16, .iconst 0, 1, .int 0, 0, 0, 0, []), (17, .iastore, 1, .int 0, 0, 0, 0, []), (18, .iinc 1 1, 3, .int 1, 0, 0, 0, []), (21, .goto (-15), 3, .int 0, 6, 0, 0, []), (24, .iconst 0, 1, .int 0, 0, 0, 0, []), (25, .istore_n 1, 1, .int 0, 0, 0, 0, []), (26, .iconst 1, 1, .int 1, 0, 0, 0, []), (27, .istore_n 2, 1, .int 0, 0, 0, 0, []), (28, .iload_n 2, 1, .int 0, 0, 0, 0, []), (29, .ifCond .eq 19, 3, .int 0, 48, 0, 0, []), (32, .aload_n 0, 1, .int 0, 0, 0, 0, []), (33, .iload_n 1, 1, .int 0, 0, 0, 0, []), (34, .invokevirtual 296, 3, .int 0, 173, 2, 174, [(0, 12), (0, 0)]), (37, .iinc 1 1, 3, .int 1, 0, 0, 0, []), (40, .aload_n 0, 1, .int 0, 0, 0, 0, []), (41, .invokevirtual 299, 3, .int 0, 175, 1, 186, [(0, 12), (0, 1)]), (44, .istore_n 2, 1, .int 0, 0, 0, 0, []), (45, .goto (-17), 3, .int 0, 28, 0, 0, []), (48, .aload_n 0, 1, .int 0, 0, 0, 0, []), (49, .iconst 0, 1, .int 0, 0, 0, 0, []), (50, .putfield 153, 3, .int 0, 12, 21, 168, []), (53, .return_, 1, .int 0, 0, 0, 0, [])]
set_option maxRecDepth 100000 in
theorem okX12_readsAll : codeOk 177 kX12_readsAll := ⟨_, rfl, by decide +kernel⟩
def kX12_begins : List AI := [(0, .aload_n 0, 1, .int 0, 0, 0, 0, []), (1, .getfield 43, 3, .ref 0, 12, 12, 159, []), (4, .aload_n 0, 1, .int 0, 0, 0, 0, []), (5, .getfield 19, 3, .ref 0, 12, 4, 151, []), (8, .invokestatic 302, 3, .int 0, 174, 2, 187, [(0, 12), (0, 0)]), (11, .aload_n 0, 1, .int 0, 0, 0, 0, []), (12, .getfield 46, 3, .ref 0, 12, 13, 160, []), (15, .aload_n 0, 1, .int 0, 0, 0, 0, []), (16, .getfield 13, 3, .ref 0, 12, 2, 149, []), (19, .invokestatic 302, 3, .int 0, 174, 2, 187, [(0, 12), (0, 0)]), (22, .aload_n 0, 1, .int 0, 0, 0, 0, []), (23, .getfield 49, 3, .ref 0, 12, 14, 161, []), (26, .aload_n 0, 1, .int 0, 0, 0, 0, []), (27, .getfield 22, 3, .ref 0, 12, 5, 152, []), (30, .invokestatic 302, 3, .int 0, 174, 2, 187, [(0, 12), (0, 0)]), (33, .aload_n 0, 1, .int 0, 0, 0, 0, []), (34, .getfield 9, 3, .ref 0, 12, 1, 148, []), (37, .iconst 3, 1, .int 3, 0, 0, 0, []), (38, .iconst 0, 1, .int 0, 0, 0, 0, []), (39, .iastore, 1, .int 0, 0, 0, 0, []), (40, .iconst 0, 1, .int 0, 0, 0, 0, []), (41, .istore_n 1, 1, .int 0, 0, 0, 0, []), (42, .iload_n 1, 1, .int 0, 0, 0, 0, []), (43, .iconst 5, 1, .int 5, 0, 0, 0, []), (44, .if_icmp .ge 16, 3, .int 0, 60, 0, 0, []), (47, .aload_n 0, 1, .int 0, 0, 0, 0, []), (48, .getfield 16, 3, .ref 0, 12, 3, 150, []), (51, .iload_n 1, 1, .int 0, 0, 0, 0, []), (52, .iconst 0, 1, .int 0, 0, 0, 0, []), (53, .iastore, 1, .int 0, 0, 0, 0, []), (54, .iinc 1 1, 3, .int 1, 0, 0, 0, []), (57, .goto (-15), 3, .int 0, 42, 0, 0, []), (60, .iconst 0, 1, .int 0, 0, 0, 0, []), (61, .istore_n 1, 1, .int 0, 0, 0, 0, []), (62, .iload_n 1, 1, .int 0, 0, 0, 0, []), (63, .bipush 6, 2, .int 6, 0, 0, 0, []), (65, .if_icmp .ge 16, 3, .int 0, 81, 0, 0, []), (68, .aload_n 0, 1, .int 0, 0, 0, 0, []), (69, .getfield 25, 3, .ref 0, 12, 6, 153, []), (72, .iload_n 1, 1, .int 0, 0, 0, 0, []), (73, .iconst (-1), 1, .int (-1), 0, 0, 0, []), (74, .iastore, 1, .int 0, 0, 0, 0, []), (75, .iinc 1 1, 3, .int 1, 0, 0, 0, []), (78, .goto (-16), 3, .int 0, 62, 0, 0, []), (81, .return_, 1, .int 0, 0, 0, 0, [])]
set_option maxRecDepth 100000 in
theorem okX12_begins : codeOk 178 kX12_begins := ⟨_, rfl, by decide +kernel⟩
def kX12_hill : List AI := [(0, .aload_n 0, 1, .int 0, 0, 0, 0, []), (1, .invokevirtual 306, 3, .int 0, 177, 1, 172, [(0, 12), (0, 0)]), (4, .aload_n 0, 1, .int 0, 0, 0, 0, []), (5, .getfield 179, 3, .int 0, 12, 23, 170, []), (8, .ifCond .le 11, 3, .int 0, 19, 0, 0, []), (11, .bipush (-2), 2, .int (-2), 0, 0, 0, []), (13, .aload_n 0, 1, .int 0, 0, 0, 0, []), (14, .getfield 179, 3, .int 0, 12, 23, 170, []), (17, .isub, 1, .int 0, 0, 0, 0, []), (18, .ireturn, 1, .int 0, 0, 0, 0, []), (19, .iconst 0, 1, .int 0, 0, 0, 0, []), (20, .istore_n 1, 1, .int 0, 0, 0, 0, []), (21, .iload_n 1, 1, .int 0, 0, 0, 0, []), (22, .iconst 3, 1, .int 3, 0, 0, 0, []), (23, .if_icmp .ge 21, 3, .int 0, 44, 0, 0, []), (26, .aload_n 0, 1, .int 0, 0, 0, 0, []), (27, .getfield 9, 3, .ref 0, 12, 1, 148, []), (30, .iload_n 1, 1, .int 0, 0, 0, 0, []), (31, .aload_n 0, 1, .int 0, 0, 0, 0, []), (32, .getfield 52, 3, .ref 0, 12, 15, 162, []), (35, .iload_n 1, 1, .int 0, 0, 0, 0, []), (36, .iaload, 1, .int 0, 0, 0, 0, []), (37, .iastore, 1, .int 0, 0, 0, 0, []), (38, .iinc 1 1, 3, .int 1, 0, 0, 0, []), (41, .goto (-20), 3, .int 0, 21, 0, 0, []), (44, .aload_n 0, 1, .int 0, 0, 0, 0, []), (45, .getfield 9, 3, .ref 0, 12, 1, 148, []), (48, .iconst 4, 1, .int 4, 0, 0, 0, []), (49, .iconst 0, 1, .int 0, 0, 0, 0, []), (50, .iastore, 1, .int 0, 0, 0, 0, []), (51, .aload_n 0, 1, .int 0, 0, 0, 0, []), (52, .getfield 55, 3, .ref 0, 12, 16, 163, []), (55, .aload_n 0, 1, .int 0, 0, 0, 0, []), (56, .getfield 43, 3, .ref 0, 12, 12, 159, []), (59, .invokestatic 302, 3, .int 0, 174, 2, 187, [(0, 12), (0, 0)]), (62, .aload_n 0, 1, .int 0, 0, 0, 0, []), (63, .getfield 58, 3, .ref 0, 12, 17, 164, []), (66, .aload_n 0, 1, .int 0, 0, 0, 0, []), (67, .getfield 46, 3, .ref 0, 12, 13, 160, []), (70, .invokestatic 302, 3, .int 0, 174, 2, 187, [(0, 12), (0, 0)]), (73, .aload_n 0, 1, .int 0, 0, 0, 0, []), (74, .getfield 61, 3, .ref 0, 12, 18, 165, []), (77, .aload_n 0, 1, .int 0, 0, 0, 0, []), (78, .getfield 49, 3, .ref 0, 12, 14, 161, []), (81, .invokestatic 302, 3, .int 0, 174, 2, 187, [(0, 12), (0, 0)]), (84, .aload_n 0, 1, .int 0, 0, 0, 0, []), (85, .getfield 64, 3, .ref 0, 12, 19, 166, []), (88, .aload_n 0, 1, .int 0, 0, 0, 0, []), (89, .getfield 28, 3, .ref 0, 12, 7, 154, []), (92, .invokestatic 302, 3, .int 0, 174, 2, 187, [(0, 12), (0, 0)]), (95, .aload_n 0, 1, .int 0, 0, 0, 0, []), (96, .getfield 67, 3, .ref 0, 12, 20, 167, []), (99, .aload_n 0, 1, .int 0, 0, 0, 0, []), (100, .getfield 31, 3, .ref 0, 12, 8, 155, []), (103, .invokestatic 302, 3, .int 0, 174, 2, 187, [(0, 12), (0, 0)]), (106, .aload_n 0, 1, .int 0, 0, 0, 0, []), (107, .invokevirtual 309, 3, .int 0, 178, 1, 188, [(0, 12), (0, 0)]), (110, .aload_n 0, 1, .int 0, 0, 0, 0, []), (111, .iconst 0, 1, .int 0, 0, 0, 0, []), (112, .putfield 312, 3, .int 0, 12, 45, 192, []), (115, .aload_n 0, 1, .int 0, 0, 0, 0, []), (116, .getfield 9, 3, .ref 0, 12, 1, 148, []), (119, .iconst 1, 1, .int 1, 0, 0, 0, []), (120, .iaload, 1, .int 0, 0, 0, 0, []), (121, .ireturn, 1, .int 0, 0, 0, 0, [])]
set_option maxRecDepth 100000 in
theorem okX12_hill : codeOk 179 kX12_hill := ⟨_, rfl, by decide +kernel⟩
def kX12_ruleClause : List AI := [(0, .aload_n 0, 1, .int 0, 0, 0, 0, []), (1, .invokevirtual 202, 3, .int 0, 153, 1, 175, [(0, 12), (0, 0)]), (4, .aload_n 0, 1, .int 0, 0, 0, 0, []), (5, .getfield 182, 3, .int 0, 12, 22, 169, []), (8, .istore_n 2, 1, .int 0, 0, 0, 0, []), (9, .aload_n 0, 1, .int 0, 0, 0, 0, []), (10, .ldc_w 315, 3, .retAddr 4, 0, 0, 0, []), (13, .invokevirtual 205, 3, .int 0, 155, 2, 178, [(0, 12), (0, 1)]), (16, .ifCond .ne 10, 3, .int 0, 26, 0, 0, []), (19, .aload_n 0, 1, .int 0, 0, 0, 0, []), (20, .iconst 0, 1, .int 0, 0, 0, 0, []), (21, .iload_n 2, 1, .int 0, 0, 0, 0, []), (22, .invokevirtual 218, 3, .int 0, 151, 3, 179, [(0, 12), (0, 0)]), (25, .return_, 1, .int 0, 0, 0, 0, []), (26, .iload_n 1, 1, .int 0, 0, 0, 0, []), (27, .bipush 12, 2, .int 12, 0, 0, 0, []), (29, .if_icmp .ne 10, 3, .int 0, 39, 0, 0, []), (32, .aload_n 0, 1, .int 0, 0, 0, 0, []), (33, .iconst 4, 1, .int 4, 0, 0, 0, []), (34, .iload_n 2, 1, .int 0, 0, 0, 0, []), (35, .invokevirtual 218, 3, .int 0, 151, 3, 179, [(0, 12), (0, 0)]), (38, .return_, 1, .int 0, 0, 0, 0, []), (39, .aload_n 0, 1, .int 0, 0, 0, 0, []), (40, .dup, 1, .int 0, 0, 0, 0, []), (41, .getfield 182, 3, .int 0, 12, 22, 169, []), (44, .iconst 3, 1, .int 3, 0, 0, 0, []), (45, .iadd, 1, .int 0, 0, 0, 0, []), (46, .putfield 182, 3, .int 0, 12, 22, 169, []), (49, .bipush 12, 2, .int 12, 0, 0, 0, []), (51, .aload_n 0, 1, .int 0, 0, 0, 0, []), (52, .getfield 209, 3, .int 0, 12, 24, 171, []), (55, .imul, 1, .int 0, 0, 0, 0, []), (56, .iload_n 1, 1, .int 0, 0, 0, 0, []), (57, .iadd, 1, .int 0, 0, 0, 0, []), (58, .istore_n 3, 1, .int 0, 0, 0, 0, []), (59, .aload_n 0, 1, .int 0, 0, 0, 0, []), (60, .getfield 87, 3, .ref 0, 12, 35, 182, []), (63, .iload_n 3, 1, .int 0, 0, 0, 0, []), (64, .aload_n 0, 1, .int 0, 0, 0, 0, []), (65, .getfield 212, 3, .int 0, 12, 26, 173, []), (68, .iastore, 1, .int 0, 0, 0, 0, []), (69, .aload_n 0, 1, .int 0, 0, 0, 0, []), (70, .invokevirtual 247, 3, .int 0, 162, 1, 191, [(0, 12), (0, 0)]), (73, .aload_n 0, 1, .int 0, 0, 0, 0, []), (74, .getfield 90, 3, .ref 0, 12, 36, 183, []), (77, .iload_n 3, 1, .int 0, 0, 0, 0, []), (78, .aload_n 0, 1, .int 0, 0, 0, 0, []), (79, .getfield 212, 3, .int 0, 12, 26, 173, []), (82, .iastore, 1, .int 0, 0, 0, 0, []), (83, .aload_n 0, 1, .int 0, 0, 0, 0, []), (84, .getfield 179, 3, .int 0, 12, 23, 170, []), (87, .ifCond .ne 17, 3, .int 0, 104, 0, 0, []), (90, .aload_n 0, 1, .int 0, 0, 0, 0, []), (91, .ldc_w 317, 3, .retAddr 15, 0, 0, 0, []), (94, .invokevirtual 319, 3, .int 0, 156, 2, 197, [(0, 12), (0, 1)]), (97, .ifCond .eq 7, 3, .int 0, 104, 0, 0, []), (100, .aload_n 0, 1, .int 0, 0, 0, 0, []), (101, .invokevirtual 322, 3, .int 0, 168, 1, 198, [(0, 12), (0, 0)]), (104, .aload_n 0, 1, .int 0, 0, 0, 0, []), (105, .getfield 93, 3, .ref 0, 12, 37, 184, []), (108, .iload_n 3, 1, .int 0, 0, 0, 0, []), (109, .aload_n 0, 1, .int 0, 0, 0, 0, []), (110, .getfield 212, 3, .int 0, 12, 26, 173, []), (113, .iastore, 1, .int 0, 0, 0, 0, []), (114, .return_, 1, .int 0, 0, 0, 0, [])]
set_option maxRecDepth 100000 in
theorem okX12_ruleClause : codeOk 180 kX12_ruleClause := ⟨_, rfl, by decide +kernel⟩
def kX12_rule : List AI := [(0, .aload_n 0, 1, .int 0, 0, 0, 0, []), (1, .getfield 325, 3, .int 0, 12, 25, 172, []), (4, .bipush 6, 2, .int 6, 0, 0, 0, []), (6, .if_icmp .ne 5, 3, .int 0, 11, 0, 0, []), (9, .iconst (-1), 1, .int (-1), 0, 0, 0, []), (10, .ireturn, 1, .int 0, 0, 0, 0, []), (11, .aload_n 0, 1, .int 0, 0, 0, 0, []), (12, .aload_n 0, 1, .int 0, 0, 0, 0, []), (13, .getfield 325, 3, .int 0, 12, 25, 172, []), (16, .putfield 209, 3, .int 0, 12, 24, 171, []), (19, .aload_n 0, 1, .int 0, 0, 0, 0, []), (20, .invokevirtual 293, 3, .int 0, 176, 1, 173, [(0, 12), (0, 0)]), (23, .iconst 0, 1, .int 0, 0, 0, 0, []), (24, .istore_n 1, 1, .int 0, 0, 0, 0, []), (25, .iconst 1, 1, .int 1, 0, 0, 0, []), (26, .istore_n 2, 1, .int 0, 0, 0, 0, []), (27, .iload_n 2, 1, .int 0, 0, 0, 0, []), (28, .ifCond .eq 19, 3, .int 0, 47, 0, 0, []), (31, .aload_n 0, 1, .int 0, 0, 0, 0, []), (32, .iload_n 1, 1, .int 0, 0, 0, 0, []), (33, .invokevirtual 328, 3, .int 0, 180, 2, 190, [(0, 12), (0, 0)]), (36, .iinc 1 1, 3, .int 1, 0, 0, 0, []), (39, .aload_n 0, 1, .int 0, 0, 0, 0, []), (40, .invokevirtual 299, 3, .int 0, 175, 1, 186, [(0, 12), (0, 1)]), (43, .istore_n 2, 1, .int 0, 0, 0, 0, []), (44, .goto (-17), 3, .int 0, 27, 0, 0, []), (47, .aload_n 0, 1, .int 0, 0, 0, 0, []), (48, .iconst 0, 1, .int 0, 0, 0, 0, []), (49, .putfield 153, 3, .int 0, 12, 21, 168, []), (52, .aload_n 0, 1, .int 0, 0, 0, 0, []), (53, .getfield 84, 3, .ref 0, 12, 34, 181, []), (56, .aload_n 0, 1, .int 0, 0, 0, 0, []), (57, .getfield 209, 3, .int 0, 12, 24, 171, []), (60, .iload_n 1, 1, .int 0, 0, 0, 0, []), (61, .iastore, 1, .int 0, 0, 0, 0, []), (62, .aload_n 0, 1, .int 0, 0, 0, 0, []), (63, .dup, 1, .int 0, 0, 0, 0, []), (64, .getfield 325, 3, .int 0, 12, 25, 172, []), (67, .aload_n 0, 1, .int 0, 0, 0, 0, []), (68, .getfield 179, 3, .int 0, 12, 23, 170, []), (71, .ifCond .ne 7, 3, .int 0, 78, 0, 0, []), (74, .iconst 1, 1, .int 1, 0, 0, 0, []), (75, .goto 4, 3, .int 0, 79, 0, 0, []), (78, .iconst 0, 1, .int 0, 0, 0, 0, []), (79, .iadd, 1, .int 0, 0, 0, 0, []), (80, .putfield 325, 3, .int 0, 12, 25, 172, []), (83, .aload_n 0, 1, .int 0, 0, 0, 0, []), (84, .getfield 179, 3, .int 0, 12, 23, 170, []), (87, .ifCond .le 13, 3, .int 0, 100, 0, 0, []), (90, .bipush (-2), 2, .int (-2), 0, 0, 0, []), (92, .aload_n 0, 1, .int 0, 0, 0, 0, []), (93, .getfield 179, 3, .int 0, 12, 23, 170, []), (96, .isub, 1, .int 0, 0, 0, 0, []), (97, .goto 9, 3, .int 0, 106, 0, 0, []), (100, .aload_n 0, 1, .int 0, 0, 0, 0, []), (101, .getfield 325, 3, .int 0, 12, 25, 172, []), (104, .iconst 1, 1, .int 1, 0, 0, 0, []), (105, .isub, 1, .int 0, 0, 0, 0, []), (106, .ireturn, 1, .int 0, 0, 0, 0, [])]
set_option maxRecDepth 100000 in
theorem okX12_rule : codeOk 181 kX12_rule := ⟨_, rfl, by decide +kernel⟩
def kX12_force : List AI := [(0, .iload_n 1, 1, .int 0, 0, 0, 0, []), (1, .i2l, 1, .int 0, 0, 0, 0, []), (2, .ldc2_w 331, 3, .long (-1), 0, 0, 5, []), (5, .aload_n 0, 1, .int 0, 0, 0, 0, []), (6, .getfield 325, 3, .int 0, 12, 25, 172, []), (9, .iconst 1, 1, .int 1, 0, 0, 0, []), (10, .isub, 1, .int 0, 0, 0, 0, []), (11, .i2l, 1, .int 0, 0, 0, 0, []), (12, .invokestatic 149, 3, .int 0, 141, 3, 185, [(0, 12), (0, 1)]), (15, .ifCond .ne 6, 3, .int 0, 21, 0, 0, []), (18, .bipush (-2), 2, .int (-2), 0, 0, 0, []), (20, .ireturn, 1, .int 0, 0, 0, 0, []), (21, .aload_n 0, 1, .int 0, 0, 0, 0, []), (22, .getfield 9, 3, .ref 0, 12, 1, 148, []), (25, .bipush 6, 2, .int 6, 0, 0, 0, []), (27, .iaload, 1, .int 0, 0, 0, 0, []), (28, .istore_n 2, 1, .int 0, 0, 0, 0, []), (29, .aload_n 0, 1, .int 0, 0, 0, 0, []), (30, .getfield 9, 3, .ref 0, 12, 1, 148, []), (33, .bipush 6, 2, .int 6, 0, 0, 0, []), (35, .iload_n 1, 1, .int 0, 0, 0, 0, []), (36, .iastore, 1, .int 0, 0, 0, 0, []), (37, .iload_n 2, 1, .int 0, 0, 0, 0, []), (38, .ireturn, 1, .int 0, 0, 0, 0, [])]
set_option maxRecDepth 100000 in
theorem okX12_force : codeOk 182 kX12_force := ⟨_, rfl, by decide +kernel⟩
def kX12_wanted : List AI := [(0, .aload_n 0, 1, .int 0, 0, 0, 0, []), (1, .getfield 9, 3, .ref 0, 12, 1, 148, []), (4, .bipush 6, 2, .int 6, 0, 0, 0, []), (6, .iaload, 1, .int 0, 0, 0, 0, []), (7, .istore_n 1, 1, .int 0, 0, 0, 0, []), (8, .bipush 12, 2, .int 12, 0, 0, 0, []), (10, .iload_n 1, 1, .int 0, 0, 0, 0, []), (11, .imul, 1, .int 0, 0, 0, 0, []), (12, .istore_n 2, 1, .int 0, 0, 0, 0, []), (13, .iload_n 2, 1, .int 0, 0, 0, 0, []), (14, .bipush 12, 2, .int 12, 0, 0, 0, []), (16, .iload_n 1, 1, .int 0, 0, 0, 0, []), (17, .imul, 1, .int 0, 0, 0, 0, []), (18, .aload_n 0, 1, .int 0, 0, 0, 0, []), (19, .getfield 84, 3, .ref 0, 12, 34, 181, []), (22, .iload_n 1, 1, .int 0, 0, 0, 0, []), (23, .iaload, 1, .int 0, 0, 0, 0, []), (24, .iadd, 1, .int 0, 0, 0, 0, []), (25, .if_icmp .ge 64, 3, .int 0, 89, 0, 0, []), (28, .aload_n 0, 1, .int 0, 0, 0, 0, []), (29, .getfield 90, 3, .ref 0, 12, 36, 183, []), (32, .iload_n 2, 1, .int 0, 0, 0, 0, []), (33, .iaload, 1, .int 0, 0, 0, 0, []), (34, .aload_n 0, 1, .int 0, 0, 0, 0, []), (35, .getfield 93, 3, .ref 0, 12, 37, 184, []), (38, .iload_n 2, 1, .int 0, 0, 0, 0, []), (39, .iaload, 1, .int 0, 0, 0, 0, []), (40, .if_icmp .eq 25, 3, .int 0, 65, 0, 0, []), (43, .aload_n 0, 1, .int 0, 0, 0, 0, []), (44, .iload_n 1, 1, .int 0, 0, 0, 0, []), (45, .aload_n 0, 1, .int 0, 0, 0, 0, []), (46, .getfield 90, 3, .ref 0, 12, 36, 183, []), (49, .iload_n 2, 1, .int 0, 0, 0, 0, []), (50, .iaload, 1, .int 0, 0, 0, 0, []), (51, .aload_n 0, 1, .int 0, 0, 0, 0, []), (52, .getfield 93, 3, .ref 0, 12, 37, 184, []), (55, .iload_n 2, 1, .int 0, 0, 0, 0, []), (56, .iaload, 1, .int 0, 0, 0, 0, []), (57, .invokevirtual 333, 3, .int 0, 186, 4, 223, [(0, 12), (0, 2)]), (60, .lconst 1, 1, .long 1, 0, 0, 0, []), (61, .lcmp, 1, .int 0, 0, 0, 0, []), (62, .ifCond .ne 21, 3, .int 0, 83, 0, 0, []), (65, .aload_n 0, 1, .int 0, 0, 0, 0, []), (66, .iload_n 1, 1, .int 0, 0, 0, 0, []), (67, .aload_n 0, 1, .int 0, 0, 0, 0, []), (68, .getfield 87, 3, .ref 0, 12, 35, 182, []), (71, .iload_n 2, 1, .int 0, 0, 0, 0, []), (72, .iaload, 1, .int 0, 0, 0, 0, []), (73, .aload_n 0, 1, .int 0, 0, 0, 0, []), (74, .getfield 90, 3, .ref 0, 12, 36, 183, []), (77, .iload_n 2, 1, .int 0, 0, 0, 0, []), (78, .iaload, 1, .int 0, 0, 0, 0, []), (79, .invokevirtual 333, 3, .int 0, 186, 4, 223, [(0, 12), (0, 2)]), (82, .lreturn, 1, .int 0, 0, 0, 0, []), (83, .iinc 2 1, 3, .int 1, 0, 0, 0, []), (86, .goto (-73), 3, .int 0, 13, 0, 0, []), (89, .lconst 0, 1, .long 0, 0, 0, 0, []), (90, .lreturn, 1, .int 0, 0, 0, 0, [])]
set_option maxRecDepth 100000 in
theorem okX12_wanted : codeOk 183 kX12_wanted := ⟨_, rfl, by decide +kernel⟩
def kX12_truth : List AI := [(0, .iload_n 0, 1, .int 0, 0, 0, 0, []), (1, .ifCond .eq 7, 3, .int 0, 8, 0, 0, []), (4, .lconst 1, 1, .long 1, 0, 0, 0, []), (5, .goto 4, 3, .int 0, 9, 0, 0, []), (8, .lconst 0, 1, .long 0, 0, 0, 0, []), (9, .lreturn, 1, .int 0, 0, 0, 0, [])]
set_option maxRecDepth 100000 in
theorem okX12_truth : codeOk 184 kX12_truth := ⟨_, rfl, by decide +kernel⟩
def kX12_both : List AI := [(0, .iload_n 0, 1, .int 0, 0, 0, 0, []), (1, .tableswitch 190 2 15 #[71, 75, 111, 126, 141, 156, 171, 190, 186, 190, 190, 79, 83, 97], 71, .int 0, 191, 0, 0, [(2, 72), (3, 76), (4, 112), (5, 127), (6, 142), (7, 157), (8, 172), (9, 191), (10, 187), (11, 191), (12, 191), (13, 80), (14, 84), (15, 98)]), (72, .lload_n 1, 1, .int 0, 0, 0, 0, []), (73, .lload_n 3, 1, .int 0, 0, 0, 0, []), (74, .ladd, 1, .int 0, 0, 0, 0, []), (75, .lreturn, 1, .int 0, 0, 0, 0, []), (76, .lload_n 1, 1, .int 0, 0, 0, 0, []), (77, .lload_n 3, 1, .int 0, 0, 0, 0, []), (78, .lsub, 1, .int 0, 0, 0, 0, []), (79, .lreturn, 1, .int 0, 0, 0, 0, []), (80, .lload_n 1, 1, .int 0, 0, 0, 0, []), (81, .lload_n 3, 1, .int 0, 0, 0, 0, []), (82, .lmul, 1, .int 0, 0, 0, 0, []), (83, .lreturn, 1, .int 0, 0, 0, 0, []), (84, .lload_n 3, 1, .int 0, 0, 0, 0, []), (85, .lconst 0, 1, .long 0, 0, 0, 0, []), (86, .lcmp, 1, .int 0, 0, 0, 0, []), (87, .ifCond .ne 7, 3, .int 0, 94, 0, 0, []), (90, .lconst 0, 1, .long 0, 0, 0, 0, []), (91, .goto 6, 3, .int 0, 97, 0, 0, []), (94, .lload_n 1, 1, .int 0, 0, 0, 0, []), (95, .lload_n 3, 1, .int 0, 0, 0, 0, []), (96, .ldiv, 1, .int 0, 0, 0, 0, []), (97, .lreturn, 1, .int 0, 0, 0, 0, []), (98, .lload_n 3, 1, .int 0, 0, 0, 0, []), (99, .lconst 0, 1, .long 0, 0, 0, 0, []), (100, .lcmp, 1, .int 0, 0, 0, 0, []), (101, .ifCond .ne 7, 3, .int 0, 108, 0, 0, []), (104, .lconst 0, 1, .long 0, 0, 0, 0, []), (105, .goto 6, 3, .int 0, 111, 0, 0, []), (108, .lload_n 1, 1, .int 0, 0, 0, 0, []), (109, .lload_n 3, 1, .int 0, 0, 0, 0, []), (110, .lrem, 1, .int 0, 0, 0, 0, []), (111, .lreturn, 1, .int 0, 0, 0, 0, []), (112, .lload_n 1, 1, .int 0, 0, 0, 0, []), (113, .lload_n 3, 1, .int 0, 0, 0, 0, []), (114, .lcmp, 1, .int 0, 0, 0, 0, []), (115, .ifCond .ge 7, 3, .int 0, 122, 0, 0, []), (118, .iconst 1, 1, .int 1, 0, 0, 0, []), (119, .goto 4, 3, .int 0, 123, 0, 0, []), (122, .iconst 0, 1, .int 0, 0, 0, 0, []), (123, .invokestatic 337, 3, .int 0, 184, 1, 225, [(0, 12), (0, 2)]), (126, .lreturn, 1, .int 0, 0, 0, 0, []), (127, .lload_n 1, 1, .int 0, 0, 0, 0, []), (128, .lload_n 3, 1, .int 0, 0, 0, 0, []), (129, .lcmp, 1, .int 0, 0, 0, 0, []), (130, .ifCond .gt 7, 3, .int 0, 137, 0, 0, []), (133, .iconst 1, 1, .int 1, 0, 0, 0, []), (134, .goto 4, 3, .int 0, 138, 0, 0, []), (137, .iconst 0, 1, .int 0, 0, 0, 0, []), (138, .invokestatic 337, 3, .int 0, 184, 1, 225, [(0, 12), (0, 2)]), (141, .lreturn, 1, .int 0, 0, 0, 0, []), (142, .lload_n 1, 1, .int 0, 0, 0, 0, []), (143, .lload_n 3, 1, .int 0, 0, 0, 0, []), (144, .lcmp, 1, .int 0, 0, 0, 0, []), (145, .ifCond .ne 7, 3, .int 0, 152, 0, 0, []), (148, .iconst 1, 1, .int 1, 0, 0, 0, []), (149, .goto 4, 3, .int 0, 153, 0, 0, []), (152, .iconst 0, 1, .int 0, 0, 0, 0, []), (153, .invokestatic 337, 3, .int 0, 184, 1, 225, [(0, 12), (0, 2)]), (156, .lreturn, 1, .int 0, 0, 0, 0, []), (157, .lload_n 1, 1, .int 0, 0, 0, 0, []), (158, .lload_n 3, 1, .int 0, 0, 0, 0, []), (159, .lcmp, 1, .int 0, 0, 0, 0, []), (160, .ifCond .lt 7, 3, .int 0, 167, 0, 0, []), (163, .iconst 1, 1, .int 1, 0, 0, 0, []), (164, .goto 4, 3, .int 0, 168, 0, 0, []), (167, .iconst 0, 1, .int 0, 0, 0, 0, []), (168, .invokestatic 337, 3, .int 0, 184, 1, 225, [(0, 12), (0, 2)]), (171, .lreturn, 1, .int 0, 0, 0, 0, []), (172, .lload_n 1, 1, .int 0, 0, 0, 0, []), (173, .lload_n 3, 1, .int 0, 0, 0, 0, []), (174, .lcmp, 1, .int 0, 0, 0, 0, []), (175, .ifCond .le 7, 3, .int 0, 182, 0, 0, []), (178, .iconst 1, 1, .int 1, 0, 0, 0, []), (179, .goto 4, 3, .int 0, 183, 0, 0, []), (182, .iconst 0, 1, .int 0, 0, 0, 0, []), (183, .invokestatic 337, 3, .int 0, 184, 1, 225, [(0, 12), (0, 2)]), (186, .lreturn, 1, .int 0, 0, 0, 0, []), (187, .lload_n 1, 1, .int 0, 0, 0, 0, []), (188, .lload_n 3, 1, .int 0, 0, 0, 0, []), (189, .land, 1, .int 0, 0, 0, 0, []), (190, .lreturn, 1, .int 0, 0, 0, 0, []), (191, .lload_n 1, 1, .int 0, 0, 0, 0, []), (192, .lload_n 3, 1, .int 0, 0, 0, 0, []), (193, .lor, 1, .int 0, 0, 0, 0, []), (194, .lreturn, 1, .int 0, 0, 0, 0, [])]
set_option maxRecDepth 100000 in
theorem okX12_both : codeOk 185 kX12_both := ⟨_, rfl, by decide +kernel⟩
def kX12_answer : List AI := [(0, .iconst 0, 1, .int 0, 0, 0, 0, []), (1, .istore 4, 2, .int 0, 0, 0, 0, []), (3, .iload_n 2, 1, .int 0, 0, 0, 0, []), (4, .istore 5, 2, .int 0, 0, 0, 0, []), (6, .iload 5, 2, .int 0, 0, 0, 0, []), (8, .iload_n 3, 1, .int 0, 0, 0, 0, []), (9, .if_icmp .ge 144, 3, .int 0, 153, 0, 0, []), (12, .aload_n 0, 1, .int 0, 0, 0, 0, []), (13, .getfield 78, 3, .ref 0, 12, 32, 179, []), (16, .sipush 300, 3, .int 300, 0, 0, 0, []), (19, .iload_n 1, 1, .int 0, 0, 0, 0, []), (20, .imul, 1, .int 0, 0, 0, 0, []), (21, .iload 5, 2, .int 0, 0, 0, 0, []), (23, .iadd, 1, .int 0, 0, 0, 0, []), (24, .iaload, 1, .int 0, 0, 0, 0, []), (25, .istore 6, 2, .int 0, 0, 0, 0, []), (27, .aload_n 0, 1, .int 0, 0, 0, 0, []), (28, .getfield 81, 3, .ref 0, 12, 33, 180, []), (31, .sipush 300, 3, .int 300, 0, 0, 0, []), (34, .iload_n 1, 1, .int 0, 0, 0, 0, []), (35, .imul, 1, .int 0, 0, 0, 0, []), (36, .iload 5, 2, .int 0, 0, 0, 0, []), (38, .iadd, 1, .int 0, 0, 0, 0, []), (39, .iaload, 1, .int 0, 0, 0, 0, []), (40, .istore 7, 2, .int 0, 0, 0, 0, []), (42, .iload 6, 2, .int 0, 0, 0, 0, []), (44, .ifCond .eq 9, 3, .int 0, 53, 0, 0, []), (47, .iload 6, 2, .int 0, 0, 0, 0, []), (49, .iconst 1, 1, .int 1, 0, 0, 0, []), (50, .if_icmp .ne 34, 3, .int 0, 84, 0, 0, []), (53, .aload_n 0, 1, .int 0, 0, 0, 0, []), (54, .getfield 103, 3, .ref 0, 12, 40, 187, []), (57, .iload 4, 2, .int 0, 0, 0, 0, []), (59, .iload 6, 2, .int 0, 0, 0, 0, []), (61, .ifCond .ne 9, 3, .int 0, 70, 0, 0, []), (64, .iload 7, 2, .int 0, 0, 0, 0, []), (66, .i2l, 1, .int 0, 0, 0, 0, []), (67, .goto 10, 3, .int 0, 77, 0, 0, []), (70, .aload_n 0, 1, .int 0, 0, 0, 0, []), (71, .getfield 99, 3, .ref 0, 12, 39, 186, []), (74, .iload 7, 2, .int 0, 0, 0, 0, []), (76, .laload, 1, .int 0, 0, 0, 0, []), (77, .lastore, 1, .int 0, 0, 0, 0, []), (78, .iinc 4 1, 3, .int 1, 0, 0, 0, []), (81, .goto 66, 3, .int 0, 147, 0, 0, []), (84, .iload 6, 2, .int 0, 0, 0, 0, []), (86, .bipush 9, 2, .int 9, 0, 0, 0, []), (88, .if_icmp .ne 26, 3, .int 0, 114, 0, 0, []), (91, .aload_n 0, 1, .int 0, 0, 0, 0, []), (92, .getfield 103, 3, .ref 0, 12, 40, 187, []), (95, .iload 4, 2, .int 0, 0, 0, 0, []), (97, .iconst 1, 1, .int 1, 0, 0, 0, []), (98, .isub, 1, .int 0, 0, 0, 0, []), (99, .lconst 1, 1, .long 1, 0, 0, 0, []), (100, .aload_n 0, 1, .int 0, 0, 0, 0, []), (101, .getfield 103, 3, .ref 0, 12, 40, 187, []), (104, .iload 4, 2, .int 0, 0, 0, 0, []), (106, .iconst 1, 1, .int 1, 0, 0, 0, []), (107, .isub, 1, .int 0, 0, 0, 0, []), (108, .laload, 1, .int 0, 0, 0, 0, []), (109, .lsub, 1, .int 0, 0, 0, 0, []), (110, .lastore, 1, .int 0, 0, 0, 0, []), (111, .goto 36, 3, .int 0, 147, 0, 0, []), (114, .iinc 4 (-1), 3, .int (-1), 0, 0, 0, []), (117, .aload_n 0, 1, .int 0, 0, 0, 0, []), (118, .getfield 103, 3, .ref 0, 12, 40, 187, []), (121, .iload 4, 2, .int 0, 0, 0, 0, []), (123, .iconst 1, 1, .int 1, 0, 0, 0, []), (124, .isub, 1, .int 0, 0, 0, 0, []), (125, .iload 6, 2, .int 0, 0, 0, 0, []), (127, .aload_n 0, 1, .int 0, 0, 0, 0, []), (128, .getfield 103, 3, .ref 0, 12, 40, 187, []), (131, .iload 4, 2, .int 0, 0, 0, 0, []), (133, .iconst 1, 1, .int 1, 0, 0, 0, []), (134, .isub, 1, .int 0, 0, 0, 0, []), (135, .laload, 1, .int 0, 0, 0, 0, []), (136, .aload_n 0, 1, .int 0, 0, 0, 0, []), (137, .getfield 103, 3, .ref 0, 12, 40, 187, []), (140, .iload 4, 2, .int 0, 0, 0, 0, []), (142, .laload, 1, .int 0, 0, 0, 0, []), (143, .invokestatic 341, 3, .int 0, 185, 3, 224, [(0, 12), (0, 2)]), (146, .lastore, 1, .int 0, 0, 0, 0, []), (147, .iinc 5 1, 3, .int 1, 0, 0, 0, []), (150, .goto (-144), 3, .int 0, 6, 0, 0, []), (153, .aload_n 0, 1, .int 0, 0, 0, 0, []), (154, .getfield 103, 3, .ref 0, 12, 40, 187, []), (157, .iconst 0, 1, .int 0, 0, 0, 0, []), (158, .laload, 1, .int 0, 0, 0, 0, []), (159, .lreturn, 1, .int 0, 0, 0, 0, [])]
set_option maxRecDepth 100000 in
theorem okX12_answer : codeOk 186 kX12_answer := ⟨_, rfl, by decide +kernel⟩
def kX12_isThere : List AI := [(0, .aload_n 0, 1, .int 0, 0, 0, 0, []), (1, .getfield 9, 3, .ref 0, 12, 1, 148, []), (4, .iconst 3, 1, .int 3, 0, 0, 0, []), (5, .iaload, 1, .int 0, 0, 0, 0, []), (6, .aload_n 0, 1, .int 0, 0, 0, 0, []), (7, .getfield 31, 3, .ref 0, 12, 8, 155, []), (10, .iload_n 1, 1, .int 0, 0, 0, 0, []), (11, .iaload, 1, .int 0, 0, 0, 0, []), (12, .irem, 1, .int 0, 0, 0, 0, []), (13, .ifCond .ne 7, 3, .int 0, 20, 0, 0, []), (16, .iconst 1, 1, .int 1, 0, 0, 0, []), (17, .goto 4, 3, .int 0, 21, 0, 0, []), (20, .iconst 0, 1, .int 0, 0, 0, 0, []), (21, .ireturn, 1, .int 0, 0, 0, 0, [])]
set_option maxRecDepth 100000 in
theorem okX12_isThere : codeOk 187 kX12_isThere := ⟨_, rfl, by decide +kernel⟩
def kX12_runner : List AI := [(0, .aload_n 0, 1, .int 0, 0, 0, 0, []), (1, .iload_n 1, 1, .int 0, 0, 0, 0, []), (2, .invokevirtual 345, 3, .int 0, 145, 2, 206, [(0, 12), (0, 1)]), (5, .ifCond .eq 15, 3, .int 0, 20, 0, 0, []), (8, .iload_n 2, 1, .int 0, 0, 0, 0, []), (9, .i2l, 1, .int 0, 0, 0, 0, []), (10, .lconst 0, 1, .long 0, 0, 0, 0, []), (11, .ldc2_w 349, 3, .long 2, 0, 0, 6, []), (14, .invokestatic 149, 3, .int 0, 141, 3, 185, [(0, 12), (0, 1)]), (17, .ifCond .ne 7, 3, .int 0, 24, 0, 0, []), (20, .sipush (-1000), 3, .int (-1000), 0, 0, 0, []), (23, .ireturn, 1, .int 0, 0, 0, 0, []), (24, .iload_n 2, 1, .int 0, 0, 0, 0, []), (25, .ifCond .ne 12, 3, .int 0, 37, 0, 0, []), (28, .aload_n 0, 1, .int 0, 0, 0, 0, []), (29, .getfield 19, 3, .ref 0, 12, 4, 151, []), (32, .iload_n 1, 1, .int 0, 0, 0, 0, []), (33, .iaload, 1, .int 0, 0, 0, 0, []), (34, .goto 23, 3, .int 0, 57, 0, 0, []), (37, .iload_n 2, 1, .int 0, 0, 0, 0, []), (38, .iconst 1, 1, .int 1, 0, 0, 0, []), (39, .if_icmp .ne 12, 3, .int 0, 51, 0, 0, []), (42, .aload_n 0, 1, .int 0, 0, 0, 0, []), (43, .getfield 13, 3, .ref 0, 12, 2, 149, []), (46, .iload_n 1, 1, .int 0, 0, 0, 0, []), (47, .iaload, 1, .int 0, 0, 0, 0, []), (48, .goto 9, 3, .int 0, 57, 0, 0, []), (51, .aload_n 0, 1, .int 0, 0, 0, 0, []), (52, .getfield 16, 3, .ref 0, 12, 3, 150, []), (55, .iload_n 1, 1, .int 0, 0, 0, 0, []), (56, .iaload, 1, .int 0, 0, 0, 0, []), (57, .ireturn, 1, .int 0, 0, 0, 0, [])]
set_option maxRecDepth 100000 in
theorem okX12_runner : codeOk 188 kX12_runner := ⟨_, rfl, by decide +kernel⟩
def kX12_ware : List AI := [(0, .aload_n 0, 1, .int 0, 0, 0, 0, []), (1, .iload_n 1, 1, .int 0, 0, 0, 0, []), (2, .invokevirtual 351, 3, .int 0, 146, 2, 208, [(0, 12), (0, 1)]), (5, .ifCond .ne 6, 3, .int 0, 11, 0, 0, []), (8, .bipush (-2), 2, .int (-2), 0, 0, 0, []), (10, .ireturn, 1, .int 0, 0, 0, 0, []), (11, .iload_n 2, 1, .int 0, 0, 0, 0, []), (12, .tableswitch 78 0 4 #[36, 43, 50, 57, 71], 36, .int 0, 90, 0, 0, [(0, 48), (1, 55), (2, 62), (3, 69), (4, 83)]), (48, .aload_n 0, 1, .int 0, 0, 0, 0, []), (49, .getfield 22, 3, .ref 0, 12, 5, 152, []), (52, .iload_n 1, 1, .int 0, 0, 0, 0, []), (53, .iaload, 1, .int 0, 0, 0, 0, []), (54, .ireturn, 1, .int 0, 0, 0, 0, []), (55, .aload_n 0, 1, .int 0, 0, 0, 0, []), (56, .getfield 28, 3, .ref 0, 12, 7, 154, []), (59, .iload_n 1, 1, .int 0, 0, 0, 0, []), (60, .iaload, 1, .int 0, 0, 0, 0, []), (61, .ireturn, 1, .int 0, 0, 0, 0, []), (62, .aload_n 0, 1, .int 0, 0, 0, 0, []), (63, .getfield 31, 3, .ref 0, 12, 8, 155, []), (66, .iload_n 1, 1, .int 0, 0, 0, 0, []), (67, .iaload, 1, .int 0, 0, 0, 0, []), (68, .ireturn, 1, .int 0, 0, 0, 0, []), (69, .aload_n 0, 1, .int 0, 0, 0, 0, []), (70, .iload_n 1, 1, .int 0, 0, 0, 0, []), (71, .invokevirtual 354, 3, .int 0, 187, 2, 209, [(0, 12), (0, 1)]), (74, .ifCond .eq 7, 3, .int 0, 81, 0, 0, []), (77, .iconst 1, 1, .int 1, 0, 0, 0, []), (78, .goto 4, 3, .int 0, 82, 0, 0, []), (81, .iconst 0, 1, .int 0, 0, 0, 0, []), (82, .ireturn, 1, .int 0, 0, 0, 0, []), (83, .aload_n 0, 1, .int 0, 0, 0, 0, []), (84, .getfield 25, 3, .ref 0, 12, 6, 153, []), (87, .iload_n 1, 1, .int 0, 0, 0, 0, []), (88, .iaload, 1, .int 0, 0, 0, 0, []), (89, .ireturn, 1, .int 0, 0, 0, 0, []), (90, .bipush (-2), 2, .int (-2), 0, 0, 0, []), (92, .ireturn, 1, .int 0, 0, 0, 0, [])]
set_option maxRecDepth 100000 in
theorem okX12_ware : codeOk 189 kX12_ware := ⟨_, rfl, by decide +kernel⟩
def kX12_isAhead : List AI := [(0, .iload_n 3, 1, .int 0, 0, 0, 0, []), (1, .aload_n 0, 1, .int 0, 0, 0, 0, []), (2, .getfield 19, 3, .ref 0, 12, 4, 151, []), (5, .iload_n 2, 1, .int 0, 0, 0, 0, []), (6, .iaload, 1, .int 0, 0, 0, 0, []), (7, .imul, 1, .int 0, 0, 0, 0, []), (8, .aload_n 0, 1, .int 0, 0, 0, 0, []), (9, .getfield 13, 3, .ref 0, 12, 2, 149, []), (12, .iload_n 1, 1, .int 0, 0, 0, 0, []), (13, .iaload, 1, .int 0, 0, 0, 0, []), (14, .aload_n 0, 1, .int 0, 0, 0, 0, []), (15, .getfield 19, 3, .ref 0, 12, 4, 151, []), (18, .iload_n 1, 1, .int 0, 0, 0, 0, []), (19, .iaload, 1, .int 0, 0, 0, 0, []), (20, .imul, 1, .int 0, 0, 0, 0, []), (21, .aload_n 0, 1, .int 0, 0, 0, 0, []), (22, .getfield 19, 3, .ref 0, 12, 4, 151, []), (25, .iload_n 2, 1, .int 0, 0, 0, 0, []), (26, .iaload, 1, .int 0, 0, 0, 0, []), (27, .imul, 1, .int 0, 0, 0, 0, []), (28, .isub, 1, .int 0, 0, 0, 0, []), (29, .istore 4, 2, .int 0, 0, 0, 0, []), (31, .iload_n 3, 1, .int 0, 0, 0, 0, []), (32, .aload_n 0, 1, .int 0, 0, 0, 0, []), (33, .getfield 19, 3, .ref 0, 12, 4, 151, []), (36, .iload_n 1, 1, .int 0, 0, 0, 0, []), (37, .iaload, 1, .int 0, 0, 0, 0, []), (38, .imul, 1, .int 0, 0, 0, 0, []), (39, .aload_n 0, 1, .int 0, 0, 0, 0, []), (40, .getfield 13, 3, .ref 0, 12, 2, 149, []), (43, .iload_n 2, 1, .int 0, 0, 0, 0, []), (44, .iaload, 1, .int 0, 0, 0, 0, []), (45, .aload_n 0, 1, .int 0, 0, 0, 0, []), (46, .getfield 19, 3, .ref 0, 12, 4, 151, []), (49, .iload_n 1, 1, .int 0, 0, 0, 0, []), (50, .iaload, 1, .int 0, 0, 0, 0, []), (51, .imul, 1, .int 0, 0, 0, 0, []), (52, .aload_n 0, 1, .int 0, 0, 0, 0, []), (53, .getfield 19, 3, .ref 0, 12, 4, 151, []), (56, .iload_n 2, 1, .int 0, 0, 0, 0, []), (57, .iaload, 1, .int 0, 0, 0, 0, []), (58, .imul, 1, .int 0, 0, 0, 0, []), (59, .isub, 1, .int 0, 0, 0, 0, []), (60, .istore 5, 2, .int 0, 0, 0, 0, []), (62, .iload 4, 2, .int 0, 0, 0, 0, []), (64, .iload 5, 2, .int 0, 0, 0, 0, []), (66, .if_icmp .lt 15, 3, .int 0, 81, 0, 0, []), (69, .iload 4, 2, .int 0, 0, 0, 0, []), (71, .iload 5, 2, .int 0, 0, 0, 0, []), (73, .if_icmp .ne 12, 3, .int 0, 85, 0, 0, []), (76, .iload_n 1, 1, .int 0, 0, 0, 0, []), (77, .iload_n 2, 1, .int 0, 0, 0, 0, []), (78, .if_icmp .ge 7, 3, .int 0, 85, 0, 0, []), (81, .iconst 1, 1, .int 1, 0, 0, 0, []), (82, .goto 4, 3, .int 0, 86, 0, 0, []), (85, .iconst 0, 1, .int 0, 0, 0, 0, []), (86, .ireturn, 1, .int 0, 0, 0, 0, [])]
set_option maxRecDepth 100000 in
theorem okX12_isAhead : codeOk 190 kX12_isAhead := ⟨_, rfl, by decide +kernel⟩
def kX12_allWealth : List AI := [(0, .iconst 0, 1, .int 0, 0, 0, 0, []), (1, .istore_n 1, 1, .int 0, 0, 0, 0, []), (2, .iconst 0, 1, .int 0, 0, 0, 0, []), (3, .istore_n 2, 1, .int 0, 0, 0, 0, []), (4, .iload_n 2, 1, .int 0, 0, 0, 0, []), (5, .aload_n 0, 1, .int 0, 0, 0, 0, []), (6, .getfield 9, 3, .ref 0, 12, 1, 148, []), (9, .iconst 1, 1, .int 1, 0, 0, 0, []), (10, .iaload, 1, .int 0, 0, 0, 0, []), (11, .if_icmp .ge 18, 3, .int 0, 29, 0, 0, []), (14, .iload_n 1, 1, .int 0, 0, 0, 0, []), (15, .aload_n 0, 1, .int 0, 0, 0, 0, []), (16, .getfield 16, 3, .ref 0, 12, 3, 150, []), (19, .iload_n 2, 1, .int 0, 0, 0, 0, []), (20, .iaload, 1, .int 0, 0, 0, 0, []), (21, .iadd, 1, .int 0, 0, 0, 0, []), (22, .istore_n 1, 1, .int 0, 0, 0, 0, []), (23, .iinc 2 1, 3, .int 1, 0, 0, 0, []), (26, .goto (-22), 3, .int 0, 4, 0, 0, []), (29, .iload_n 1, 1, .int 0, 0, 0, 0, []), (30, .ireturn, 1, .int 0, 0, 0, 0, [])]
set_option maxRecDepth 100000 in
theorem okX12_allWealth : codeOk 191 kX12_allWealth := ⟨_, rfl, by decide +kernel⟩
def kX12_rivals : List AI := [(0, .iconst 0, 1, .int 0, 0, 0, 0, []), (1, .istore_n 3, 1, .int 0, 0, 0, 0, []), (2, .iconst 0, 1, .int 0, 0, 0, 0, []), (3, .istore 4, 2, .int 0, 0, 0, 0, []), (5, .iload 4, 2, .int 0, 0, 0, 0, []), (7, .iload_n 1, 1, .int 0, 0, 0, 0, []), (8, .if_icmp .ge 28, 3, .int 0, 36, 0, 0, []), (11, .iload_n 3, 1, .int 0, 0, 0, 0, []), (12, .aload_n 0, 1, .int 0, 0, 0, 0, []), (13, .getfield 106, 3, .ref 0, 12, 41, 188, []), (16, .iload 4, 2, .int 0, 0, 0, 0, []), (18, .iaload, 1, .int 0, 0, 0, 0, []), (19, .iload_n 2, 1, .int 0, 0, 0, 0, []), (20, .if_icmp .ne 7, 3, .int 0, 27, 0, 0, []), (23, .iconst 1, 1, .int 1, 0, 0, 0, []), (24, .goto 4, 3, .int 0, 28, 0, 0, []), (27, .iconst 0, 1, .int 0, 0, 0, 0, []), (28, .iadd, 1, .int 0, 0, 0, 0, []), (29, .istore_n 3, 1, .int 0, 0, 0, 0, []), (30, .iinc 4 1, 3, .int 1, 0, 0, 0, []), (33, .goto (-28), 3, .int 0, 5, 0, 0, []), (36, .iload_n 3, 1, .int 0, 0, 0, 0, []), (37, .ireturn, 1, .int 0, 0, 0, 0, [])]
set_option maxRecDepth 100000 in
theorem okX12_rivals : codeOk 192 kX12_rivals := ⟨_, rfl, by decide +kernel⟩
def kX12_lead : List AI := [(0, .sipush (-1000), 3, .int (-1000), 0, 0, 0, []), (3, .istore_n 2, 1, .int 0, 0, 0, 0, []), (4, .iconst 0, 1, .int 0, 0, 0, 0, []), (5, .istore_n 3, 1, .int 0, 0, 0, 0, []), (6, .iload_n 3, 1, .int 0, 0, 0, 0, []), (7, .aload_n 0, 1, .int 0, 0, 0, 0, []), (8, .getfield 9, 3, .ref 0, 12, 1, 148, []), (11, .iconst 1, 1, .int 1, 0, 0, 0, []), (12, .iaload, 1, .int 0, 0, 0, 0, []), (13, .if_icmp .ge 35, 3, .int 0, 48, 0, 0, []), (16, .iload_n 3, 1, .int 0, 0, 0, 0, []), (17, .iload_n 1, 1, .int 0, 0, 0, 0, []), (18, .if_icmp .eq 22, 3, .int 0, 40, 0, 0, []), (21, .aload_n 0, 1, .int 0, 0, 0, 0, []), (22, .getfield 13, 3, .ref 0, 12, 2, 149, []), (25, .iload_n 3, 1, .int 0, 0, 0, 0, []), (26, .iaload, 1, .int 0, 0, 0, 0, []), (27, .iload_n 2, 1, .int 0, 0, 0, 0, []), (28, .if_icmp .le 12, 3, .int 0, 40, 0, 0, []), (31, .aload_n 0, 1, .int 0, 0, 0, 0, []), (32, .getfield 13, 3, .ref 0, 12, 2, 149, []), (35, .iload_n 3, 1, .int 0, 0, 0, 0, []), (36, .iaload, 1, .int 0, 0, 0, 0, []), (37, .goto 4, 3, .int 0, 41, 0, 0, []), (40, .iload_n 2, 1, .int 0, 0, 0, 0, []), (41, .istore_n 2, 1, .int 0, 0, 0, 0, []), (42, .iinc 3 1, 3, .int 1, 0, 0, 0, []), (45, .goto (-39), 3, .int 0, 6, 0, 0, []), (48, .iload_n 2, 1, .int 0, 0, 0, 0, []), (49, .sipush (-1000), 3, .int (-1000), 0, 0, 0, []), (52, .if_icmp .ne 7, 3, .int 0, 59, 0, 0, []), (55, .iconst 0, 1, .int 0, 0, 0, 0, []), (56, .goto 11, 3, .int 0, 67, 0, 0, []), (59, .aload_n 0, 1, .int 0, 0, 0, 0, []), (60, .getfield 13, 3, .ref 0, 12, 2, 149, []), (63, .iload_n 1, 1, .int 0, 0, 0, 0, []), (64, .iaload, 1, .int 0, 0, 0, 0, []), (65, .iload_n 2, 1, .int 0, 0, 0, 0, []), (66, .isub, 1, .int 0, 0, 0, 0, []), (67, .ireturn, 1, .int 0, 0, 0, 0, [])]
set_option maxRecDepth 100000 in
theorem okX12_lead : codeOk 193 kX12_lead := ⟨_, rfl, by decide +kernel⟩
def kX12_likes : List AI := [(0, .aload_n 0, 1, .int 0, 0, 0, 0, []), (1, .getfield 9, 3, .ref 0, 12, 1, 148, []), (4, .bipush 6, 2, .int 6, 0, 0, 0, []), (6, .iaload, 1, .int 0, 0, 0, 0, []), (7, .iconst (-1), 1, .int (-1), 0, 0, 0, []), (8, .if_icmp .ne 11, 3, .int 0, 19, 0, 0, []), (11, .aload_n 0, 1, .int 0, 0, 0, 0, []), (12, .getfield 28, 3, .ref 0, 12, 7, 154, []), (15, .iload_n 2, 1, .int 0, 0, 0, 0, []), (16, .iaload, 1, .int 0, 0, 0, 0, []), (17, .i2l, 1, .int 0, 0, 0, 0, []), (18, .lreturn, 1, .int 0, 0, 0, 0, []), (19, .aload_n 0, 1, .int 0, 0, 0, 0, []), (20, .getfield 99, 3, .ref 0, 12, 39, 186, []), (23, .iconst 0, 1, .int 0, 0, 0, 0, []), (24, .iload_n 1, 1, .int 0, 0, 0, 0, []), (25, .i2l, 1, .int 0, 0, 0, 0, []), (26, .lastore, 1, .int 0, 0, 0, 0, []), (27, .aload_n 0, 1, .int 0, 0, 0, 0, []), (28, .getfield 99, 3, .ref 0, 12, 39, 186, []), (31, .iconst 1, 1, .int 1, 0, 0, 0, []), (32, .iload_n 2, 1, .int 0, 0, 0, 0, []), (33, .i2l, 1, .int 0, 0, 0, 0, []), (34, .lastore, 1, .int 0, 0, 0, 0, []), (35, .aload_n 0, 1, .int 0, 0, 0, 0, []), (36, .getfield 99, 3, .ref 0, 12, 39, 186, []), (39, .iconst 2, 1, .int 2, 0, 0, 0, []), (40, .aload_n 0, 1, .int 0, 0, 0, 0, []), (41, .getfield 19, 3, .ref 0, 12, 4, 151, []), (44, .iload_n 1, 1, .int 0, 0, 0, 0, []), (45, .iaload, 1, .int 0, 0, 0, 0, []), (46, .i2l, 1, .int 0, 0, 0, 0, []), (47, .lastore, 1, .int 0, 0, 0, 0, []), (48, .aload_n 0, 1, .int 0, 0, 0, 0, []), (49, .getfield 99, 3, .ref 0, 12, 39, 186, []), (52, .iconst 3, 1, .int 3, 0, 0, 0, []), (53, .aload_n 0, 1, .int 0, 0, 0, 0, []), (54, .getfield 13, 3, .ref 0, 12, 2, 149, []), (57, .iload_n 1, 1, .int 0, 0, 0, 0, []), (58, .iaload, 1, .int 0, 0, 0, 0, []), (59, .i2l, 1, .int 0, 0, 0, 0, []), (60, .lastore, 1, .int 0, 0, 0, 0, []), (61, .aload_n 0, 1, .int 0, 0, 0, 0, []), (62, .getfield 99, 3, .ref 0, 12, 39, 186, []), (65, .iconst 4, 1, .int 4, 0, 0, 0, []), (66, .aload_n 0, 1, .int 0, 0, 0, 0, []), (67, .getfield 22, 3, .ref 0, 12, 5, 152, []), (70, .iload_n 2, 1, .int 0, 0, 0, 0, []), (71, .iaload, 1, .int 0, 0, 0, 0, []), (72, .i2l, 1, .int 0, 0, 0, 0, []), (73, .lastore, 1, .int 0, 0, 0, 0, []), (74, .aload_n 0, 1, .int 0, 0, 0, 0, []), (75, .getfield 99, 3, .ref 0, 12, 39, 186, []), (78, .iconst 5, 1, .int 5, 0, 0, 0, []), (79, .aload_n 0, 1, .int 0, 0, 0, 0, []), (80, .getfield 28, 3, .ref 0, 12, 7, 154, []), (83, .iload_n 2, 1, .int 0, 0, 0, 0, []), (84, .iaload, 1, .int 0, 0, 0, 0, []), (85, .i2l, 1, .int 0, 0, 0, 0, []), (86, .lastore, 1, .int 0, 0, 0, 0, []), (87, .aload_n 0, 1, .int 0, 0, 0, 0, []), (88, .getfield 99, 3, .ref 0, 12, 39, 186, []), (91, .bipush 6, 2, .int 6, 0, 0, 0, []), (93, .aload_n 0, 1, .int 0, 0, 0, 0, []), (94, .iload_n 1, 1, .int 0, 0, 0, 0, []), (95, .iload_n 2, 1, .int 0, 0, 0, 0, []), (96, .invokevirtual 357, 3, .int 0, 192, 3, 220, [(0, 12), (0, 1)]), (99, .i2l, 1, .int 0, 0, 0, 0, []), (100, .lastore, 1, .int 0, 0, 0, 0, []), (101, .aload_n 0, 1, .int 0, 0, 0, 0, []), (102, .getfield 99, 3, .ref 0, 12, 39, 186, []), (105, .bipush 7, 2, .int 7, 0, 0, 0, []), (107, .aload_n 0, 1, .int 0, 0, 0, 0, []), (108, .getfield 22, 3, .ref 0, 12, 5, 152, []), (111, .iload_n 2, 1, .int 0, 0, 0, 0, []), (112, .iaload, 1, .int 0, 0, 0, 0, []), (113, .aload_n 0, 1, .int 0, 0, 0, 0, []), (114, .getfield 19, 3, .ref 0, 12, 4, 151, []), (117, .iload_n 1, 1, .int 0, 0, 0, 0, []), (118, .iaload, 1, .int 0, 0, 0, 0, []), (119, .idiv, 1, .int 0, 0, 0, 0, []), (120, .i2l, 1, .int 0, 0, 0, 0, []), (121, .lastore, 1, .int 0, 0, 0, 0, []), (122, .aload_n 0, 1, .int 0, 0, 0, 0, []), (123, .getfield 99, 3, .ref 0, 12, 39, 186, []), (126, .bipush 8, 2, .int 8, 0, 0, 0, []), (128, .aload_n 0, 1, .int 0, 0, 0, 0, []), (129, .iload_n 1, 1, .int 0, 0, 0, 0, []), (130, .invokevirtual 359, 3, .int 0, 193, 2, 221, [(0, 12), (0, 1)]), (133, .i2l, 1, .int 0, 0, 0, 0, []), (134, .lastore, 1, .int 0, 0, 0, 0, []), (135, .aload_n 0, 1, .int 0, 0, 0, 0, []), (136, .getfield 99, 3, .ref 0, 12, 39, 186, []), (139, .bipush 9, 2, .int 9, 0, 0, 0, []), (141, .aload_n 0, 1, .int 0, 0, 0, 0, []), (142, .getfield 16, 3, .ref 0, 12, 3, 150, []), (145, .iload_n 1, 1, .int 0, 0, 0, 0, []), (146, .iaload, 1, .int 0, 0, 0, 0, []), (147, .i2l, 1, .int 0, 0, 0, 0, []), (148, .lastore, 1, .int 0, 0, 0, 0, []), (149, .aload_n 0, 1, .int 0, 0, 0, 0, []), (150, .getfield 99, 3, .ref 0, 12, 39, 186, []), (153, .bipush 10, 2, .int 10, 0, 0, 0, []), (155, .aload_n 0, 1, .int 0, 0, 0, 0, []), (156, .getfield 9, 3, .ref 0, 12, 1, 148, []), (159, .iconst 0, 1, .int 0, 0, 0, 0, []), (160, .iaload, 1, .int 0, 0, 0, 0, []), (161, .iconst 1, 1, .int 1, 0, 0, 0, []), (162, .isub, 1, .int 0, 0, 0, 0, []), (163, .aload_n 0, 1, .int 0, 0, 0, 0, []), (164, .getfield 9, 3, .ref 0, 12, 1, 148, []), (167, .iconst 3, 1, .int 3, 0, 0, 0, []), (168, .iaload, 1, .int 0, 0, 0, 0, []), (169, .aload_n 0, 1, .int 0, 0, 0, 0, []), (170, .getfield 9, 3, .ref 0, 12, 1, 148, []), (173, .iconst 0, 1, .int 0, 0, 0, 0, []), (174, .iaload, 1, .int 0, 0, 0, 0, []), (175, .irem, 1, .int 0, 0, 0, 0, []), (176, .isub, 1, .int 0, 0, 0, 0, []), (177, .i2l, 1, .int 0, 0, 0, 0, []), (178, .lastore, 1, .int 0, 0, 0, 0, []), (179, .aload_n 0, 1, .int 0, 0, 0, 0, []), (180, .getfield 99, 3, .ref 0, 12, 39, 186, []), (183, .bipush 11, 2, .int 11, 0, 0, 0, []), (185, .aload_n 0, 1, .int 0, 0, 0, 0, []), (186, .getfield 9, 3, .ref 0, 12, 1, 148, []), (189, .iconst 3, 1, .int 3, 0, 0, 0, []), (190, .iaload, 1, .int 0, 0, 0, 0, []), (191, .i2l, 1, .int 0, 0, 0, 0, []), (192, .lastore, 1, .int 0, 0, 0, 0, []), (193, .aload_n 0, 1, .int 0, 0, 0, 0, []), (194, .invokevirtual 361, 3, .int 0, 183, 1, 222, [(0, 12), (0, 2)]), (197, .lreturn, 1, .int 0, 0, 0, 0, [])]
set_option maxRecDepth 100000 in
theorem okX12_likes : codeOk 194 kX12_likes := ⟨_, rfl, by decide +kernel⟩
def kX12_choice : List AI := [(0, .aload_n 0, 1, .int 0, 0, 0, 0, []), (1, .getfield 109, 3, .ref 0, 12, 42, 189, []), (4, .iload_n 1, 1, .int 0, 0, 0, 0, []), (5, .iaload, 1, .int 0, 0, 0, 0, []), (6, .bipush (-5), 2, .int (-5), 0, 0, 0, []), (8, .if_icmp .eq 10, 3, .int 0, 18, 0, 0, []), (11, .aload_n 0, 1, .int 0, 0, 0, 0, []), (12, .getfield 109, 3, .ref 0, 12, 42, 189, []), (15, .iload_n 1, 1, .int 0, 0, 0, 0, []), (16, .iaload, 1, .int 0, 0, 0, 0, []), (17, .ireturn, 1, .int 0, 0, 0, 0, []), (18, .iconst (-1), 1, .int (-1), 0, 0, 0, []), (19, .istore_n 2, 1, .int 0, 0, 0, 0, []), (20, .lconst 0, 1, .long 0, 0, 0, 0, []), (21, .lstore_n 3, 1, .int 0, 0, 0, 0, []), (22, .iconst 0, 1, .int 0, 0, 0, 0, []), (23, .istore 5, 2, .int 0, 0, 0, 0, []), (25, .iload 5, 2, .int 0, 0, 0, 0, []), (27, .aload_n 0, 1, .int 0, 0, 0, 0, []), (28, .getfield 9, 3, .ref 0, 12, 1, 148, []), (31, .iconst 2, 1, .int 2, 0, 0, 0, []), (32, .iaload, 1, .int 0, 0, 0, 0, []), (33, .if_icmp .ge 40, 3, .int 0, 73, 0, 0, []), (36, .aload_n 0, 1, .int 0, 0, 0, 0, []), (37, .iload 5, 2, .int 0, 0, 0, 0, []), (39, .invokevirtual 354, 3, .int 0, 187, 2, 209, [(0, 12), (0, 1)]), (42, .ifCond .eq 25, 3, .int 0, 67, 0, 0, []), (45, .aload_n 0, 1, .int 0, 0, 0, 0, []), (46, .iload_n 1, 1, .int 0, 0, 0, 0, []), (47, .iload 5, 2, .int 0, 0, 0, 0, []), (49, .invokevirtual 365, 3, .int 0, 194, 3, 219, [(0, 12), (0, 2)]), (52, .lstore 6, 2, .int 0, 0, 0, 0, []), (54, .lload 6, 2, .int 0, 0, 0, 0, []), (56, .lload_n 3, 1, .int 0, 0, 0, 0, []), (57, .lcmp, 1, .int 0, 0, 0, 0, []), (58, .ifCond .le 9, 3, .int 0, 67, 0, 0, []), (61, .iload 5, 2, .int 0, 0, 0, 0, []), (63, .istore_n 2, 1, .int 0, 0, 0, 0, []), (64, .lload 6, 2, .int 0, 0, 0, 0, []), (66, .lstore_n 3, 1, .int 0, 0, 0, 0, []), (67, .iinc 5 1, 3, .int 1, 0, 0, 0, []), (70, .goto (-45), 3, .int 0, 25, 0, 0, []), (73, .iload_n 2, 1, .int 0, 0, 0, 0, []), (74, .ireturn, 1, .int 0, 0, 0, 0, [])]
set_option maxRecDepth 100000 in
theorem okX12_choice : codeOk 195 kX12_choice := ⟨_, rfl, by decide +kernel⟩
def kX12_firstTo : List AI := [(0, .iconst (-1), 1, .int (-1), 0, 0, 0, []), (1, .istore_n 2, 1, .int 0, 0, 0, 0, []), (2, .iconst 0, 1, .int 0, 0, 0, 0, []), (3, .istore_n 3, 1, .int 0, 0, 0, 0, []), (4, .iload_n 3, 1, .int 0, 0, 0, 0, []), (5, .aload_n 0, 1, .int 0, 0, 0, 0, []), (6, .getfield 9, 3, .ref 0, 12, 1, 148, []), (9, .iconst 1, 1, .int 1, 0, 0, 0, []), (10, .iaload, 1, .int 0, 0, 0, 0, []), (11, .if_icmp .ge 41, 3, .int 0, 52, 0, 0, []), (14, .aload_n 0, 1, .int 0, 0, 0, 0, []), (15, .getfield 106, 3, .ref 0, 12, 41, 188, []), (18, .iload_n 3, 1, .int 0, 0, 0, 0, []), (19, .iaload, 1, .int 0, 0, 0, 0, []), (20, .iload_n 1, 1, .int 0, 0, 0, 0, []), (21, .if_icmp .ne 25, 3, .int 0, 46, 0, 0, []), (24, .iload_n 2, 1, .int 0, 0, 0, 0, []), (25, .iconst (-1), 1, .int (-1), 0, 0, 0, []), (26, .if_icmp .eq 18, 3, .int 0, 44, 0, 0, []), (29, .aload_n 0, 1, .int 0, 0, 0, 0, []), (30, .iload_n 3, 1, .int 0, 0, 0, 0, []), (31, .iload_n 2, 1, .int 0, 0, 0, 0, []), (32, .aload_n 0, 1, .int 0, 0, 0, 0, []), (33, .getfield 22, 3, .ref 0, 12, 5, 152, []), (36, .iload_n 1, 1, .int 0, 0, 0, 0, []), (37, .iaload, 1, .int 0, 0, 0, 0, []), (38, .invokevirtual 369, 3, .int 0, 190, 4, 227, [(0, 12), (0, 1)]), (41, .ifCond .eq 5, 3, .int 0, 46, 0, 0, []), (44, .iload_n 3, 1, .int 0, 0, 0, 0, []), (45, .istore_n 2, 1, .int 0, 0, 0, 0, []), (46, .iinc 3 1, 3, .int 1, 0, 0, 0, []), (49, .goto (-45), 3, .int 0, 4, 0, 0, []), (52, .iload_n 2, 1, .int 0, 0, 0, 0, []), (53, .ireturn, 1, .int 0, 0, 0, 0, [])]
set_option maxRecDepth 100000 in
theorem okX12_firstTo : codeOk 196 kX12_firstTo := ⟨_, rfl, by decide +kernel⟩
def kX12_pays : List AI := [(0, .aload_n 0, 1, .int 0, 0, 0, 0, []), (1, .getfield 25, 3, .ref 0, 12, 6, 153, []), (4, .iload_n 1, 1, .int 0, 0, 0, 0, []), (5, .iaload, 1, .int 0, 0, 0, 0, []), (6, .istore_n 2, 1, .int 0, 0, 0, 0, []), (7, .iconst 0, 1, .int 0, 0, 0, 0, []), (8, .istore_n 3, 1, .int 0, 0, 0, 0, []), (9, .iload_n 3, 1, .int 0, 0, 0, 0, []), (10, .aload_n 0, 1, .int 0, 0, 0, 0, []), (11, .getfield 9, 3, .ref 0, 12, 1, 148, []), (14, .iconst 1, 1, .int 1, 0, 0, 0, []), (15, .iaload, 1, .int 0, 0, 0, 0, []), (16, .if_icmp .ge 71, 3, .int 0, 87, 0, 0, []), (19, .iload_n 2, 1, .int 0, 0, 0, 0, []), (20, .iconst (-1), 1, .int (-1), 0, 0, 0, []), (21, .if_icmp .eq 66, 3, .int 0, 87, 0, 0, []), (24, .iload_n 3, 1, .int 0, 0, 0, 0, []), (25, .iload_n 2, 1, .int 0, 0, 0, 0, []), (26, .if_icmp .eq 55, 3, .int 0, 81, 0, 0, []), (29, .aload_n 0, 1, .int 0, 0, 0, 0, []), (30, .getfield 106, 3, .ref 0, 12, 41, 188, []), (33, .iload_n 3, 1, .int 0, 0, 0, 0, []), (34, .iaload, 1, .int 0, 0, 0, 0, []), (35, .iload_n 1, 1, .int 0, 0, 0, 0, []), (36, .if_icmp .ne 45, 3, .int 0, 81, 0, 0, []), (39, .aload_n 0, 1, .int 0, 0, 0, 0, []), (40, .getfield 13, 3, .ref 0, 12, 2, 149, []), (43, .iload_n 2, 1, .int 0, 0, 0, 0, []), (44, .iaload, 1, .int 0, 0, 0, 0, []), (45, .bipush (-99), 2, .int (-99), 0, 0, 0, []), (47, .if_icmp .le 34, 3, .int 0, 81, 0, 0, []), (50, .aload_n 0, 1, .int 0, 0, 0, 0, []), (51, .getfield 13, 3, .ref 0, 12, 2, 149, []), (54, .iload_n 3, 1, .int 0, 0, 0, 0, []), (55, .iaload, 1, .int 0, 0, 0, 0, []), (56, .bipush 99, 2, .int 99, 0, 0, 0, []), (58, .if_icmp .ge 23, 3, .int 0, 81, 0, 0, []), (61, .aload_n 0, 1, .int 0, 0, 0, 0, []), (62, .getfield 13, 3, .ref 0, 12, 2, 149, []), (65, .iload_n 2, 1, .int 0, 0, 0, 0, []), (66, .dup2, 1, .int 0, 0, 0, 0, []), (67, .iaload, 1, .int 0, 0, 0, 0, []), (68, .iconst 1, 1, .int 1, 0, 0, 0, []), (69, .isub, 1, .int 0, 0, 0, 0, []), (70, .iastore, 1, .int 0, 0, 0, 0, []), (71, .aload_n 0, 1, .int 0, 0, 0, 0, []), (72, .getfield 13, 3, .ref 0, 12, 2, 149, []), (75, .iload_n 3, 1, .int 0, 0, 0, 0, []), (76, .dup2, 1, .int 0, 0, 0, 0, []), (77, .iaload, 1, .int 0, 0, 0, 0, []), (78, .iconst 1, 1, .int 1, 0, 0, 0, []), (79, .iadd, 1, .int 0, 0, 0, 0, []), (80, .iastore, 1, .int 0, 0, 0, 0, []), (81, .iinc 3 1, 3, .int 1, 0, 0, 0, []), (84, .goto (-75), 3, .int 0, 9, 0, 0, []), (87, .return_, 1, .int 0, 0, 0, 0, [])]
set_option maxRecDepth 100000 in
theorem okX12_pays : codeOk 197 kX12_pays := ⟨_, rfl, by decide +kernel⟩
def kX12_goes : List AI := [(0, .iconst 0, 1, .int 0, 0, 0, 0, []), (1, .istore_n 1, 1, .int 0, 0, 0, 0, []), (2, .iconst 0, 1, .int 0, 0, 0, 0, []), (3, .istore_n 2, 1, .int 0, 0, 0, 0, []), (4, .iload_n 2, 1, .int 0, 0, 0, 0, []), (5, .aload_n 0, 1, .int 0, 0, 0, 0, []), (6, .getfield 9, 3, .ref 0, 12, 1, 148, []), (9, .iconst 1, 1, .int 1, 0, 0, 0, []), (10, .iaload, 1, .int 0, 0, 0, 0, []), (11, .if_icmp .ge 20, 3, .int 0, 31, 0, 0, []), (14, .aload_n 0, 1, .int 0, 0, 0, 0, []), (15, .getfield 106, 3, .ref 0, 12, 41, 188, []), (18, .iload_n 2, 1, .int 0, 0, 0, 0, []), (19, .aload_n 0, 1, .int 0, 0, 0, 0, []), (20, .iload_n 2, 1, .int 0, 0, 0, 0, []), (21, .invokevirtual 373, 3, .int 0, 195, 2, 218, [(0, 12), (0, 1)]), (24, .iastore, 1, .int 0, 0, 0, 0, []), (25, .iinc 2 1, 3, .int 1, 0, 0, 0, []), (28, .goto (-24), 3, .int 0, 4, 0, 0, []), (31, .iconst 0, 1, .int 0, 0, 0, 0, []), (32, .istore_n 2, 1, .int 0, 0, 0, 0, []), (33, .iload_n 2, 1, .int 0, 0, 0, 0, []), (34, .aload_n 0, 1, .int 0, 0, 0, 0, []), (35, .getfield 9, 3, .ref 0, 12, 1, 148, []), (38, .iconst 2, 1, .int 2, 0, 0, 0, []), (39, .iaload, 1, .int 0, 0, 0, 0, []), (40, .if_icmp .ge 80, 3, .int 0, 120, 0, 0, []), (43, .aload_n 0, 1, .int 0, 0, 0, 0, []), (44, .getfield 25, 3, .ref 0, 12, 6, 153, []), (47, .iload_n 2, 1, .int 0, 0, 0, 0, []), (48, .aload_n 0, 1, .int 0, 0, 0, 0, []), (49, .iload_n 2, 1, .int 0, 0, 0, 0, []), (50, .invokevirtual 376, 3, .int 0, 196, 2, 226, [(0, 12), (0, 1)]), (53, .iastore, 1, .int 0, 0, 0, 0, []), (54, .aload_n 0, 1, .int 0, 0, 0, 0, []), (55, .getfield 25, 3, .ref 0, 12, 6, 153, []), (58, .iload_n 2, 1, .int 0, 0, 0, 0, []), (59, .iaload, 1, .int 0, 0, 0, 0, []), (60, .iconst (-1), 1, .int (-1), 0, 0, 0, []), (61, .if_icmp .eq 53, 3, .int 0, 114, 0, 0, []), (64, .iload_n 1, 1, .int 0, 0, 0, 0, []), (65, .iconst 1, 1, .int 1, 0, 0, 0, []), (66, .iload_n 2, 1, .int 0, 0, 0, 0, []), (67, .ishl, 1, .int 0, 0, 0, 0, []), (68, .ior, 1, .int 0, 0, 0, 0, []), (69, .istore_n 1, 1, .int 0, 0, 0, 0, []), (70, .aload_n 0, 1, .int 0, 0, 0, 0, []), (71, .getfield 16, 3, .ref 0, 12, 3, 150, []), (74, .aload_n 0, 1, .int 0, 0, 0, 0, []), (75, .getfield 25, 3, .ref 0, 12, 6, 153, []), (78, .iload_n 2, 1, .int 0, 0, 0, 0, []), (79, .iaload, 1, .int 0, 0, 0, 0, []), (80, .iaload, 1, .int 0, 0, 0, 0, []), (81, .aload_n 0, 1, .int 0, 0, 0, 0, []), (82, .getfield 28, 3, .ref 0, 12, 7, 154, []), (85, .iload_n 2, 1, .int 0, 0, 0, 0, []), (86, .iaload, 1, .int 0, 0, 0, 0, []), (87, .iadd, 1, .int 0, 0, 0, 0, []), (88, .istore_n 3, 1, .int 0, 0, 0, 0, []), (89, .aload_n 0, 1, .int 0, 0, 0, 0, []), (90, .getfield 16, 3, .ref 0, 12, 3, 150, []), (93, .aload_n 0, 1, .int 0, 0, 0, 0, []), (94, .getfield 25, 3, .ref 0, 12, 6, 153, []), (97, .iload_n 2, 1, .int 0, 0, 0, 0, []), (98, .iaload, 1, .int 0, 0, 0, 0, []), (99, .iload_n 3, 1, .int 0, 0, 0, 0, []), (100, .sipush 9999, 3, .int 9999, 0, 0, 0, []), (103, .if_icmp .le 9, 3, .int 0, 112, 0, 0, []), (106, .sipush 9999, 3, .int 9999, 0, 0, 0, []), (109, .goto 4, 3, .int 0, 113, 0, 0, []), (112, .iload_n 3, 1, .int 0, 0, 0, 0, []), (113, .iastore, 1, .int 0, 0, 0, 0, []), (114, .iinc 2 1, 3, .int 1, 0, 0, 0, []), (117, .goto (-84), 3, .int 0, 33, 0, 0, []), (120, .iconst 0, 1, .int 0, 0, 0, 0, []), (121, .istore_n 2, 1, .int 0, 0, 0, 0, []), (122, .iload_n 2, 1, .int 0, 0, 0, 0, []), (123, .aload_n 0, 1, .int 0, 0, 0, 0, []), (124, .getfield 9, 3, .ref 0, 12, 1, 148, []), (127, .iconst 2, 1, .int 2, 0, 0, 0, []), (128, .iaload, 1, .int 0, 0, 0, 0, []), (129, .if_icmp .ge 14, 3, .int 0, 143, 0, 0, []), (132, .aload_n 0, 1, .int 0, 0, 0, 0, []), (133, .iload_n 2, 1, .int 0, 0, 0, 0, []), (134, .invokevirtual 379, 3, .int 0, 197, 2, 228, [(0, 12), (0, 0)]), (137, .iinc 2 1, 3, .int 1, 0, 0, 0, []), (140, .goto (-18), 3, .int 0, 122, 0, 0, []), (143, .aload_n 0, 1, .int 0, 0, 0, 0, []), (144, .getfield 9, 3, .ref 0, 12, 1, 148, []), (147, .iconst 3, 1, .int 3, 0, 0, 0, []), (148, .iaload, 1, .int 0, 0, 0, 0, []), (149, .aload_n 0, 1, .int 0, 0, 0, 0, []), (150, .getfield 9, 3, .ref 0, 12, 1, 148, []), (153, .iconst 0, 1, .int 0, 0, 0, 0, []), (154, .iaload, 1, .int 0, 0, 0, 0, []), (155, .irem, 1, .int 0, 0, 0, 0, []), (156, .aload_n 0, 1, .int 0, 0, 0, 0, []), (157, .getfield 9, 3, .ref 0, 12, 1, 148, []), (160, .iconst 0, 1, .int 0, 0, 0, 0, []), (161, .iaload, 1, .int 0, 0, 0, 0, []), (162, .iconst 1, 1, .int 1, 0, 0, 0, []), (163, .isub, 1, .int 0, 0, 0, 0, []), (164, .if_icmp .ne 23, 3, .int 0, 187, 0, 0, []), (167, .iconst 0, 1, .int 0, 0, 0, 0, []), (168, .istore_n 2, 1, .int 0, 0, 0, 0, []), (169, .iload_n 2, 1, .int 0, 0, 0, 0, []), (170, .iconst 5, 1, .int 5, 0, 0, 0, []), (171, .if_icmp .ge 16, 3, .int 0, 187, 0, 0, []), (174, .aload_n 0, 1, .int 0, 0, 0, 0, []), (175, .getfield 13, 3, .ref 0, 12, 2, 149, []), (178, .iload_n 2, 1, .int 0, 0, 0, 0, []), (179, .iconst 0, 1, .int 0, 0, 0, 0, []), (180, .iastore, 1, .int 0, 0, 0, 0, []), (181, .iinc 2 1, 3, .int 1, 0, 0, 0, []), (184, .goto (-15), 3, .int 0, 169, 0, 0, []), (187, .aload_n 0, 1, .int 0, 0, 0, 0, []), (188, .getfield 9, 3, .ref 0, 12, 1, 148, []), (191, .iconst 3, 1, .int 3, 0, 0, 0, []), (192, .dup2, 1, .int 0, 0, 0, 0, []), (193, .iaload, 1, .int 0, 0, 0, 0, []), (194, .iconst 1, 1, .int 1, 0, 0, 0, []), (195, .iadd, 1, .int 0, 0, 0, 0, []), (196, .iastore, 1, .int 0, 0, 0, 0, []), (197, .iload_n 1, 1, .int 0, 0, 0, 0, []), (198, .ireturn, 1, .int 0, 0, 0, 0, [])]
set_option maxRecDepth 100000 in
theorem okX12_goes : codeOk 198 kX12_goes := ⟨_, rfl, by decide +kernel⟩
def kX12_goFor : List AI := [(0, .iconst 0, 1, .int 0, 0, 0, 0, []), (1, .istore_n 2, 1, .int 0, 0, 0, 0, []), (2, .iload_n 2, 1, .int 0, 0, 0, 0, []), (3, .iload_n 1, 1, .int 0, 0, 0, 0, []), (4, .if_icmp .ge 14, 3, .int 0, 18, 0, 0, []), (7, .aload_n 0, 1, .int 0, 0, 0, 0, []), (8, .invokevirtual 382, 3, .int 0, 198, 1, 217, [(0, 12), (0, 1)]), (11, .pop, 1, .int 0, 0, 0, 0, []), (12, .iinc 2 1, 3, .int 1, 0, 0, 0, []), (15, .goto (-13), 3, .int 0, 2, 0, 0, []), (18, .return_, 1, .int 0, 0, 0, 0, [])]
set_option maxRecDepth 100000 in
theorem okX12_goFor : codeOk 199 kX12_goFor := ⟨_, rfl, by decide +kernel⟩
def kX12_moves : List AI := [(0, .aload_n 0, 1, .int 0, 0, 0, 0, []), (1, .getfield 385, 3, .int 0, 12, 47, 194, []), (4, .ifCond .eq 15, 3, .int 0, 19, 0, 0, []), (7, .aload_n 0, 1, .int 0, 0, 0, 0, []), (8, .getfield 112, 3, .ref 0, 12, 43, 190, []), (11, .aload_n 0, 1, .int 0, 0, 0, 0, []), (12, .getfield 389, 3, .int 0, 12, 46, 193, []), (15, .iaload, 1, .int 0, 0, 0, 0, []), (16, .goto 4, 3, .int 0, 20, 0, 0, []), (19, .iload_n 1, 1, .int 0, 0, 0, 0, []), (20, .istore_n 2, 1, .int 0, 0, 0, 0, []), (21, .aload_n 0, 1, .int 0, 0, 0, 0, []), (22, .getfield 112, 3, .ref 0, 12, 43, 190, []), (25, .aload_n 0, 1, .int 0, 0, 0, 0, []), (26, .getfield 389, 3, .int 0, 12, 46, 193, []), (29, .iload_n 2, 1, .int 0, 0, 0, 0, []), (30, .iastore, 1, .int 0, 0, 0, 0, []), (31, .aload_n 0, 1, .int 0, 0, 0, 0, []), (32, .dup, 1, .int 0, 0, 0, 0, []), (33, .getfield 389, 3, .int 0, 12, 46, 193, []), (36, .iconst 1, 1, .int 1, 0, 0, 0, []), (37, .iadd, 1, .int 0, 0, 0, 0, []), (38, .putfield 389, 3, .int 0, 12, 46, 193, []), (41, .iload_n 2, 1, .int 0, 0, 0, 0, []), (42, .ireturn, 1, .int 0, 0, 0, 0, [])]
set_option maxRecDepth 100000 in
theorem okX12_moves : codeOk 200 kX12_moves := ⟨_, rfl, by decide +kernel⟩
def kX12_movesRow : List AI := [(0, .iconst 0, 1, .int 0, 0, 0, 0, []), (1, .istore_n 2, 1, .int 0, 0, 0, 0, []), (2, .iload_n 2, 1, .int 0, 0, 0, 0, []), (3, .aload_n 1, 1, .int 0, 0, 0, 0, []), (4, .arraylength, 1, .int 0, 0, 0, 0, []), (5, .if_icmp .ge 19, 3, .int 0, 24, 0, 0, []), (8, .aload_n 1, 1, .int 0, 0, 0, 0, []), (9, .iload_n 2, 1, .int 0, 0, 0, 0, []), (10, .aload_n 0, 1, .int 0, 0, 0, 0, []), (11, .aload_n 1, 1, .int 0, 0, 0, 0, []), (12, .iload_n 2, 1, .int 0, 0, 0, 0, []), (13, .iaload, 1, .int 0, 0, 0, 0, []), (14, .invokevirtual 392, 3, .int 0, 200, 2, 212, [(0, 12), (0, 1)]), (17, .iastore, 1, .int 0, 0, 0, 0, []), (18, .iinc 2 1, 3, .int 1, 0, 0, 0, []), (21, .goto (-19), 3, .int 0, 2, 0, 0, []), (24, .return_, 1, .int 0, 0, 0, 0, [])]
set_option maxRecDepth 100000 in
theorem okX12_movesRow : codeOk 201 kX12_movesRow := ⟨_, rfl, by decide +kernel⟩
def kX12_movesAll : List AI := [(0, .aload_n 0, 1, .int 0, 0, 0, 0, []), (1, .bipush 28, 2, .int 28, 0, 0, 0, []), (3, .iload_n 1, 1, .int 0, 0, 0, 0, []), (4, .imul, 1, .int 0, 0, 0, 0, []), (5, .putfield 389, 3, .int 0, 12, 46, 193, []), (8, .aload_n 0, 1, .int 0, 0, 0, 0, []), (9, .iload_n 2, 1, .int 0, 0, 0, 0, []), (10, .putfield 385, 3, .long 0, 12, 47, 194, []), (13, .aload_n 0, 1, .int 0, 0, 0, 0, []), (14, .getfield 9, 3, .ref 0, 12, 1, 148, []), (17, .iconst 3, 1, .int 3, 0, 0, 0, []), (18, .aload_n 0, 1, .int 0, 0, 0, 0, []), (19, .aload_n 0, 1, .int 0, 0, 0, 0, []), (20, .getfield 9, 3, .ref 0, 12, 1, 148, []), (23, .iconst 3, 1, .int 3, 0, 0, 0, []), (24, .iaload, 1, .int 0, 0, 0, 0, []), (25, .invokevirtual 392, 3, .int 0, 200, 2, 212, [(0, 12), (0, 1)]), (28, .iastore, 1, .int 0, 0, 0, 0, []), (29, .aload_n 0, 1, .int 0, 0, 0, 0, []), (30, .aload_n 0, 1, .int 0, 0, 0, 0, []), (31, .getfield 13, 3, .ref 0, 12, 2, 149, []), (34, .invokevirtual 395, 3, .int 0, 201, 2, 213, [(0, 12), (0, 0)]), (37, .aload_n 0, 1, .int 0, 0, 0, 0, []), (38, .aload_n 0, 1, .int 0, 0, 0, 0, []), (39, .getfield 16, 3, .ref 0, 12, 3, 150, []), (42, .invokevirtual 395, 3, .int 0, 201, 2, 213, [(0, 12), (0, 0)]), (45, .aload_n 0, 1, .int 0, 0, 0, 0, []), (46, .aload_n 0, 1, .int 0, 0, 0, 0, []), (47, .getfield 19, 3, .ref 0, 12, 4, 151, []), (50, .invokevirtual 395, 3, .int 0, 201, 2, 213, [(0, 12), (0, 0)]), (53, .aload_n 0, 1, .int 0, 0, 0, 0, []), (54, .aload_n 0, 1, .int 0, 0, 0, 0, []), (55, .getfield 22, 3, .ref 0, 12, 5, 152, []), (58, .invokevirtual 395, 3, .int 0, 201, 2, 213, [(0, 12), (0, 0)]), (61, .aload_n 0, 1, .int 0, 0, 0, 0, []), (62, .aload_n 0, 1, .int 0, 0, 0, 0, []), (63, .getfield 25, 3, .ref 0, 12, 6, 153, []), (66, .invokevirtual 395, 3, .int 0, 201, 2, 213, [(0, 12), (0, 0)]), (69, .return_, 1, .int 0, 0, 0, 0, [])]
set_option maxRecDepth 100000 in
theorem okX12_movesAll : codeOk 202 kX12_movesAll := ⟨_, rfl, by decide +kernel⟩
end
section
def kX12_keepsAct : List AI := [(0, .aload_n 0, 1, .int 0, 0, 0, 0, []), (1, .getfield 312, 3, .int 0, 12, 45, 192, []), (4, .bipush 20, 2, .int 20, 0, 0, 0, []), (6, .if_icmp .ne 44, 3, .int 0, 50, 0, 0, []), (9, .bipush 28, 2, .int 28, 0, 0, 0, []), (11, .istore_n 1, 1, .int 0, 0, 0, 0, []), (12, .iload_n 1, 1, .int 0, 0, 0, 0, []), (13, .sipush 560, 3, .int 560, 0, 0, 0, []), (16, .if_icmp .ge 24, 3, .int 0, 40, 0, 0, []), (19, .aload_n 0, 1, .int 0, 0, 0, 0, []), (20, .getfield 112, 3, .ref 0, 12, 43, 190, []), (23, .iload_n 1, 1, .int 0, 0, 0, 0, []), (24, .bipush 28, 2, .int 28, 0, 0, 0, []), (26, .isub, 1, .int 0, 0, 0, 0, []), (27, .aload_n 0, 1, .int 0, 0, 0, 0, []), (28, .getfield 112, 3, .ref 0, 12, 43, 190, []), (31, .iload_n 1, 1, .int 0, 0, 0, 0, []), (32, .iaload, 1, .int 0, 0, 0, 0, []), (33, .iastore, 1, .int 0, 0, 0, 0, []), (34, .iinc 1 1, 3, .int 1, 0, 0, 0, []), (37, .goto (-25), 3, .int 0, 12, 0, 0, []), (40, .aload_n 0, 1, .int 0, 0, 0, 0, []), (41, .dup, 1, .int 0, 0, 0, 0, []), (42, .getfield 312, 3, .int 0, 12, 45, 192, []), (45, .iconst 1, 1, .int 1, 0, 0, 0, []), (46, .isub, 1, .int 0, 0, 0, 0, []), (47, .putfield 312, 3, .int 0, 12, 45, 192, []), (50, .aload_n 0, 1, .int 0, 0, 0, 0, []), (51, .aload_n 0, 1, .int 0, 0, 0, 0, []), (52, .getfield 312, 3, .int 0, 12, 45, 192, []), (55, .iconst 0, 1, .int 0, 0, 0, 0, []), (56, .invokevirtual 399, 3, .int 0, 202, 3, 211, [(0, 12), (0, 0)]), (59, .aload_n 0, 1, .int 0, 0, 0, 0, []), (60, .dup, 1, .int 0, 0, 0, 0, []), (61, .getfield 312, 3, .int 0, 12, 45, 192, []), (64, .iconst 1, 1, .int 1, 0, 0, 0, []), (65, .iadd, 1, .int 0, 0, 0, 0, []), (66, .putfield 312, 3, .int 0, 12, 45, 192, []), (69, .return_, 1, .int 0, 0, 0, 0, [])]
set_option maxRecDepth 100000 in
theorem okX12_keepsAct : codeOk 203 kX12_keepsAct := ⟨_, rfl, by decide +kernel⟩
def kX12_undo : List AI := [(0, .aload_n 0, 1, .int 0, 0, 0, 0, []), (1, .getfield 312, 3, .int 0, 12, 45, 192, []), (4, .ifCond .ne 6, 3, .int 0, 10, 0, 0, []), (7, .bipush (-2), 2, .int (-2), 0, 0, 0, []), (9, .ireturn, 1, .int 0, 0, 0, 0, []), (10, .aload_n 0, 1, .int 0, 0, 0, 0, []), (11, .dup, 1, .int 0, 0, 0, 0, []), (12, .getfield 312, 3, .int 0, 12, 45, 192, []), (15, .iconst 1, 1, .int 1, 0, 0, 0, []), (16, .isub, 1, .int 0, 0, 0, 0, []), (17, .putfield 312, 3, .int 0, 12, 45, 192, []), (20, .aload_n 0, 1, .int 0, 0, 0, 0, []), (21, .aload_n 0, 1, .int 0, 0, 0, 0, []), (22, .getfield 312, 3, .int 0, 12, 45, 192, []), (25, .iconst 1, 1, .int 1, 0, 0, 0, []), (26, .invokevirtual 399, 3, .int 0, 202, 3, 211, [(0, 12), (0, 0)]), (29, .aload_n 0, 1, .int 0, 0, 0, 0, []), (30, .getfield 312, 3, .int 0, 12, 45, 192, []), (33, .ireturn, 1, .int 0, 0, 0, 0, [])]
set_option maxRecDepth 100000 in
theorem okX12_undo : codeOk 204 kX12_undo := ⟨_, rfl, by decide +kernel⟩
def kX12_day : List AI := [(0, .aload_n 0, 1, .int 0, 0, 0, 0, []), (1, .invokevirtual 403, 3, .int 0, 144, 1, 215, [(0, 12), (0, 1)]), (4, .ifCond .eq 15, 3, .int 0, 19, 0, 0, []), (7, .aload_n 0, 1, .int 0, 0, 0, 0, []), (8, .getfield 9, 3, .ref 0, 12, 1, 148, []), (11, .iconst 3, 1, .int 3, 0, 0, 0, []), (12, .iaload, 1, .int 0, 0, 0, 0, []), (13, .sipush 999, 3, .int 999, 0, 0, 0, []), (16, .if_icmp .ne 5, 3, .int 0, 21, 0, 0, []), (19, .iconst (-1), 1, .int (-1), 0, 0, 0, []), (20, .ireturn, 1, .int 0, 0, 0, 0, []), (21, .aload_n 0, 1, .int 0, 0, 0, 0, []), (22, .invokevirtual 406, 3, .int 0, 203, 1, 216, [(0, 12), (0, 0)]), (25, .aload_n 0, 1, .int 0, 0, 0, 0, []), (26, .invokevirtual 382, 3, .int 0, 198, 1, 217, [(0, 12), (0, 1)]), (29, .ireturn, 1, .int 0, 0, 0, 0, [])]
set_option maxRecDepth 100000 in
theorem okX12_day : codeOk 205 kX12_day := ⟨_, rfl, by decide +kernel⟩
def kX12_canLend : List AI := [(0, .aload_n 0, 1, .int 0, 0, 0, 0, []), (1, .iload_n 1, 1, .int 0, 0, 0, 0, []), (2, .invokevirtual 345, 3, .int 0, 145, 2, 206, [(0, 12), (0, 1)]), (5, .ifCond .eq 46, 3, .int 0, 51, 0, 0, []), (8, .aload_n 0, 1, .int 0, 0, 0, 0, []), (9, .iload_n 2, 1, .int 0, 0, 0, 0, []), (10, .invokevirtual 345, 3, .int 0, 145, 2, 206, [(0, 12), (0, 1)]), (13, .ifCond .eq 38, 3, .int 0, 51, 0, 0, []), (16, .iload_n 1, 1, .int 0, 0, 0, 0, []), (17, .iload_n 2, 1, .int 0, 0, 0, 0, []), (18, .if_icmp .eq 33, 3, .int 0, 51, 0, 0, []), (21, .aload_n 0, 1, .int 0, 0, 0, 0, []), (22, .getfield 13, 3, .ref 0, 12, 2, 149, []), (25, .iload_n 1, 1, .int 0, 0, 0, 0, []), (26, .iaload, 1, .int 0, 0, 0, 0, []), (27, .iload_n 3, 1, .int 0, 0, 0, 0, []), (28, .isub, 1, .int 0, 0, 0, 0, []), (29, .bipush (-99), 2, .int (-99), 0, 0, 0, []), (31, .if_icmp .lt 20, 3, .int 0, 51, 0, 0, []), (34, .aload_n 0, 1, .int 0, 0, 0, 0, []), (35, .getfield 13, 3, .ref 0, 12, 2, 149, []), (38, .iload_n 2, 1, .int 0, 0, 0, 0, []), (39, .iaload, 1, .int 0, 0, 0, 0, []), (40, .iload_n 3, 1, .int 0, 0, 0, 0, []), (41, .iadd, 1, .int 0, 0, 0, 0, []), (42, .bipush 99, 2, .int 99, 0, 0, 0, []), (44, .if_icmp .gt 7, 3, .int 0, 51, 0, 0, []), (47, .iconst 1, 1, .int 1, 0, 0, 0, []), (48, .goto 4, 3, .int 0, 52, 0, 0, []), (51, .iconst 0, 1, .int 0, 0, 0, 0, []), (52, .ireturn, 1, .int 0, 0, 0, 0, [])]
set_option maxRecDepth 100000 in
theorem okX12_canLend : codeOk 206 kX12_canLend := ⟨_, rfl, by decide +kernel⟩
def kX12_lend : List AI := [(0, .iload_n 3, 1, .int 0, 0, 0, 0, []), (1, .i2l, 1, .int 0, 0, 0, 0, []), (2, .lconst 1, 1, .long 1, 0, 0, 0, []), (3, .ldc2_w 409, 3, .long 20, 0, 0, 7, []), (6, .invokestatic 149, 3, .int 0, 141, 3, 185, [(0, 12), (0, 1)]), (9, .ifCond .eq 13, 3, .int 0, 22, 0, 0, []), (12, .aload_n 0, 1, .int 0, 0, 0, 0, []), (13, .iload_n 1, 1, .int 0, 0, 0, 0, []), (14, .iload_n 2, 1, .int 0, 0, 0, 0, []), (15, .iload_n 3, 1, .int 0, 0, 0, 0, []), (16, .invokevirtual 411, 3, .int 0, 206, 4, 230, [(0, 12), (0, 1)]), (19, .ifCond .ne 7, 3, .int 0, 26, 0, 0, []), (22, .sipush (-1000), 3, .int (-1000), 0, 0, 0, []), (25, .ireturn, 1, .int 0, 0, 0, 0, []), (26, .aload_n 0, 1, .int 0, 0, 0, 0, []), (27, .invokevirtual 406, 3, .int 0, 203, 1, 216, [(0, 12), (0, 0)]), (30, .aload_n 0, 1, .int 0, 0, 0, 0, []), (31, .getfield 13, 3, .ref 0, 12, 2, 149, []), (34, .iload_n 1, 1, .int 0, 0, 0, 0, []), (35, .dup2, 1, .int 0, 0, 0, 0, []), (36, .iaload, 1, .int 0, 0, 0, 0, []), (37, .iload_n 3, 1, .int 0, 0, 0, 0, []), (38, .isub, 1, .int 0, 0, 0, 0, []), (39, .iastore, 1, .int 0, 0, 0, 0, []), (40, .aload_n 0, 1, .int 0, 0, 0, 0, []), (41, .getfield 13, 3, .ref 0, 12, 2, 149, []), (44, .iload_n 2, 1, .int 0, 0, 0, 0, []), (45, .dup2, 1, .int 0, 0, 0, 0, []), (46, .iaload, 1, .int 0, 0, 0, 0, []), (47, .iload_n 3, 1, .int 0, 0, 0, 0, []), (48, .iadd, 1, .int 0, 0, 0, 0, []), (49, .iastore, 1, .int 0, 0, 0, 0, []), (50, .aload_n 0, 1, .int 0, 0, 0, 0, []), (51, .getfield 13, 3, .ref 0, 12, 2, 149, []), (54, .iload_n 1, 1, .int 0, 0, 0, 0, []), (55, .iaload, 1, .int 0, 0, 0, 0, []), (56, .ireturn, 1, .int 0, 0, 0, 0, [])]
set_option maxRecDepth 100000 in
theorem okX12_lend : codeOk 207 kX12_lend := ⟨_, rfl, by decide +kernel⟩
def kX12_fall : List AI := [(0, .aload_n 0, 1, .int 0, 0, 0, 0, []), (1, .iload_n 1, 1, .int 0, 0, 0, 0, []), (2, .invokevirtual 345, 3, .int 0, 145, 2, 206, [(0, 12), (0, 1)]), (5, .ifCond .eq 12, 3, .int 0, 17, 0, 0, []), (8, .aload_n 0, 1, .int 0, 0, 0, 0, []), (9, .getfield 13, 3, .ref 0, 12, 2, 149, []), (12, .iload_n 1, 1, .int 0, 0, 0, 0, []), (13, .iaload, 1, .int 0, 0, 0, 0, []), (14, .ifCond .ne 7, 3, .int 0, 21, 0, 0, []), (17, .sipush (-1000), 3, .int (-1000), 0, 0, 0, []), (20, .ireturn, 1, .int 0, 0, 0, 0, []), (21, .aload_n 0, 1, .int 0, 0, 0, 0, []), (22, .invokevirtual 406, 3, .int 0, 203, 1, 216, [(0, 12), (0, 0)]), (25, .aload_n 0, 1, .int 0, 0, 0, 0, []), (26, .getfield 13, 3, .ref 0, 12, 2, 149, []), (29, .iload_n 1, 1, .int 0, 0, 0, 0, []), (30, .iaload, 1, .int 0, 0, 0, 0, []), (31, .istore_n 2, 1, .int 0, 0, 0, 0, []), (32, .aload_n 0, 1, .int 0, 0, 0, 0, []), (33, .getfield 13, 3, .ref 0, 12, 2, 149, []), (36, .iload_n 1, 1, .int 0, 0, 0, 0, []), (37, .iconst 0, 1, .int 0, 0, 0, 0, []), (38, .iastore, 1, .int 0, 0, 0, 0, []), (39, .iload_n 2, 1, .int 0, 0, 0, 0, []), (40, .ireturn, 1, .int 0, 0, 0, 0, [])]
set_option maxRecDepth 100000 in
theorem okX12_fall : codeOk 208 kX12_fall := ⟨_, rfl, by decide +kernel⟩
def kX12_shift : List AI := [(0, .aload_n 0, 1, .int 0, 0, 0, 0, []), (1, .iload_n 1, 1, .int 0, 0, 0, 0, []), (2, .invokevirtual 351, 3, .int 0, 146, 2, 208, [(0, 12), (0, 1)]), (5, .ifCond .eq 25, 3, .int 0, 30, 0, 0, []), (8, .iload_n 2, 1, .int 0, 0, 0, 0, []), (9, .i2l, 1, .int 0, 0, 0, 0, []), (10, .lconst 1, 1, .long 1, 0, 0, 0, []), (11, .ldc2_w 414, 3, .long 99, 0, 0, 8, []), (14, .invokestatic 149, 3, .int 0, 141, 3, 185, [(0, 12), (0, 1)]), (17, .ifCond .eq 13, 3, .int 0, 30, 0, 0, []), (20, .aload_n 0, 1, .int 0, 0, 0, 0, []), (21, .getfield 22, 3, .ref 0, 12, 5, 152, []), (24, .iload_n 1, 1, .int 0, 0, 0, 0, []), (25, .iaload, 1, .int 0, 0, 0, 0, []), (26, .iload_n 2, 1, .int 0, 0, 0, 0, []), (27, .if_icmp .ne 5, 3, .int 0, 32, 0, 0, []), (30, .iconst (-1), 1, .int (-1), 0, 0, 0, []), (31, .ireturn, 1, .int 0, 0, 0, 0, []), (32, .aload_n 0, 1, .int 0, 0, 0, 0, []), (33, .invokevirtual 406, 3, .int 0, 203, 1, 216, [(0, 12), (0, 0)]), (36, .aload_n 0, 1, .int 0, 0, 0, 0, []), (37, .getfield 22, 3, .ref 0, 12, 5, 152, []), (40, .iload_n 1, 1, .int 0, 0, 0, 0, []), (41, .iaload, 1, .int 0, 0, 0, 0, []), (42, .istore_n 3, 1, .int 0, 0, 0, 0, []), (43, .aload_n 0, 1, .int 0, 0, 0, 0, []), (44, .getfield 22, 3, .ref 0, 12, 5, 152, []), (47, .iload_n 1, 1, .int 0, 0, 0, 0, []), (48, .iload_n 2, 1, .int 0, 0, 0, 0, []), (49, .iastore, 1, .int 0, 0, 0, 0, []), (50, .iload_n 3, 1, .int 0, 0, 0, 0, []), (51, .ireturn, 1, .int 0, 0, 0, 0, [])]
set_option maxRecDepth 100000 in
theorem okX12_shift : codeOk 209 kX12_shift := ⟨_, rfl, by decide +kernel⟩
def kX12_train : List AI := [(0, .aload_n 0, 1, .int 0, 0, 0, 0, []), (1, .iload_n 1, 1, .int 0, 0, 0, 0, []), (2, .invokevirtual 345, 3, .int 0, 145, 2, 206, [(0, 12), (0, 1)]), (5, .ifCond .eq 25, 3, .int 0, 30, 0, 0, []), (8, .iload_n 2, 1, .int 0, 0, 0, 0, []), (9, .i2l, 1, .int 0, 0, 0, 0, []), (10, .lconst 1, 1, .long 1, 0, 0, 0, []), (11, .ldc2_w 409, 3, .long 20, 0, 0, 7, []), (14, .invokestatic 149, 3, .int 0, 141, 3, 185, [(0, 12), (0, 1)]), (17, .ifCond .eq 13, 3, .int 0, 30, 0, 0, []), (20, .aload_n 0, 1, .int 0, 0, 0, 0, []), (21, .getfield 19, 3, .ref 0, 12, 4, 151, []), (24, .iload_n 1, 1, .int 0, 0, 0, 0, []), (25, .iaload, 1, .int 0, 0, 0, 0, []), (26, .iload_n 2, 1, .int 0, 0, 0, 0, []), (27, .if_icmp .ne 5, 3, .int 0, 32, 0, 0, []), (30, .iconst (-1), 1, .int (-1), 0, 0, 0, []), (31, .ireturn, 1, .int 0, 0, 0, 0, []), (32, .aload_n 0, 1, .int 0, 0, 0, 0, []), (33, .invokevirtual 406, 3, .int 0, 203, 1, 216, [(0, 12), (0, 0)]), (36, .aload_n 0, 1, .int 0, 0, 0, 0, []), (37, .getfield 19, 3, .ref 0, 12, 4, 151, []), (40, .iload_n 1, 1, .int 0, 0, 0, 0, []), (41, .iaload, 1, .int 0, 0, 0, 0, []), (42, .istore_n 3, 1, .int 0, 0, 0, 0, []), (43, .aload_n 0, 1, .int 0, 0, 0, 0, []), (44, .getfield 19, 3, .ref 0, 12, 4, 151, []), (47, .iload_n 1, 1, .int 0, 0, 0, 0, []), (48, .iload_n 2, 1, .int 0, 0, 0, 0, []), (49, .iastore, 1, .int 0, 0, 0, 0, []), (50, .iload_n 3, 1, .int 0, 0, 0, 0, []), (51, .ireturn, 1, .int 0, 0, 0, 0, [])]
set_option maxRecDepth 100000 in
theorem okX12_train : codeOk 210 kX12_train := ⟨_, rfl, by decide +kernel⟩
def kX12_keepsAll : List AI := [(0, .aload_n 0, 1, .int 0, 0, 0, 0, []), (1, .iconst 4, 1, .int 4, 0, 0, 0, []), (2, .iconst 0, 1, .int 0, 0, 0, 0, []), (3, .invokevirtual 416, 3, .int 0, 243, 3, 236, [(0, 12), (0, 0)]), (6, .return_, 1, .int 0, 0, 0, 0, [])]
set_option maxRecDepth 100000 in
theorem okX12_keepsAll : codeOk 211 kX12_keepsAll := ⟨_, rfl, by decide +kernel⟩
def kX12_laysBack : List AI := [(0, .aload_n 0, 1, .int 0, 0, 0, 0, []), (1, .iconst 4, 1, .int 4, 0, 0, 0, []), (2, .iconst 1, 1, .int 1, 0, 0, 0, []), (3, .invokevirtual 416, 3, .int 0, 243, 3, 236, [(0, 12), (0, 0)]), (6, .return_, 1, .int 0, 0, 0, 0, [])]
set_option maxRecDepth 100000 in
theorem okX12_laysBack : codeOk 212 kX12_laysBack := ⟨_, rfl, by decide +kernel⟩
def kX12_ahead : List AI := [(0, .iload_n 3, 1, .int 0, 0, 0, 0, []), (1, .i2l, 1, .int 0, 0, 0, 0, []), (2, .lconst 0, 1, .long 0, 0, 0, 0, []), (3, .lconst 1, 1, .long 1, 0, 0, 0, []), (4, .invokestatic 149, 3, .int 0, 141, 3, 185, [(0, 12), (0, 1)]), (7, .ifCond .eq 11, 3, .int 0, 18, 0, 0, []), (10, .aload_n 0, 1, .int 0, 0, 0, 0, []), (11, .iload_n 1, 1, .int 0, 0, 0, 0, []), (12, .invokevirtual 345, 3, .int 0, 145, 2, 206, [(0, 12), (0, 1)]), (15, .ifCond .ne 16, 3, .int 0, 31, 0, 0, []), (18, .iload_n 3, 1, .int 0, 0, 0, 0, []), (19, .iconst 2, 1, .int 2, 0, 0, 0, []), (20, .if_icmp .ne 15, 3, .int 0, 35, 0, 0, []), (23, .aload_n 0, 1, .int 0, 0, 0, 0, []), (24, .iload_n 1, 1, .int 0, 0, 0, 0, []), (25, .invokevirtual 351, 3, .int 0, 146, 2, 208, [(0, 12), (0, 1)]), (28, .ifCond .eq 7, 3, .int 0, 35, 0, 0, []), (31, .iconst 1, 1, .int 1, 0, 0, 0, []), (32, .goto 4, 3, .int 0, 36, 0, 0, []), (35, .iconst 0, 1, .int 0, 0, 0, 0, []), (36, .istore 4, 2, .int 0, 0, 0, 0, []), (38, .aload_n 0, 1, .int 0, 0, 0, 0, []), (39, .invokevirtual 403, 3, .int 0, 144, 1, 215, [(0, 12), (0, 1)]), (42, .ifCond .eq 20, 3, .int 0, 62, 0, 0, []), (45, .iload 4, 2, .int 0, 0, 0, 0, []), (47, .ifCond .eq 15, 3, .int 0, 62, 0, 0, []), (50, .iload_n 2, 1, .int 0, 0, 0, 0, []), (51, .i2l, 1, .int 0, 0, 0, 0, []), (52, .lconst 0, 1, .long 0, 0, 0, 0, []), (53, .ldc2_w 419, 3, .long 100, 0, 0, 9, []), (56, .invokestatic 149, 3, .int 0, 141, 3, 185, [(0, 12), (0, 1)]), (59, .ifCond .ne 7, 3, .int 0, 66, 0, 0, []), (62, .sipush (-1000), 3, .int (-1000), 0, 0, 0, []), (65, .ireturn, 1, .int 0, 0, 0, 0, []), (66, .aload_n 0, 1, .int 0, 0, 0, 0, []), (67, .invokevirtual 421, 3, .int 0, 211, 1, 235, [(0, 12), (0, 0)]), (70, .aload_n 0, 1, .int 0, 0, 0, 0, []), (71, .iload_n 2, 1, .int 0, 0, 0, 0, []), (72, .invokevirtual 424, 3, .int 0, 199, 2, 238, [(0, 12), (0, 0)]), (75, .iload_n 3, 1, .int 0, 0, 0, 0, []), (76, .ifCond .ne 12, 3, .int 0, 88, 0, 0, []), (79, .aload_n 0, 1, .int 0, 0, 0, 0, []), (80, .getfield 13, 3, .ref 0, 12, 2, 149, []), (83, .iload_n 1, 1, .int 0, 0, 0, 0, []), (84, .iaload, 1, .int 0, 0, 0, 0, []), (85, .goto 23, 3, .int 0, 108, 0, 0, []), (88, .iload_n 3, 1, .int 0, 0, 0, 0, []), (89, .iconst 1, 1, .int 1, 0, 0, 0, []), (90, .if_icmp .ne 12, 3, .int 0, 102, 0, 0, []), (93, .aload_n 0, 1, .int 0, 0, 0, 0, []), (94, .getfield 16, 3, .ref 0, 12, 3, 150, []), (97, .iload_n 1, 1, .int 0, 0, 0, 0, []), (98, .iaload, 1, .int 0, 0, 0, 0, []), (99, .goto 9, 3, .int 0, 108, 0, 0, []), (102, .aload_n 0, 1, .int 0, 0, 0, 0, []), (103, .getfield 25, 3, .ref 0, 12, 6, 153, []), (106, .iload_n 1, 1, .int 0, 0, 0, 0, []), (107, .iaload, 1, .int 0, 0, 0, 0, []), (108, .istore 5, 2, .int 0, 0, 0, 0, []), (110, .aload_n 0, 1, .int 0, 0, 0, 0, []), (111, .invokevirtual 427, 3, .int 0, 212, 1, 239, [(0, 12), (0, 0)]), (114, .iload 5, 2, .int 0, 0, 0, 0, []), (116, .ireturn, 1, .int 0, 0, 0, 0, [])]
set_option maxRecDepth 100000 in
theorem okX12_ahead : codeOk 213 kX12_ahead := ⟨_, rfl, by decide +kernel⟩
def kX12_firstGot : List AI := [(0, .iconst 0, 1, .int 0, 0, 0, 0, []), (1, .istore_n 2, 1, .int 0, 0, 0, 0, []), (2, .iload_n 2, 1, .int 0, 0, 0, 0, []), (3, .aload_n 0, 1, .int 0, 0, 0, 0, []), (4, .getfield 9, 3, .ref 0, 12, 1, 148, []), (7, .iconst 2, 1, .int 2, 0, 0, 0, []), (8, .iaload, 1, .int 0, 0, 0, 0, []), (9, .if_icmp .ge 21, 3, .int 0, 30, 0, 0, []), (12, .aload_n 0, 1, .int 0, 0, 0, 0, []), (13, .getfield 25, 3, .ref 0, 12, 6, 153, []), (16, .iload_n 2, 1, .int 0, 0, 0, 0, []), (17, .iaload, 1, .int 0, 0, 0, 0, []), (18, .iload_n 1, 1, .int 0, 0, 0, 0, []), (19, .if_icmp .ne 5, 3, .int 0, 24, 0, 0, []), (22, .iload_n 2, 1, .int 0, 0, 0, 0, []), (23, .ireturn, 1, .int 0, 0, 0, 0, []), (24, .iinc 2 1, 3, .int 1, 0, 0, 0, []), (27, .goto (-25), 3, .int 0, 2, 0, 0, []), (30, .iconst (-1), 1, .int (-1), 0, 0, 0, []), (31, .ireturn, 1, .int 0, 0, 0, 0, [])]
set_option maxRecDepth 100000 in
theorem okX12_firstGot : codeOk 214 kX12_firstGot := ⟨_, rfl, by decide +kernel⟩
def kX12_gets : List AI := [(0, .aload_n 0, 1, .int 0, 0, 0, 0, []), (1, .iload_n 1, 1, .int 0, 0, 0, 0, []), (2, .invokevirtual 345, 3, .int 0, 145, 2, 206, [(0, 12), (0, 1)]), (5, .ifCond .eq 13, 3, .int 0, 18, 0, 0, []), (8, .iload_n 2, 1, .int 0, 0, 0, 0, []), (9, .i2l, 1, .int 0, 0, 0, 0, []), (10, .lconst 0, 1, .long 0, 0, 0, 0, []), (11, .lconst 1, 1, .long 1, 0, 0, 0, []), (12, .invokestatic 149, 3, .int 0, 141, 3, 185, [(0, 12), (0, 1)]), (15, .ifCond .ne 5, 3, .int 0, 20, 0, 0, []), (18, .iconst (-1), 1, .int (-1), 0, 0, 0, []), (19, .ireturn, 1, .int 0, 0, 0, 0, []), (20, .aload_n 0, 1, .int 0, 0, 0, 0, []), (21, .invokevirtual 421, 3, .int 0, 211, 1, 235, [(0, 12), (0, 0)]), (24, .bipush (-2), 2, .int (-2), 0, 0, 0, []), (26, .istore_n 3, 1, .int 0, 0, 0, 0, []), (27, .iconst 0, 1, .int 0, 0, 0, 0, []), (28, .istore 4, 2, .int 0, 0, 0, 0, []), (30, .iload 4, 2, .int 0, 0, 0, 0, []), (32, .bipush 100, 2, .int 100, 0, 0, 0, []), (34, .if_icmp .ge 56, 3, .int 0, 90, 0, 0, []), (37, .iload_n 3, 1, .int 0, 0, 0, 0, []), (38, .bipush (-2), 2, .int (-2), 0, 0, 0, []), (40, .if_icmp .ne 50, 3, .int 0, 90, 0, 0, []), (43, .aload_n 0, 1, .int 0, 0, 0, 0, []), (44, .invokevirtual 382, 3, .int 0, 198, 1, 217, [(0, 12), (0, 1)]), (47, .pop, 1, .int 0, 0, 0, 0, []), (48, .aload_n 0, 1, .int 0, 0, 0, 0, []), (49, .iload_n 1, 1, .int 0, 0, 0, 0, []), (50, .invokevirtual 430, 3, .int 0, 214, 2, 241, [(0, 12), (0, 1)]), (53, .istore 5, 2, .int 0, 0, 0, 0, []), (55, .iload 5, 2, .int 0, 0, 0, 0, []), (57, .iconst (-1), 1, .int (-1), 0, 0, 0, []), (58, .if_icmp .ne 8, 3, .int 0, 66, 0, 0, []), (61, .bipush (-2), 2, .int (-2), 0, 0, 0, []), (63, .goto 20, 3, .int 0, 83, 0, 0, []), (66, .iload_n 2, 1, .int 0, 0, 0, 0, []), (67, .ifCond .ne 14, 3, .int 0, 81, 0, 0, []), (70, .aload_n 0, 1, .int 0, 0, 0, 0, []), (71, .getfield 9, 3, .ref 0, 12, 1, 148, []), (74, .iconst 3, 1, .int 3, 0, 0, 0, []), (75, .iaload, 1, .int 0, 0, 0, 0, []), (76, .iconst 1, 1, .int 1, 0, 0, 0, []), (77, .isub, 1, .int 0, 0, 0, 0, []), (78, .goto 5, 3, .int 0, 83, 0, 0, []), (81, .iload 5, 2, .int 0, 0, 0, 0, []), (83, .istore_n 3, 1, .int 0, 0, 0, 0, []), (84, .iinc 4 1, 3, .int 1, 0, 0, 0, []), (87, .goto (-57), 3, .int 0, 30, 0, 0, []), (90, .aload_n 0, 1, .int 0, 0, 0, 0, []), (91, .invokevirtual 427, 3, .int 0, 212, 1, 239, [(0, 12), (0, 0)]), (94, .iload_n 3, 1, .int 0, 0, 0, 0, []), (95, .ireturn, 1, .int 0, 0, 0, 0, [])]
set_option maxRecDepth 100000 in
theorem okX12_gets : codeOk 215 kX12_gets := ⟨_, rfl, by decide +kernel⟩
def kX12_rank : List AI := [(0, .aload_n 0, 1, .int 0, 0, 0, 0, []), (1, .iload_n 1, 1, .int 0, 0, 0, 0, []), (2, .invokevirtual 345, 3, .int 0, 145, 2, 206, [(0, 12), (0, 1)]), (5, .ifCond .eq 15, 3, .int 0, 20, 0, 0, []), (8, .iload_n 2, 1, .int 0, 0, 0, 0, []), (9, .i2l, 1, .int 0, 0, 0, 0, []), (10, .lconst 1, 1, .long 1, 0, 0, 0, []), (11, .ldc2_w 414, 3, .long 99, 0, 0, 8, []), (14, .invokestatic 149, 3, .int 0, 141, 3, 185, [(0, 12), (0, 1)]), (17, .ifCond .ne 5, 3, .int 0, 22, 0, 0, []), (20, .iconst (-1), 1, .int (-1), 0, 0, 0, []), (21, .ireturn, 1, .int 0, 0, 0, 0, []), (22, .iconst 0, 1, .int 0, 0, 0, 0, []), (23, .istore_n 3, 1, .int 0, 0, 0, 0, []), (24, .iconst 0, 1, .int 0, 0, 0, 0, []), (25, .istore 4, 2, .int 0, 0, 0, 0, []), (27, .iload 4, 2, .int 0, 0, 0, 0, []), (29, .aload_n 0, 1, .int 0, 0, 0, 0, []), (30, .getfield 9, 3, .ref 0, 12, 1, 148, []), (33, .iconst 1, 1, .int 1, 0, 0, 0, []), (34, .iaload, 1, .int 0, 0, 0, 0, []), (35, .if_icmp .ge 34, 3, .int 0, 69, 0, 0, []), (38, .iload_n 3, 1, .int 0, 0, 0, 0, []), (39, .iload 4, 2, .int 0, 0, 0, 0, []), (41, .iload_n 1, 1, .int 0, 0, 0, 0, []), (42, .if_icmp .eq 18, 3, .int 0, 60, 0, 0, []), (45, .aload_n 0, 1, .int 0, 0, 0, 0, []), (46, .iload 4, 2, .int 0, 0, 0, 0, []), (48, .iload_n 1, 1, .int 0, 0, 0, 0, []), (49, .iload_n 2, 1, .int 0, 0, 0, 0, []), (50, .invokevirtual 369, 3, .int 0, 190, 4, 227, [(0, 12), (0, 1)]), (53, .ifCond .eq 7, 3, .int 0, 60, 0, 0, []), (56, .iconst 1, 1, .int 1, 0, 0, 0, []), (57, .goto 4, 3, .int 0, 61, 0, 0, []), (60, .iconst 0, 1, .int 0, 0, 0, 0, []), (61, .iadd, 1, .int 0, 0, 0, 0, []), (62, .istore_n 3, 1, .int 0, 0, 0, 0, []), (63, .iinc 4 1, 3, .int 1, 0, 0, 0, []), (66, .goto (-39), 3, .int 0, 27, 0, 0, []), (69, .iload_n 3, 1, .int 0, 0, 0, 0, []), (70, .ireturn, 1, .int 0, 0, 0, 0, [])]
set_option maxRecDepth 100000 in
theorem okX12_rank : codeOk 216 kX12_rank := ⟨_, rfl, by decide +kernel⟩
def kX12_wealthIn : List AI := [(0, .aload_n 0, 1, .int 0, 0, 0, 0, []), (1, .iload_n 2, 1, .int 0, 0, 0, 0, []), (2, .invokevirtual 424, 3, .int 0, 199, 2, 238, [(0, 12), (0, 0)]), (5, .aload_n 0, 1, .int 0, 0, 0, 0, []), (6, .getfield 16, 3, .ref 0, 12, 3, 150, []), (9, .iload_n 1, 1, .int 0, 0, 0, 0, []), (10, .iaload, 1, .int 0, 0, 0, 0, []), (11, .istore_n 3, 1, .int 0, 0, 0, 0, []), (12, .aload_n 0, 1, .int 0, 0, 0, 0, []), (13, .invokevirtual 427, 3, .int 0, 212, 1, 239, [(0, 12), (0, 0)]), (16, .iload_n 3, 1, .int 0, 0, 0, 0, []), (17, .ireturn, 1, .int 0, 0, 0, 0, [])]
set_option maxRecDepth 100000 in
theorem okX12_wealthIn : codeOk 217 kX12_wealthIn := ⟨_, rfl, by decide +kernel⟩
def kX12_need : List AI := [(0, .aload_n 0, 1, .int 0, 0, 0, 0, []), (1, .iload_n 1, 1, .int 0, 0, 0, 0, []), (2, .invokevirtual 345, 3, .int 0, 145, 2, 206, [(0, 12), (0, 1)]), (5, .ifCond .eq 27, 3, .int 0, 32, 0, 0, []), (8, .iload_n 2, 1, .int 0, 0, 0, 0, []), (9, .i2l, 1, .int 0, 0, 0, 0, []), (10, .lconst 1, 1, .long 1, 0, 0, 0, []), (11, .ldc2_w 433, 3, .long 60, 0, 0, 10, []), (14, .invokestatic 149, 3, .int 0, 141, 3, 185, [(0, 12), (0, 1)]), (17, .ifCond .eq 15, 3, .int 0, 32, 0, 0, []), (20, .iload_n 3, 1, .int 0, 0, 0, 0, []), (21, .i2l, 1, .int 0, 0, 0, 0, []), (22, .lconst 1, 1, .long 1, 0, 0, 0, []), (23, .ldc2_w 435, 3, .long 9999, 0, 0, 11, []), (26, .invokestatic 149, 3, .int 0, 141, 3, 185, [(0, 12), (0, 1)]), (29, .ifCond .ne 5, 3, .int 0, 34, 0, 0, []), (32, .iconst (-1), 1, .int (-1), 0, 0, 0, []), (33, .ireturn, 1, .int 0, 0, 0, 0, []), (34, .aload_n 0, 1, .int 0, 0, 0, 0, []), (35, .invokevirtual 421, 3, .int 0, 211, 1, 235, [(0, 12), (0, 0)]), (38, .bipush (-2), 2, .int (-2), 0, 0, 0, []), (40, .istore 4, 2, .int 0, 0, 0, 0, []), (42, .iconst 0, 1, .int 0, 0, 0, 0, []), (43, .istore 5, 2, .int 0, 0, 0, 0, []), (45, .iload 5, 2, .int 0, 0, 0, 0, []), (47, .bipush 60, 2, .int 60, 0, 0, 0, []), (49, .if_icmp .gt 69, 3, .int 0, 118, 0, 0, []), (52, .iload 4, 2, .int 0, 0, 0, 0, []), (54, .bipush (-2), 2, .int (-2), 0, 0, 0, []), (56, .if_icmp .ne 62, 3, .int 0, 118, 0, 0, []), (59, .aload_n 0, 1, .int 0, 0, 0, 0, []), (60, .getfield 13, 3, .ref 0, 12, 2, 149, []), (63, .iload_n 1, 1, .int 0, 0, 0, 0, []), (64, .aload_n 0, 1, .int 0, 0, 0, 0, []), (65, .getfield 13, 3, .ref 0, 12, 2, 149, []), (68, .iload_n 1, 1, .int 0, 0, 0, 0, []), (69, .iaload, 1, .int 0, 0, 0, 0, []), (70, .iload 5, 2, .int 0, 0, 0, 0, []), (72, .iadd, 1, .int 0, 0, 0, 0, []), (73, .bipush 99, 2, .int 99, 0, 0, 0, []), (75, .if_icmp .le 8, 3, .int 0, 83, 0, 0, []), (78, .bipush 99, 2, .int 99, 0, 0, 0, []), (80, .goto 12, 3, .int 0, 92, 0, 0, []), (83, .aload_n 0, 1, .int 0, 0, 0, 0, []), (84, .getfield 13, 3, .ref 0, 12, 2, 149, []), (87, .iload_n 1, 1, .int 0, 0, 0, 0, []), (88, .iaload, 1, .int 0, 0, 0, 0, []), (89, .iload 5, 2, .int 0, 0, 0, 0, []), (91, .iadd, 1, .int 0, 0, 0, 0, []), (92, .iastore, 1, .int 0, 0, 0, 0, []), (93, .aload_n 0, 1, .int 0, 0, 0, 0, []), (94, .iload_n 1, 1, .int 0, 0, 0, 0, []), (95, .iload_n 2, 1, .int 0, 0, 0, 0, []), (96, .invokevirtual 437, 3, .int 0, 217, 3, 244, [(0, 12), (0, 1)]), (99, .iload_n 3, 1, .int 0, 0, 0, 0, []), (100, .if_icmp .lt 8, 3, .int 0, 108, 0, 0, []), (103, .iload 5, 2, .int 0, 0, 0, 0, []), (105, .goto 5, 3, .int 0, 110, 0, 0, []), (108, .bipush (-2), 2, .int (-2), 0, 0, 0, []), (110, .istore 4, 2, .int 0, 0, 0, 0, []), (112, .iinc 5 1, 3, .int 1, 0, 0, 0, []), (115, .goto (-70), 3, .int 0, 45, 0, 0, []), (118, .iload 4, 2, .int 0, 0, 0, 0, []), (120, .ireturn, 1, .int 0, 0, 0, 0, [])]
set_option maxRecDepth 100000 in
theorem okX12_need : codeOk 218 kX12_need := ⟨_, rfl, by decide +kernel⟩
def kX12_lender : List AI := [(0, .aload_n 0, 1, .int 0, 0, 0, 0, []), (1, .iload_n 1, 1, .int 0, 0, 0, 0, []), (2, .invokevirtual 345, 3, .int 0, 145, 2, 206, [(0, 12), (0, 1)]), (5, .ifCond .eq 25, 3, .int 0, 30, 0, 0, []), (8, .iload_n 2, 1, .int 0, 0, 0, 0, []), (9, .i2l, 1, .int 0, 0, 0, 0, []), (10, .lconst 1, 1, .long 1, 0, 0, 0, []), (11, .ldc2_w 433, 3, .long 60, 0, 0, 10, []), (14, .invokestatic 149, 3, .int 0, 141, 3, 185, [(0, 12), (0, 1)]), (17, .ifCond .eq 13, 3, .int 0, 30, 0, 0, []), (20, .iload_n 3, 1, .int 0, 0, 0, 0, []), (21, .i2l, 1, .int 0, 0, 0, 0, []), (22, .lconst 0, 1, .long 0, 0, 0, 0, []), (23, .lconst 1, 1, .long 1, 0, 0, 0, []), (24, .invokestatic 149, 3, .int 0, 141, 3, 185, [(0, 12), (0, 1)]), (27, .ifCond .ne 6, 3, .int 0, 33, 0, 0, []), (30, .bipush (-2), 2, .int (-2), 0, 0, 0, []), (32, .ireturn, 1, .int 0, 0, 0, 0, []), (33, .aload_n 0, 1, .int 0, 0, 0, 0, []), (34, .invokevirtual 421, 3, .int 0, 211, 1, 235, [(0, 12), (0, 0)]), (37, .iconst (-1), 1, .int (-1), 0, 0, 0, []), (38, .istore 4, 2, .int 0, 0, 0, 0, []), (40, .aload_n 0, 1, .int 0, 0, 0, 0, []), (41, .iload_n 1, 1, .int 0, 0, 0, 0, []), (42, .iload_n 2, 1, .int 0, 0, 0, 0, []), (43, .invokevirtual 437, 3, .int 0, 217, 3, 244, [(0, 12), (0, 1)]), (46, .istore 5, 2, .int 0, 0, 0, 0, []), (48, .iconst 0, 1, .int 0, 0, 0, 0, []), (49, .istore 6, 2, .int 0, 0, 0, 0, []), (51, .iload 6, 2, .int 0, 0, 0, 0, []), (53, .aload_n 0, 1, .int 0, 0, 0, 0, []), (54, .getfield 9, 3, .ref 0, 12, 1, 148, []), (57, .iconst 1, 1, .int 1, 0, 0, 0, []), (58, .iaload, 1, .int 0, 0, 0, 0, []), (59, .if_icmp .ge 64, 3, .int 0, 123, 0, 0, []), (62, .aload_n 0, 1, .int 0, 0, 0, 0, []), (63, .iload 6, 2, .int 0, 0, 0, 0, []), (65, .iload_n 1, 1, .int 0, 0, 0, 0, []), (66, .iconst 3, 1, .int 3, 0, 0, 0, []), (67, .invokevirtual 411, 3, .int 0, 206, 4, 230, [(0, 12), (0, 1)]), (70, .ifCond .eq 47, 3, .int 0, 117, 0, 0, []), (73, .aload_n 0, 1, .int 0, 0, 0, 0, []), (74, .getfield 13, 3, .ref 0, 12, 2, 149, []), (77, .iload 6, 2, .int 0, 0, 0, 0, []), (79, .dup2, 1, .int 0, 0, 0, 0, []), (80, .iaload, 1, .int 0, 0, 0, 0, []), (81, .iconst 3, 1, .int 3, 0, 0, 0, []), (82, .isub, 1, .int 0, 0, 0, 0, []), (83, .iastore, 1, .int 0, 0, 0, 0, []), (84, .aload_n 0, 1, .int 0, 0, 0, 0, []), (85, .getfield 13, 3, .ref 0, 12, 2, 149, []), (88, .iload_n 1, 1, .int 0, 0, 0, 0, []), (89, .dup2, 1, .int 0, 0, 0, 0, []), (90, .iaload, 1, .int 0, 0, 0, 0, []), (91, .iconst 3, 1, .int 3, 0, 0, 0, []), (92, .iadd, 1, .int 0, 0, 0, 0, []), (93, .iastore, 1, .int 0, 0, 0, 0, []), (94, .aload_n 0, 1, .int 0, 0, 0, 0, []), (95, .iload_n 1, 1, .int 0, 0, 0, 0, []), (96, .iload_n 2, 1, .int 0, 0, 0, 0, []), (97, .invokevirtual 437, 3, .int 0, 217, 3, 244, [(0, 12), (0, 1)]), (100, .istore 7, 2, .int 0, 0, 0, 0, []), (102, .iload 7, 2, .int 0, 0, 0, 0, []), (104, .iload 5, 2, .int 0, 0, 0, 0, []), (106, .if_icmp .le 11, 3, .int 0, 117, 0, 0, []), (109, .iload 6, 2, .int 0, 0, 0, 0, []), (111, .istore 4, 2, .int 0, 0, 0, 0, []), (113, .iload 7, 2, .int 0, 0, 0, 0, []), (115, .istore 5, 2, .int 0, 0, 0, 0, []), (117, .iinc 6 1, 3, .int 1, 0, 0, 0, []), (120, .goto (-69), 3, .int 0, 51, 0, 0, []), (123, .iload_n 3, 1, .int 0, 0, 0, 0, []), (124, .ifCond .ne 8, 3, .int 0, 132, 0, 0, []), (127, .iload 4, 2, .int 0, 0, 0, 0, []), (129, .goto 5, 3, .int 0, 134, 0, 0, []), (132, .iload 5, 2, .int 0, 0, 0, 0, []), (134, .ireturn, 1, .int 0, 0, 0, 0, [])]
set_option maxRecDepth 100000 in
theorem okX12_lender : codeOk 219 kX12_lender := ⟨_, rfl, by decide +kernel⟩
def kX12_wealthByRow : List AI := [(0, .iload 4, 2, .int 0, 0, 0, 0, []), (2, .istore 5, 2, .int 0, 0, 0, 0, []), (4, .iconst 1, 1, .int 1, 0, 0, 0, []), (5, .istore 6, 2, .int 0, 0, 0, 0, []), (7, .iconst 0, 1, .int 0, 0, 0, 0, []), (8, .istore 7, 2, .int 0, 0, 0, 0, []), (10, .iload 7, 2, .int 0, 0, 0, 0, []), (12, .iload_n 2, 1, .int 0, 0, 0, 0, []), (13, .if_icmp .ge 104, 3, .int 0, 117, 0, 0, []), (16, .iload 6, 2, .int 0, 0, 0, 0, []), (18, .ifCond .eq 99, 3, .int 0, 117, 0, 0, []), (21, .iload 5, 2, .int 0, 0, 0, 0, []), (23, .aload_n 0, 1, .int 0, 0, 0, 0, []), (24, .getfield 9, 3, .ref 0, 12, 1, 148, []), (27, .iconst 2, 1, .int 2, 0, 0, 0, []), (28, .iaload, 1, .int 0, 0, 0, 0, []), (29, .iconst 1, 1, .int 1, 0, 0, 0, []), (30, .iadd, 1, .int 0, 0, 0, 0, []), (31, .idiv, 1, .int 0, 0, 0, 0, []), (32, .istore 5, 2, .int 0, 0, 0, 0, []), (34, .aload_n 0, 1, .int 0, 0, 0, 0, []), (35, .getfield 118, 3, .ref 0, 12, 48, 195, []), (38, .iload 7, 2, .int 0, 0, 0, 0, []), (40, .iload_n 3, 1, .int 0, 0, 0, 0, []), (41, .iload 5, 2, .int 0, 0, 0, 0, []), (43, .idiv, 1, .int 0, 0, 0, 0, []), (44, .aload_n 0, 1, .int 0, 0, 0, 0, []), (45, .getfield 9, 3, .ref 0, 12, 1, 148, []), (48, .iconst 2, 1, .int 2, 0, 0, 0, []), (49, .iaload, 1, .int 0, 0, 0, 0, []), (50, .iconst 1, 1, .int 1, 0, 0, 0, []), (51, .iadd, 1, .int 0, 0, 0, 0, []), (52, .irem, 1, .int 0, 0, 0, 0, []), (53, .iconst 1, 1, .int 1, 0, 0, 0, []), (54, .isub, 1, .int 0, 0, 0, 0, []), (55, .iastore, 1, .int 0, 0, 0, 0, []), (56, .aload_n 0, 1, .int 0, 0, 0, 0, []), (57, .getfield 109, 3, .ref 0, 12, 42, 189, []), (60, .iload_n 1, 1, .int 0, 0, 0, 0, []), (61, .aload_n 0, 1, .int 0, 0, 0, 0, []), (62, .getfield 118, 3, .ref 0, 12, 48, 195, []), (65, .iload 7, 2, .int 0, 0, 0, 0, []), (67, .iaload, 1, .int 0, 0, 0, 0, []), (68, .iastore, 1, .int 0, 0, 0, 0, []), (69, .aload_n 0, 1, .int 0, 0, 0, 0, []), (70, .getfield 118, 3, .ref 0, 12, 48, 195, []), (73, .iload 7, 2, .int 0, 0, 0, 0, []), (75, .iaload, 1, .int 0, 0, 0, 0, []), (76, .iconst (-1), 1, .int (-1), 0, 0, 0, []), (77, .if_icmp .eq 17, 3, .int 0, 94, 0, 0, []), (80, .aload_n 0, 1, .int 0, 0, 0, 0, []), (81, .aload_n 0, 1, .int 0, 0, 0, 0, []), (82, .getfield 118, 3, .ref 0, 12, 48, 195, []), (85, .iload 7, 2, .int 0, 0, 0, 0, []), (87, .iaload, 1, .int 0, 0, 0, 0, []), (88, .invokevirtual 354, 3, .int 0, 187, 2, 209, [(0, 12), (0, 1)]), (91, .ifCond .eq 7, 3, .int 0, 98, 0, 0, []), (94, .iconst 1, 1, .int 1, 0, 0, 0, []), (95, .goto 4, 3, .int 0, 99, 0, 0, []), (98, .iconst 0, 1, .int 0, 0, 0, 0, []), (99, .istore 6, 2, .int 0, 0, 0, 0, []), (101, .iload 6, 2, .int 0, 0, 0, 0, []), (103, .ifCond .eq 8, 3, .int 0, 111, 0, 0, []), (106, .aload_n 0, 1, .int 0, 0, 0, 0, []), (107, .invokevirtual 382, 3, .int 0, 198, 1, 217, [(0, 12), (0, 1)]), (110, .pop, 1, .int 0, 0, 0, 0, []), (111, .iinc 7 1, 3, .int 1, 0, 0, 0, []), (114, .goto (-104), 3, .int 0, 10, 0, 0, []), (117, .aload_n 0, 1, .int 0, 0, 0, 0, []), (118, .getfield 109, 3, .ref 0, 12, 42, 189, []), (121, .iload_n 1, 1, .int 0, 0, 0, 0, []), (122, .bipush (-5), 2, .int (-5), 0, 0, 0, []), (124, .iastore, 1, .int 0, 0, 0, 0, []), (125, .iload 6, 2, .int 0, 0, 0, 0, []), (127, .ifCond .eq 12, 3, .int 0, 139, 0, 0, []), (130, .aload_n 0, 1, .int 0, 0, 0, 0, []), (131, .getfield 16, 3, .ref 0, 12, 3, 150, []), (134, .iload_n 1, 1, .int 0, 0, 0, 0, []), (135, .iaload, 1, .int 0, 0, 0, 0, []), (136, .goto 4, 3, .int 0, 140, 0, 0, []), (139, .iconst (-1), 1, .int (-1), 0, 0, 0, []), (140, .istore 7, 2, .int 0, 0, 0, 0, []), (142, .aload_n 0, 1, .int 0, 0, 0, 0, []), (143, .invokevirtual 427, 3, .int 0, 212, 1, 239, [(0, 12), (0, 0)]), (146, .iload 7, 2, .int 0, 0, 0, 0, []), (148, .ireturn, 1, .int 0, 0, 0, 0, [])]
set_option maxRecDepth 100000 in
theorem okX12_wealthByRow : codeOk 220 kX12_wealthByRow := ⟨_, rfl, by decide +kernel⟩
def kX12_row : List AI := [(0, .aload_n 0, 1, .int 0, 0, 0, 0, []), (1, .iload_n 1, 1, .int 0, 0, 0, 0, []), (2, .invokevirtual 345, 3, .int 0, 145, 2, 206, [(0, 12), (0, 1)]), (5, .ifCond .eq 27, 3, .int 0, 32, 0, 0, []), (8, .iload_n 2, 1, .int 0, 0, 0, 0, []), (9, .i2l, 1, .int 0, 0, 0, 0, []), (10, .lconst 1, 1, .long 1, 0, 0, 0, []), (11, .ldc2_w 440, 3, .long 3, 0, 0, 12, []), (14, .invokestatic 149, 3, .int 0, 141, 3, 185, [(0, 12), (0, 1)]), (17, .ifCond .eq 15, 3, .int 0, 32, 0, 0, []), (20, .iload_n 3, 1, .int 0, 0, 0, 0, []), (21, .i2l, 1, .int 0, 0, 0, 0, []), (22, .lconst 0, 1, .long 0, 0, 0, 0, []), (23, .ldc2_w 440, 3, .long 3, 0, 0, 12, []), (26, .invokestatic 149, 3, .int 0, 141, 3, 185, [(0, 12), (0, 1)]), (29, .ifCond .ne 6, 3, .int 0, 35, 0, 0, []), (32, .bipush (-3), 2, .int (-3), 0, 0, 0, []), (34, .ireturn, 1, .int 0, 0, 0, 0, []), (35, .iconst 1, 1, .int 1, 0, 0, 0, []), (36, .istore 4, 2, .int 0, 0, 0, 0, []), (38, .iconst 0, 1, .int 0, 0, 0, 0, []), (39, .istore 5, 2, .int 0, 0, 0, 0, []), (41, .iload 5, 2, .int 0, 0, 0, 0, []), (43, .iload_n 2, 1, .int 0, 0, 0, 0, []), (44, .if_icmp .ge 22, 3, .int 0, 66, 0, 0, []), (47, .iload 4, 2, .int 0, 0, 0, 0, []), (49, .aload_n 0, 1, .int 0, 0, 0, 0, []), (50, .getfield 9, 3, .ref 0, 12, 1, 148, []), (53, .iconst 2, 1, .int 2, 0, 0, 0, []), (54, .iaload, 1, .int 0, 0, 0, 0, []), (55, .iconst 1, 1, .int 1, 0, 0, 0, []), (56, .iadd, 1, .int 0, 0, 0, 0, []), (57, .imul, 1, .int 0, 0, 0, 0, []), (58, .istore 4, 2, .int 0, 0, 0, 0, []), (60, .iinc 5 1, 3, .int 1, 0, 0, 0, []), (63, .goto (-22), 3, .int 0, 41, 0, 0, []), (66, .iconst (-1), 1, .int (-1), 0, 0, 0, []), (67, .istore 5, 2, .int 0, 0, 0, 0, []), (69, .aload_n 0, 1, .int 0, 0, 0, 0, []), (70, .invokevirtual 421, 3, .int 0, 211, 1, 235, [(0, 12), (0, 0)]), (73, .iconst 0, 1, .int 0, 0, 0, 0, []), (74, .istore 6, 2, .int 0, 0, 0, 0, []), (76, .iload 6, 2, .int 0, 0, 0, 0, []), (78, .iload 4, 2, .int 0, 0, 0, 0, []), (80, .if_icmp .ge 43, 3, .int 0, 123, 0, 0, []), (83, .aload_n 0, 1, .int 0, 0, 0, 0, []), (84, .iload_n 1, 1, .int 0, 0, 0, 0, []), (85, .iload_n 2, 1, .int 0, 0, 0, 0, []), (86, .iload 6, 2, .int 0, 0, 0, 0, []), (88, .iload 4, 2, .int 0, 0, 0, 0, []), (90, .invokevirtual 442, 3, .int 0, 220, 5, 247, [(0, 12), (0, 1)]), (93, .istore 7, 2, .int 0, 0, 0, 0, []), (95, .iload 7, 2, .int 0, 0, 0, 0, []), (97, .iload 5, 2, .int 0, 0, 0, 0, []), (99, .if_icmp .le 18, 3, .int 0, 117, 0, 0, []), (102, .iload 7, 2, .int 0, 0, 0, 0, []), (104, .istore 5, 2, .int 0, 0, 0, 0, []), (106, .aload_n 0, 1, .int 0, 0, 0, 0, []), (107, .getfield 118, 3, .ref 0, 12, 48, 195, []), (110, .aload_n 0, 1, .int 0, 0, 0, 0, []), (111, .getfield 121, 3, .ref 0, 12, 49, 196, []), (114, .invokestatic 302, 3, .int 0, 174, 2, 187, [(0, 12), (0, 0)]), (117, .iinc 6 1, 3, .int 1, 0, 0, 0, []), (120, .goto (-44), 3, .int 0, 76, 0, 0, []), (123, .iload_n 3, 1, .int 0, 0, 0, 0, []), (124, .ifCond .ne 8, 3, .int 0, 132, 0, 0, []), (127, .iload 5, 2, .int 0, 0, 0, 0, []), (129, .goto 21, 3, .int 0, 150, 0, 0, []), (132, .iload_n 3, 1, .int 0, 0, 0, 0, []), (133, .iload_n 2, 1, .int 0, 0, 0, 0, []), (134, .if_icmp .gt 14, 3, .int 0, 148, 0, 0, []), (137, .aload_n 0, 1, .int 0, 0, 0, 0, []), (138, .getfield 121, 3, .ref 0, 12, 49, 196, []), (141, .iload_n 3, 1, .int 0, 0, 0, 0, []), (142, .iconst 1, 1, .int 1, 0, 0, 0, []), (143, .isub, 1, .int 0, 0, 0, 0, []), (144, .iaload, 1, .int 0, 0, 0, 0, []), (145, .goto 5, 3, .int 0, 150, 0, 0, []), (148, .bipush (-2), 2, .int (-2), 0, 0, 0, []), (150, .ireturn, 1, .int 0, 0, 0, 0, [])]
set_option maxRecDepth 100000 in
theorem okX12_row : codeOk 221 kX12_row := ⟨_, rfl, by decide +kernel⟩
def kX12_sumOf : List AI := [(0, .iconst 0, 1, .int 0, 0, 0, 0, []), (1, .istore_n 2, 1, .int 0, 0, 0, 0, []), (2, .iconst 0, 1, .int 0, 0, 0, 0, []), (3, .istore_n 3, 1, .int 0, 0, 0, 0, []), (4, .iload_n 3, 1, .int 0, 0, 0, 0, []), (5, .aload_n 0, 1, .int 0, 0, 0, 0, []), (6, .getfield 9, 3, .ref 0, 12, 1, 148, []), (9, .iconst 1, 1, .int 1, 0, 0, 0, []), (10, .iaload, 1, .int 0, 0, 0, 0, []), (11, .if_icmp .ge 30, 3, .int 0, 41, 0, 0, []), (14, .iload_n 2, 1, .int 0, 0, 0, 0, []), (15, .iload_n 1, 1, .int 0, 0, 0, 0, []), (16, .iload_n 3, 1, .int 0, 0, 0, 0, []), (17, .invokestatic 446, 3, .int 0, 143, 2, 250, [(0, 12), (0, 1)]), (20, .ifCond .eq 12, 3, .int 0, 32, 0, 0, []), (23, .aload_n 0, 1, .int 0, 0, 0, 0, []), (24, .getfield 13, 3, .ref 0, 12, 2, 149, []), (27, .iload_n 3, 1, .int 0, 0, 0, 0, []), (28, .iaload, 1, .int 0, 0, 0, 0, []), (29, .goto 4, 3, .int 0, 33, 0, 0, []), (32, .iconst 0, 1, .int 0, 0, 0, 0, []), (33, .iadd, 1, .int 0, 0, 0, 0, []), (34, .istore_n 2, 1, .int 0, 0, 0, 0, []), (35, .iinc 3 1, 3, .int 1, 0, 0, 0, []), (38, .goto (-34), 3, .int 0, 4, 0, 0, []), (41, .iload_n 2, 1, .int 0, 0, 0, 0, []), (42, .ireturn, 1, .int 0, 0, 0, 0, [])]
set_option maxRecDepth 100000 in
theorem okX12_sumOf : codeOk 222 kX12_sumOf := ⟨_, rfl, by decide +kernel⟩
def kX12_settle : List AI := [(0, .aload_n 0, 1, .int 0, 0, 0, 0, []), (1, .invokevirtual 403, 3, .int 0, 144, 1, 215, [(0, 12), (0, 1)]), (4, .ifCond .ne 5, 3, .int 0, 9, 0, 0, []), (7, .iconst (-1), 1, .int (-1), 0, 0, 0, []), (8, .ireturn, 1, .int 0, 0, 0, 0, []), (9, .iconst 0, 1, .int 0, 0, 0, 0, []), (10, .istore_n 1, 1, .int 0, 0, 0, 0, []), (11, .iconst 0, 1, .int 0, 0, 0, 0, []), (12, .istore_n 2, 1, .int 0, 0, 0, 0, []), (13, .iload_n 2, 1, .int 0, 0, 0, 0, []), (14, .aload_n 0, 1, .int 0, 0, 0, 0, []), (15, .getfield 9, 3, .ref 0, 12, 1, 148, []), (18, .iconst 1, 1, .int 1, 0, 0, 0, []), (19, .iaload, 1, .int 0, 0, 0, 0, []), (20, .if_icmp .ge 28, 3, .int 0, 48, 0, 0, []), (23, .iload_n 1, 1, .int 0, 0, 0, 0, []), (24, .aload_n 0, 1, .int 0, 0, 0, 0, []), (25, .getfield 13, 3, .ref 0, 12, 2, 149, []), (28, .iload_n 2, 1, .int 0, 0, 0, 0, []), (29, .iaload, 1, .int 0, 0, 0, 0, []), (30, .ifCond .eq 9, 3, .int 0, 39, 0, 0, []), (33, .iconst 1, 1, .int 1, 0, 0, 0, []), (34, .iload_n 2, 1, .int 0, 0, 0, 0, []), (35, .ishl, 1, .int 0, 0, 0, 0, []), (36, .goto 4, 3, .int 0, 40, 0, 0, []), (39, .iconst 0, 1, .int 0, 0, 0, 0, []), (40, .ior, 1, .int 0, 0, 0, 0, []), (41, .istore_n 1, 1, .int 0, 0, 0, 0, []), (42, .iinc 2 1, 3, .int 1, 0, 0, 0, []), (45, .goto (-32), 3, .int 0, 13, 0, 0, []), (48, .aload_n 0, 1, .int 0, 0, 0, 0, []), (49, .iload_n 1, 1, .int 0, 0, 0, 0, []), (50, .invokevirtual 449, 3, .int 0, 222, 2, 249, [(0, 12), (0, 1)]), (53, .ifCond .eq 6, 3, .int 0, 59, 0, 0, []), (56, .bipush (-2), 2, .int (-2), 0, 0, 0, []), (58, .ireturn, 1, .int 0, 0, 0, 0, []), (59, .aload_n 0, 1, .int 0, 0, 0, 0, []), (60, .getfield 124, 3, .ref 0, 12, 50, 197, []), (63, .iconst 0, 1, .int 0, 0, 0, 0, []), (64, .iconst 0, 1, .int 0, 0, 0, 0, []), (65, .iastore, 1, .int 0, 0, 0, 0, []), (66, .iconst 1, 1, .int 1, 0, 0, 0, []), (67, .istore_n 2, 1, .int 0, 0, 0, 0, []), (68, .iload_n 2, 1, .int 0, 0, 0, 0, []), (69, .iload_n 1, 1, .int 0, 0, 0, 0, []), (70, .if_icmp .gt 93, 3, .int 0, 163, 0, 0, []), (73, .iconst 0, 1, .int 0, 0, 0, 0, []), (74, .istore_n 3, 1, .int 0, 0, 0, 0, []), (75, .iconst 0, 1, .int 0, 0, 0, 0, []), (76, .istore 4, 2, .int 0, 0, 0, 0, []), (78, .iload 4, 2, .int 0, 0, 0, 0, []), (80, .aload_n 0, 1, .int 0, 0, 0, 0, []), (81, .getfield 9, 3, .ref 0, 12, 1, 148, []), (84, .iconst 1, 1, .int 1, 0, 0, 0, []), (85, .iaload, 1, .int 0, 0, 0, 0, []), (86, .if_icmp .ge 50, 3, .int 0, 136, 0, 0, []), (89, .iload_n 2, 1, .int 0, 0, 0, 0, []), (90, .iload 4, 2, .int 0, 0, 0, 0, []), (92, .invokestatic 446, 3, .int 0, 143, 2, 250, [(0, 12), (0, 1)]), (95, .ifCond .eq 19, 3, .int 0, 114, 0, 0, []), (98, .aload_n 0, 1, .int 0, 0, 0, 0, []), (99, .getfield 124, 3, .ref 0, 12, 50, 197, []), (102, .iload_n 2, 1, .int 0, 0, 0, 0, []), (103, .iconst 1, 1, .int 1, 0, 0, 0, []), (104, .iload 4, 2, .int 0, 0, 0, 0, []), (106, .ishl, 1, .int 0, 0, 0, 0, []), (107, .iconst (-1), 1, .int (-1), 0, 0, 0, []), (108, .ixor, 1, .int 0, 0, 0, 0, []), (109, .iand, 1, .int 0, 0, 0, 0, []), (110, .iaload, 1, .int 0, 0, 0, 0, []), (111, .goto 4, 3, .int 0, 115, 0, 0, []), (114, .iconst 0, 1, .int 0, 0, 0, 0, []), (115, .istore 5, 2, .int 0, 0, 0, 0, []), (117, .iload 5, 2, .int 0, 0, 0, 0, []), (119, .iload_n 3, 1, .int 0, 0, 0, 0, []), (120, .if_icmp .le 8, 3, .int 0, 128, 0, 0, []), (123, .iload 5, 2, .int 0, 0, 0, 0, []), (125, .goto 4, 3, .int 0, 129, 0, 0, []), (128, .iload_n 3, 1, .int 0, 0, 0, 0, []), (129, .istore_n 3, 1, .int 0, 0, 0, 0, []), (130, .iinc 4 1, 3, .int 1, 0, 0, 0, []), (133, .goto (-55), 3, .int 0, 78, 0, 0, []), (136, .aload_n 0, 1, .int 0, 0, 0, 0, []), (137, .getfield 124, 3, .ref 0, 12, 50, 197, []), (140, .iload_n 2, 1, .int 0, 0, 0, 0, []), (141, .iload_n 3, 1, .int 0, 0, 0, 0, []), (142, .aload_n 0, 1, .int 0, 0, 0, 0, []), (143, .iload_n 2, 1, .int 0, 0, 0, 0, []), (144, .invokevirtual 449, 3, .int 0, 222, 2, 249, [(0, 12), (0, 1)]), (147, .ifCond .ne 7, 3, .int 0, 154, 0, 0, []), (150, .iconst 1, 1, .int 1, 0, 0, 0, []), (151, .goto 4, 3, .int 0, 155, 0, 0, []), (154, .iconst 0, 1, .int 0, 0, 0, 0, []), (155, .iadd, 1, .int 0, 0, 0, 0, []), (156, .iastore, 1, .int 0, 0, 0, 0, []), (157, .iinc 2 1, 3, .int 1, 0, 0, 0, []), (160, .goto (-92), 3, .int 0, 68, 0, 0, []), (163, .iload_n 1, 1, .int 0, 0, 0, 0, []), (164, .invokestatic 452, 3, .int 0, 142, 1, 251, [(0, 12), (0, 1)]), (167, .aload_n 0, 1, .int 0, 0, 0, 0, []), (168, .getfield 124, 3, .ref 0, 12, 50, 197, []), (171, .iload_n 1, 1, .int 0, 0, 0, 0, []), (172, .iaload, 1, .int 0, 0, 0, 0, []), (173, .isub, 1, .int 0, 0, 0, 0, []), (174, .ireturn, 1, .int 0, 0, 0, 0, [])]
set_option maxRecDepth 100000 in
theorem okX12_settle : codeOk 223 kX12_settle := ⟨_, rfl, by decide +kernel⟩
def kX12_rings : List AI := [(0, .aload_n 0, 1, .int 0, 0, 0, 0, []), (1, .invokevirtual 403, 3, .int 0, 144, 1, 215, [(0, 12), (0, 1)]), (4, .ifCond .eq 13, 3, .int 0, 17, 0, 0, []), (7, .iload_n 1, 1, .int 0, 0, 0, 0, []), (8, .i2l, 1, .int 0, 0, 0, 0, []), (9, .lconst 0, 1, .long 0, 0, 0, 0, []), (10, .lconst 1, 1, .long 1, 0, 0, 0, []), (11, .invokestatic 149, 3, .int 0, 141, 3, 185, [(0, 12), (0, 1)]), (14, .ifCond .ne 5, 3, .int 0, 19, 0, 0, []), (17, .iconst (-1), 1, .int (-1), 0, 0, 0, []), (18, .ireturn, 1, .int 0, 0, 0, 0, []), (19, .iconst 0, 1, .int 0, 0, 0, 0, []), (20, .istore_n 2, 1, .int 0, 0, 0, 0, []), (21, .iconst 0, 1, .int 0, 0, 0, 0, []), (22, .istore_n 3, 1, .int 0, 0, 0, 0, []), (23, .iconst 1, 1, .int 1, 0, 0, 0, []), (24, .istore 4, 2, .int 0, 0, 0, 0, []), (26, .iload 4, 2, .int 0, 0, 0, 0, []), (28, .iconst 1, 1, .int 1, 0, 0, 0, []), (29, .aload_n 0, 1, .int 0, 0, 0, 0, []), (30, .getfield 9, 3, .ref 0, 12, 1, 148, []), (33, .iconst 1, 1, .int 1, 0, 0, 0, []), (34, .iaload, 1, .int 0, 0, 0, 0, []), (35, .ishl, 1, .int 0, 0, 0, 0, []), (36, .if_icmp .ge 40, 3, .int 0, 76, 0, 0, []), (39, .aload_n 0, 1, .int 0, 0, 0, 0, []), (40, .iload 4, 2, .int 0, 0, 0, 0, []), (42, .invokevirtual 449, 3, .int 0, 222, 2, 249, [(0, 12), (0, 1)]), (45, .ifCond .ne 25, 3, .int 0, 70, 0, 0, []), (48, .iload 4, 2, .int 0, 0, 0, 0, []), (50, .invokestatic 452, 3, .int 0, 142, 1, 251, [(0, 12), (0, 1)]), (53, .iload_n 3, 1, .int 0, 0, 0, 0, []), (54, .invokestatic 452, 3, .int 0, 142, 1, 251, [(0, 12), (0, 1)]), (57, .if_icmp .le 8, 3, .int 0, 65, 0, 0, []), (60, .iload 4, 2, .int 0, 0, 0, 0, []), (62, .goto 4, 3, .int 0, 66, 0, 0, []), (65, .iload_n 3, 1, .int 0, 0, 0, 0, []), (66, .istore_n 3, 1, .int 0, 0, 0, 0, []), (67, .iinc 2 1, 3, .int 1, 0, 0, 0, []), (70, .iinc 4 1, 3, .int 1, 0, 0, 0, []), (73, .goto (-47), 3, .int 0, 26, 0, 0, []), (76, .iload_n 1, 1, .int 0, 0, 0, 0, []), (77, .ifCond .ne 7, 3, .int 0, 84, 0, 0, []), (80, .iload_n 2, 1, .int 0, 0, 0, 0, []), (81, .goto 4, 3, .int 0, 85, 0, 0, []), (84, .iload_n 3, 1, .int 0, 0, 0, 0, []), (85, .ireturn, 1, .int 0, 0, 0, 0, [])]
set_option maxRecDepth 100000 in
theorem okX12_rings : codeOk 224 kX12_rings := ⟨_, rfl, by decide +kernel⟩
def kX12_had : List AI := [(0, .aload_n 0, 1, .int 0, 0, 0, 0, []), (1, .iload_n 1, 1, .int 0, 0, 0, 0, []), (2, .invokevirtual 345, 3, .int 0, 145, 2, 206, [(0, 12), (0, 1)]), (5, .ifCond .eq 34, 3, .int 0, 39, 0, 0, []), (8, .iload_n 2, 1, .int 0, 0, 0, 0, []), (9, .i2l, 1, .int 0, 0, 0, 0, []), (10, .lconst 1, 1, .long 1, 0, 0, 0, []), (11, .ldc2_w 409, 3, .long 20, 0, 0, 7, []), (14, .invokestatic 149, 3, .int 0, 141, 3, 185, [(0, 12), (0, 1)]), (17, .ifCond .eq 22, 3, .int 0, 39, 0, 0, []), (20, .aload_n 0, 1, .int 0, 0, 0, 0, []), (21, .iload_n 3, 1, .int 0, 0, 0, 0, []), (22, .invokevirtual 351, 3, .int 0, 146, 2, 208, [(0, 12), (0, 1)]), (25, .ifCond .eq 14, 3, .int 0, 39, 0, 0, []), (28, .iload 4, 2, .int 0, 0, 0, 0, []), (30, .i2l, 1, .int 0, 0, 0, 0, []), (31, .lconst 0, 1, .long 0, 0, 0, 0, []), (32, .lconst 1, 1, .long 1, 0, 0, 0, []), (33, .invokestatic 149, 3, .int 0, 141, 3, 185, [(0, 12), (0, 1)]), (36, .ifCond .ne 7, 3, .int 0, 43, 0, 0, []), (39, .sipush (-1001), 3, .int (-1001), 0, 0, 0, []), (42, .ireturn, 1, .int 0, 0, 0, 0, []), (43, .iconst 0, 1, .int 0, 0, 0, 0, []), (44, .istore 5, 2, .int 0, 0, 0, 0, []), (46, .sipush (-1000), 3, .int (-1000), 0, 0, 0, []), (49, .istore 6, 2, .int 0, 0, 0, 0, []), (51, .aload_n 0, 1, .int 0, 0, 0, 0, []), (52, .invokevirtual 421, 3, .int 0, 211, 1, 235, [(0, 12), (0, 0)]), (55, .bipush (-20), 2, .int (-20), 0, 0, 0, []), (57, .istore 7, 2, .int 0, 0, 0, 0, []), (59, .iload 7, 2, .int 0, 0, 0, 0, []), (61, .bipush 40, 2, .int 40, 0, 0, 0, []), (63, .if_icmp .gt 77, 3, .int 0, 140, 0, 0, []), (66, .aload_n 0, 1, .int 0, 0, 0, 0, []), (67, .getfield 13, 3, .ref 0, 12, 2, 149, []), (70, .iload_n 1, 1, .int 0, 0, 0, 0, []), (71, .iload 7, 2, .int 0, 0, 0, 0, []), (73, .iastore, 1, .int 0, 0, 0, 0, []), (74, .aload_n 0, 1, .int 0, 0, 0, 0, []), (75, .iload_n 2, 1, .int 0, 0, 0, 0, []), (76, .invokevirtual 424, 3, .int 0, 199, 2, 238, [(0, 12), (0, 0)]), (79, .aload_n 0, 1, .int 0, 0, 0, 0, []), (80, .getfield 25, 3, .ref 0, 12, 6, 153, []), (83, .iload_n 3, 1, .int 0, 0, 0, 0, []), (84, .iaload, 1, .int 0, 0, 0, 0, []), (85, .iload_n 1, 1, .int 0, 0, 0, 0, []), (86, .if_icmp .ne 7, 3, .int 0, 93, 0, 0, []), (89, .iconst 1, 1, .int 1, 0, 0, 0, []), (90, .goto 4, 3, .int 0, 94, 0, 0, []), (93, .iconst 0, 1, .int 0, 0, 0, 0, []), (94, .istore 8, 2, .int 0, 0, 0, 0, []), (96, .aload_n 0, 1, .int 0, 0, 0, 0, []), (97, .invokevirtual 427, 3, .int 0, 212, 1, 239, [(0, 12), (0, 0)]), (100, .iload 8, 2, .int 0, 0, 0, 0, []), (102, .ifCond .eq 13, 3, .int 0, 115, 0, 0, []), (105, .iload 5, 2, .int 0, 0, 0, 0, []), (107, .ifCond .ne 8, 3, .int 0, 115, 0, 0, []), (110, .iload 7, 2, .int 0, 0, 0, 0, []), (112, .goto 5, 3, .int 0, 117, 0, 0, []), (115, .iload 6, 2, .int 0, 0, 0, 0, []), (117, .istore 6, 2, .int 0, 0, 0, 0, []), (119, .iload 5, 2, .int 0, 0, 0, 0, []), (121, .iload 8, 2, .int 0, 0, 0, 0, []), (123, .ifCond .eq 7, 3, .int 0, 130, 0, 0, []), (126, .iconst 1, 1, .int 1, 0, 0, 0, []), (127, .goto 4, 3, .int 0, 131, 0, 0, []), (130, .iconst 0, 1, .int 0, 0, 0, 0, []), (131, .iadd, 1, .int 0, 0, 0, 0, []), (132, .istore 5, 2, .int 0, 0, 0, 0, []), (134, .iinc 7 1, 3, .int 1, 0, 0, 0, []), (137, .goto (-78), 3, .int 0, 59, 0, 0, []), (140, .iload 4, 2, .int 0, 0, 0, 0, []), (142, .ifCond .ne 8, 3, .int 0, 150, 0, 0, []), (145, .iload 5, 2, .int 0, 0, 0, 0, []), (147, .goto 5, 3, .int 0, 152, 0, 0, []), (150, .iload 6, 2, .int 0, 0, 0, 0, []), (152, .ireturn, 1, .int 0, 0, 0, 0, [])]
set_option maxRecDepth 100000 in
theorem okX12_had : codeOk 225 kX12_had := ⟨_, rfl, by decide +kernel⟩
def kX12_mayRun : List AI := [(0, .iload_n 1, 1, .int 0, 0, 0, 0, []), (1, .ifCond .eq 23, 3, .int 0, 24, 0, 0, []), (4, .iload_n 1, 1, .int 0, 0, 0, 0, []), (5, .aload_n 0, 1, .int 0, 0, 0, 0, []), (6, .getfield 9, 3, .ref 0, 12, 1, 148, []), (9, .iconst 2, 1, .int 2, 0, 0, 0, []), (10, .iaload, 1, .int 0, 0, 0, 0, []), (11, .if_icmp .gt 17, 3, .int 0, 28, 0, 0, []), (14, .aload_n 0, 1, .int 0, 0, 0, 0, []), (15, .iload_n 1, 1, .int 0, 0, 0, 0, []), (16, .iconst 1, 1, .int 1, 0, 0, 0, []), (17, .isub, 1, .int 0, 0, 0, 0, []), (18, .invokevirtual 354, 3, .int 0, 187, 2, 209, [(0, 12), (0, 1)]), (21, .ifCond .eq 7, 3, .int 0, 28, 0, 0, []), (24, .iconst 1, 1, .int 1, 0, 0, 0, []), (25, .goto 4, 3, .int 0, 29, 0, 0, []), (28, .iconst 0, 1, .int 0, 0, 0, 0, []), (29, .ireturn, 1, .int 0, 0, 0, 0, [])]
set_option maxRecDepth 100000 in
theorem okX12_mayRun : codeOk 226 kX12_mayRun := ⟨_, rfl, by decide +kernel⟩
def kX12_laysRuns : List AI := [(0, .aload_n 0, 1, .int 0, 0, 0, 0, []), (1, .invokevirtual 421, 3, .int 0, 211, 1, 235, [(0, 12), (0, 0)]), (4, .aload_n 0, 1, .int 0, 0, 0, 0, []), (5, .getfield 16, 3, .ref 0, 12, 3, 150, []), (8, .iload_n 1, 1, .int 0, 0, 0, 0, []), (9, .iaload, 1, .int 0, 0, 0, 0, []), (10, .istore_n 3, 1, .int 0, 0, 0, 0, []), (11, .aload_n 0, 1, .int 0, 0, 0, 0, []), (12, .getfield 16, 3, .ref 0, 12, 3, 150, []), (15, .iload_n 2, 1, .int 0, 0, 0, 0, []), (16, .iaload, 1, .int 0, 0, 0, 0, []), (17, .istore 4, 2, .int 0, 0, 0, 0, []), (19, .iconst 0, 1, .int 0, 0, 0, 0, []), (20, .istore 5, 2, .int 0, 0, 0, 0, []), (22, .iload 5, 2, .int 0, 0, 0, 0, []), (24, .bipush 49, 2, .int 49, 0, 0, 0, []), (26, .if_icmp .ge 117, 3, .int 0, 143, 0, 0, []), (29, .aload_n 0, 1, .int 0, 0, 0, 0, []), (30, .iload 5, 2, .int 0, 0, 0, 0, []), (32, .bipush 7, 2, .int 7, 0, 0, 0, []), (34, .idiv, 1, .int 0, 0, 0, 0, []), (35, .invokevirtual 455, 3, .int 0, 226, 2, 256, [(0, 12), (0, 1)]), (38, .ifCond .eq 99, 3, .int 0, 137, 0, 0, []), (41, .aload_n 0, 1, .int 0, 0, 0, 0, []), (42, .iload 5, 2, .int 0, 0, 0, 0, []), (44, .bipush 7, 2, .int 7, 0, 0, 0, []), (46, .irem, 1, .int 0, 0, 0, 0, []), (47, .invokevirtual 455, 3, .int 0, 226, 2, 256, [(0, 12), (0, 1)]), (50, .ifCond .eq 87, 3, .int 0, 137, 0, 0, []), (53, .aload_n 0, 1, .int 0, 0, 0, 0, []), (54, .getfield 109, 3, .ref 0, 12, 42, 189, []), (57, .iload_n 1, 1, .int 0, 0, 0, 0, []), (58, .iload 5, 2, .int 0, 0, 0, 0, []), (60, .bipush 7, 2, .int 7, 0, 0, 0, []), (62, .idiv, 1, .int 0, 0, 0, 0, []), (63, .iconst 1, 1, .int 1, 0, 0, 0, []), (64, .isub, 1, .int 0, 0, 0, 0, []), (65, .iastore, 1, .int 0, 0, 0, 0, []), (66, .aload_n 0, 1, .int 0, 0, 0, 0, []), (67, .getfield 109, 3, .ref 0, 12, 42, 189, []), (70, .iload_n 2, 1, .int 0, 0, 0, 0, []), (71, .iload 5, 2, .int 0, 0, 0, 0, []), (73, .bipush 7, 2, .int 7, 0, 0, 0, []), (75, .irem, 1, .int 0, 0, 0, 0, []), (76, .iconst 1, 1, .int 1, 0, 0, 0, []), (77, .isub, 1, .int 0, 0, 0, 0, []), (78, .iastore, 1, .int 0, 0, 0, 0, []), (79, .aload_n 0, 1, .int 0, 0, 0, 0, []), (80, .invokevirtual 382, 3, .int 0, 198, 1, 217, [(0, 12), (0, 1)]), (83, .pop, 1, .int 0, 0, 0, 0, []), (84, .aload_n 0, 1, .int 0, 0, 0, 0, []), (85, .getfield 127, 3, .ref 0, 12, 51, 198, []), (88, .iload 5, 2, .int 0, 0, 0, 0, []), (90, .iconst 2, 1, .int 2, 0, 0, 0, []), (91, .aload_n 0, 1, .int 0, 0, 0, 0, []), (92, .getfield 16, 3, .ref 0, 12, 3, 150, []), (95, .iload_n 1, 1, .int 0, 0, 0, 0, []), (96, .iaload, 1, .int 0, 0, 0, 0, []), (97, .iload_n 3, 1, .int 0, 0, 0, 0, []), (98, .isub, 1, .int 0, 0, 0, 0, []), (99, .imul, 1, .int 0, 0, 0, 0, []), (100, .aload_n 0, 1, .int 0, 0, 0, 0, []), (101, .getfield 13, 3, .ref 0, 12, 2, 149, []), (104, .iload_n 1, 1, .int 0, 0, 0, 0, []), (105, .iaload, 1, .int 0, 0, 0, 0, []), (106, .iadd, 1, .int 0, 0, 0, 0, []), (107, .iastore, 1, .int 0, 0, 0, 0, []), (108, .aload_n 0, 1, .int 0, 0, 0, 0, []), (109, .getfield 130, 3, .ref 0, 12, 52, 199, []), (112, .iload 5, 2, .int 0, 0, 0, 0, []), (114, .iconst 2, 1, .int 2, 0, 0, 0, []), (115, .aload_n 0, 1, .int 0, 0, 0, 0, []), (116, .getfield 16, 3, .ref 0, 12, 3, 150, []), (119, .iload_n 2, 1, .int 0, 0, 0, 0, []), (120, .iaload, 1, .int 0, 0, 0, 0, []), (121, .iload 4, 2, .int 0, 0, 0, 0, []), (123, .isub, 1, .int 0, 0, 0, 0, []), (124, .imul, 1, .int 0, 0, 0, 0, []), (125, .aload_n 0, 1, .int 0, 0, 0, 0, []), (126, .getfield 13, 3, .ref 0, 12, 2, 149, []), (129, .iload_n 2, 1, .int 0, 0, 0, 0, []), (130, .iaload, 1, .int 0, 0, 0, 0, []), (131, .iadd, 1, .int 0, 0, 0, 0, []), (132, .iastore, 1, .int 0, 0, 0, 0, []), (133, .aload_n 0, 1, .int 0, 0, 0, 0, []), (134, .invokevirtual 427, 3, .int 0, 212, 1, 239, [(0, 12), (0, 0)]), (137, .iinc 5 1, 3, .int 1, 0, 0, 0, []), (140, .goto (-118), 3, .int 0, 22, 0, 0, []), (143, .aload_n 0, 1, .int 0, 0, 0, 0, []), (144, .getfield 109, 3, .ref 0, 12, 42, 189, []), (147, .iload_n 1, 1, .int 0, 0, 0, 0, []), (148, .bipush (-5), 2, .int (-5), 0, 0, 0, []), (150, .iastore, 1, .int 0, 0, 0, 0, []), (151, .aload_n 0, 1, .int 0, 0, 0, 0, []), (152, .getfield 109, 3, .ref 0, 12, 42, 189, []), (155, .iload_n 2, 1, .int 0, 0, 0, 0, []), (156, .bipush (-5), 2, .int (-5), 0, 0, 0, []), (158, .iastore, 1, .int 0, 0, 0, 0, []), (159, .return_, 1, .int 0, 0, 0, 0, [])]
set_option maxRecDepth 100000 in
theorem okX12_laysRuns : codeOk 227 kX12_laysRuns := ⟨_, rfl, by decide +kernel⟩
def kX12_isRest : List AI := [(0, .iconst 0, 1, .int 0, 0, 0, 0, []), (1, .istore_n 2, 1, .int 0, 0, 0, 0, []), (2, .iload_n 2, 1, .int 0, 0, 0, 0, []), (3, .bipush 7, 2, .int 7, 0, 0, 0, []), (5, .if_icmp .ge 64, 3, .int 0, 69, 0, 0, []), (8, .aload_n 0, 1, .int 0, 0, 0, 0, []), (9, .iload_n 2, 1, .int 0, 0, 0, 0, []), (10, .invokevirtual 455, 3, .int 0, 226, 2, 256, [(0, 12), (0, 1)]), (13, .ifCond .eq 50, 3, .int 0, 63, 0, 0, []), (16, .aload_n 0, 1, .int 0, 0, 0, 0, []), (17, .getfield 127, 3, .ref 0, 12, 51, 198, []), (20, .bipush 7, 2, .int 7, 0, 0, 0, []), (22, .iload_n 2, 1, .int 0, 0, 0, 0, []), (23, .imul, 1, .int 0, 0, 0, 0, []), (24, .iload_n 1, 1, .int 0, 0, 0, 0, []), (25, .bipush 7, 2, .int 7, 0, 0, 0, []), (27, .irem, 1, .int 0, 0, 0, 0, []), (28, .iadd, 1, .int 0, 0, 0, 0, []), (29, .iaload, 1, .int 0, 0, 0, 0, []), (30, .aload_n 0, 1, .int 0, 0, 0, 0, []), (31, .getfield 127, 3, .ref 0, 12, 51, 198, []), (34, .iload_n 1, 1, .int 0, 0, 0, 0, []), (35, .iaload, 1, .int 0, 0, 0, 0, []), (36, .if_icmp .gt 25, 3, .int 0, 61, 0, 0, []), (39, .aload_n 0, 1, .int 0, 0, 0, 0, []), (40, .getfield 130, 3, .ref 0, 12, 52, 199, []), (43, .iload_n 1, 1, .int 0, 0, 0, 0, []), (44, .iload_n 1, 1, .int 0, 0, 0, 0, []), (45, .bipush 7, 2, .int 7, 0, 0, 0, []), (47, .irem, 1, .int 0, 0, 0, 0, []), (48, .isub, 1, .int 0, 0, 0, 0, []), (49, .iload_n 2, 1, .int 0, 0, 0, 0, []), (50, .iadd, 1, .int 0, 0, 0, 0, []), (51, .iaload, 1, .int 0, 0, 0, 0, []), (52, .aload_n 0, 1, .int 0, 0, 0, 0, []), (53, .getfield 130, 3, .ref 0, 12, 52, 199, []), (56, .iload_n 1, 1, .int 0, 0, 0, 0, []), (57, .iaload, 1, .int 0, 0, 0, 0, []), (58, .if_icmp .le 5, 3, .int 0, 63, 0, 0, []), (61, .iconst 0, 1, .int 0, 0, 0, 0, []), (62, .ireturn, 1, .int 0, 0, 0, 0, []), (63, .iinc 2 1, 3, .int 1, 0, 0, 0, []), (66, .goto (-64), 3, .int 0, 2, 0, 0, []), (69, .iconst 1, 1, .int 1, 0, 0, 0, []), (70, .ireturn, 1, .int 0, 0, 0, 0, [])]
set_option maxRecDepth 100000 in
theorem okX12_isRest : codeOk 228 kX12_isRest := ⟨_, rfl, by decide +kernel⟩
def kX12_rests : List AI := [(0, .aload_n 0, 1, .int 0, 0, 0, 0, []), (1, .iload_n 1, 1, .int 0, 0, 0, 0, []), (2, .invokevirtual 345, 3, .int 0, 145, 2, 206, [(0, 12), (0, 1)]), (5, .ifCond .eq 28, 3, .int 0, 33, 0, 0, []), (8, .aload_n 0, 1, .int 0, 0, 0, 0, []), (9, .iload_n 2, 1, .int 0, 0, 0, 0, []), (10, .invokevirtual 345, 3, .int 0, 145, 2, 206, [(0, 12), (0, 1)]), (13, .ifCond .eq 20, 3, .int 0, 33, 0, 0, []), (16, .iload_n 1, 1, .int 0, 0, 0, 0, []), (17, .iload_n 2, 1, .int 0, 0, 0, 0, []), (18, .if_icmp .eq 15, 3, .int 0, 33, 0, 0, []), (21, .iload_n 3, 1, .int 0, 0, 0, 0, []), (22, .i2l, 1, .int 0, 0, 0, 0, []), (23, .lconst 0, 1, .long 0, 0, 0, 0, []), (24, .ldc2_w 349, 3, .long 2, 0, 0, 6, []), (27, .invokestatic 149, 3, .int 0, 141, 3, 185, [(0, 12), (0, 1)]), (30, .ifCond .ne 6, 3, .int 0, 36, 0, 0, []), (33, .bipush (-3), 2, .int (-3), 0, 0, 0, []), (35, .ireturn, 1, .int 0, 0, 0, 0, []), (36, .aload_n 0, 1, .int 0, 0, 0, 0, []), (37, .iload_n 1, 1, .int 0, 0, 0, 0, []), (38, .iload_n 2, 1, .int 0, 0, 0, 0, []), (39, .invokevirtual 458, 3, .int 0, 227, 3, 255, [(0, 12), (0, 0)]), (42, .iconst 0, 1, .int 0, 0, 0, 0, []), (43, .istore 4, 2, .int 0, 0, 0, 0, []), (45, .iconst (-1), 1, .int (-1), 0, 0, 0, []), (46, .istore 5, 2, .int 0, 0, 0, 0, []), (48, .iconst 0, 1, .int 0, 0, 0, 0, []), (49, .istore 6, 2, .int 0, 0, 0, 0, []), (51, .iload 6, 2, .int 0, 0, 0, 0, []), (53, .bipush 49, 2, .int 49, 0, 0, 0, []), (55, .if_icmp .ge 59, 3, .int 0, 114, 0, 0, []), (58, .aload_n 0, 1, .int 0, 0, 0, 0, []), (59, .iload 6, 2, .int 0, 0, 0, 0, []), (61, .bipush 7, 2, .int 7, 0, 0, 0, []), (63, .idiv, 1, .int 0, 0, 0, 0, []), (64, .invokevirtual 455, 3, .int 0, 226, 2, 256, [(0, 12), (0, 1)]), (67, .ifCond .eq 41, 3, .int 0, 108, 0, 0, []), (70, .aload_n 0, 1, .int 0, 0, 0, 0, []), (71, .iload 6, 2, .int 0, 0, 0, 0, []), (73, .bipush 7, 2, .int 7, 0, 0, 0, []), (75, .irem, 1, .int 0, 0, 0, 0, []), (76, .invokevirtual 455, 3, .int 0, 226, 2, 256, [(0, 12), (0, 1)]), (79, .ifCond .eq 29, 3, .int 0, 108, 0, 0, []), (82, .aload_n 0, 1, .int 0, 0, 0, 0, []), (83, .iload 6, 2, .int 0, 0, 0, 0, []), (85, .invokevirtual 461, 3, .int 0, 228, 2, 257, [(0, 12), (0, 1)]), (88, .ifCond .eq 20, 3, .int 0, 108, 0, 0, []), (91, .iload 4, 2, .int 0, 0, 0, 0, []), (93, .ifCond .ne 8, 3, .int 0, 101, 0, 0, []), (96, .iload 6, 2, .int 0, 0, 0, 0, []), (98, .goto 5, 3, .int 0, 103, 0, 0, []), (101, .iload 5, 2, .int 0, 0, 0, 0, []), (103, .istore 5, 2, .int 0, 0, 0, 0, []), (105, .iinc 4 1, 3, .int 1, 0, 0, 0, []), (108, .iinc 6 1, 3, .int 1, 0, 0, 0, []), (111, .goto (-60), 3, .int 0, 51, 0, 0, []), (114, .iload_n 3, 1, .int 0, 0, 0, 0, []), (115, .ifCond .ne 6, 3, .int 0, 121, 0, 0, []), (118, .iload 4, 2, .int 0, 0, 0, 0, []), (120, .ireturn, 1, .int 0, 0, 0, 0, []), (121, .iload 5, 2, .int 0, 0, 0, 0, []), (123, .iconst (-1), 1, .int (-1), 0, 0, 0, []), (124, .if_icmp .ne 8, 3, .int 0, 132, 0, 0, []), (127, .bipush (-2), 2, .int (-2), 0, 0, 0, []), (129, .goto 23, 3, .int 0, 152, 0, 0, []), (132, .iload_n 3, 1, .int 0, 0, 0, 0, []), (133, .iconst 1, 1, .int 1, 0, 0, 0, []), (134, .if_icmp .ne 11, 3, .int 0, 145, 0, 0, []), (137, .iload 5, 2, .int 0, 0, 0, 0, []), (139, .bipush 7, 2, .int 7, 0, 0, 0, []), (141, .idiv, 1, .int 0, 0, 0, 0, []), (142, .goto 8, 3, .int 0, 150, 0, 0, []), (145, .iload 5, 2, .int 0, 0, 0, 0, []), (147, .bipush 7, 2, .int 7, 0, 0, 0, []), (149, .irem, 1, .int 0, 0, 0, 0, []), (150, .iconst 1, 1, .int 1, 0, 0, 0, []), (151, .isub, 1, .int 0, 0, 0, 0, []), (152, .ireturn, 1, .int 0, 0, 0, 0, [])]
set_option maxRecDepth 100000 in
theorem okX12_rests : codeOk 229 kX12_rests := ⟨_, rfl, by decide +kernel⟩
end
section
def kX12_pence : List AI := [(0, .aload_n 0, 1, .int 0, 0, 0, 0, []), (1, .iload_n 2, 1, .int 0, 0, 0, 0, []), (2, .invokevirtual 345, 3, .int 0, 145, 2, 206, [(0, 12), (0, 1)]), (5, .ifCond .eq 15, 3, .int 0, 20, 0, 0, []), (8, .iload_n 1, 1, .int 0, 0, 0, 0, []), (9, .i2l, 1, .int 0, 0, 0, 0, []), (10, .lconst 0, 1, .long 0, 0, 0, 0, []), (11, .ldc2_w 435, 3, .long 9999, 0, 0, 11, []), (14, .invokestatic 149, 3, .int 0, 141, 3, 185, [(0, 12), (0, 1)]), (17, .ifCond .ne 5, 3, .int 0, 22, 0, 0, []), (20, .iconst (-1), 1, .int (-1), 0, 0, 0, []), (21, .ireturn, 1, .int 0, 0, 0, 0, []), (22, .aload_n 0, 1, .int 0, 0, 0, 0, []), (23, .invokevirtual 464, 3, .int 0, 191, 1, 259, [(0, 12), (0, 1)]), (26, .istore_n 3, 1, .int 0, 0, 0, 0, []), (27, .iload_n 3, 1, .int 0, 0, 0, 0, []), (28, .ifCond .ne 5, 3, .int 0, 33, 0, 0, []), (31, .iconst 0, 1, .int 0, 0, 0, 0, []), (32, .ireturn, 1, .int 0, 0, 0, 0, []), (33, .iload_n 1, 1, .int 0, 0, 0, 0, []), (34, .istore 4, 2, .int 0, 0, 0, 0, []), (36, .iconst 0, 1, .int 0, 0, 0, 0, []), (37, .istore 5, 2, .int 0, 0, 0, 0, []), (39, .iconst 0, 1, .int 0, 0, 0, 0, []), (40, .istore 6, 2, .int 0, 0, 0, 0, []), (42, .iload 6, 2, .int 0, 0, 0, 0, []), (44, .aload_n 0, 1, .int 0, 0, 0, 0, []), (45, .getfield 9, 3, .ref 0, 12, 1, 148, []), (48, .iconst 1, 1, .int 1, 0, 0, 0, []), (49, .iaload, 1, .int 0, 0, 0, 0, []), (50, .if_icmp .ge 75, 3, .int 0, 125, 0, 0, []), (53, .iload 4, 2, .int 0, 0, 0, 0, []), (55, .iload_n 1, 1, .int 0, 0, 0, 0, []), (56, .aload_n 0, 1, .int 0, 0, 0, 0, []), (57, .getfield 16, 3, .ref 0, 12, 3, 150, []), (60, .iload 6, 2, .int 0, 0, 0, 0, []), (62, .iaload, 1, .int 0, 0, 0, 0, []), (63, .imul, 1, .int 0, 0, 0, 0, []), (64, .iload_n 3, 1, .int 0, 0, 0, 0, []), (65, .idiv, 1, .int 0, 0, 0, 0, []), (66, .isub, 1, .int 0, 0, 0, 0, []), (67, .istore 4, 2, .int 0, 0, 0, 0, []), (69, .iload_n 1, 1, .int 0, 0, 0, 0, []), (70, .aload_n 0, 1, .int 0, 0, 0, 0, []), (71, .getfield 16, 3, .ref 0, 12, 3, 150, []), (74, .iload 6, 2, .int 0, 0, 0, 0, []), (76, .iaload, 1, .int 0, 0, 0, 0, []), (77, .imul, 1, .int 0, 0, 0, 0, []), (78, .iload_n 3, 1, .int 0, 0, 0, 0, []), (79, .irem, 1, .int 0, 0, 0, 0, []), (80, .iload_n 1, 1, .int 0, 0, 0, 0, []), (81, .aload_n 0, 1, .int 0, 0, 0, 0, []), (82, .getfield 16, 3, .ref 0, 12, 3, 150, []), (85, .iload_n 2, 1, .int 0, 0, 0, 0, []), (86, .iaload, 1, .int 0, 0, 0, 0, []), (87, .imul, 1, .int 0, 0, 0, 0, []), (88, .iload_n 3, 1, .int 0, 0, 0, 0, []), (89, .irem, 1, .int 0, 0, 0, 0, []), (90, .isub, 1, .int 0, 0, 0, 0, []), (91, .istore 7, 2, .int 0, 0, 0, 0, []), (93, .iload 5, 2, .int 0, 0, 0, 0, []), (95, .iload 7, 2, .int 0, 0, 0, 0, []), (97, .ifCond .gt 14, 3, .int 0, 111, 0, 0, []), (100, .iload 7, 2, .int 0, 0, 0, 0, []), (102, .ifCond .ne 13, 3, .int 0, 115, 0, 0, []), (105, .iload 6, 2, .int 0, 0, 0, 0, []), (107, .iload_n 2, 1, .int 0, 0, 0, 0, []), (108, .if_icmp .ge 7, 3, .int 0, 115, 0, 0, []), (111, .iconst 1, 1, .int 1, 0, 0, 0, []), (112, .goto 4, 3, .int 0, 116, 0, 0, []), (115, .iconst 0, 1, .int 0, 0, 0, 0, []), (116, .iadd, 1, .int 0, 0, 0, 0, []), (117, .istore 5, 2, .int 0, 0, 0, 0, []), (119, .iinc 6 1, 3, .int 1, 0, 0, 0, []), (122, .goto (-80), 3, .int 0, 42, 0, 0, []), (125, .iload_n 1, 1, .int 0, 0, 0, 0, []), (126, .aload_n 0, 1, .int 0, 0, 0, 0, []), (127, .getfield 16, 3, .ref 0, 12, 3, 150, []), (130, .iload_n 2, 1, .int 0, 0, 0, 0, []), (131, .iaload, 1, .int 0, 0, 0, 0, []), (132, .imul, 1, .int 0, 0, 0, 0, []), (133, .iload_n 3, 1, .int 0, 0, 0, 0, []), (134, .idiv, 1, .int 0, 0, 0, 0, []), (135, .iload 5, 2, .int 0, 0, 0, 0, []), (137, .iload 4, 2, .int 0, 0, 0, 0, []), (139, .if_icmp .ge 7, 3, .int 0, 146, 0, 0, []), (142, .iconst 1, 1, .int 1, 0, 0, 0, []), (143, .goto 4, 3, .int 0, 147, 0, 0, []), (146, .iconst 0, 1, .int 0, 0, 0, 0, []), (147, .iadd, 1, .int 0, 0, 0, 0, []), (148, .ireturn, 1, .int 0, 0, 0, 0, [])]
set_option maxRecDepth 100000 in
theorem okX12_pence : codeOk 230 kX12_pence := ⟨_, rfl, by decide +kernel⟩
def kX12_note : List AI := [(0, .iload_n 1, 1, .int 0, 0, 0, 0, []), (1, .iconst (-1), 1, .int (-1), 0, 0, 0, []), (2, .if_icmp .ne 12, 3, .int 0, 14, 0, 0, []), (5, .aload_n 0, 1, .int 0, 0, 0, 0, []), (6, .getfield 9, 3, .ref 0, 12, 1, 148, []), (9, .iconst 4, 1, .int 4, 0, 0, 0, []), (10, .iconst 0, 1, .int 0, 0, 0, 0, []), (11, .iastore, 1, .int 0, 0, 0, 0, []), (12, .iconst 0, 1, .int 0, 0, 0, 0, []), (13, .ireturn, 1, .int 0, 0, 0, 0, []), (14, .aload_n 0, 1, .int 0, 0, 0, 0, []), (15, .getfield 9, 3, .ref 0, 12, 1, 148, []), (18, .iconst 4, 1, .int 4, 0, 0, 0, []), (19, .iaload, 1, .int 0, 0, 0, 0, []), (20, .istore 4, 2, .int 0, 0, 0, 0, []), (22, .iload_n 1, 1, .int 0, 0, 0, 0, []), (23, .i2l, 1, .int 0, 0, 0, 0, []), (24, .lconst 0, 1, .long 0, 0, 0, 0, []), (25, .ldc2_w 433, 3, .long 60, 0, 0, 10, []), (28, .invokestatic 149, 3, .int 0, 141, 3, 185, [(0, 12), (0, 1)]), (31, .ifCond .eq 31, 3, .int 0, 62, 0, 0, []), (34, .aload_n 0, 1, .int 0, 0, 0, 0, []), (35, .iload_n 2, 1, .int 0, 0, 0, 0, []), (36, .invokevirtual 351, 3, .int 0, 146, 2, 208, [(0, 12), (0, 1)]), (39, .ifCond .eq 23, 3, .int 0, 62, 0, 0, []), (42, .iload_n 3, 1, .int 0, 0, 0, 0, []), (43, .iconst (-1), 1, .int (-1), 0, 0, 0, []), (44, .if_icmp .eq 11, 3, .int 0, 55, 0, 0, []), (47, .aload_n 0, 1, .int 0, 0, 0, 0, []), (48, .iload_n 3, 1, .int 0, 0, 0, 0, []), (49, .invokevirtual 345, 3, .int 0, 145, 2, 206, [(0, 12), (0, 1)]), (52, .ifCond .eq 10, 3, .int 0, 62, 0, 0, []), (55, .iload 4, 2, .int 0, 0, 0, 0, []), (57, .bipush 10, 2, .int 10, 0, 0, 0, []), (59, .if_icmp .ne 6, 3, .int 0, 65, 0, 0, []), (62, .bipush (-2), 2, .int (-2), 0, 0, 0, []), (64, .ireturn, 1, .int 0, 0, 0, 0, []), (65, .aload_n 0, 1, .int 0, 0, 0, 0, []), (66, .getfield 34, 3, .ref 0, 12, 9, 156, []), (69, .iload 4, 2, .int 0, 0, 0, 0, []), (71, .iload_n 1, 1, .int 0, 0, 0, 0, []), (72, .iastore, 1, .int 0, 0, 0, 0, []), (73, .aload_n 0, 1, .int 0, 0, 0, 0, []), (74, .getfield 37, 3, .ref 0, 12, 10, 157, []), (77, .iload 4, 2, .int 0, 0, 0, 0, []), (79, .iload_n 2, 1, .int 0, 0, 0, 0, []), (80, .iastore, 1, .int 0, 0, 0, 0, []), (81, .aload_n 0, 1, .int 0, 0, 0, 0, []), (82, .getfield 40, 3, .ref 0, 12, 11, 158, []), (85, .iload 4, 2, .int 0, 0, 0, 0, []), (87, .iload_n 3, 1, .int 0, 0, 0, 0, []), (88, .iastore, 1, .int 0, 0, 0, 0, []), (89, .aload_n 0, 1, .int 0, 0, 0, 0, []), (90, .getfield 9, 3, .ref 0, 12, 1, 148, []), (93, .iconst 4, 1, .int 4, 0, 0, 0, []), (94, .dup2, 1, .int 0, 0, 0, 0, []), (95, .iaload, 1, .int 0, 0, 0, 0, []), (96, .iconst 1, 1, .int 1, 0, 0, 0, []), (97, .iadd, 1, .int 0, 0, 0, 0, []), (98, .iastore, 1, .int 0, 0, 0, 0, []), (99, .iload 4, 2, .int 0, 0, 0, 0, []), (101, .iconst 1, 1, .int 1, 0, 0, 0, []), (102, .iadd, 1, .int 0, 0, 0, 0, []), (103, .ireturn, 1, .int 0, 0, 0, 0, [])]
set_option maxRecDepth 100000 in
theorem okX12_note : codeOk 231 kX12_note := ⟨_, rfl, by decide +kernel⟩
def kX12_couldRule : List AI := [(0, .aload_n 0, 1, .int 0, 0, 0, 0, []), (1, .getfield 9, 3, .ref 0, 12, 1, 148, []), (4, .bipush 6, 2, .int 6, 0, 0, 0, []), (6, .iload_n 1, 1, .int 0, 0, 0, 0, []), (7, .iastore, 1, .int 0, 0, 0, 0, []), (8, .aload_n 0, 1, .int 0, 0, 0, 0, []), (9, .invokevirtual 309, 3, .int 0, 178, 1, 188, [(0, 12), (0, 0)]), (12, .iconst 0, 1, .int 0, 0, 0, 0, []), (13, .istore_n 2, 1, .int 0, 0, 0, 0, []), (14, .iload_n 2, 1, .int 0, 0, 0, 0, []), (15, .bipush 60, 2, .int 60, 0, 0, 0, []), (17, .if_icmp .gt 45, 3, .int 0, 62, 0, 0, []), (20, .aload_n 0, 1, .int 0, 0, 0, 0, []), (21, .invokevirtual 382, 3, .int 0, 198, 1, 217, [(0, 12), (0, 1)]), (24, .pop, 1, .int 0, 0, 0, 0, []), (25, .iconst 0, 1, .int 0, 0, 0, 0, []), (26, .istore_n 3, 1, .int 0, 0, 0, 0, []), (27, .iload_n 3, 1, .int 0, 0, 0, 0, []), (28, .bipush 6, 2, .int 6, 0, 0, 0, []), (30, .if_icmp .ge 26, 3, .int 0, 56, 0, 0, []), (33, .aload_n 0, 1, .int 0, 0, 0, 0, []), (34, .getfield 133, 3, .ref 0, 12, 53, 200, []), (37, .bipush 6, 2, .int 6, 0, 0, 0, []), (39, .iload_n 2, 1, .int 0, 0, 0, 0, []), (40, .imul, 1, .int 0, 0, 0, 0, []), (41, .iload_n 3, 1, .int 0, 0, 0, 0, []), (42, .iadd, 1, .int 0, 0, 0, 0, []), (43, .aload_n 0, 1, .int 0, 0, 0, 0, []), (44, .getfield 25, 3, .ref 0, 12, 6, 153, []), (47, .iload_n 3, 1, .int 0, 0, 0, 0, []), (48, .iaload, 1, .int 0, 0, 0, 0, []), (49, .iastore, 1, .int 0, 0, 0, 0, []), (50, .iinc 3 1, 3, .int 1, 0, 0, 0, []), (53, .goto (-26), 3, .int 0, 27, 0, 0, []), (56, .iinc 2 1, 3, .int 1, 0, 0, 0, []), (59, .goto (-45), 3, .int 0, 14, 0, 0, []), (62, .aload_n 0, 1, .int 0, 0, 0, 0, []), (63, .invokevirtual 427, 3, .int 0, 212, 1, 239, [(0, 12), (0, 0)]), (66, .iconst 0, 1, .int 0, 0, 0, 0, []), (67, .istore_n 2, 1, .int 0, 0, 0, 0, []), (68, .iload_n 2, 1, .int 0, 0, 0, 0, []), (69, .aload_n 0, 1, .int 0, 0, 0, 0, []), (70, .getfield 9, 3, .ref 0, 12, 1, 148, []), (73, .iconst 4, 1, .int 4, 0, 0, 0, []), (74, .iaload, 1, .int 0, 0, 0, 0, []), (75, .if_icmp .ge 41, 3, .int 0, 116, 0, 0, []), (78, .aload_n 0, 1, .int 0, 0, 0, 0, []), (79, .getfield 133, 3, .ref 0, 12, 53, 200, []), (82, .bipush 6, 2, .int 6, 0, 0, 0, []), (84, .aload_n 0, 1, .int 0, 0, 0, 0, []), (85, .getfield 34, 3, .ref 0, 12, 9, 156, []), (88, .iload_n 2, 1, .int 0, 0, 0, 0, []), (89, .iaload, 1, .int 0, 0, 0, 0, []), (90, .imul, 1, .int 0, 0, 0, 0, []), (91, .aload_n 0, 1, .int 0, 0, 0, 0, []), (92, .getfield 37, 3, .ref 0, 12, 10, 157, []), (95, .iload_n 2, 1, .int 0, 0, 0, 0, []), (96, .iaload, 1, .int 0, 0, 0, 0, []), (97, .iadd, 1, .int 0, 0, 0, 0, []), (98, .iaload, 1, .int 0, 0, 0, 0, []), (99, .aload_n 0, 1, .int 0, 0, 0, 0, []), (100, .getfield 40, 3, .ref 0, 12, 11, 158, []), (103, .iload_n 2, 1, .int 0, 0, 0, 0, []), (104, .iaload, 1, .int 0, 0, 0, 0, []), (105, .if_icmp .eq 5, 3, .int 0, 110, 0, 0, []), (108, .iconst 0, 1, .int 0, 0, 0, 0, []), (109, .ireturn, 1, .int 0, 0, 0, 0, []), (110, .iinc 2 1, 3, .int 1, 0, 0, 0, []), (113, .goto (-45), 3, .int 0, 68, 0, 0, []), (116, .iconst 1, 1, .int 1, 0, 0, 0, []), (117, .ireturn, 1, .int 0, 0, 0, 0, [])]
set_option maxRecDepth 100000 in
theorem okX12_couldRule : codeOk 232 kX12_couldRule := ⟨_, rfl, by decide +kernel⟩
def kX12_ruled : List AI := [(0, .aload_n 0, 1, .int 0, 0, 0, 0, []), (1, .invokevirtual 403, 3, .int 0, 144, 1, 215, [(0, 12), (0, 1)]), (4, .ifCond .eq 13, 3, .int 0, 17, 0, 0, []), (7, .iload_n 1, 1, .int 0, 0, 0, 0, []), (8, .i2l, 1, .int 0, 0, 0, 0, []), (9, .lconst 0, 1, .long 0, 0, 0, 0, []), (10, .lconst 1, 1, .long 1, 0, 0, 0, []), (11, .invokestatic 149, 3, .int 0, 141, 3, 185, [(0, 12), (0, 1)]), (14, .ifCond .ne 6, 3, .int 0, 20, 0, 0, []), (17, .bipush (-3), 2, .int (-3), 0, 0, 0, []), (19, .ireturn, 1, .int 0, 0, 0, 0, []), (20, .aload_n 0, 1, .int 0, 0, 0, 0, []), (21, .invokevirtual 421, 3, .int 0, 211, 1, 235, [(0, 12), (0, 0)]), (24, .iconst 0, 1, .int 0, 0, 0, 0, []), (25, .istore_n 2, 1, .int 0, 0, 0, 0, []), (26, .bipush (-2), 2, .int (-2), 0, 0, 0, []), (28, .istore_n 3, 1, .int 0, 0, 0, 0, []), (29, .iconst (-1), 1, .int (-1), 0, 0, 0, []), (30, .istore 4, 2, .int 0, 0, 0, 0, []), (32, .iload 4, 2, .int 0, 0, 0, 0, []), (34, .aload_n 0, 1, .int 0, 0, 0, 0, []), (35, .getfield 325, 3, .int 0, 12, 25, 172, []), (38, .if_icmp .ge 32, 3, .int 0, 70, 0, 0, []), (41, .aload_n 0, 1, .int 0, 0, 0, 0, []), (42, .iload 4, 2, .int 0, 0, 0, 0, []), (44, .invokevirtual 467, 3, .int 0, 232, 2, 262, [(0, 12), (0, 1)]), (47, .ifCond .eq 17, 3, .int 0, 64, 0, 0, []), (50, .iload_n 2, 1, .int 0, 0, 0, 0, []), (51, .ifCond .ne 8, 3, .int 0, 59, 0, 0, []), (54, .iload 4, 2, .int 0, 0, 0, 0, []), (56, .goto 4, 3, .int 0, 60, 0, 0, []), (59, .iload_n 3, 1, .int 0, 0, 0, 0, []), (60, .istore_n 3, 1, .int 0, 0, 0, 0, []), (61, .iinc 2 1, 3, .int 1, 0, 0, 0, []), (64, .iinc 4 1, 3, .int 1, 0, 0, 0, []), (67, .goto (-35), 3, .int 0, 32, 0, 0, []), (70, .iload_n 1, 1, .int 0, 0, 0, 0, []), (71, .ifCond .ne 7, 3, .int 0, 78, 0, 0, []), (74, .iload_n 2, 1, .int 0, 0, 0, 0, []), (75, .goto 4, 3, .int 0, 79, 0, 0, []), (78, .iload_n 3, 1, .int 0, 0, 0, 0, []), (79, .ireturn, 1, .int 0, 0, 0, 0, [])]
set_option maxRecDepth 100000 in
theorem okX12_ruled : codeOk 233 kX12_ruled := ⟨_, rfl, by decide +kernel⟩
def kX12_mostAlike : List AI := [(0, .iconst 0, 1, .int 0, 0, 0, 0, []), (1, .istore_n 3, 1, .int 0, 0, 0, 0, []), (2, .iconst 0, 1, .int 0, 0, 0, 0, []), (3, .istore 4, 2, .int 0, 0, 0, 0, []), (5, .iload 4, 2, .int 0, 0, 0, 0, []), (7, .iload_n 2, 1, .int 0, 0, 0, 0, []), (8, .if_icmp .ge 77, 3, .int 0, 85, 0, 0, []), (11, .iconst 0, 1, .int 0, 0, 0, 0, []), (12, .istore 5, 2, .int 0, 0, 0, 0, []), (14, .iconst 0, 1, .int 0, 0, 0, 0, []), (15, .istore 6, 2, .int 0, 0, 0, 0, []), (17, .iload 6, 2, .int 0, 0, 0, 0, []), (19, .iload_n 2, 1, .int 0, 0, 0, 0, []), (20, .if_icmp .ge 46, 3, .int 0, 66, 0, 0, []), (23, .iload 5, 2, .int 0, 0, 0, 0, []), (25, .aload_n 0, 1, .int 0, 0, 0, 0, []), (26, .getfield 136, 3, .ref 0, 12, 54, 201, []), (29, .bipush 6, 2, .int 6, 0, 0, 0, []), (31, .iload 6, 2, .int 0, 0, 0, 0, []), (33, .imul, 1, .int 0, 0, 0, 0, []), (34, .iload_n 1, 1, .int 0, 0, 0, 0, []), (35, .iadd, 1, .int 0, 0, 0, 0, []), (36, .iaload, 1, .int 0, 0, 0, 0, []), (37, .aload_n 0, 1, .int 0, 0, 0, 0, []), (38, .getfield 136, 3, .ref 0, 12, 54, 201, []), (41, .bipush 6, 2, .int 6, 0, 0, 0, []), (43, .iload 4, 2, .int 0, 0, 0, 0, []), (45, .imul, 1, .int 0, 0, 0, 0, []), (46, .iload_n 1, 1, .int 0, 0, 0, 0, []), (47, .iadd, 1, .int 0, 0, 0, 0, []), (48, .iaload, 1, .int 0, 0, 0, 0, []), (49, .if_icmp .ne 7, 3, .int 0, 56, 0, 0, []), (52, .iconst 1, 1, .int 1, 0, 0, 0, []), (53, .goto 4, 3, .int 0, 57, 0, 0, []), (56, .iconst 0, 1, .int 0, 0, 0, 0, []), (57, .iadd, 1, .int 0, 0, 0, 0, []), (58, .istore 5, 2, .int 0, 0, 0, 0, []), (60, .iinc 6 1, 3, .int 1, 0, 0, 0, []), (63, .goto (-46), 3, .int 0, 17, 0, 0, []), (66, .iload 5, 2, .int 0, 0, 0, 0, []), (68, .iload_n 3, 1, .int 0, 0, 0, 0, []), (69, .if_icmp .le 8, 3, .int 0, 77, 0, 0, []), (72, .iload 5, 2, .int 0, 0, 0, 0, []), (74, .goto 4, 3, .int 0, 78, 0, 0, []), (77, .iload_n 3, 1, .int 0, 0, 0, 0, []), (78, .istore_n 3, 1, .int 0, 0, 0, 0, []), (79, .iinc 4 1, 3, .int 1, 0, 0, 0, []), (82, .goto (-77), 3, .int 0, 5, 0, 0, []), (85, .iload_n 3, 1, .int 0, 0, 0, 0, []), (86, .ireturn, 1, .int 0, 0, 0, 0, [])]
set_option maxRecDepth 100000 in
theorem okX12_mostAlike : codeOk 234 kX12_mostAlike := ⟨_, rfl, by decide +kernel⟩
def kX12_look : List AI := [(0, .aload_n 0, 1, .int 0, 0, 0, 0, []), (1, .invokevirtual 403, 3, .int 0, 144, 1, 215, [(0, 12), (0, 1)]), (4, .ifCond .eq 25, 3, .int 0, 29, 0, 0, []), (7, .iload_n 1, 1, .int 0, 0, 0, 0, []), (8, .i2l, 1, .int 0, 0, 0, 0, []), (9, .lconst 0, 1, .long 0, 0, 0, 0, []), (10, .ldc2_w 433, 3, .long 60, 0, 0, 10, []), (13, .invokestatic 149, 3, .int 0, 141, 3, 185, [(0, 12), (0, 1)]), (16, .ifCond .eq 13, 3, .int 0, 29, 0, 0, []), (19, .iload_n 2, 1, .int 0, 0, 0, 0, []), (20, .i2l, 1, .int 0, 0, 0, 0, []), (21, .lconst 0, 1, .long 0, 0, 0, 0, []), (22, .lconst 1, 1, .long 1, 0, 0, 0, []), (23, .invokestatic 149, 3, .int 0, 141, 3, 185, [(0, 12), (0, 1)]), (26, .ifCond .ne 5, 3, .int 0, 31, 0, 0, []), (29, .iconst (-1), 1, .int (-1), 0, 0, 0, []), (30, .ireturn, 1, .int 0, 0, 0, 0, []), (31, .aload_n 0, 1, .int 0, 0, 0, 0, []), (32, .invokevirtual 421, 3, .int 0, 211, 1, 235, [(0, 12), (0, 0)]), (35, .iconst 0, 1, .int 0, 0, 0, 0, []), (36, .istore_n 3, 1, .int 0, 0, 0, 0, []), (37, .iconst (-1), 1, .int (-1), 0, 0, 0, []), (38, .istore 4, 2, .int 0, 0, 0, 0, []), (40, .iload 4, 2, .int 0, 0, 0, 0, []), (42, .aload_n 0, 1, .int 0, 0, 0, 0, []), (43, .getfield 325, 3, .int 0, 12, 25, 172, []), (46, .if_icmp .ge 61, 3, .int 0, 107, 0, 0, []), (49, .aload_n 0, 1, .int 0, 0, 0, 0, []), (50, .iload 4, 2, .int 0, 0, 0, 0, []), (52, .invokevirtual 467, 3, .int 0, 232, 2, 262, [(0, 12), (0, 1)]), (55, .ifCond .eq 46, 3, .int 0, 101, 0, 0, []), (58, .iconst 0, 1, .int 0, 0, 0, 0, []), (59, .istore 5, 2, .int 0, 0, 0, 0, []), (61, .iload 5, 2, .int 0, 0, 0, 0, []), (63, .bipush 6, 2, .int 6, 0, 0, 0, []), (65, .if_icmp .ge 33, 3, .int 0, 98, 0, 0, []), (68, .aload_n 0, 1, .int 0, 0, 0, 0, []), (69, .getfield 136, 3, .ref 0, 12, 54, 201, []), (72, .bipush 6, 2, .int 6, 0, 0, 0, []), (74, .iload_n 3, 1, .int 0, 0, 0, 0, []), (75, .imul, 1, .int 0, 0, 0, 0, []), (76, .iload 5, 2, .int 0, 0, 0, 0, []), (78, .iadd, 1, .int 0, 0, 0, 0, []), (79, .aload_n 0, 1, .int 0, 0, 0, 0, []), (80, .getfield 133, 3, .ref 0, 12, 53, 200, []), (83, .bipush 6, 2, .int 6, 0, 0, 0, []), (85, .iload_n 1, 1, .int 0, 0, 0, 0, []), (86, .imul, 1, .int 0, 0, 0, 0, []), (87, .iload 5, 2, .int 0, 0, 0, 0, []), (89, .iadd, 1, .int 0, 0, 0, 0, []), (90, .iaload, 1, .int 0, 0, 0, 0, []), (91, .iastore, 1, .int 0, 0, 0, 0, []), (92, .iinc 5 1, 3, .int 1, 0, 0, 0, []), (95, .goto (-34), 3, .int 0, 61, 0, 0, []), (98, .iinc 3 1, 3, .int 1, 0, 0, 0, []), (101, .iinc 4 1, 3, .int 1, 0, 0, 0, []), (104, .goto (-64), 3, .int 0, 40, 0, 0, []), (107, .iload_n 3, 1, .int 0, 0, 0, 0, []), (108, .ifCond .eq 12, 3, .int 0, 120, 0, 0, []), (111, .aload_n 0, 1, .int 0, 0, 0, 0, []), (112, .getfield 9, 3, .ref 0, 12, 1, 148, []), (115, .iconst 2, 1, .int 2, 0, 0, 0, []), (116, .iaload, 1, .int 0, 0, 0, 0, []), (117, .ifCond .ne 6, 3, .int 0, 123, 0, 0, []), (120, .bipush (-2), 2, .int (-2), 0, 0, 0, []), (122, .ireturn, 1, .int 0, 0, 0, 0, []), (123, .iconst 0, 1, .int 0, 0, 0, 0, []), (124, .istore 4, 2, .int 0, 0, 0, 0, []), (126, .iconst 1, 1, .int 1, 0, 0, 0, []), (127, .istore 5, 2, .int 0, 0, 0, 0, []), (129, .iload 5, 2, .int 0, 0, 0, 0, []), (131, .aload_n 0, 1, .int 0, 0, 0, 0, []), (132, .getfield 9, 3, .ref 0, 12, 1, 148, []), (135, .iconst 2, 1, .int 2, 0, 0, 0, []), (136, .iaload, 1, .int 0, 0, 0, 0, []), (137, .if_icmp .ge 35, 3, .int 0, 172, 0, 0, []), (140, .aload_n 0, 1, .int 0, 0, 0, 0, []), (141, .iload 5, 2, .int 0, 0, 0, 0, []), (143, .iload_n 3, 1, .int 0, 0, 0, 0, []), (144, .invokevirtual 470, 3, .int 0, 234, 3, 264, [(0, 12), (0, 1)]), (147, .aload_n 0, 1, .int 0, 0, 0, 0, []), (148, .iload 4, 2, .int 0, 0, 0, 0, []), (150, .iload_n 3, 1, .int 0, 0, 0, 0, []), (151, .invokevirtual 470, 3, .int 0, 234, 3, 264, [(0, 12), (0, 1)]), (154, .if_icmp .ge 8, 3, .int 0, 162, 0, 0, []), (157, .iload 5, 2, .int 0, 0, 0, 0, []), (159, .goto 5, 3, .int 0, 164, 0, 0, []), (162, .iload 4, 2, .int 0, 0, 0, 0, []), (164, .istore 4, 2, .int 0, 0, 0, 0, []), (166, .iinc 5 1, 3, .int 1, 0, 0, 0, []), (169, .goto (-40), 3, .int 0, 129, 0, 0, []), (172, .iload_n 2, 1, .int 0, 0, 0, 0, []), (173, .ifCond .ne 8, 3, .int 0, 181, 0, 0, []), (176, .iload 4, 2, .int 0, 0, 0, 0, []), (178, .goto 10, 3, .int 0, 188, 0, 0, []), (181, .aload_n 0, 1, .int 0, 0, 0, 0, []), (182, .iload 4, 2, .int 0, 0, 0, 0, []), (184, .iload_n 3, 1, .int 0, 0, 0, 0, []), (185, .invokevirtual 470, 3, .int 0, 234, 3, 264, [(0, 12), (0, 1)]), (188, .ireturn, 1, .int 0, 0, 0, 0, [])]
set_option maxRecDepth 100000 in
theorem okX12_look : codeOk 235 kX12_look := ⟨_, rfl, by decide +kernel⟩
def kX12_seed : List AI := [(0, .iload_n 1, 1, .int 0, 0, 0, 0, []), (1, .ifCond .ge 5, 3, .int 0, 6, 0, 0, []), (4, .iconst (-1), 1, .int (-1), 0, 0, 0, []), (5, .ireturn, 1, .int 0, 0, 0, 0, []), (6, .aload_n 0, 1, .int 0, 0, 0, 0, []), (7, .getfield 9, 3, .ref 0, 12, 1, 148, []), (10, .iconst 5, 1, .int 5, 0, 0, 0, []), (11, .iaload, 1, .int 0, 0, 0, 0, []), (12, .istore_n 2, 1, .int 0, 0, 0, 0, []), (13, .aload_n 0, 1, .int 0, 0, 0, 0, []), (14, .getfield 9, 3, .ref 0, 12, 1, 148, []), (17, .iconst 5, 1, .int 5, 0, 0, 0, []), (18, .iload_n 1, 1, .int 0, 0, 0, 0, []), (19, .iastore, 1, .int 0, 0, 0, 0, []), (20, .iload_n 2, 1, .int 0, 0, 0, 0, []), (21, .ireturn, 1, .int 0, 0, 0, 0, [])]
set_option maxRecDepth 100000 in
theorem okX12_seed : codeOk 236 kX12_seed := ⟨_, rfl, by decide +kernel⟩
def kX12_draws : List AI := [(0, .aload_n 0, 1, .int 0, 0, 0, 0, []), (1, .getfield 9, 3, .ref 0, 12, 1, 148, []), (4, .iconst 5, 1, .int 5, 0, 0, 0, []), (5, .aload_n 0, 1, .int 0, 0, 0, 0, []), (6, .getfield 9, 3, .ref 0, 12, 1, 148, []), (9, .iconst 5, 1, .int 5, 0, 0, 0, []), (10, .iaload, 1, .int 0, 0, 0, 0, []), (11, .i2l, 1, .int 0, 0, 0, 0, []), (12, .ldc2_w 473, 3, .long 1103515245, 0, 0, 14, []), (15, .lmul, 1, .int 0, 0, 0, 0, []), (16, .ldc2_w 475, 3, .long 12345, 0, 0, 15, []), (19, .ladd, 1, .int 0, 0, 0, 0, []), (20, .ldc2_w 477, 3, .long 2147483648, 0, 0, 16, []), (23, .lrem, 1, .int 0, 0, 0, 0, []), (24, .l2i, 1, .int 0, 0, 0, 0, []), (25, .iastore, 1, .int 0, 0, 0, 0, []), (26, .aload_n 0, 1, .int 0, 0, 0, 0, []), (27, .getfield 9, 3, .ref 0, 12, 1, 148, []), (30, .iconst 5, 1, .int 5, 0, 0, 0, []), (31, .iaload, 1, .int 0, 0, 0, 0, []), (32, .ldc_w 479, 3, .int 65536, 0, 0, 6, []), (35, .idiv, 1, .int 0, 0, 0, 0, []), (36, .iload_n 1, 1, .int 0, 0, 0, 0, []), (37, .irem, 1, .int 0, 0, 0, 0, []), (38, .ireturn, 1, .int 0, 0, 0, 0, [])]
set_option maxRecDepth 100000 in
theorem okX12_draws : codeOk 237 kX12_draws := ⟨_, rfl, by decide +kernel⟩
def kX12_greatestPurse : List AI := [(0, .iconst 0, 1, .int 0, 0, 0, 0, []), (1, .istore_n 1, 1, .int 0, 0, 0, 0, []), (2, .iconst 0, 1, .int 0, 0, 0, 0, []), (3, .istore_n 2, 1, .int 0, 0, 0, 0, []), (4, .iload_n 2, 1, .int 0, 0, 0, 0, []), (5, .aload_n 0, 1, .int 0, 0, 0, 0, []), (6, .getfield 9, 3, .ref 0, 12, 1, 148, []), (9, .iconst 1, 1, .int 1, 0, 0, 0, []), (10, .iaload, 1, .int 0, 0, 0, 0, []), (11, .if_icmp .ge 30, 3, .int 0, 41, 0, 0, []), (14, .aload_n 0, 1, .int 0, 0, 0, 0, []), (15, .getfield 13, 3, .ref 0, 12, 2, 149, []), (18, .iload_n 2, 1, .int 0, 0, 0, 0, []), (19, .iaload, 1, .int 0, 0, 0, 0, []), (20, .iload_n 1, 1, .int 0, 0, 0, 0, []), (21, .if_icmp .le 12, 3, .int 0, 33, 0, 0, []), (24, .aload_n 0, 1, .int 0, 0, 0, 0, []), (25, .getfield 13, 3, .ref 0, 12, 2, 149, []), (28, .iload_n 2, 1, .int 0, 0, 0, 0, []), (29, .iaload, 1, .int 0, 0, 0, 0, []), (30, .goto 4, 3, .int 0, 34, 0, 0, []), (33, .iload_n 1, 1, .int 0, 0, 0, 0, []), (34, .istore_n 1, 1, .int 0, 0, 0, 0, []), (35, .iinc 2 1, 3, .int 1, 0, 0, 0, []), (38, .goto (-34), 3, .int 0, 4, 0, 0, []), (41, .iload_n 1, 1, .int 0, 0, 0, 0, []), (42, .ireturn, 1, .int 0, 0, 0, 0, [])]
set_option maxRecDepth 100000 in
theorem okX12_greatestPurse : codeOk 238 kX12_greatestPurse := ⟨_, rfl, by decide +kernel⟩
def kX12_falls : List AI := [(0, .aload_n 0, 1, .int 0, 0, 0, 0, []), (1, .invokevirtual 403, 3, .int 0, 144, 1, 215, [(0, 12), (0, 1)]), (4, .ifCond .eq 50, 3, .int 0, 54, 0, 0, []), (7, .iload_n 1, 1, .int 0, 0, 0, 0, []), (8, .i2l, 1, .int 0, 0, 0, 0, []), (9, .lconst 1, 1, .long 1, 0, 0, 0, []), (10, .ldc2_w 480, 3, .long 10, 0, 0, 13, []), (13, .invokestatic 149, 3, .int 0, 141, 3, 185, [(0, 12), (0, 1)]), (16, .ifCond .eq 38, 3, .int 0, 54, 0, 0, []), (19, .iload_n 2, 1, .int 0, 0, 0, 0, []), (20, .i2l, 1, .int 0, 0, 0, 0, []), (21, .lconst 1, 1, .long 1, 0, 0, 0, []), (22, .ldc2_w 433, 3, .long 60, 0, 0, 10, []), (25, .invokestatic 149, 3, .int 0, 141, 3, 185, [(0, 12), (0, 1)]), (28, .ifCond .eq 26, 3, .int 0, 54, 0, 0, []), (31, .iload_n 3, 1, .int 0, 0, 0, 0, []), (32, .i2l, 1, .int 0, 0, 0, 0, []), (33, .lconst 0, 1, .long 0, 0, 0, 0, []), (34, .ldc2_w 419, 3, .long 100, 0, 0, 9, []), (37, .invokestatic 149, 3, .int 0, 141, 3, 185, [(0, 12), (0, 1)]), (40, .ifCond .eq 14, 3, .int 0, 54, 0, 0, []), (43, .iload 4, 2, .int 0, 0, 0, 0, []), (45, .i2l, 1, .int 0, 0, 0, 0, []), (46, .lconst 0, 1, .long 0, 0, 0, 0, []), (47, .lconst 1, 1, .long 1, 0, 0, 0, []), (48, .invokestatic 149, 3, .int 0, 141, 3, 185, [(0, 12), (0, 1)]), (51, .ifCond .ne 5, 3, .int 0, 56, 0, 0, []), (54, .iconst (-1), 1, .int (-1), 0, 0, 0, []), (55, .ireturn, 1, .int 0, 0, 0, 0, []), (56, .aload_n 0, 1, .int 0, 0, 0, 0, []), (57, .getfield 9, 3, .ref 0, 12, 1, 148, []), (60, .iconst 5, 1, .int 5, 0, 0, 0, []), (61, .iaload, 1, .int 0, 0, 0, 0, []), (62, .istore 5, 2, .int 0, 0, 0, 0, []), (64, .iload 5, 2, .int 0, 0, 0, 0, []), (66, .istore 6, 2, .int 0, 0, 0, 0, []), (68, .aload_n 0, 1, .int 0, 0, 0, 0, []), (69, .invokevirtual 464, 3, .int 0, 191, 1, 259, [(0, 12), (0, 1)]), (72, .istore 7, 2, .int 0, 0, 0, 0, []), (74, .iconst 0, 1, .int 0, 0, 0, 0, []), (75, .istore 8, 2, .int 0, 0, 0, 0, []), (77, .aload_n 0, 1, .int 0, 0, 0, 0, []), (78, .invokevirtual 421, 3, .int 0, 211, 1, 235, [(0, 12), (0, 0)]), (81, .iconst 0, 1, .int 0, 0, 0, 0, []), (82, .istore 9, 2, .int 0, 0, 0, 0, []), (84, .iload 9, 2, .int 0, 0, 0, 0, []), (86, .iload_n 1, 1, .int 0, 0, 0, 0, []), (87, .if_icmp .ge 108, 3, .int 0, 195, 0, 0, []), (90, .aload_n 0, 1, .int 0, 0, 0, 0, []), (91, .getfield 9, 3, .ref 0, 12, 1, 148, []), (94, .iconst 5, 1, .int 5, 0, 0, 0, []), (95, .iload 6, 2, .int 0, 0, 0, 0, []), (97, .iastore, 1, .int 0, 0, 0, 0, []), (98, .iconst 0, 1, .int 0, 0, 0, 0, []), (99, .istore 10, 2, .int 0, 0, 0, 0, []), (101, .iload 10, 2, .int 0, 0, 0, 0, []), (103, .iload_n 2, 1, .int 0, 0, 0, 0, []), (104, .if_icmp .ge 49, 3, .int 0, 153, 0, 0, []), (107, .aload_n 0, 1, .int 0, 0, 0, 0, []), (108, .bipush 100, 2, .int 100, 0, 0, 0, []), (110, .invokevirtual 482, 3, .int 0, 237, 2, 267, [(0, 12), (0, 1)]), (113, .iload_n 3, 1, .int 0, 0, 0, 0, []), (114, .if_icmp .ge 28, 3, .int 0, 142, 0, 0, []), (117, .aload_n 0, 1, .int 0, 0, 0, 0, []), (118, .getfield 9, 3, .ref 0, 12, 1, 148, []), (121, .iconst 1, 1, .int 1, 0, 0, 0, []), (122, .iaload, 1, .int 0, 0, 0, 0, []), (123, .ifCond .le 19, 3, .int 0, 142, 0, 0, []), (126, .aload_n 0, 1, .int 0, 0, 0, 0, []), (127, .getfield 13, 3, .ref 0, 12, 2, 149, []), (130, .aload_n 0, 1, .int 0, 0, 0, 0, []), (131, .aload_n 0, 1, .int 0, 0, 0, 0, []), (132, .getfield 9, 3, .ref 0, 12, 1, 148, []), (135, .iconst 1, 1, .int 1, 0, 0, 0, []), (136, .iaload, 1, .int 0, 0, 0, 0, []), (137, .invokevirtual 482, 3, .int 0, 237, 2, 267, [(0, 12), (0, 1)]), (140, .iconst 0, 1, .int 0, 0, 0, 0, []), (141, .iastore, 1, .int 0, 0, 0, 0, []), (142, .aload_n 0, 1, .int 0, 0, 0, 0, []), (143, .invokevirtual 382, 3, .int 0, 198, 1, 217, [(0, 12), (0, 1)]), (146, .pop, 1, .int 0, 0, 0, 0, []), (147, .iinc 10 1, 3, .int 1, 0, 0, 0, []), (150, .goto (-49), 3, .int 0, 101, 0, 0, []), (153, .iload 8, 2, .int 0, 0, 0, 0, []), (155, .iload 4, 2, .int 0, 0, 0, 0, []), (157, .ifCond .ne 13, 3, .int 0, 170, 0, 0, []), (160, .aload_n 0, 1, .int 0, 0, 0, 0, []), (161, .invokevirtual 464, 3, .int 0, 191, 1, 259, [(0, 12), (0, 1)]), (164, .iload 7, 2, .int 0, 0, 0, 0, []), (166, .isub, 1, .int 0, 0, 0, 0, []), (167, .goto 7, 3, .int 0, 174, 0, 0, []), (170, .aload_n 0, 1, .int 0, 0, 0, 0, []), (171, .invokevirtual 485, 3, .int 0, 238, 1, 268, [(0, 12), (0, 1)]), (174, .iadd, 1, .int 0, 0, 0, 0, []), (175, .istore 8, 2, .int 0, 0, 0, 0, []), (177, .aload_n 0, 1, .int 0, 0, 0, 0, []), (178, .getfield 9, 3, .ref 0, 12, 1, 148, []), (181, .iconst 5, 1, .int 5, 0, 0, 0, []), (182, .iaload, 1, .int 0, 0, 0, 0, []), (183, .istore 6, 2, .int 0, 0, 0, 0, []), (185, .aload_n 0, 1, .int 0, 0, 0, 0, []), (186, .invokevirtual 427, 3, .int 0, 212, 1, 239, [(0, 12), (0, 0)]), (189, .iinc 9 1, 3, .int 1, 0, 0, 0, []), (192, .goto (-108), 3, .int 0, 84, 0, 0, []), (195, .aload_n 0, 1, .int 0, 0, 0, 0, []), (196, .getfield 9, 3, .ref 0, 12, 1, 148, []), (199, .iconst 5, 1, .int 5, 0, 0, 0, []), (200, .iload 5, 2, .int 0, 0, 0, 0, []), (202, .iastore, 1, .int 0, 0, 0, 0, []), (203, .iload 8, 2, .int 0, 0, 0, 0, []), (205, .ireturn, 1, .int 0, 0, 0, 0, [])]
set_option maxRecDepth 100000 in
theorem okX12_falls : codeOk 239 kX12_falls := ⟨_, rfl, by decide +kernel⟩
def kX12_allThere : List AI := [(0, .iconst 0, 1, .int 0, 0, 0, 0, []), (1, .istore_n 1, 1, .int 0, 0, 0, 0, []), (2, .iconst 0, 1, .int 0, 0, 0, 0, []), (3, .istore_n 2, 1, .int 0, 0, 0, 0, []), (4, .iload_n 2, 1, .int 0, 0, 0, 0, []), (5, .aload_n 0, 1, .int 0, 0, 0, 0, []), (6, .getfield 9, 3, .ref 0, 12, 1, 148, []), (9, .iconst 2, 1, .int 2, 0, 0, 0, []), (10, .iaload, 1, .int 0, 0, 0, 0, []), (11, .if_icmp .ge 27, 3, .int 0, 38, 0, 0, []), (14, .iload_n 1, 1, .int 0, 0, 0, 0, []), (15, .aload_n 0, 1, .int 0, 0, 0, 0, []), (16, .iload_n 2, 1, .int 0, 0, 0, 0, []), (17, .invokevirtual 354, 3, .int 0, 187, 2, 209, [(0, 12), (0, 1)]), (20, .ifCond .eq 9, 3, .int 0, 29, 0, 0, []), (23, .iconst 1, 1, .int 1, 0, 0, 0, []), (24, .iload_n 2, 1, .int 0, 0, 0, 0, []), (25, .ishl, 1, .int 0, 0, 0, 0, []), (26, .goto 4, 3, .int 0, 30, 0, 0, []), (29, .iconst 0, 1, .int 0, 0, 0, 0, []), (30, .ior, 1, .int 0, 0, 0, 0, []), (31, .istore_n 1, 1, .int 0, 0, 0, 0, []), (32, .iinc 2 1, 3, .int 1, 0, 0, 0, []), (35, .goto (-31), 3, .int 0, 4, 0, 0, []), (38, .iload_n 1, 1, .int 0, 0, 0, 0, []), (39, .ireturn, 1, .int 0, 0, 0, 0, [])]
set_option maxRecDepth 100000 in
theorem okX12_allThere : codeOk 240 kX12_allThere := ⟨_, rfl, by decide +kernel⟩
def kX12_count : List AI := [(0, .iload_n 1, 1, .int 0, 0, 0, 0, []), (1, .tableswitch 138 0 11 #[63, 70, 77, 84, 89, 97, 104, 109, 114, 121, 126, 133], 63, .int 0, 139, 0, 0, [(0, 64), (1, 71), (2, 78), (3, 85), (4, 90), (5, 98), (6, 105), (7, 110), (8, 115), (9, 122), (10, 127), (11, 134)]), (64, .aload_n 0, 1, .int 0, 0, 0, 0, []), (65, .getfield 9, 3, .ref 0, 12, 1, 148, []), (68, .iconst 0, 1, .int 0, 0, 0, 0, []), (69, .iaload, 1, .int 0, 0, 0, 0, []), (70, .ireturn, 1, .int 0, 0, 0, 0, []), (71, .aload_n 0, 1, .int 0, 0, 0, 0, []), (72, .getfield 9, 3, .ref 0, 12, 1, 148, []), (75, .iconst 1, 1, .int 1, 0, 0, 0, []), (76, .iaload, 1, .int 0, 0, 0, 0, []), (77, .ireturn, 1, .int 0, 0, 0, 0, []), (78, .aload_n 0, 1, .int 0, 0, 0, 0, []), (79, .getfield 9, 3, .ref 0, 12, 1, 148, []), (82, .iconst 2, 1, .int 2, 0, 0, 0, []), (83, .iaload, 1, .int 0, 0, 0, 0, []), (84, .ireturn, 1, .int 0, 0, 0, 0, []), (85, .aload_n 0, 1, .int 0, 0, 0, 0, []), (86, .getfield 325, 3, .int 0, 12, 25, 172, []), (89, .ireturn, 1, .int 0, 0, 0, 0, []), (90, .aload_n 0, 1, .int 0, 0, 0, 0, []), (91, .getfield 9, 3, .ref 0, 12, 1, 148, []), (94, .bipush 6, 2, .int 6, 0, 0, 0, []), (96, .iaload, 1, .int 0, 0, 0, 0, []), (97, .ireturn, 1, .int 0, 0, 0, 0, []), (98, .aload_n 0, 1, .int 0, 0, 0, 0, []), (99, .getfield 9, 3, .ref 0, 12, 1, 148, []), (102, .iconst 3, 1, .int 3, 0, 0, 0, []), (103, .iaload, 1, .int 0, 0, 0, 0, []), (104, .ireturn, 1, .int 0, 0, 0, 0, []), (105, .aload_n 0, 1, .int 0, 0, 0, 0, []), (106, .invokevirtual 464, 3, .int 0, 191, 1, 259, [(0, 12), (0, 1)]), (109, .ireturn, 1, .int 0, 0, 0, 0, []), (110, .aload_n 0, 1, .int 0, 0, 0, 0, []), (111, .invokevirtual 488, 3, .int 0, 240, 1, 270, [(0, 12), (0, 1)]), (114, .ireturn, 1, .int 0, 0, 0, 0, []), (115, .aload_n 0, 1, .int 0, 0, 0, 0, []), (116, .getfield 9, 3, .ref 0, 12, 1, 148, []), (119, .iconst 4, 1, .int 4, 0, 0, 0, []), (120, .iaload, 1, .int 0, 0, 0, 0, []), (121, .ireturn, 1, .int 0, 0, 0, 0, []), (122, .aload_n 0, 1, .int 0, 0, 0, 0, []), (123, .getfield 312, 3, .int 0, 12, 45, 192, []), (126, .ireturn, 1, .int 0, 0, 0, 0, []), (127, .aload_n 0, 1, .int 0, 0, 0, 0, []), (128, .getfield 9, 3, .ref 0, 12, 1, 148, []), (131, .iconst 5, 1, .int 5, 0, 0, 0, []), (132, .iaload, 1, .int 0, 0, 0, 0, []), (133, .ireturn, 1, .int 0, 0, 0, 0, []), (134, .aload_n 0, 1, .int 0, 0, 0, 0, []), (135, .getfield 153, 3, .int 0, 12, 21, 168, []), (138, .ireturn, 1, .int 0, 0, 0, 0, []), (139, .iconst (-1), 1, .int (-1), 0, 0, 0, []), (140, .ireturn, 1, .int 0, 0, 0, 0, [])]
set_option maxRecDepth 100000 in
theorem okX12_count : codeOk 241 kX12_count := ⟨_, rfl, by decide +kernel⟩
def kX12_carryRow : List AI := [(0, .iconst 0, 1, .int 0, 0, 0, 0, []), (1, .istore_n 2, 1, .int 0, 0, 0, 0, []), (2, .iload_n 2, 1, .int 0, 0, 0, 0, []), (3, .aload_n 1, 1, .int 0, 0, 0, 0, []), (4, .arraylength, 1, .int 0, 0, 0, 0, []), (5, .if_icmp .ge 53, 3, .int 0, 58, 0, 0, []), (8, .aload_n 0, 1, .int 0, 0, 0, 0, []), (9, .getfield 491, 3, .int 0, 12, 58, 205, []), (12, .ifCond .eq 18, 3, .int 0, 30, 0, 0, []), (15, .aload_n 1, 1, .int 0, 0, 0, 0, []), (16, .iload_n 2, 1, .int 0, 0, 0, 0, []), (17, .aload_n 0, 1, .int 0, 0, 0, 0, []), (18, .getfield 139, 3, .ref 0, 12, 55, 202, []), (21, .aload_n 0, 1, .int 0, 0, 0, 0, []), (22, .getfield 494, 3, .int 0, 12, 57, 204, []), (25, .iaload, 1, .int 0, 0, 0, 0, []), (26, .iastore, 1, .int 0, 0, 0, 0, []), (27, .goto 15, 3, .int 0, 42, 0, 0, []), (30, .aload_n 0, 1, .int 0, 0, 0, 0, []), (31, .getfield 139, 3, .ref 0, 12, 55, 202, []), (34, .aload_n 0, 1, .int 0, 0, 0, 0, []), (35, .getfield 494, 3, .int 0, 12, 57, 204, []), (38, .aload_n 1, 1, .int 0, 0, 0, 0, []), (39, .iload_n 2, 1, .int 0, 0, 0, 0, []), (40, .iaload, 1, .int 0, 0, 0, 0, []), (41, .iastore, 1, .int 0, 0, 0, 0, []), (42, .aload_n 0, 1, .int 0, 0, 0, 0, []), (43, .dup, 1, .int 0, 0, 0, 0, []), (44, .getfield 494, 3, .int 0, 12, 57, 204, []), (47, .iconst 1, 1, .int 1, 0, 0, 0, []), (48, .iadd, 1, .int 0, 0, 0, 0, []), (49, .putfield 494, 3, .int 0, 12, 57, 204, []), (52, .iinc 2 1, 3, .int 1, 0, 0, 0, []), (55, .goto (-53), 3, .int 0, 2, 0, 0, []), (58, .return_, 1, .int 0, 0, 0, 0, [])]
set_option maxRecDepth 100000 in
theorem okX12_carryRow : codeOk 242 kX12_carryRow := ⟨_, rfl, by decide +kernel⟩
def kX12_carriesAll : List AI := [(0, .aload_n 0, 1, .int 0, 0, 0, 0, []), (1, .sipush 700, 3, .int 700, 0, 0, 0, []), (4, .iload_n 1, 1, .int 0, 0, 0, 0, []), (5, .imul, 1, .int 0, 0, 0, 0, []), (6, .putfield 494, 3, .int 0, 12, 57, 204, []), (9, .aload_n 0, 1, .int 0, 0, 0, 0, []), (10, .iload_n 2, 1, .int 0, 0, 0, 0, []), (11, .putfield 491, 3, .long 0, 12, 58, 205, []), (14, .aload_n 0, 1, .int 0, 0, 0, 0, []), (15, .aload_n 0, 1, .int 0, 0, 0, 0, []), (16, .getfield 9, 3, .ref 0, 12, 1, 148, []), (19, .invokevirtual 497, 3, .int 0, 242, 2, 237, [(0, 12), (0, 0)]), (22, .aload_n 0, 1, .int 0, 0, 0, 0, []), (23, .aload_n 0, 1, .int 0, 0, 0, 0, []), (24, .getfield 13, 3, .ref 0, 12, 2, 149, []), (27, .invokevirtual 497, 3, .int 0, 242, 2, 237, [(0, 12), (0, 0)]), (30, .aload_n 0, 1, .int 0, 0, 0, 0, []), (31, .aload_n 0, 1, .int 0, 0, 0, 0, []), (32, .getfield 16, 3, .ref 0, 12, 3, 150, []), (35, .invokevirtual 497, 3, .int 0, 242, 2, 237, [(0, 12), (0, 0)]), (38, .aload_n 0, 1, .int 0, 0, 0, 0, []), (39, .aload_n 0, 1, .int 0, 0, 0, 0, []), (40, .getfield 19, 3, .ref 0, 12, 4, 151, []), (43, .invokevirtual 497, 3, .int 0, 242, 2, 237, [(0, 12), (0, 0)]), (46, .aload_n 0, 1, .int 0, 0, 0, 0, []), (47, .aload_n 0, 1, .int 0, 0, 0, 0, []), (48, .getfield 22, 3, .ref 0, 12, 5, 152, []), (51, .invokevirtual 497, 3, .int 0, 242, 2, 237, [(0, 12), (0, 0)]), (54, .aload_n 0, 1, .int 0, 0, 0, 0, []), (55, .aload_n 0, 1, .int 0, 0, 0, 0, []), (56, .getfield 25, 3, .ref 0, 12, 6, 153, []), (59, .invokevirtual 497, 3, .int 0, 242, 2, 237, [(0, 12), (0, 0)]), (62, .iload_n 1, 1, .int 0, 0, 0, 0, []), (63, .iconst 4, 1, .int 4, 0, 0, 0, []), (64, .if_icmp .ne 4, 3, .int 0, 68, 0, 0, []), (67, .return_, 1, .int 0, 0, 0, 0, []), (68, .aload_n 0, 1, .int 0, 0, 0, 0, []), (69, .getfield 115, 3, .ref 0, 12, 44, 191, []), (72, .iconst 0, 1, .int 0, 0, 0, 0, []), (73, .aload_n 0, 1, .int 0, 0, 0, 0, []), (74, .getfield 312, 3, .int 0, 12, 45, 192, []), (77, .iastore, 1, .int 0, 0, 0, 0, []), (78, .aload_n 0, 1, .int 0, 0, 0, 0, []), (79, .aload_n 0, 1, .int 0, 0, 0, 0, []), (80, .getfield 115, 3, .ref 0, 12, 44, 191, []), (83, .invokevirtual 497, 3, .int 0, 242, 2, 237, [(0, 12), (0, 0)]), (86, .aload_n 0, 1, .int 0, 0, 0, 0, []), (87, .aload_n 0, 1, .int 0, 0, 0, 0, []), (88, .getfield 115, 3, .ref 0, 12, 44, 191, []), (91, .iconst 0, 1, .int 0, 0, 0, 0, []), (92, .iaload, 1, .int 0, 0, 0, 0, []), (93, .putfield 312, 3, .int 0, 12, 45, 192, []), (96, .aload_n 0, 1, .int 0, 0, 0, 0, []), (97, .aload_n 0, 1, .int 0, 0, 0, 0, []), (98, .getfield 28, 3, .ref 0, 12, 7, 154, []), (101, .invokevirtual 497, 3, .int 0, 242, 2, 237, [(0, 12), (0, 0)]), (104, .aload_n 0, 1, .int 0, 0, 0, 0, []), (105, .aload_n 0, 1, .int 0, 0, 0, 0, []), (106, .getfield 31, 3, .ref 0, 12, 8, 155, []), (109, .invokevirtual 497, 3, .int 0, 242, 2, 237, [(0, 12), (0, 0)]), (112, .aload_n 0, 1, .int 0, 0, 0, 0, []), (113, .aload_n 0, 1, .int 0, 0, 0, 0, []), (114, .getfield 34, 3, .ref 0, 12, 9, 156, []), (117, .invokevirtual 497, 3, .int 0, 242, 2, 237, [(0, 12), (0, 0)]), (120, .aload_n 0, 1, .int 0, 0, 0, 0, []), (121, .aload_n 0, 1, .int 0, 0, 0, 0, []), (122, .getfield 37, 3, .ref 0, 12, 10, 157, []), (125, .invokevirtual 497, 3, .int 0, 242, 2, 237, [(0, 12), (0, 0)]), (128, .aload_n 0, 1, .int 0, 0, 0, 0, []), (129, .aload_n 0, 1, .int 0, 0, 0, 0, []), (130, .getfield 40, 3, .ref 0, 12, 11, 158, []), (133, .invokevirtual 497, 3, .int 0, 242, 2, 237, [(0, 12), (0, 0)]), (136, .aload_n 0, 1, .int 0, 0, 0, 0, []), (137, .aload_n 0, 1, .int 0, 0, 0, 0, []), (138, .getfield 43, 3, .ref 0, 12, 12, 159, []), (141, .invokevirtual 497, 3, .int 0, 242, 2, 237, [(0, 12), (0, 0)]), (144, .aload_n 0, 1, .int 0, 0, 0, 0, []), (145, .aload_n 0, 1, .int 0, 0, 0, 0, []), (146, .getfield 46, 3, .ref 0, 12, 13, 160, []), (149, .invokevirtual 497, 3, .int 0, 242, 2, 237, [(0, 12), (0, 0)]), (152, .aload_n 0, 1, .int 0, 0, 0, 0, []), (153, .aload_n 0, 1, .int 0, 0, 0, 0, []), (154, .getfield 49, 3, .ref 0, 12, 14, 161, []), (157, .invokevirtual 497, 3, .int 0, 242, 2, 237, [(0, 12), (0, 0)]), (160, .aload_n 0, 1, .int 0, 0, 0, 0, []), (161, .aload_n 0, 1, .int 0, 0, 0, 0, []), (162, .getfield 112, 3, .ref 0, 12, 43, 190, []), (165, .invokevirtual 497, 3, .int 0, 242, 2, 237, [(0, 12), (0, 0)]), (168, .return_, 1, .int 0, 0, 0, 0, [])]
set_option maxRecDepth 100000 in
theorem okX12_carriesAll : codeOk 243 kX12_carriesAll := ⟨_, rfl, by decide +kernel⟩
def kX12_image : List AI := [(0, .iload_n 1, 1, .int 0, 0, 0, 0, []), (1, .i2l, 1, .int 0, 0, 0, 0, []), (2, .lconst 0, 1, .long 0, 0, 0, 0, []), (3, .ldc2_w 440, 3, .long 3, 0, 0, 12, []), (6, .invokestatic 149, 3, .int 0, 141, 3, 185, [(0, 12), (0, 1)]), (9, .ifCond .ne 5, 3, .int 0, 14, 0, 0, []), (12, .iconst (-1), 1, .int (-1), 0, 0, 0, []), (13, .ireturn, 1, .int 0, 0, 0, 0, []), (14, .aload_n 0, 1, .int 0, 0, 0, 0, []), (15, .getfield 142, 3, .ref 0, 12, 56, 203, []), (18, .iload_n 1, 1, .int 0, 0, 0, 0, []), (19, .iconst 1, 1, .int 1, 0, 0, 0, []), (20, .bastore, 1, .int 0, 0, 0, 0, []), (21, .aload_n 0, 1, .int 0, 0, 0, 0, []), (22, .iload_n 1, 1, .int 0, 0, 0, 0, []), (23, .iconst 0, 1, .int 0, 0, 0, 0, []), (24, .invokevirtual 416, 3, .int 0, 243, 3, 236, [(0, 12), (0, 0)]), (27, .aload_n 0, 1, .int 0, 0, 0, 0, []), (28, .getfield 9, 3, .ref 0, 12, 1, 148, []), (31, .iconst 3, 1, .int 3, 0, 0, 0, []), (32, .iaload, 1, .int 0, 0, 0, 0, []), (33, .ireturn, 1, .int 0, 0, 0, 0, [])]
set_option maxRecDepth 100000 in
theorem okX12_image : codeOk 244 kX12_image := ⟨_, rfl, by decide +kernel⟩
def kX12_back : List AI := [(0, .iload_n 1, 1, .int 0, 0, 0, 0, []), (1, .i2l, 1, .int 0, 0, 0, 0, []), (2, .lconst 0, 1, .long 0, 0, 0, 0, []), (3, .ldc2_w 440, 3, .long 3, 0, 0, 12, []), (6, .invokestatic 149, 3, .int 0, 141, 3, 185, [(0, 12), (0, 1)]), (9, .ifCond .eq 12, 3, .int 0, 21, 0, 0, []), (12, .aload_n 0, 1, .int 0, 0, 0, 0, []), (13, .getfield 142, 3, .ref 0, 12, 56, 203, []), (16, .iload_n 1, 1, .int 0, 0, 0, 0, []), (17, .baload, 1, .int 0, 0, 0, 0, []), (18, .ifCond .ne 5, 3, .int 0, 23, 0, 0, []), (21, .iconst (-1), 1, .int (-1), 0, 0, 0, []), (22, .ireturn, 1, .int 0, 0, 0, 0, []), (23, .aload_n 0, 1, .int 0, 0, 0, 0, []), (24, .iload_n 1, 1, .int 0, 0, 0, 0, []), (25, .iconst 1, 1, .int 1, 0, 0, 0, []), (26, .invokevirtual 416, 3, .int 0, 243, 3, 236, [(0, 12), (0, 0)]), (29, .aload_n 0, 1, .int 0, 0, 0, 0, []), (30, .getfield 9, 3, .ref 0, 12, 1, 148, []), (33, .iconst 3, 1, .int 3, 0, 0, 0, []), (34, .iaload, 1, .int 0, 0, 0, 0, []), (35, .ireturn, 1, .int 0, 0, 0, 0, [])]
set_option maxRecDepth 100000 in
theorem okX12_back : codeOk 245 kX12_back := ⟨_, rfl, by decide +kernel⟩
def kJ7_fill_53178 : List AI := [(0, .iconst 0, 1, .int 0, 0, 0, 0, []), (1, .istore_n 2, 1, .int 0, 0, 0, 0, []), (2, .aload_n 0, 1, .int 0, 0, 0, 0, []), (3, .arraylength, 1, .int 0, 0, 0, 0, []), (4, .istore_n 3, 1, .int 0, 0, 0, 0, []), (5, .iload_n 2, 1, .int 0, 0, 0, 0, []), (6, .iload_n 3, 1, .int 0, 0, 0, 0, []), (7, .if_icmp .ge 13, 3, .int 0, 20, 0, 0, []), (10, .aload_n 0, 1, .int 0, 0, 0, 0, []), (11, .iload_n 2, 1, .int 0, 0, 0, 0, []), (12, .iload_n 1, 1, .int 0, 0, 0, 0, []), (13, .iastore, 1, .int 0, 0, 0, 0, []), (14, .iinc 2 1, 3, .int 1, 0, 0, 0, []), (17, .goto (-12), 3, .int 0, 5, 0, 0, []), (20, .return_, 1, .int 0, 0, 0, 0, [])]
set_option maxRecDepth 100000 in
theorem okJ7_fill_53178 : codeOk 246 kJ7_fill_53178 := ⟨_, rfl, by decide +kernel⟩
def kJ7_copyOf_59c91 : List AI := [(0, .iload_n 1, 1, .int 0, 0, 0, 0, []), (1, .aload_n 0, 1, .int 0, 0, 0, 0, []), (2, .arraylength, 1, .int 0, 0, 0, 0, []), (3, .if_icmp .ne 11, 3, .int 0, 14, 0, 0, []), (6, .aload_n 0, 1, .int 0, 0, 0, 0, []), (7, .invokevirtual 316, 3, .int 0, 1004, 0, 14, []), (10, .checkcast 317, 3, .int 0, 0, 0, 2, []), (13, .areturn, 1, .int 0, 0, 0, 0, []), (14, .iload_n 1, 1, .int 0, 0, 0, 0, []), (15, .newarray .int, 2, .int 0, 0, 0, 0, []), (17, .astore_n 2, 1, .int 0, 0, 0, 0, []), (18, .aload_n 0, 1, .int 0, 0, 0, 0, []), (19, .iconst 0, 1, .int 0, 0, 0, 0, []), (20, .aload_n 2, 1, .int 0, 0, 0, 0, []), (21, .iconst 0, 1, .int 0, 0, 0, 0, []), (22, .aload_n 0, 1, .int 0, 0, 0, 0, []), (23, .arraylength, 1, .int 0, 0, 0, 0, []), (24, .iload_n 1, 1, .int 0, 0, 0, 0, []), (25, .invokestatic 304, 3, .int 0, 1003, 0, 15, []), (28, .invokestatic 150, 3, .int 0, 1001, 0, 16, []), (31, .aload_n 2, 1, .int 0, 0, 0, 0, []), (32, .areturn, 1, .int 0, 0, 0, 0, [])]
set_option maxRecDepth 100000 in
theorem okJ7_copyOf_59c91 : codeOk 247 kJ7_copyOf_59c91 := ⟨_, rfl, by decide +kernel⟩
def kJ6_bitCount_0f7a4 : List AI := [(0, .iload_n 0, 1, .int 0, 0, 0, 0, []), (1, .iload_n 0, 1, .int 0, 0, 0, 0, []), (2, .iconst 1, 1, .int 1, 0, 0, 0, []), (3, .iushr, 1, .int 0, 0, 0, 0, []), (4, .ldc_w 265, 3, .int 1431655765, 0, 0, 1, []), (7, .iand, 1, .int 0, 0, 0, 0, []), (8, .isub, 1, .int 0, 0, 0, 0, []), (9, .istore_n 0, 1, .int 0, 0, 0, 0, []), (10, .iload_n 0, 1, .int 0, 0, 0, 0, []), (11, .ldc_w 266, 3, .int 858993459, 0, 0, 2, []), (14, .iand, 1, .int 0, 0, 0, 0, []), (15, .iload_n 0, 1, .int 0, 0, 0, 0, []), (16, .iconst 2, 1, .int 2, 0, 0, 0, []), (17, .iushr, 1, .int 0, 0, 0, 0, []), (18, .ldc_w 266, 3, .int 858993459, 0, 0, 2, []), (21, .iand, 1, .int 0, 0, 0, 0, []), (22, .iadd, 1, .int 0, 0, 0, 0, []), (23, .istore_n 0, 1, .int 0, 0, 0, 0, []), (24, .iload_n 0, 1, .int 0, 0, 0, 0, []), (25, .iload_n 0, 1, .int 0, 0, 0, 0, []), (26, .iconst 4, 1, .int 4, 0, 0, 0, []), (27, .iushr, 1, .int 0, 0, 0, 0, []), (28, .iadd, 1, .int 0, 0, 0, 0, []), (29, .ldc_w 267, 3, .int 252645135, 0, 0, 3, []), (32, .iand, 1, .int 0, 0, 0, 0, []), (33, .istore_n 0, 1, .int 0, 0, 0, 0, []), (34, .iload_n 0, 1, .int 0, 0, 0, 0, []), (35, .iload_n 0, 1, .int 0, 0, 0, 0, []), (36, .bipush 8, 2, .int 8, 0, 0, 0, []), (38, .iushr, 1, .int 0, 0, 0, 0, []), (39, .iadd, 1, .int 0, 0, 0, 0, []), (40, .istore_n 0, 1, .int 0, 0, 0, 0, []), (41, .iload_n 0, 1, .int 0, 0, 0, 0, []), (42, .iload_n 0, 1, .int 0, 0, 0, 0, []), (43, .bipush 16, 2, .int 16, 0, 0, 0, []), (45, .iushr, 1, .int 0, 0, 0, 0, []), (46, .iadd, 1, .int 0, 0, 0, 0, []), (47, .istore_n 0, 1, .int 0, 0, 0, 0, []), (48, .iload_n 0, 1, .int 0, 0, 0, 0, []), (49, .bipush 63, 2, .int 63, 0, 0, 0, []), (51, .iand, 1, .int 0, 0, 0, 0, []), (52, .ireturn, 1, .int 0, 0, 0, 0, [])]
set_option maxRecDepth 100000 in
theorem okJ6_bitCount_0f7a4 : codeOk 248 kJ6_bitCount_0f7a4 := ⟨_, rfl, by decide +kernel⟩
end
section
set_option maxRecDepth 100000 in
set_option maxHeartbeats 400000 in
theorem tA {d : Nat} {h : AH} {Q : Option Value → AH → Prop} (hd : 4 ≤ d) (a0 : Nat) (a1 : Int32) (a2 : Int32) (a3 : Nat) (a4 : Int32) (k : Calls d 45 [.ref a3, .int a4, .int (((1 : Int32) <<< ((a4 : Int32) &&& 31)) - 1)] h (hN h) (hU h) (fun r2 h1 => rI r2 fun x3 => (0 < (x3 : Int32) → (hS h1 a3).1 = 1 ∧ vp_in a2 (hS h1 a3).2 ∧ ¬ (x3 : Int32) = 0 ∧ Reach d 49 (40, [.float 0, .int a1, .int a2, .ref a3, .int a4, .int x3, .int a1, .int 0, .int ((a1 * (hI h1 a3 (Int32.toNatClampNeg a2))) - (a1 * (hI h1 a3 (Int32.toNatClampNeg a2))) / x3 * x3), .int 0, .float 0], []) h1 (hN h) (hU h) Q) ∧ (¬ 0 < (x3 : Int32) → RtOf (some .int) (hN h) (hU h) Q (some (.int 0)) h1))) : Calls (d + 1) 49 [.ref a0, .int a1, .int a2, .ref a3, .int a4] h (hN h) (hU h) Q := calls_intro (q := (yX5_share, cX5_share, 11, (some .int), 5, 1, 4)) rfl (Nat.le_refl _) (Nat.le_refl _) (Nat.le_of_ble_eq_true rfl) (reach_rule (q := (yX5_share, cX5_share, 11, (some .int), 5, 1, 4)) [(40, [0, 10])] 80 okX5_share rfl hd k)
set_option maxRecDepth 100000 in
set_option maxHeartbeats 400000 in
theorem tB {d : Nat} {h : AH} {Q : Option Value → AH → Prop} (hd : 4 ≤ d) (a0 : Nat) (a1 : Int32) (a2 : Int32) (a3 : Nat) (a4 : Int32) (k : Calls d 45 [.ref a3, .int a4, .int (((1 : Int32) <<< ((a4 : Int32) &&& 31)) - 1)] h (hN h) (hU h) (fun r2 h1 => rI r2 fun x3 => (0 < (x3 : Int32) → Reach d 49 (21, [.float 0, .int a1, .int a2, .ref a3, .int a4, .int x3, .float 0, .float 0, .float 0, .float 0, .float 0], []) h1 (hN h) (hU h) Q) ∧ (¬ 0 < (x3 : Int32) → RtOf (some .int) (hN h) (hU h) Q (some (.int 0)) h1))) : Calls (d + 1) 49 [.ref a0, .int a1, .int a2, .ref a3, .int a4] h (hN h) (hU h) Q := calls_intro (q := (yX5_share, cX5_share, 11, (some .int), 5, 1, 4)) rfl (Nat.le_refl _) (Nat.le_refl _) (Nat.le_of_ble_eq_true rfl) (reach_rule (q := (yX5_share, cX5_share, 11, (some .int), 5, 1, 4)) [(21, [0, 6, 7, 8, 9, 10]), (40, [0, 10])] 80 okX5_share rfl hd k)
set_option maxRecDepth 100000 in
set_option maxHeartbeats 400000 in
theorem tC_21 {E1 E2 : Nat} {d : Nat} {h : AH} {Q : Option Value → AH → Prop} (hd : 4 ≤ d) (v1 : Int32) (v2 : Int32) (v3 : Nat) (v4 : Int32) (v5 : Int32) (k : (hS h v3).1 = 1 ∧ vp_in v2 (hS h v3).2 ∧ ¬ (v5 : Int32) = 0 ∧ Reach d 49 (40, [.float 0, .int v1, .int v2, .ref v3, .int v4, .int v5, .int v1, .int 0, .int ((v1 * (hI h v3 (Int32.toNatClampNeg v2))) - (v1 * (hI h v3 (Int32.toNatClampNeg v2))) / v5 * v5), .int 0, .float 0], []) h E1 E2 Q) : Reach d 49 (21, [.float 0, .int v1, .int v2, .ref v3, .int v4, .int v5, .float 0, .float 0, .float 0, .float 0, .float 0], []) h E1 E2 Q := reach_rule (q := (yX5_share, cX5_share, 11, (some .int), 5, 1, 4)) [(21, [0, 6, 7, 8, 9, 10]), (40, [0, 10])] 80 okX5_share rfl hd k
set_option maxRecDepth 100000 in
set_option maxHeartbeats 400000 in
theorem tD {d : Nat} {h : AH} {Q : Option Value → AH → Prop} (hd : 4 ≤ d) (a0 : Nat) (a1 : Int32) (a2 : Int32) (a3 : Nat) (a4 : Int32) (k : Calls d 45 [.ref a3, .int a4, .int (((1 : Int32) <<< ((a4 : Int32) &&& 31)) - 1)] h (hN h) (hU h) (fun r2 h1 => rI r2 fun x3 => Reach d 49 (12, [.float 0, .int a1, .int a2, .ref a3, .int a4, .float 0, .float 0, .float 0, .float 0, .float 0, .float 0], [.int x3]) h1 (hN h) (hU h) Q)) : Calls (d + 1) 49 [.ref a0, .int a1, .int a2, .ref a3, .int a4] h (hN h) (hU h) Q := calls_intro (q := (yX5_share, cX5_share, 11, (some .int), 5, 1, 4)) rfl (Nat.le_refl _) (Nat.le_refl _) (Nat.le_of_ble_eq_true rfl) (reach_rule (q := (yX5_share, cX5_share, 11, (some .int), 5, 1, 4)) [(12, [0, 5, 6, 7, 8, 9, 10]), (40, [0, 10])] 80 okX5_share rfl hd k)
end
