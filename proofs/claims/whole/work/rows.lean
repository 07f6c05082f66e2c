section
-- ===== PART A: goes FIRST, ahead of the names: the tables' words, and 'selects' of the private methods out of them =====
/-- a private method of a class that the tables say can be made, by its rows of tables_1 -/
def lw_okq (q : MethodName × Nat) : Prop := (q.1.cls ≠ "java/lang/invoke/MethodHandle" ∧ q.1.cls ≠ "java/lang/invoke/VarHandle") ∧ Cond.instantiable q.1.cls q.2 ∈ tables_1 ∧ Cond.privateMethod q.1 ∈ tables_1 ∧ Cond.instanceMethod q.1 ∈ tables_1
theorem lw_p0 : lw_okq (⟨"LanternTongue$Page", "firstMisfit", "()I"⟩, 2) := ⟨⟨by decide +kernel, by decide +kernel⟩, List.mem_of_getElem? (i := 24) (by decide +kernel), List.mem_of_getElem? (i := 189) (by decide +kernel), List.mem_of_getElem? (i := 190) (by decide +kernel)⟩
theorem lw_p1 : lw_okq (⟨"LanternTongue$Page", "fitsAsOil", "(I)Z"⟩, 2) := ⟨⟨by decide +kernel, by decide +kernel⟩, List.mem_of_getElem? (i := 24) (by decide +kernel), List.mem_of_getElem? (i := 193) (by decide +kernel), List.mem_of_getElem? (i := 194) (by decide +kernel)⟩
theorem lw_p2 : lw_okq (⟨"LanternTongue$Page", "fitsInCrossings", "(I)Z"⟩, 2) := ⟨⟨by decide +kernel, by decide +kernel⟩, List.mem_of_getElem? (i := 24) (by decide +kernel), List.mem_of_getElem? (i := 208) (by decide +kernel), List.mem_of_getElem? (i := 209) (by decide +kernel)⟩
theorem lw_p3 : lw_okq (⟨"LanternTongue$Page", "isClosed", "()Z"⟩, 2) := ⟨⟨by decide +kernel, by decide +kernel⟩, List.mem_of_getElem? (i := 24) (by decide +kernel), List.mem_of_getElem? (i := 302) (by decide +kernel), List.mem_of_getElem? (i := 303) (by decide +kernel)⟩
theorem lw_p4 : lw_okq (⟨"LanternTongue$Page", "firstLeadingNowhere", "()I"⟩, 2) := ⟨⟨by decide +kernel, by decide +kernel⟩, List.mem_of_getElem? (i := 24) (by decide +kernel), List.mem_of_getElem? (i := 306) (by decide +kernel), List.mem_of_getElem? (i := 307) (by decide +kernel)⟩
theorem lw_p5 : lw_okq (⟨"LanternTongue$Ways", "start", "()V"⟩, 6) := ⟨⟨by decide +kernel, by decide +kernel⟩, List.mem_of_getElem? (i := 65) (by decide +kernel), List.mem_of_getElem? (i := 337) (by decide +kernel), List.mem_of_getElem? (i := 338) (by decide +kernel)⟩
theorem lw_p6 : lw_okq (⟨"LanternTongue$Ways", "sweepPairs", "()Z"⟩, 6) := ⟨⟨by decide +kernel, by decide +kernel⟩, List.mem_of_getElem? (i := 65) (by decide +kernel), List.mem_of_getElem? (i := 350) (by decide +kernel), List.mem_of_getElem? (i := 351) (by decide +kernel)⟩
theorem lw_p7 : lw_okq (⟨"LanternTongue$Ways", "lowerBy", "(III)Z"⟩, 6) := ⟨⟨by decide +kernel, by decide +kernel⟩, List.mem_of_getElem? (i := 65) (by decide +kernel), List.mem_of_getElem? (i := 354) (by decide +kernel), List.mem_of_getElem? (i := 355) (by decide +kernel)⟩
theorem lw_p8 : lw_okq (⟨"LanternTongue$Ways", "apartAfter", "(III)I"⟩, 6) := ⟨⟨by decide +kernel, by decide +kernel⟩, List.mem_of_getElem? (i := 65) (by decide +kernel), List.mem_of_getElem? (i := 377) (by decide +kernel), List.mem_of_getElem? (i := 378) (by decide +kernel)⟩
theorem lw_p9 : lw_okq (⟨"LanternTongue$Ways", "workOutRounds", "()V"⟩, 6) := ⟨⟨by decide +kernel, by decide +kernel⟩, List.mem_of_getElem? (i := 65) (by decide +kernel), List.mem_of_getElem? (i := 381) (by decide +kernel), List.mem_of_getElem? (i := 382) (by decide +kernel)⟩
theorem lw_p10 : lw_okq (⟨"LanternTongue$Ways", "leastOfRound", "(II)I"⟩, 6) := ⟨⟨by decide +kernel, by decide +kernel⟩, List.mem_of_getElem? (i := 65) (by decide +kernel), List.mem_of_getElem? (i := 385) (by decide +kernel), List.mem_of_getElem? (i := 386) (by decide +kernel)⟩
theorem lw_p11 : lw_okq (⟨"LanternTongue$Ways", "roundAfter", "(II)I"⟩, 6) := ⟨⟨by decide +kernel, by decide +kernel⟩, List.mem_of_getElem? (i := 65) (by decide +kernel), List.mem_of_getElem? (i := 502) (by decide +kernel), List.mem_of_getElem? (i := 503) (by decide +kernel)⟩
theorem lw_p12 : lw_okq (⟨"LanternTongue$Mine", "placesAfter", "(II)I"⟩, 5) := ⟨⟨by decide +kernel, by decide +kernel⟩, List.mem_of_getElem? (i := 40) (by decide +kernel), List.mem_of_getElem? (i := 542) (by decide +kernel), List.mem_of_getElem? (i := 543) (by decide +kernel)⟩
theorem lw_p13 : lw_okq (⟨"LanternTongue$Mine", "placesOfSound", "(II)I"⟩, 5) := ⟨⟨by decide +kernel, by decide +kernel⟩, List.mem_of_getElem? (i := 40) (by decide +kernel), List.mem_of_getElem? (i := 548) (by decide +kernel), List.mem_of_getElem? (i := 549) (by decide +kernel)⟩
theorem lw_p14 : lw_okq (⟨"LanternTongue", "withCrossing", "(JI)J"⟩, 7) := ⟨⟨by decide +kernel, by decide +kernel⟩, List.mem_of_getElem? (i := 16) (by decide +kernel), List.mem_of_getElem? (i := 616) (by decide +kernel), List.mem_of_getElem? (i := 617) (by decide +kernel)⟩
theorem lw_p15 : lw_okq (⟨"LanternTongue", "withParty", "(JI)J"⟩, 7) := ⟨⟨by decide +kernel, by decide +kernel⟩, List.mem_of_getElem? (i := 16) (by decide +kernel), List.mem_of_getElem? (i := 628) (by decide +kernel), List.mem_of_getElem? (i := 629) (by decide +kernel)⟩
def lw_privs_1 : List (MethodName × Nat) := [(⟨"LanternTongue$Page", "firstMisfit", "()I"⟩, 2), (⟨"LanternTongue$Page", "fitsAsOil", "(I)Z"⟩, 2), (⟨"LanternTongue$Page", "fitsInCrossings", "(I)Z"⟩, 2), (⟨"LanternTongue$Page", "isClosed", "()Z"⟩, 2), (⟨"LanternTongue$Page", "firstLeadingNowhere", "()I"⟩, 2), (⟨"LanternTongue$Ways", "start", "()V"⟩, 6), (⟨"LanternTongue$Ways", "sweepPairs", "()Z"⟩, 6), (⟨"LanternTongue$Ways", "lowerBy", "(III)Z"⟩, 6), (⟨"LanternTongue$Ways", "apartAfter", "(III)I"⟩, 6), (⟨"LanternTongue$Ways", "workOutRounds", "()V"⟩, 6), (⟨"LanternTongue$Ways", "leastOfRound", "(II)I"⟩, 6), (⟨"LanternTongue$Ways", "roundAfter", "(II)I"⟩, 6), (⟨"LanternTongue$Mine", "placesAfter", "(II)I"⟩, 5), (⟨"LanternTongue$Mine", "placesOfSound", "(II)I"⟩, 5), (⟨"LanternTongue", "withCrossing", "(JI)J"⟩, 7), (⟨"LanternTongue", "withParty", "(JI)J"⟩, 7)]
theorem lw_r1 : ∀ q ∈ lw_privs_1, lw_okq q := List.forall_mem_cons.mpr ⟨lw_p0, List.forall_mem_cons.mpr ⟨lw_p1, List.forall_mem_cons.mpr ⟨lw_p2, List.forall_mem_cons.mpr ⟨lw_p3, List.forall_mem_cons.mpr ⟨lw_p4, List.forall_mem_cons.mpr ⟨lw_p5, List.forall_mem_cons.mpr ⟨lw_p6, List.forall_mem_cons.mpr ⟨lw_p7, List.forall_mem_cons.mpr ⟨lw_p8, List.forall_mem_cons.mpr ⟨lw_p9, List.forall_mem_cons.mpr ⟨lw_p10, List.forall_mem_cons.mpr ⟨lw_p11, List.forall_mem_cons.mpr ⟨lw_p12, List.forall_mem_cons.mpr ⟨lw_p13, List.forall_mem_cons.mpr ⟨lw_p14, List.forall_mem_cons.mpr ⟨lw_p15, fun _ h => absurd h List.not_mem_nil⟩⟩⟩⟩⟩⟩⟩⟩⟩⟩⟩⟩⟩⟩⟩⟩
theorem lw_p16 : lw_okq (⟨"LanternTongueModel", "faultOf", "()I"⟩, 25) := ⟨⟨by decide +kernel, by decide +kernel⟩, List.mem_of_getElem? (i := 638) (by decide +kernel), List.mem_of_getElem? (i := 736) (by decide +kernel), List.mem_of_getElem? (i := 737) (by decide +kernel)⟩
theorem lw_p17 : lw_okq (⟨"LanternTongueModel", "go", "(I)Z"⟩, 25) := ⟨⟨by decide +kernel, by decide +kernel⟩, List.mem_of_getElem? (i := 638) (by decide +kernel), List.mem_of_getElem? (i := 740) (by decide +kernel), List.mem_of_getElem? (i := 741) (by decide +kernel)⟩
theorem lw_p18 : lw_okq (⟨"LanternTongueModel", "strayDigit", "()I"⟩, 25) := ⟨⟨by decide +kernel, by decide +kernel⟩, List.mem_of_getElem? (i := 638) (by decide +kernel), List.mem_of_getElem? (i := 749) (by decide +kernel), List.mem_of_getElem? (i := 750) (by decide +kernel)⟩
theorem lw_p19 : lw_okq (⟨"LanternTongueModel", "isCrossing", "(I)Z"⟩, 25) := ⟨⟨by decide +kernel, by decide +kernel⟩, List.mem_of_getElem? (i := 638) (by decide +kernel), List.mem_of_getElem? (i := 761) (by decide +kernel), List.mem_of_getElem? (i := 762) (by decide +kernel)⟩
theorem lw_p20 : lw_okq (⟨"LanternTongueModel", "tellCrossing", "(II)I"⟩, 25) := ⟨⟨by decide +kernel, by decide +kernel⟩, List.mem_of_getElem? (i := 638) (by decide +kernel), List.mem_of_getElem? (i := 765) (by decide +kernel), List.mem_of_getElem? (i := 766) (by decide +kernel)⟩
theorem lw_p21 : lw_okq (⟨"LanternTongueModel", "soundOf", "(I)I"⟩, 25) := ⟨⟨by decide +kernel, by decide +kernel⟩, List.mem_of_getElem? (i := 638) (by decide +kernel), List.mem_of_getElem? (i := 769) (by decide +kernel), List.mem_of_getElem? (i := 770) (by decide +kernel)⟩
theorem lw_p22 : lw_okq (⟨"LanternTongueModel", "burnsAt", "(I)I"⟩, 25) := ⟨⟨by decide +kernel, by decide +kernel⟩, List.mem_of_getElem? (i := 638) (by decide +kernel), List.mem_of_getElem? (i := 773) (by decide +kernel), List.mem_of_getElem? (i := 774) (by decide +kernel)⟩
theorem lw_p23 : lw_okq (⟨"LanternTongueModel", "whoIsAt", "(I)I"⟩, 25) := ⟨⟨by decide +kernel, by decide +kernel⟩, List.mem_of_getElem? (i := 638) (by decide +kernel), List.mem_of_getElem? (i := 777) (by decide +kernel), List.mem_of_getElem? (i := 778) (by decide +kernel)⟩
theorem lw_p24 : lw_okq (⟨"LanternTongueModel", "isParty", "(I)Z"⟩, 25) := ⟨⟨by decide +kernel, by decide +kernel⟩, List.mem_of_getElem? (i := 638) (by decide +kernel), List.mem_of_getElem? (i := 794) (by decide +kernel), List.mem_of_getElem? (i := 795) (by decide +kernel)⟩
theorem lw_p25 : lw_okq (⟨"LanternTongueModel", "tell", "(II)I"⟩, 25) := ⟨⟨by decide +kernel, by decide +kernel⟩, List.mem_of_getElem? (i := 638) (by decide +kernel), List.mem_of_getElem? (i := 798) (by decide +kernel), List.mem_of_getElem? (i := 799) (by decide +kernel)⟩
theorem lw_p26 : lw_okq (⟨"LanternTongueModel", "sinceOf", "(I)I"⟩, 25) := ⟨⟨by decide +kernel, by decide +kernel⟩, List.mem_of_getElem? (i := 638) (by decide +kernel), List.mem_of_getElem? (i := 802) (by decide +kernel), List.mem_of_getElem? (i := 803) (by decide +kernel)⟩
theorem lw_p27 : lw_okq (⟨"LanternTongueModel", "mayLook", "(I)Z"⟩, 25) := ⟨⟨by decide +kernel, by decide +kernel⟩, List.mem_of_getElem? (i := 638) (by decide +kernel), List.mem_of_getElem? (i := 806) (by decide +kernel), List.mem_of_getElem? (i := 807) (by decide +kernel)⟩
theorem lw_p28 : lw_okq (⟨"LanternTongueModel", "wayOf", "(III)I"⟩, 25) := ⟨⟨by decide +kernel, by decide +kernel⟩, List.mem_of_getElem? (i := 638) (by decide +kernel), List.mem_of_getElem? (i := 831) (by decide +kernel), List.mem_of_getElem? (i := 832) (by decide +kernel)⟩
theorem lw_p29 : lw_okq (⟨"LanternTongueModel", "stepsTo", "(II)I"⟩, 25) := ⟨⟨by decide +kernel, by decide +kernel⟩, List.mem_of_getElem? (i := 638) (by decide +kernel), List.mem_of_getElem? (i := 835) (by decide +kernel), List.mem_of_getElem? (i := 836) (by decide +kernel)⟩
theorem lw_p30 : lw_okq (⟨"LanternTongueModel", "layFar", "(IZ)V"⟩, 25) := ⟨⟨by decide +kernel, by decide +kernel⟩, List.mem_of_getElem? (i := 638) (by decide +kernel), List.mem_of_getElem? (i := 839) (by decide +kernel), List.mem_of_getElem? (i := 840) (by decide +kernel)⟩
theorem lw_p31 : lw_okq (⟨"LanternTongueModel", "roundOf", "(II)I"⟩, 25) := ⟨⟨by decide +kernel, by decide +kernel⟩, List.mem_of_getElem? (i := 638) (by decide +kernel), List.mem_of_getElem? (i := 847) (by decide +kernel), List.mem_of_getElem? (i := 848) (by decide +kernel)⟩
def lw_privs_2 : List (MethodName × Nat) := [(⟨"LanternTongueModel", "faultOf", "()I"⟩, 25), (⟨"LanternTongueModel", "go", "(I)Z"⟩, 25), (⟨"LanternTongueModel", "strayDigit", "()I"⟩, 25), (⟨"LanternTongueModel", "isCrossing", "(I)Z"⟩, 25), (⟨"LanternTongueModel", "tellCrossing", "(II)I"⟩, 25), (⟨"LanternTongueModel", "soundOf", "(I)I"⟩, 25), (⟨"LanternTongueModel", "burnsAt", "(I)I"⟩, 25), (⟨"LanternTongueModel", "whoIsAt", "(I)I"⟩, 25), (⟨"LanternTongueModel", "isParty", "(I)Z"⟩, 25), (⟨"LanternTongueModel", "tell", "(II)I"⟩, 25), (⟨"LanternTongueModel", "sinceOf", "(I)I"⟩, 25), (⟨"LanternTongueModel", "mayLook", "(I)Z"⟩, 25), (⟨"LanternTongueModel", "wayOf", "(III)I"⟩, 25), (⟨"LanternTongueModel", "stepsTo", "(II)I"⟩, 25), (⟨"LanternTongueModel", "layFar", "(IZ)V"⟩, 25), (⟨"LanternTongueModel", "roundOf", "(II)I"⟩, 25)]
theorem lw_r2 : ∀ q ∈ lw_privs_2, lw_okq q := List.forall_mem_cons.mpr ⟨lw_p16, List.forall_mem_cons.mpr ⟨lw_p17, List.forall_mem_cons.mpr ⟨lw_p18, List.forall_mem_cons.mpr ⟨lw_p19, List.forall_mem_cons.mpr ⟨lw_p20, List.forall_mem_cons.mpr ⟨lw_p21, List.forall_mem_cons.mpr ⟨lw_p22, List.forall_mem_cons.mpr ⟨lw_p23, List.forall_mem_cons.mpr ⟨lw_p24, List.forall_mem_cons.mpr ⟨lw_p25, List.forall_mem_cons.mpr ⟨lw_p26, List.forall_mem_cons.mpr ⟨lw_p27, List.forall_mem_cons.mpr ⟨lw_p28, List.forall_mem_cons.mpr ⟨lw_p29, List.forall_mem_cons.mpr ⟨lw_p30, List.forall_mem_cons.mpr ⟨lw_p31, fun _ h => absurd h List.not_mem_nil⟩⟩⟩⟩⟩⟩⟩⟩⟩⟩⟩⟩⟩⟩⟩⟩
theorem lw_p32 : lw_okq (⟨"LanternTongueModel", "roundFrom", "(II)I"⟩, 25) := ⟨⟨by decide +kernel, by decide +kernel⟩, List.mem_of_getElem? (i := 638) (by decide +kernel), List.mem_of_getElem? (i := 851) (by decide +kernel), List.mem_of_getElem? (i := 852) (by decide +kernel)⟩
theorem lw_p33 : lw_okq (⟨"LanternTongueModel", "meetOf", "(II)I"⟩, 25) := ⟨⟨by decide +kernel, by decide +kernel⟩, List.mem_of_getElem? (i := 638) (by decide +kernel), List.mem_of_getElem? (i := 859) (by decide +kernel), List.mem_of_getElem? (i := 860) (by decide +kernel)⟩
theorem lw_p34 : lw_okq (⟨"LanternTongueModel", "beginPair", "(II)V"⟩, 25) := ⟨⟨by decide +kernel, by decide +kernel⟩, List.mem_of_getElem? (i := 638) (by decide +kernel), List.mem_of_getElem? (i := 863) (by decide +kernel), List.mem_of_getElem? (i := 864) (by decide +kernel)⟩
theorem lw_p35 : lw_okq (⟨"LanternTongueModel", "apartOf", "(III)I"⟩, 25) := ⟨⟨by decide +kernel, by decide +kernel⟩, List.mem_of_getElem? (i := 638) (by decide +kernel), List.mem_of_getElem? (i := 871) (by decide +kernel), List.mem_of_getElem? (i := 872) (by decide +kernel)⟩
theorem lw_p36 : lw_okq (⟨"LanternTongueModel", "apartFrom", "(II)I"⟩, 25) := ⟨⟨by decide +kernel, by decide +kernel⟩, List.mem_of_getElem? (i := 638) (by decide +kernel), List.mem_of_getElem? (i := 875) (by decide +kernel), List.mem_of_getElem? (i := 876) (by decide +kernel)⟩
theorem lw_p37 : lw_okq (⟨"LanternTongueModel", "lacks", "()Z"⟩, 25) := ⟨⟨by decide +kernel, by decide +kernel⟩, List.mem_of_getElem? (i := 638) (by decide +kernel), List.mem_of_getElem? (i := 891) (by decide +kernel), List.mem_of_getElem? (i := 892) (by decide +kernel)⟩
theorem lw_p38 : lw_okq (⟨"LanternTongueModel", "whereOf", "()I"⟩, 25) := ⟨⟨by decide +kernel, by decide +kernel⟩, List.mem_of_getElem? (i := 638) (by decide +kernel), List.mem_of_getElem? (i := 895) (by decide +kernel), List.mem_of_getElem? (i := 896) (by decide +kernel)⟩
theorem lw_p39 : lw_okq (⟨"LanternTongueModel", "steppedFrom", "(II)I"⟩, 25) := ⟨⟨by decide +kernel, by decide +kernel⟩, List.mem_of_getElem? (i := 638) (by decide +kernel), List.mem_of_getElem? (i := 899) (by decide +kernel), List.mem_of_getElem? (i := 900) (by decide +kernel)⟩
theorem lw_p40 : lw_okq (⟨"LanternTongueModel", "soundingIn", "(II)I"⟩, 25) := ⟨⟨by decide +kernel, by decide +kernel⟩, List.mem_of_getElem? (i := 638) (by decide +kernel), List.mem_of_getElem? (i := 903) (by decide +kernel), List.mem_of_getElem? (i := 904) (by decide +kernel)⟩
theorem lw_p41 : lw_okq (⟨"LanternTongueModel", "nextOf", "()I"⟩, 25) := ⟨⟨by decide +kernel, by decide +kernel⟩, List.mem_of_getElem? (i := 638) (by decide +kernel), List.mem_of_getElem? (i := 911) (by decide +kernel), List.mem_of_getElem? (i := 912) (by decide +kernel)⟩
theorem lw_p42 : lw_okq (⟨"LanternTongueModel", "worstBy", "(II)I"⟩, 25) := ⟨⟨by decide +kernel, by decide +kernel⟩, List.mem_of_getElem? (i := 638) (by decide +kernel), List.mem_of_getElem? (i := 915) (by decide +kernel), List.mem_of_getElem? (i := 916) (by decide +kernel)⟩
theorem lw_p43 : lw_okq (⟨"LanternTongueModel", "draw", "(I)I"⟩, 25) := ⟨⟨by decide +kernel, by decide +kernel⟩, List.mem_of_getElem? (i := 638) (by decide +kernel), List.mem_of_getElem? (i := 928) (by decide +kernel), List.mem_of_getElem? (i := 929) (by decide +kernel)⟩
theorem lw_p44 : lw_okq (⟨"LanternTongueModel", "countOf", "(I)I"⟩, 25) := ⟨⟨by decide +kernel, by decide +kernel⟩, List.mem_of_getElem? (i := 638) (by decide +kernel), List.mem_of_getElem? (i := 951) (by decide +kernel), List.mem_of_getElem? (i := 952) (by decide +kernel)⟩
theorem lw_p45 : lw_okq (⟨"LanternTongueModel", "sumBy", "(I)I"⟩, 25) := ⟨⟨by decide +kernel, by decide +kernel⟩, List.mem_of_getElem? (i := 638) (by decide +kernel), List.mem_of_getElem? (i := 955) (by decide +kernel), List.mem_of_getElem? (i := 956) (by decide +kernel)⟩
theorem lw_p46 : lw_okq (⟨"LanternTongueModel", "sayCrossing", "(I)V"⟩, 25) := ⟨⟨by decide +kernel, by decide +kernel⟩, List.mem_of_getElem? (i := 638) (by decide +kernel), List.mem_of_getElem? (i := 964) (by decide +kernel), List.mem_of_getElem? (i := 965) (by decide +kernel)⟩
theorem lw_p47 : lw_okq (⟨"LanternTongueModel", "say", "(J)V"⟩, 25) := ⟨⟨by decide +kernel, by decide +kernel⟩, List.mem_of_getElem? (i := 638) (by decide +kernel), List.mem_of_getElem? (i := 968) (by decide +kernel), List.mem_of_getElem? (i := 969) (by decide +kernel)⟩
def lw_privs_3 : List (MethodName × Nat) := [(⟨"LanternTongueModel", "roundFrom", "(II)I"⟩, 25), (⟨"LanternTongueModel", "meetOf", "(II)I"⟩, 25), (⟨"LanternTongueModel", "beginPair", "(II)V"⟩, 25), (⟨"LanternTongueModel", "apartOf", "(III)I"⟩, 25), (⟨"LanternTongueModel", "apartFrom", "(II)I"⟩, 25), (⟨"LanternTongueModel", "lacks", "()Z"⟩, 25), (⟨"LanternTongueModel", "whereOf", "()I"⟩, 25), (⟨"LanternTongueModel", "steppedFrom", "(II)I"⟩, 25), (⟨"LanternTongueModel", "soundingIn", "(II)I"⟩, 25), (⟨"LanternTongueModel", "nextOf", "()I"⟩, 25), (⟨"LanternTongueModel", "worstBy", "(II)I"⟩, 25), (⟨"LanternTongueModel", "draw", "(I)I"⟩, 25), (⟨"LanternTongueModel", "countOf", "(I)I"⟩, 25), (⟨"LanternTongueModel", "sumBy", "(I)I"⟩, 25), (⟨"LanternTongueModel", "sayCrossing", "(I)V"⟩, 25), (⟨"LanternTongueModel", "say", "(J)V"⟩, 25)]
theorem lw_r3 : ∀ q ∈ lw_privs_3, lw_okq q := List.forall_mem_cons.mpr ⟨lw_p32, List.forall_mem_cons.mpr ⟨lw_p33, List.forall_mem_cons.mpr ⟨lw_p34, List.forall_mem_cons.mpr ⟨lw_p35, List.forall_mem_cons.mpr ⟨lw_p36, List.forall_mem_cons.mpr ⟨lw_p37, List.forall_mem_cons.mpr ⟨lw_p38, List.forall_mem_cons.mpr ⟨lw_p39, List.forall_mem_cons.mpr ⟨lw_p40, List.forall_mem_cons.mpr ⟨lw_p41, List.forall_mem_cons.mpr ⟨lw_p42, List.forall_mem_cons.mpr ⟨lw_p43, List.forall_mem_cons.mpr ⟨lw_p44, List.forall_mem_cons.mpr ⟨lw_p45, List.forall_mem_cons.mpr ⟨lw_p46, List.forall_mem_cons.mpr ⟨lw_p47, fun _ h => absurd h List.not_mem_nil⟩⟩⟩⟩⟩⟩⟩⟩⟩⟩⟩⟩⟩⟩⟩⟩
def lw_privs : List (MethodName × Nat) := lw_privs_1 ++ (lw_privs_2 ++ (lw_privs_3))
def lw_tbl : List Cond := k2_sels lw_privs ++ tables_1
theorem lw_privs_ok : ∀ q ∈ lw_privs, lw_okq q := by
  show ∀ q ∈ lw_privs_1 ++ (lw_privs_2 ++ (lw_privs_3)), lw_okq q
  exact List.forall_mem_append.mpr ⟨lw_r1, List.forall_mem_append.mpr ⟨lw_r2, lw_r3⟩⟩
end
section
def RX0 : String := "LanternTongue$Camp"
def TX0 : u_T := fun k => match k with
  | 0 => ("LanternTongue$Camp", "parties", "I", false)
  | 1 => ("LanternTongue$Camp", "places", "[I", true)
  | 2 => ("LanternTongue$Camp", "oils", "[I", true)
  | 3 => ("LanternTongue$Camp", "steps", "[I", true)
  | 4 => ("LanternTongue$Camp", "spokeAt", "[I", true)
  | 5 => ("LanternTongue$Camp", "heard", "I", false)
  | 6 => ("LanternTongue$Camp", "heardWays", "[I", true)
  | _ => ("LanternTongue$Camp", "heardSounds", "[I", true)
def tyX0 : Nat → FieldType := fun k => match k with
  | 0 => .int
  | 1 => .array .int
  | 2 => .array .int
  | 3 => .array .int
  | 4 => .array .int
  | 5 => .int
  | 6 => .array .int
  | _ => .array .int
abbrev wsX00 : List Cond := u_ws RX0 TX0 8
theorem nmX0 : ∀ a, a < 8 → ∀ b, b < 8 → a ≠ b → (TX0 a).2.1 ≠ (TX0 b).2.1 := by decide +kernel
theorem tyX0_ok : ∀ k, k < 8 → parseFieldDescriptor (TX0 k).2.2.1 = some (tyX0 k) := by decide +kernel
abbrev cX0_init : ByteArray := prog_2_method_1_code
def yX0_init : MethodName := ⟨RX0, "<init>", "()V"⟩
abbrev cX0_clear : ByteArray := prog_2_method_2_code
def yX0_clear : MethodName := ⟨RX0, "clear", "()V"⟩
abbrev cX0_copyFrom : ByteArray := prog_2_method_3_code
def yX0_copyFrom : MethodName := ⟨RX0, "copyFrom", "(LLanternTongue$Camp;)V"⟩
abbrev cX0_copyRow : ByteArray := prog_2_method_4_code
def yX0_copyRow : MethodName := ⟨RX0, "copyRow", "([I[I)V"⟩
abbrev cX0_has : ByteArray := prog_2_method_5_code
def yX0_has : MethodName := ⟨RX0, "has", "(I)Z"⟩
abbrev cX0_welcome : ByteArray := prog_2_method_6_code
def yX0_welcome : MethodName := ⟨RX0, "welcome", "(II)I"⟩
abbrev cX0_go : ByteArray := prog_2_method_7_code
def yX0_go : MethodName := ⟨RX0, "go", "(III)V"⟩
abbrev cX0_note : ByteArray := prog_2_method_8_code
def yX0_note : MethodName := ⟨RX0, "note", "(II)V"⟩
abbrev cX0_stepsSinceSpoken : ByteArray := prog_2_method_9_code
def yX0_stepsSinceSpoken : MethodName := ⟨RX0, "stepsSinceSpoken", "(I)I"⟩
abbrev cX0_mayLook : ByteArray := prog_2_method_10_code
def yX0_mayLook : MethodName := ⟨RX0, "mayLook", "(I)Z"⟩
abbrev cX0_partiesAt : ByteArray := prog_2_method_11_code
def yX0_partiesAt : MethodName := ⟨RX0, "partiesAt", "(I)I"⟩
abbrev cX0_sumOfAll : ByteArray := prog_2_method_12_code
def yX0_sumOfAll : MethodName := ⟨RX0, "sumOfAll", "([I)I"⟩
abbrev cX0_thoseWhoMayLook : ByteArray := prog_2_method_13_code
def yX0_thoseWhoMayLook : MethodName := ⟨RX0, "thoseWhoMayLook", "()I"⟩
def RX1 : String := "LanternTongue$Mine"
def TX1 : u_T := fun k => match k with
  | 0 => ("LanternTongue$Mine", "size", "I", false)
  | 1 => ("LanternTongue$Mine", "oil", "I", false)
  | 2 => ("LanternTongue$Mine", "kinds", "[I", true)
  | 3 => ("LanternTongue$Mine", "lefts", "[I", true)
  | _ => ("LanternTongue$Mine", "rights", "[I", true)
def tyX1 : Nat → FieldType := fun k => match k with
  | 0 => .int
  | 1 => .int
  | 2 => .array .int
  | 3 => .array .int
  | _ => .array .int
abbrev wsX10 : List Cond := u_ws RX1 TX1 5
theorem nmX1 : ∀ a, a < 5 → ∀ b, b < 5 → a ≠ b → (TX1 a).2.1 ≠ (TX1 b).2.1 := by decide +kernel
theorem tyX1_ok : ∀ k, k < 5 → parseFieldDescriptor (TX1 k).2.2.1 = some (tyX1 k) := by decide +kernel
abbrev cX1_init : ByteArray := prog_3_method_1_code
def yX1_init : MethodName := ⟨RX1, "<init>", "()V"⟩
abbrev cX1_readFrom : ByteArray := prog_3_method_2_code
def yX1_readFrom : MethodName := ⟨RX1, "readFrom", "(LLanternTongue$Page;)V"⟩
abbrev cX1_isThere : ByteArray := prog_3_method_3_code
def yX1_isThere : MethodName := ⟨RX1, "isThere", "()Z"⟩
abbrev cX1_has : ByteArray := prog_3_method_4_code
def yX1_has : MethodName := ⟨RX1, "has", "(I)Z"⟩
abbrev cX1_kindOf : ByteArray := prog_3_method_5_code
def yX1_kindOf : MethodName := ⟨RX1, "kindOf", "(I)I"⟩
abbrev cX1_leadsTo : ByteArray := prog_3_method_6_code
def yX1_leadsTo : MethodName := ⟨RX1, "leadsTo", "(II)I"⟩
abbrev cX1_soundOf : ByteArray := prog_3_method_7_code
def yX1_soundOf : MethodName := ⟨RX1, "soundOf", "(I)I"⟩
abbrev cX1_oilTo : ByteArray := prog_3_method_8_code
def yX1_oilTo : MethodName := ⟨RX1, "oilTo", "(I)I"⟩
abbrev cX1_placesBy : ByteArray := prog_3_method_9_code
def yX1_placesBy : MethodName := ⟨RX1, "placesBy", "(LLanternTongue$Camp;)I"⟩
abbrev cX1_mostLeft : ByteArray := prog_3_method_10_code
def yX1_mostLeft : MethodName := ⟨RX1, "mostLeft", "(II)I"⟩
abbrev cX1_placesAfter : ByteArray := prog_3_method_11_code
def yX1_placesAfter : MethodName := ⟨RX1, "placesAfter", "(II)I"⟩
abbrev cX1_placesOfSound : ByteArray := prog_3_method_12_code
def yX1_placesOfSound : MethodName := ⟨RX1, "placesOfSound", "(II)I"⟩
abbrev cX1_isIn : ByteArray := prog_3_method_13_code
def yX1_isIn : MethodName := ⟨RX1, "isIn", "(II)Z"⟩
def RX2 : String := "LanternTongue$Page"
def TX2 : u_T := fun k => match k with
  | 0 => ("LanternTongue$Page", "codes", "[I", true)
  | _ => ("LanternTongue$Page", "size", "I", false)
def tyX2 : Nat → FieldType := fun k => match k with
  | 0 => .array .int
  | _ => .int
abbrev wsX20 : List Cond := u_ws RX2 TX2 2
theorem nmX2 : ∀ a, a < 2 → ∀ b, b < 2 → a ≠ b → (TX2 a).2.1 ≠ (TX2 b).2.1 := by decide +kernel
theorem tyX2_ok : ∀ k, k < 2 → parseFieldDescriptor (TX2 k).2.2.1 = some (tyX2 k) := by decide +kernel
abbrev cX2_init : ByteArray := prog_4_method_1_code
def yX2_init : MethodName := ⟨RX2, "<init>", "()V"⟩
abbrev cX2_write : ByteArray := prog_4_method_2_code
def yX2_write : MethodName := ⟨RX2, "write", "(I)V"⟩
abbrev cX2_codeAt : ByteArray := prog_4_method_3_code
def yX2_codeAt : MethodName := ⟨RX2, "codeAt", "(I)I"⟩
abbrev cX2_digitAt : ByteArray := prog_4_method_4_code
def yX2_digitAt : MethodName := ⟨RX2, "digitAt", "(I)I"⟩
abbrev cX2_isMine : ByteArray := prog_4_method_5_code
def yX2_isMine : MethodName := ⟨RX2, "isMine", "()Z"⟩
abbrev cX2_faultPlace : ByteArray := prog_4_method_6_code
def yX2_faultPlace : MethodName := ⟨RX2, "faultPlace", "()I"⟩
abbrev cX2_isClosed : ByteArray := prog_4_method_7_code
def yX2_isClosed : MethodName := ⟨RX2, "isClosed", "()Z"⟩
abbrev cX2_firstMisfit : ByteArray := prog_4_method_8_code
def yX2_firstMisfit : MethodName := ⟨RX2, "firstMisfit", "()I"⟩
abbrev cX2_fitsAsOil : ByteArray := prog_4_method_9_code
def yX2_fitsAsOil : MethodName := ⟨RX2, "fitsAsOil", "(I)Z"⟩
abbrev cX2_fitsInCrossings : ByteArray := prog_4_method_10_code
def yX2_fitsInCrossings : MethodName := ⟨RX2, "fitsInCrossings", "(I)Z"⟩
abbrev cX2_firstLeadingNowhere : ByteArray := prog_4_method_11_code
def yX2_firstLeadingNowhere : MethodName := ⟨RX2, "firstLeadingNowhere", "()I"⟩
abbrev cX2_kindOfSign : ByteArray := prog_4_method_12_code
def yX2_kindOfSign : MethodName := ⟨RX2, "kindOfSign", "(I)I"⟩
def RX3 : String := "LanternTongue$Table"
def TX3 : u_T := fun k => match k with
  | _ => ("LanternTongue$Table", "cells", "[I", true)
def tyX3 : Nat → FieldType := fun k => match k with
  | _ => .array .int
abbrev wsX30 : List Cond := u_ws RX3 TX3 1
theorem nmX3 : ∀ a, a < 1 → ∀ b, b < 1 → a ≠ b → (TX3 a).2.1 ≠ (TX3 b).2.1 := by decide +kernel
theorem tyX3_ok : ∀ k, k < 1 → parseFieldDescriptor (TX3 k).2.2.1 = some (tyX3 k) := by decide +kernel
abbrev cX3_init : ByteArray := prog_5_method_1_code
def yX3_init : MethodName := ⟨RX3, "<init>", "()V"⟩
abbrev cX3_get : ByteArray := prog_5_method_2_code
def yX3_get : MethodName := ⟨RX3, "get", "(II)I"⟩
abbrev cX3_set : ByteArray := prog_5_method_3_code
def yX3_set : MethodName := ⟨RX3, "set", "(III)V"⟩
abbrev cX3_lower : ByteArray := prog_5_method_4_code
def yX3_lower : MethodName := ⟨RX3, "lower", "(III)Z"⟩
def RX4 : String := "LanternTongue$Ways"
def TX4 : u_T := fun k => match k with
  | 0 => ("LanternTongue$Ways", "mine", "LLanternTongue$Mine;", true)
  | 1 => ("LanternTongue$Ways", "steps", "LLanternTongue$Table;", true)
  | 2 => ("LanternTongue$Ways", "oils", "LLanternTongue$Table;", true)
  | 3 => ("LanternTongue$Ways", "meets", "LLanternTongue$Table;", true)
  | 4 => ("LanternTongue$Ways", "aparts", "LLanternTongue$Table;", true)
  | _ => ("LanternTongue$Ways", "rounds", "[I", true)
def tyX4 : Nat → FieldType := fun k => match k with
  | 0 => .object "LanternTongue$Mine"
  | 1 => .object "LanternTongue$Table"
  | 2 => .object "LanternTongue$Table"
  | 3 => .object "LanternTongue$Table"
  | 4 => .object "LanternTongue$Table"
  | _ => .array .int
abbrev wsX40 : List Cond := u_ws RX4 TX4 6
theorem nmX4 : ∀ a, a < 6 → ∀ b, b < 6 → a ≠ b → (TX4 a).2.1 ≠ (TX4 b).2.1 := by decide +kernel
theorem tyX4_ok : ∀ k, k < 6 → parseFieldDescriptor (TX4 k).2.2.1 = some (tyX4 k) := by decide +kernel
abbrev cX4_init : ByteArray := prog_6_method_1_code
def yX4_init : MethodName := ⟨RX4, "<init>", "(LLanternTongue$Mine;)V"⟩
abbrev cX4_workOut : ByteArray := prog_6_method_2_code
def yX4_workOut : MethodName := ⟨RX4, "workOut", "()V"⟩
abbrev cX4_firstOfWay : ByteArray := prog_6_method_3_code
def yX4_firstOfWay : MethodName := ⟨RX4, "firstOfWay", "(II)I"⟩
abbrev cX4_firstOfApart : ByteArray := prog_6_method_4_code
def yX4_firstOfApart : MethodName := ⟨RX4, "firstOfApart", "(II)I"⟩
abbrev cX4_firstOfRound : ByteArray := prog_6_method_5_code
def yX4_firstOfRound : MethodName := ⟨RX4, "firstOfRound", "(I)I"⟩
abbrev cX4_stepsOfRound : ByteArray := prog_6_method_6_code
def yX4_stepsOfRound : MethodName := ⟨RX4, "stepsOfRound", "(II)I"⟩
abbrev cX4_start : ByteArray := prog_6_method_7_code
def yX4_start : MethodName := ⟨RX4, "start", "()V"⟩
abbrev cX4_sweepPairs : ByteArray := prog_6_method_8_code
def yX4_sweepPairs : MethodName := ⟨RX4, "sweepPairs", "()Z"⟩
abbrev cX4_lowerBy : ByteArray := prog_6_method_9_code
def yX4_lowerBy : MethodName := ⟨RX4, "lowerBy", "(III)Z"⟩
abbrev cX4_apartAfter : ByteArray := prog_6_method_10_code
def yX4_apartAfter : MethodName := ⟨RX4, "apartAfter", "(III)I"⟩
abbrev cX4_roundAfter : ByteArray := prog_6_method_11_code
def yX4_roundAfter : MethodName := ⟨RX4, "roundAfter", "(II)I"⟩
abbrev cX4_workOutRounds : ByteArray := prog_6_method_12_code
def yX4_workOutRounds : MethodName := ⟨RX4, "workOutRounds", "()V"⟩
abbrev cX4_leastOfRound : ByteArray := prog_6_method_13_code
def yX4_leastOfRound : MethodName := ⟨RX4, "leastOfRound", "(II)I"⟩
abbrev cX4_firstBy : ByteArray := prog_6_method_14_code
def yX4_firstBy : MethodName := ⟨RX4, "firstBy", "(III)I"⟩
def RX5 : String := "LanternTongue"
def TX5 : u_T := fun k => match k with
  | 0 => ("LanternTongue", "page", "LLanternTongue$Page;", true)
  | 1 => ("LanternTongue", "tunnels", "LLanternTongue$Mine;", true)
  | 2 => ("LanternTongue", "ways", "LLanternTongue$Ways;", true)
  | 3 => ("LanternTongue", "camp", "LLanternTongue$Camp;", true)
  | 4 => ("LanternTongue", "kept", "LLanternTongue$Camp;", true)
  | 5 => ("LanternTongue", "isKept", "Z", false)
  | _ => ("LanternTongue", "minesRead", "I", false)
def tyX5 : Nat → FieldType := fun k => match k with
  | 0 => .object "LanternTongue$Page"
  | 1 => .object "LanternTongue$Mine"
  | 2 => .object "LanternTongue$Ways"
  | 3 => .object "LanternTongue$Camp"
  | 4 => .object "LanternTongue$Camp"
  | 5 => .boolean
  | _ => .int
abbrev wsX50 : List Cond := u_ws RX5 TX5 7
theorem nmX5 : ∀ a, a < 7 → ∀ b, b < 7 → a ≠ b → (TX5 a).2.1 ≠ (TX5 b).2.1 := by decide +kernel
theorem tyX5_ok : ∀ k, k < 7 → parseFieldDescriptor (TX5 k).2.2.1 = some (tyX5 k) := by decide +kernel
abbrev cX5_init : ByteArray := prog_1_method_1_code
def yX5_init : MethodName := ⟨RX5, "<init>", "()V"⟩
abbrev cX5_letter : ByteArray := prog_1_method_2_code
def yX5_letter : MethodName := ⟨RX5, "letter", "(I)I"⟩
abbrev cX5_blank : ByteArray := prog_1_method_3_code
def yX5_blank : MethodName := ⟨RX5, "blank", "()I"⟩
abbrev cX5_fault : ByteArray := prog_1_method_4_code
def yX5_fault : MethodName := ⟨RX5, "fault", "()I"⟩
abbrev cX5_mine : ByteArray := prog_1_method_5_code
def yX5_mine : MethodName := ⟨RX5, "mine", "()I"⟩
abbrev cX5_crossing : ByteArray := prog_1_method_6_code
def yX5_crossing : MethodName := ⟨RX5, "crossing", "(II)I"⟩
abbrev cX5_as : ByteArray := prog_1_method_7_code
def yX5_as : MethodName := ⟨RX5, "as", "(II)I"⟩
abbrev cX5_party : ByteArray := prog_1_method_8_code
def yX5_party : MethodName := ⟨RX5, "party", "(I)I"⟩
abbrev cX5_about : ByteArray := prog_1_method_9_code
def yX5_about : MethodName := ⟨RX5, "about", "(II)I"⟩
abbrev cX5_step : ByteArray := prog_1_method_10_code
def yX5_step : MethodName := ⟨RX5, "step", "(II)I"⟩
abbrev cX5_speak : ByteArray := prog_1_method_11_code
def yX5_speak : MethodName := ⟨RX5, "speak", "(I)I"⟩
abbrev cX5_look : ByteArray := prog_1_method_12_code
def yX5_look : MethodName := ⟨RX5, "look", "(I)I"⟩
abbrev cX5_fill : ByteArray := prog_1_method_13_code
def yX5_fill : MethodName := ⟨RX5, "fill", "(I)I"⟩
abbrev cX5_way : ByteArray := prog_1_method_14_code
def yX5_way : MethodName := ⟨RX5, "way", "(III)I"⟩
abbrev cX5_round : ByteArray := prog_1_method_15_code
def yX5_round : MethodName := ⟨RX5, "round", "(II)I"⟩
abbrev cX5_meet : ByteArray := prog_1_method_16_code
def yX5_meet : MethodName := ⟨RX5, "meet", "(II)I"⟩
abbrev cX5_apart : ByteArray := prog_1_method_17_code
def yX5_apart : MethodName := ⟨RX5, "apart", "(III)I"⟩
abbrev cX5_hear : ByteArray := prog_1_method_18_code
def yX5_hear : MethodName := ⟨RX5, "hear", "(II)I"⟩
abbrev cX5_forget : ByteArray := prog_1_method_19_code
def yX5_forget : MethodName := ⟨RX5, "forget", "()I"⟩
abbrev cX5_where : ByteArray := prog_1_method_20_code
def yX5_where : MethodName := ⟨RX5, "where", "()I"⟩
abbrev cX5_next : ByteArray := prog_1_method_21_code
def yX5_next : MethodName := ⟨RX5, "next", "()I"⟩
abbrev cX5_walks : ByteArray := prog_1_method_22_code
def yX5_walks : MethodName := ⟨RX5, "walks", "(IIII)I"⟩
abbrev cX5_image : ByteArray := prog_1_method_23_code
def yX5_image : MethodName := ⟨RX5, "image", "()I"⟩
abbrev cX5_restore : ByteArray := prog_1_method_24_code
def yX5_restore : MethodName := ⟨RX5, "restore", "()I"⟩
abbrev cX5_count : ByteArray := prog_1_method_25_code
def yX5_count : MethodName := ⟨RX5, "count", "(I)I"⟩
abbrev cX5_digest : ByteArray := prog_1_method_26_code
def yX5_digest : MethodName := ⟨RX5, "digest", "()J"⟩
abbrev cX5_withCrossing : ByteArray := prog_1_method_27_code
def yX5_withCrossing : MethodName := ⟨RX5, "withCrossing", "(JI)J"⟩
abbrev cX5_withParty : ByteArray := prog_1_method_28_code
def yX5_withParty : MethodName := ⟨RX5, "withParty", "(JI)J"⟩
abbrev cX5_with : ByteArray := prog_1_method_29_code
def yX5_with : MethodName := ⟨RX5, "with", "(JI)J"⟩
abbrev cX5_seedAfter : ByteArray := prog_1_method_30_code
def yX5_seedAfter : MethodName := ⟨RX5, "seedAfter", "(I)I"⟩
abbrev cX5_drawOfTwo : ByteArray := prog_1_method_31_code
def yX5_drawOfTwo : MethodName := ⟨RX5, "drawOfTwo", "(I)I"⟩
abbrev cX5_isWay : ByteArray := prog_1_method_32_code
def yX5_isWay : MethodName := ⟨RX5, "isWay", "(I)Z"⟩
abbrev cX5_isSuch : ByteArray := prog_1_method_33_code
def yX5_isSuch : MethodName := ⟨RX5, "isSuch", "(II)Z"⟩
abbrev cX5_orNone : ByteArray := prog_1_method_34_code
def yX5_orNone : MethodName := ⟨RX5, "orNone", "(I)I"⟩
abbrev cX5_cell : ByteArray := prog_1_method_35_code
def yX5_cell : MethodName := ⟨RX5, "cell", "([II)I"⟩
abbrev cX5_put : ByteArray := prog_1_method_36_code
def yX5_put : MethodName := ⟨RX5, "put", "([III)V"⟩
def RX6 : String := "LanternTongueModel"
def TX6 : u_T := fun k => match k with
  | 0 => ("LanternTongueModel", "page", "[I", true)
  | 1 => ("LanternTongueModel", "pageMany", "I", false)
  | 2 => ("LanternTongueModel", "read", "[I", true)
  | 3 => ("LanternTongueModel", "readMany", "I", false)
  | 4 => ("LanternTongueModel", "readOil", "I", false)
  | 5 => ("LanternTongueModel", "state", "I", false)
  | 6 => ("LanternTongueModel", "crossings", "I", false)
  | 7 => ("LanternTongueModel", "oilFirst", "I", false)
  | 8 => ("LanternTongueModel", "minesRead", "I", false)
  | 9 => ("LanternTongueModel", "kinds", "[I", true)
  | 10 => ("LanternTongueModel", "goals", "[I", true)
  | 11 => ("LanternTongueModel", "parties", "I", false)
  | 12 => ("LanternTongueModel", "rows", "[I", true)
  | 13 => ("LanternTongueModel", "far", "[I", true)
  | 14 => ("LanternTongueModel", "farSet", "[I", true)
  | 15 => ("LanternTongueModel", "farPair", "[I", true)
  | 16 => ("LanternTongueModel", "heardMany", "I", false)
  | 17 => ("LanternTongueModel", "heards", "[I", true)
  | 18 => ("LanternTongueModel", "seedNow", "I", false)
  | 19 => ("LanternTongueModel", "keptMine", "I", false)
  | 20 => ("LanternTongueModel", "keptParties", "I", false)
  | 21 => ("LanternTongueModel", "keptHeardMany", "I", false)
  | 22 => ("LanternTongueModel", "keptRows", "[I", true)
  | 23 => ("LanternTongueModel", "keptHeards", "[I", true)
  | _ => ("LanternTongueModel", "hash", "J", false)
def tyX6 : Nat → FieldType := fun k => match k with
  | 0 => .array .int
  | 1 => .int
  | 2 => .array .int
  | 3 => .int
  | 4 => .int
  | 5 => .int
  | 6 => .int
  | 7 => .int
  | 8 => .int
  | 9 => .array .int
  | 10 => .array .int
  | 11 => .int
  | 12 => .array .int
  | 13 => .array .int
  | 14 => .array .int
  | 15 => .array .int
  | 16 => .int
  | 17 => .array .int
  | 18 => .int
  | 19 => .int
  | 20 => .int
  | 21 => .int
  | 22 => .array .int
  | 23 => .array .int
  | _ => .long
abbrev wsX60 : List Cond := u_ws RX6 TX6 25
theorem nmX6 : ∀ a, a < 25 → ∀ b, b < 25 → a ≠ b → (TX6 a).2.1 ≠ (TX6 b).2.1 := by decide +kernel
theorem tyX6_ok : ∀ k, k < 25 → parseFieldDescriptor (TX6 k).2.2.1 = some (tyX6 k) := by decide +kernel
abbrev cX6_init : ByteArray := prog_8_method_1_code
def yX6_init : MethodName := ⟨RX6, "<init>", "()V"⟩
abbrev cX6_in : ByteArray := prog_8_method_2_code
def yX6_in : MethodName := ⟨RX6, "in", "(JJJ)Z"⟩
abbrev cX6_copy : ByteArray := prog_8_method_3_code
def yX6_copy : MethodName := ⟨RX6, "copy", "([I[I)V"⟩
abbrev cX6_letter : ByteArray := prog_8_method_4_code
def yX6_letter : MethodName := ⟨RX6, "letter", "(I)I"⟩
abbrev cX6_blank : ByteArray := prog_8_method_5_code
def yX6_blank : MethodName := ⟨RX6, "blank", "()I"⟩
abbrev cX6_kindBy : ByteArray := prog_8_method_6_code
def yX6_kindBy : MethodName := ⟨RX6, "kindBy", "(I)I"⟩
abbrev cX6_go : ByteArray := prog_8_method_7_code
def yX6_go : MethodName := ⟨RX6, "go", "(I)Z"⟩
abbrev cX6_strayDigit : ByteArray := prog_8_method_8_code
def yX6_strayDigit : MethodName := ⟨RX6, "strayDigit", "()I"⟩
abbrev cX6_faultOf : ByteArray := prog_8_method_9_code
def yX6_faultOf : MethodName := ⟨RX6, "faultOf", "()I"⟩
abbrev cX6_fault : ByteArray := prog_8_method_10_code
def yX6_fault : MethodName := ⟨RX6, "fault", "()I"⟩
abbrev cX6_mine : ByteArray := prog_8_method_11_code
def yX6_mine : MethodName := ⟨RX6, "mine", "()I"⟩
abbrev cX6_lacks : ByteArray := prog_8_method_12_code
def yX6_lacks : MethodName := ⟨RX6, "lacks", "()Z"⟩
abbrev cX6_isCrossing : ByteArray := prog_8_method_13_code
def yX6_isCrossing : MethodName := ⟨RX6, "isCrossing", "(I)Z"⟩
abbrev cX6_soundOf : ByteArray := prog_8_method_14_code
def yX6_soundOf : MethodName := ⟨RX6, "soundOf", "(I)I"⟩
abbrev cX6_burnsAt : ByteArray := prog_8_method_15_code
def yX6_burnsAt : MethodName := ⟨RX6, "burnsAt", "(I)I"⟩
abbrev cX6_whoIsAt : ByteArray := prog_8_method_16_code
def yX6_whoIsAt : MethodName := ⟨RX6, "whoIsAt", "(I)I"⟩
abbrev cX6_tellCrossing : ByteArray := prog_8_method_17_code
def yX6_tellCrossing : MethodName := ⟨RX6, "tellCrossing", "(II)I"⟩
abbrev cX6_crossing : ByteArray := prog_8_method_18_code
def yX6_crossing : MethodName := ⟨RX6, "crossing", "(II)I"⟩
abbrev cX6_as : ByteArray := prog_8_method_19_code
def yX6_as : MethodName := ⟨RX6, "as", "(II)I"⟩
abbrev cX6_isParty : ByteArray := prog_8_method_20_code
def yX6_isParty : MethodName := ⟨RX6, "isParty", "(I)Z"⟩
abbrev cX6_party : ByteArray := prog_8_method_21_code
def yX6_party : MethodName := ⟨RX6, "party", "(I)I"⟩
abbrev cX6_sinceOf : ByteArray := prog_8_method_22_code
def yX6_sinceOf : MethodName := ⟨RX6, "sinceOf", "(I)I"⟩
abbrev cX6_mayLook : ByteArray := prog_8_method_23_code
def yX6_mayLook : MethodName := ⟨RX6, "mayLook", "(I)Z"⟩
abbrev cX6_tell : ByteArray := prog_8_method_24_code
def yX6_tell : MethodName := ⟨RX6, "tell", "(II)I"⟩
abbrev cX6_about : ByteArray := prog_8_method_25_code
def yX6_about : MethodName := ⟨RX6, "about", "(II)I"⟩
abbrev cX6_step : ByteArray := prog_8_method_26_code
def yX6_step : MethodName := ⟨RX6, "step", "(II)I"⟩
abbrev cX6_speak : ByteArray := prog_8_method_27_code
def yX6_speak : MethodName := ⟨RX6, "speak", "(I)I"⟩
abbrev cX6_look : ByteArray := prog_8_method_28_code
def yX6_look : MethodName := ⟨RX6, "look", "(I)I"⟩
abbrev cX6_fill : ByteArray := prog_8_method_29_code
def yX6_fill : MethodName := ⟨RX6, "fill", "(I)I"⟩
abbrev cX6_layFar : ByteArray := prog_8_method_30_code
def yX6_layFar : MethodName := ⟨RX6, "layFar", "(IZ)V"⟩
abbrev cX6_stepsTo : ByteArray := prog_8_method_31_code
def yX6_stepsTo : MethodName := ⟨RX6, "stepsTo", "(II)I"⟩
abbrev cX6_wayOf : ByteArray := prog_8_method_32_code
def yX6_wayOf : MethodName := ⟨RX6, "wayOf", "(III)I"⟩
abbrev cX6_way : ByteArray := prog_8_method_33_code
def yX6_way : MethodName := ⟨RX6, "way", "(III)I"⟩
abbrev cX6_roundFrom : ByteArray := prog_8_method_34_code
def yX6_roundFrom : MethodName := ⟨RX6, "roundFrom", "(II)I"⟩
abbrev cX6_roundOf : ByteArray := prog_8_method_35_code
def yX6_roundOf : MethodName := ⟨RX6, "roundOf", "(II)I"⟩
abbrev cX6_round : ByteArray := prog_8_method_36_code
def yX6_round : MethodName := ⟨RX6, "round", "(II)I"⟩
abbrev cX6_beginPair : ByteArray := prog_8_method_37_code
def yX6_beginPair : MethodName := ⟨RX6, "beginPair", "(II)V"⟩
abbrev cX6_meetOf : ByteArray := prog_8_method_38_code
def yX6_meetOf : MethodName := ⟨RX6, "meetOf", "(II)I"⟩
abbrev cX6_meet : ByteArray := prog_8_method_39_code
def yX6_meet : MethodName := ⟨RX6, "meet", "(II)I"⟩
abbrev cX6_apartFrom : ByteArray := prog_8_method_40_code
def yX6_apartFrom : MethodName := ⟨RX6, "apartFrom", "(II)I"⟩
abbrev cX6_apartOf : ByteArray := prog_8_method_41_code
def yX6_apartOf : MethodName := ⟨RX6, "apartOf", "(III)I"⟩
abbrev cX6_apart : ByteArray := prog_8_method_42_code
def yX6_apart : MethodName := ⟨RX6, "apart", "(III)I"⟩
abbrev cX6_hear : ByteArray := prog_8_method_43_code
def yX6_hear : MethodName := ⟨RX6, "hear", "(II)I"⟩
abbrev cX6_forget : ByteArray := prog_8_method_44_code
def yX6_forget : MethodName := ⟨RX6, "forget", "()I"⟩
abbrev cX6_steppedFrom : ByteArray := prog_8_method_45_code
def yX6_steppedFrom : MethodName := ⟨RX6, "steppedFrom", "(II)I"⟩
abbrev cX6_soundingIn : ByteArray := prog_8_method_46_code
def yX6_soundingIn : MethodName := ⟨RX6, "soundingIn", "(II)I"⟩
abbrev cX6_whereOf : ByteArray := prog_8_method_47_code
def yX6_whereOf : MethodName := ⟨RX6, "whereOf", "()I"⟩
abbrev cX6_where : ByteArray := prog_8_method_48_code
def yX6_where : MethodName := ⟨RX6, "where", "()I"⟩
abbrev cX6_ones : ByteArray := prog_8_method_49_code
def yX6_ones : MethodName := ⟨RX6, "ones", "(I)I"⟩
abbrev cX6_worstBy : ByteArray := prog_8_method_50_code
def yX6_worstBy : MethodName := ⟨RX6, "worstBy", "(II)I"⟩
abbrev cX6_nextOf : ByteArray := prog_8_method_51_code
def yX6_nextOf : MethodName := ⟨RX6, "nextOf", "()I"⟩
abbrev cX6_next : ByteArray := prog_8_method_52_code
def yX6_next : MethodName := ⟨RX6, "next", "()I"⟩
abbrev cX6_draw : ByteArray := prog_8_method_53_code
def yX6_draw : MethodName := ⟨RX6, "draw", "(I)I"⟩
abbrev cX6_walks : ByteArray := prog_8_method_54_code
def yX6_walks : MethodName := ⟨RX6, "walks", "(IIII)I"⟩
abbrev cX6_image : ByteArray := prog_8_method_55_code
def yX6_image : MethodName := ⟨RX6, "image", "()I"⟩
abbrev cX6_restore : ByteArray := prog_8_method_56_code
def yX6_restore : MethodName := ⟨RX6, "restore", "()I"⟩
abbrev cX6_sumBy : ByteArray := prog_8_method_57_code
def yX6_sumBy : MethodName := ⟨RX6, "sumBy", "(I)I"⟩
abbrev cX6_countOf : ByteArray := prog_8_method_58_code
def yX6_countOf : MethodName := ⟨RX6, "countOf", "(I)I"⟩
abbrev cX6_count : ByteArray := prog_8_method_59_code
def yX6_count : MethodName := ⟨RX6, "count", "(I)I"⟩
abbrev cX6_say : ByteArray := prog_8_method_60_code
def yX6_say : MethodName := ⟨RX6, "say", "(J)V"⟩
abbrev cX6_sayCrossing : ByteArray := prog_8_method_61_code
def yX6_sayCrossing : MethodName := ⟨RX6, "sayCrossing", "(I)V"⟩
abbrev cX6_digest : ByteArray := prog_8_method_62_code
def yX6_digest : MethodName := ⟨RX6, "digest", "()J"⟩
def RJ11 : String := "java/lang/Character"
def TJ11 : u_T := fun k => match k with
  | _ => ("", "", "", false)
def tyJ11 : Nat → FieldType := fun k => match k with
  | _ => .int
abbrev wsJ110 : List Cond := u_ws RJ11 TJ11 0
theorem nmJ11 : ∀ a, a < 0 → ∀ b, b < 0 → a ≠ b → (TJ11 a).2.1 ≠ (TJ11 b).2.1 := by decide +kernel
theorem tyJ11_ok : ∀ k, k < 0 → parseFieldDescriptor (TJ11 k).2.2.1 = some (tyJ11 k) := by decide +kernel
abbrev cJ11_isValidCodePoint_9a6ad : ByteArray := prog_9_method_11_code
def yJ11_isValidCodePoint_9a6ad : MethodName := ⟨RJ11, "isValidCodePoint", "(I)Z"⟩
abbrev cJ11_highSurrogate_5068e : ByteArray := prog_9_method_28_code
def yJ11_highSurrogate_5068e : MethodName := ⟨RJ11, "highSurrogate", "(I)C"⟩
abbrev cJ11_lowSurrogate_5068e : ByteArray := prog_9_method_29_code
def yJ11_lowSurrogate_5068e : MethodName := ⟨RJ11, "lowSurrogate", "(I)C"⟩
def RJ6 : String := "java/lang/Integer"
def TJ6 : u_T := fun k => match k with
  | _ => ("", "", "", false)
def tyJ6 : Nat → FieldType := fun k => match k with
  | _ => .int
abbrev wsJ60 : List Cond := u_ws RJ6 TJ6 0
theorem nmJ6 : ∀ a, a < 0 → ∀ b, b < 0 → a ≠ b → (TJ6 a).2.1 ≠ (TJ6 b).2.1 := by decide +kernel
theorem tyJ6_ok : ∀ k, k < 0 → parseFieldDescriptor (TJ6 k).2.2.1 = some (tyJ6 k) := by decide +kernel
abbrev cJ6_bitCount_0f7a4 : ByteArray := prog_10_method_49_code
def yJ6_bitCount_0f7a4 : MethodName := ⟨RJ6, "bitCount", "(I)I"⟩
def RJ9 : String := "java/lang/Math"
def TJ9 : u_T := fun k => match k with
  | _ => ("", "", "", false)
def tyJ9 : Nat → FieldType := fun k => match k with
  | _ => .int
abbrev wsJ90 : List Cond := u_ws RJ9 TJ9 0
theorem nmJ9 : ∀ a, a < 0 → ∀ b, b < 0 → a ≠ b → (TJ9 a).2.1 ≠ (TJ9 b).2.1 := by decide +kernel
theorem tyJ9_ok : ∀ k, k < 0 → parseFieldDescriptor (TJ9 k).2.2.1 = some (tyJ9 k) := by decide +kernel
abbrev cJ9_max_7cf53 : ByteArray := prog_11_method_65_code
def yJ9_max_7cf53 : MethodName := ⟨RJ9, "max", "(II)I"⟩
abbrev cJ9_min_7cf53 : ByteArray := prog_11_method_69_code
def yJ9_min_7cf53 : MethodName := ⟨RJ9, "min", "(II)I"⟩
def RJ0 : String := "java/lang/String"
def TJ0 : u_T := fun k => match k with
  | _ => ("", "", "", false)
def tyJ0 : Nat → FieldType := fun k => match k with
  | _ => .int
abbrev wsJ00 : List Cond := u_ws RJ0 TJ0 0
theorem nmJ0 : ∀ a, a < 0 → ∀ b, b < 0 → a ≠ b → (TJ0 a).2.1 ≠ (TJ0 b).2.1 := by decide +kernel
theorem tyJ0_ok : ∀ k, k < 0 → parseFieldDescriptor (TJ0 k).2.2.1 = some (tyJ0 k) := by decide +kernel
abbrev cJ0_length_8abf5 : ByteArray := prog_12_method_54_code
def yJ0_length_8abf5 : MethodName := ⟨RJ0, "length", "()I"⟩
abbrev cJ0_indexOf_0f7a4 : ByteArray := prog_12_method_79_code
def yJ0_indexOf_0f7a4 : MethodName := ⟨RJ0, "indexOf", "(I)I"⟩
abbrev cJ0_indexOf_7cf53 : ByteArray := prog_12_method_80_code
def yJ0_indexOf_7cf53 : MethodName := ⟨RJ0, "indexOf", "(II)I"⟩
abbrev cJ0_coder_7d493 : ByteArray := prog_12_method_152_code
def yJ0_coder_7d493 : MethodName := ⟨RJ0, "coder", "()B"⟩
abbrev cJ0_isLatin1_aae02 : ByteArray := prog_12_method_154_code
def yJ0_isLatin1_aae02 : MethodName := ⟨RJ0, "isLatin1", "()Z"⟩
abbrev cJ0_checkBoundsBeginEnd_23922 : ByteArray := prog_12_method_158_code
def yJ0_checkBoundsBeginEnd_23922 : MethodName := ⟨RJ0, "checkBoundsBeginEnd", "(III)V"⟩
def RJ1 : String := "java/lang/StringLatin1"
def TJ1 : u_T := fun k => match k with
  | _ => ("", "", "", false)
def tyJ1 : Nat → FieldType := fun k => match k with
  | _ => .int
abbrev wsJ10 : List Cond := u_ws RJ1 TJ1 0
theorem nmJ1 : ∀ a, a < 0 → ∀ b, b < 0 → a ≠ b → (TJ1 a).2.1 ≠ (TJ1 b).2.1 := by decide +kernel
theorem tyJ1_ok : ∀ k, k < 0 → parseFieldDescriptor (TJ1 k).2.2.1 = some (tyJ1 k) := by decide +kernel
abbrev cJ1_canEncode_9a6ad : ByteArray := prog_13_method_4_code
def yJ1_canEncode_9a6ad : MethodName := ⟨RJ1, "canEncode", "(I)Z"⟩
abbrev cJ1_indexOf_4cfef : ByteArray := prog_13_method_22_code
def yJ1_indexOf_4cfef : MethodName := ⟨RJ1, "indexOf", "([BIII)I"⟩
abbrev cJ1_indexOfChar_4cfef : ByteArray := prog_13_method_23_code
def yJ1_indexOfChar_4cfef : MethodName := ⟨RJ1, "indexOfChar", "([BIII)I"⟩
def RJ2 : String := "java/lang/StringUTF16"
def TJ2 : u_T := fun k => match k with
  | _ => ("", "", "", false)
def tyJ2 : Nat → FieldType := fun k => match k with
  | _ => .int
abbrev wsJ20 : List Cond := u_ws RJ2 TJ2 0
theorem nmJ2 : ∀ a, a < 0 → ∀ b, b < 0 → a ≠ b → (TJ2 a).2.1 ≠ (TJ2 b).2.1 := by decide +kernel
theorem tyJ2_ok : ∀ k, k < 0 → parseFieldDescriptor (TJ2 k).2.2.1 = some (tyJ2 k) := by decide +kernel
abbrev cJ2_getChar_3b067 : ByteArray := prog_14_method_5_code
def yJ2_getChar_3b067 : MethodName := ⟨RJ2, "getChar", "([BI)C"⟩
abbrev cJ2_length_9d52b : ByteArray := prog_14_method_6_code
def yJ2_length_9d52b : MethodName := ⟨RJ2, "length", "([B)I"⟩
abbrev cJ2_indexOf_4cfef : ByteArray := prog_14_method_40_code
def yJ2_indexOf_4cfef : MethodName := ⟨RJ2, "indexOf", "([BIII)I"⟩
abbrev cJ2_indexOfChar_4cfef : ByteArray := prog_14_method_47_code
def yJ2_indexOfChar_4cfef : MethodName := ⟨RJ2, "indexOfChar", "([BIII)I"⟩
abbrev cJ2_indexOfCharUnsafe_4cfef : ByteArray := prog_14_method_48_code
def yJ2_indexOfCharUnsafe_4cfef : MethodName := ⟨RJ2, "indexOfCharUnsafe", "([BIII)I"⟩
abbrev cJ2_indexOfSupplementary_4cfef : ByteArray := prog_14_method_49_code
def yJ2_indexOfSupplementary_4cfef : MethodName := ⟨RJ2, "indexOfSupplementary", "([BIII)I"⟩
abbrev cJ2_checkBoundsBeginEnd_d044e : ByteArray := prog_14_method_93_code
def yJ2_checkBoundsBeginEnd_d044e : MethodName := ⟨RJ2, "checkBoundsBeginEnd", "(II[B)V"⟩
def RJ3 : String := "jdk/internal/util/Preconditions"
def TJ3 : u_T := fun k => match k with
  | _ => ("", "", "", false)
def tyJ3 : Nat → FieldType := fun k => match k with
  | _ => .int
abbrev wsJ30 : List Cond := u_ws RJ3 TJ3 0
theorem nmJ3 : ∀ a, a < 0 → ∀ b, b < 0 → a ≠ b → (TJ3 a).2.1 ≠ (TJ3 b).2.1 := by decide +kernel
theorem tyJ3_ok : ∀ k, k < 0 → parseFieldDescriptor (TJ3 k).2.2.1 = some (tyJ3 k) := by decide +kernel
abbrev cJ3_checkFromToIndex_8c36e : ByteArray := prog_15_method_12_code
def yJ3_checkFromToIndex_8c36e : MethodName := ⟨RJ3, "checkFromToIndex", "(IIILjava/util/function/BiFunction;)I"⟩
def RL : String := "LanternTongueLaw"
abbrev cL_law : ByteArray := code
def yL_law : MethodName := ⟨RL, "law", "([I)Z"⟩
abbrev vwCl : List vw_C := [(RX0, TX0, 8), (RX1, TX1, 5), (RX2, TX2, 2), (RX3, TX3, 1), (RX4, TX4, 6), (RX5, TX5, 7), (RX6, TX6, 25)]
end
section
/-! the state of both systems: int fields by number (100 * cell + field), the one long field, int arrays by cell -/
abbrev ST : Type := (Nat → Int32) × Int64 × (Nat → Nat → Int32)
def gI (σ : ST) (i : Nat) : Int32 := σ.1 i
def gL (σ : ST) : Int64 := σ.2.1
def gA (σ : ST) (a : Nat) : Nat → Int32 := σ.2.2 a
def sI (σ : ST) (i : Nat) (v : Int32) : ST := (fun j => if j = i then v else σ.1 j, σ.2)
def sL (σ : ST) (v : Int64) : ST := (σ.1, v, σ.2.2)
def sA (σ : ST) (a : Nat) (k : Nat) (v : Int32) : ST := (σ.1, σ.2.1, fun b => if b = a then upd (σ.2.2 b) k v else σ.2.2 b)
theorem gI_sI (σ : ST) (i j : Nat) (v : Int32) : gI (sI σ i v) j = if j = i then v else gI σ j := rfl
theorem gI_sL (σ : ST) (j : Nat) (v : Int64) : gI (sL σ v) j = gI σ j := rfl
theorem gI_sA (σ : ST) (a k j : Nat) (v : Int32) : gI (sA σ a k v) j = gI σ j := rfl
theorem gL_sI (σ : ST) (i : Nat) (v : Int32) : gL (sI σ i v) = gL σ := rfl
theorem gL_sL (σ : ST) (v : Int64) : gL (sL σ v) = v := rfl
theorem gL_sA (σ : ST) (a k : Nat) (v : Int32) : gL (sA σ a k v) = gL σ := rfl
theorem gA_sI (σ : ST) (i a : Nat) (v : Int32) : gA (sI σ i v) a = gA σ a := rfl
theorem gA_sL (σ : ST) (a : Nat) (v : Int64) : gA (sL σ v) a = gA σ a := rfl
theorem gA_sA (σ : ST) (a k b : Nat) (v : Int32) : gA (sA σ a k v) b = if b = a then upd (gA σ b) k v else gA σ b := rfl
/-- the world: 31 cells of the class, 12 of the reference -/
def wld (cA : ClassId) (ad : Nat → Nat) (σ : ST) : va_W :=
  [(ad 0, .inr (5, [.ref (ad 1), .ref (ad 3), .ref (ad 7), .ref (ad 17), .ref (ad 24), .int (gI σ 5), .int (gI σ 6)])),
   (ad 1, .inr (2, [.ref (ad 2), .int (gI σ 101)])),
   (ad 2, .inl (cA, 28, .inl (gA σ 2))),
   (ad 3, .inr (1, [.int (gI σ 300), .int (gI σ 301), .ref (ad 4), .ref (ad 5), .ref (ad 6)])),
   (ad 4, .inl (cA, 6, .inl (gA σ 4))),
   (ad 5, .inl (cA, 6, .inl (gA σ 5))),
   (ad 6, .inl (cA, 6, .inl (gA σ 6))),
   (ad 7, .inr (4, [.ref (ad 3), .ref (ad 8), .ref (ad 9), .ref (ad 10), .ref (ad 11), .ref (ad 16)])),
   (ad 8, .inr (3, [.ref (ad 12)])),
   (ad 9, .inr (3, [.ref (ad 13)])),
   (ad 10, .inr (3, [.ref (ad 14)])),
   (ad 11, .inr (3, [.ref (ad 15)])),
   (ad 12, .inl (cA, 36, .inl (gA σ 12))),
   (ad 13, .inl (cA, 36, .inl (gA σ 13))),
   (ad 14, .inl (cA, 36, .inl (gA σ 14))),
   (ad 15, .inl (cA, 36, .inl (gA σ 15))),
   (ad 16, .inl (cA, 384, .inl (gA σ 16))),
   (ad 17, .inr (0, [.int (gI σ 1700), .ref (ad 18), .ref (ad 19), .ref (ad 20), .ref (ad 21), .int (gI σ 1705), .ref (ad 22), .ref (ad 23)])),
   (ad 18, .inl (cA, 3, .inl (gA σ 18))),
   (ad 19, .inl (cA, 3, .inl (gA σ 19))),
   (ad 20, .inl (cA, 3, .inl (gA σ 20))),
   (ad 21, .inl (cA, 3, .inl (gA σ 21))),
   (ad 22, .inl (cA, 8, .inl (gA σ 22))),
   (ad 23, .inl (cA, 8, .inl (gA σ 23))),
   (ad 24, .inr (0, [.int (gI σ 2400), .ref (ad 25), .ref (ad 26), .ref (ad 27), .ref (ad 28), .int (gI σ 2405), .ref (ad 29), .ref (ad 30)])),
   (ad 25, .inl (cA, 3, .inl (gA σ 25))),
   (ad 26, .inl (cA, 3, .inl (gA σ 26))),
   (ad 27, .inl (cA, 3, .inl (gA σ 27))),
   (ad 28, .inl (cA, 3, .inl (gA σ 28))),
   (ad 29, .inl (cA, 8, .inl (gA σ 29))),
   (ad 30, .inl (cA, 8, .inl (gA σ 30))),
   (ad 31, .inr (6, [.ref (ad 32), .int (gI σ 3101), .ref (ad 33), .int (gI σ 3103), .int (gI σ 3104), .int (gI σ 3105), .int (gI σ 3106), .int (gI σ 3107), .int (gI σ 3108), .ref (ad 34), .ref (ad 35), .int (gI σ 3111), .ref (ad 36), .ref (ad 37), .ref (ad 38), .ref (ad 39), .int (gI σ 3116), .ref (ad 40), .int (gI σ 3118), .int (gI σ 3119), .int (gI σ 3120), .int (gI σ 3121), .ref (ad 41), .ref (ad 42), .long (gL σ)])),
   (ad 32, .inl (cA, 28, .inl (gA σ 32))),
   (ad 33, .inl (cA, 18, .inl (gA σ 33))),
   (ad 34, .inl (cA, 6, .inl (gA σ 34))),
   (ad 35, .inl (cA, 12, .inl (gA σ 35))),
   (ad 36, .inl (cA, 12, .inl (gA σ 36))),
   (ad 37, .inl (cA, 6, .inl (gA σ 37))),
   (ad 38, .inl (cA, 384, .inl (gA σ 38))),
   (ad 39, .inl (cA, 36, .inl (gA σ 39))),
   (ad 40, .inl (cA, 16, .inl (gA σ 40))),
   (ad 41, .inl (cA, 12, .inl (gA σ 41))),
   (ad 42, .inl (cA, 16, .inl (gA σ 42)))]
def nestW : List Cond := [.methodLinkNest "LanternTongue" 11 ⟨"LanternTongue$Page", "<init>", "()V"⟩ "LanternTongue",
  .fieldLinkNest "LanternTongue$Mine" 21 "LanternTongue$Page" "size" "I" "LanternTongue",
  .fieldLinkNest "LanternTongue" 42 "LanternTongue$Page" "size" "I" "LanternTongue",
  .methodLinkNest "LanternTongue" 18 ⟨"LanternTongue$Mine", "<init>", "()V"⟩ "LanternTongue",
  .fieldLinkNest "LanternTongue" 75 "LanternTongue$Mine" "size" "I" "LanternTongue",
  .fieldLinkNest "LanternTongue$Ways" 71 "LanternTongue$Mine" "size" "I" "LanternTongue",
  .fieldLinkNest "LanternTongue" 104 "LanternTongue$Mine" "oil" "I" "LanternTongue",
  .methodLinkNest "LanternTongue$Ways" 11 ⟨"LanternTongue$Table", "<init>", "()V"⟩ "LanternTongue",
  .fieldLinkNest "LanternTongue" 145 "LanternTongue$Ways" "steps" "LLanternTongue$Table;" "LanternTongue",
  .fieldLinkNest "LanternTongue" 159 "LanternTongue$Ways" "oils" "LLanternTongue$Table;" "LanternTongue",
  .fieldLinkNest "LanternTongue" 167 "LanternTongue$Ways" "meets" "LLanternTongue$Table;" "LanternTongue",
  .fieldLinkNest "LanternTongue" 170 "LanternTongue$Ways" "aparts" "LLanternTongue$Table;" "LanternTongue",
  .methodLinkNest "LanternTongue" 34 ⟨"LanternTongue$Camp", "<init>", "()V"⟩ "LanternTongue",
  .fieldLinkNest "LanternTongue" 101 "LanternTongue$Camp" "parties" "I" "LanternTongue",
  .fieldLinkNest "LanternTongue" 111 "LanternTongue$Camp" "places" "[I" "LanternTongue",
  .fieldLinkNest "LanternTongue" 119 "LanternTongue$Camp" "oils" "[I" "LanternTongue",
  .fieldLinkNest "LanternTongue" 122 "LanternTongue$Camp" "steps" "[I" "LanternTongue",
  .fieldLinkNest "LanternTongue" 138 "LanternTongue$Camp" "spokeAt" "[I" "LanternTongue",
  .fieldLinkNest "LanternTongue$Mine" 52 "LanternTongue$Camp" "heard" "I" "LanternTongue",
  .fieldLinkNest "LanternTongue" 176 "LanternTongue$Camp" "heard" "I" "LanternTongue",
  .fieldLinkNest "LanternTongue$Mine" 57 "LanternTongue$Camp" "heardWays" "[I" "LanternTongue",
  .fieldLinkNest "LanternTongue$Mine" 64 "LanternTongue$Camp" "heardSounds" "[I" "LanternTongue",
  .methodLinkNest "LanternTongue$Page" 19 ⟨"LanternTongue", "put", "([III)V"⟩ "LanternTongue",
  .methodLinkNest "LanternTongue$Page" 23 ⟨"LanternTongue", "cell", "([II)I"⟩ "LanternTongue",
  .methodLinkNest "LanternTongue$Mine" 38 ⟨"LanternTongue$Page", "kindOfSign", "(I)I"⟩ "LanternTongue",
  .methodLinkNest "LanternTongue$Mine" 41 ⟨"LanternTongue", "put", "([III)V"⟩ "LanternTongue",
  .methodLinkNest "LanternTongue$Mine" 48 ⟨"LanternTongue", "cell", "([II)I"⟩ "LanternTongue",
  .methodLinkNest "LanternTongue$Table" 19 ⟨"LanternTongue", "put", "([III)V"⟩ "LanternTongue",
  .methodLinkNest "LanternTongue$Table" 15 ⟨"LanternTongue", "cell", "([II)I"⟩ "LanternTongue",
  .methodLinkNest "LanternTongue$Ways" 67 ⟨"LanternTongue", "cell", "([II)I"⟩ "LanternTongue",
  .methodLinkNest "LanternTongue$Ways" 96 ⟨"LanternTongue", "put", "([III)V"⟩ "LanternTongue",
  .methodLinkNest "LanternTongue$Camp" 41 ⟨"LanternTongue", "cell", "([II)I"⟩ "LanternTongue",
  .methodLinkNest "LanternTongue$Camp" 45 ⟨"LanternTongue", "put", "([III)V"⟩ "LanternTongue"]
def GW : List Cond := lw_tbl.filter goodWord
theorem GW_good {w : Cond} (h : w ∈ GW) : goodWord w = true := (List.mem_filter.mp h).2
theorem GW_mem {w : Cond} (h : w ∈ lw_tbl) (hg : goodWord w = true) : w ∈ GW := List.mem_filter.mpr ⟨h, hg⟩
theorem GW_1 {w : Cond} (i : Nat) (h : tables_1_1[i]? = some w) (hg : goodWord w = true) : w ∈ GW := GW_mem (List.mem_append_right _ (List.mem_append_left _ (List.mem_of_getElem? h))) hg
theorem GW_2 {w : Cond} (i : Nat) (h : tables_1_2[i]? = some w) (hg : goodWord w = true) : w ∈ GW := GW_mem (List.mem_append_right _ (List.mem_append_right _ (List.mem_append_left _ (List.mem_of_getElem? h)))) hg
theorem GW_3 {w : Cond} (i : Nat) (h : tables_1_3[i]? = some w) (hg : goodWord w = true) : w ∈ GW := GW_mem (List.mem_append_right _ (List.mem_append_right _ (List.mem_append_right _ (List.mem_append_left _ (List.mem_of_getElem? h))))) hg
theorem GW_4 {w : Cond} (i : Nat) (h : tables_1_4[i]? = some w) (hg : goodWord w = true) : w ∈ GW := GW_mem (List.mem_append_right _ (List.mem_append_right _ (List.mem_append_right _ (List.mem_append_right _ (List.mem_append_left _ (List.mem_of_getElem? h)))))) hg
theorem GW_5 {w : Cond} (i : Nat) (h : tables_1_5[i]? = some w) (hg : goodWord w = true) : w ∈ GW := GW_mem (List.mem_append_right _ (List.mem_append_right _ (List.mem_append_right _ (List.mem_append_right _ (List.mem_append_right _ (List.mem_of_getElem? h)))))) hg
theorem GW_p1 {w : Cond} (i : Nat) (h : (k2_sels lw_privs_1)[i]? = some w) (hg : goodWord w = true) : w ∈ GW := GW_mem (List.mem_append_left _ (by
  show w ∈ k2_sels (lw_privs_1 ++ (lw_privs_2 ++ lw_privs_3))
  unfold k2_sels
  rw [List.map_append]
  exact List.mem_append_left _ (List.mem_of_getElem? h))) hg
theorem GW_p2 {w : Cond} (i : Nat) (h : (k2_sels lw_privs_2)[i]? = some w) (hg : goodWord w = true) : w ∈ GW := GW_mem (List.mem_append_left _ (by
  show w ∈ k2_sels (lw_privs_1 ++ (lw_privs_2 ++ lw_privs_3))
  unfold k2_sels
  rw [List.map_append, List.map_append]
  exact List.mem_append_right _ (List.mem_append_left _ (List.mem_of_getElem? h)))) hg
theorem GW_p3 {w : Cond} (i : Nat) (h : (k2_sels lw_privs_3)[i]? = some w) (hg : goodWord w = true) : w ∈ GW := GW_mem (List.mem_append_left _ (by
  show w ∈ k2_sels (lw_privs_1 ++ (lw_privs_2 ++ lw_privs_3))
  unfold k2_sels
  rw [List.map_append, List.map_append]
  exact List.mem_append_right _ (List.mem_append_right _ (List.mem_of_getElem? h)))) hg
theorem GW_in {c : Cond} (hc : c ∈ GW) : GoodIn GW (c :: GW) := fun w hw => by
  rcases List.mem_cons.mp hw with h | h
  · rw [h]; exact ⟨hc, good_of_word (GW_good hc)⟩
  · exact ⟨h, good_of_word (GW_good h)⟩
/-- the nest mates' words hold -/
def NW (U : State) : Prop := ∀ w ∈ nestW, va_Nw w U
def isNest : Cond → Bool
  | .fieldLinkNest .. => true
  | .methodLinkNest .. => true
  | _ => false
theorem nestW_is : nestW.all isNest = true := by decide +kernel
theorem NW.warm {s U : State} (hW : s.WarmedH U.vm) (h : NW s) : NW U := fun w hw => by
  have h1 := List.all_eq_true.mp nestW_is w hw
  have h2 := h w hw
  cases w <;> first | exact va_Nw.warmF hW h2 | exact va_Nw.warmM hW h2 | (simp [isNest] at h1; done)
theorem NW.same {u U : State} (hv : u.vm = U.vm) (h : NW u) : NW U := fun w hw => by
  have h1 := List.all_eq_true.mp nestW_is w hw
  have h2 := h w hw
  cases w <;> first | exact va_Nw.same rfl hv h2 | (simp [isNest] at h1; done)
end
section
/-! THE CORE: a context X of a running method, the judgement JJ, one row an instruction, contracts Ct -/
abbrev CX : Type := Program × Launch × Env × Room × State × MethodId × Array Value × List Frame × Method × Code × Nat × Nat × (State → Prop) × (Nat → ClassId) × (Nat → Nat → Nat) × ClassId × (Nat → Nat) × (Nat → Prop) × Nat
def xp (X : CX) : Program := X.1
def xl (X : CX) : Launch := X.2.1
def xe (X : CX) : Env := X.2.2.1
def xR (X : CX) : Room := X.2.2.2.1
def xs (X : CX) : State := X.2.2.2.2.1
def xm (X : CX) : MethodId := X.2.2.2.2.2.1
def xargs (X : CX) : Array Value := X.2.2.2.2.2.2.1
def xbelow (X : CX) : List Frame := X.2.2.2.2.2.2.2.1
def xmeth (X : CX) : Method := X.2.2.2.2.2.2.2.2.1
def xc (X : CX) : Code := X.2.2.2.2.2.2.2.2.2.1
def xcells (X : CX) : Nat := X.2.2.2.2.2.2.2.2.2.2.1
def xslots (X : CX) : Nat := X.2.2.2.2.2.2.2.2.2.2.2.1
def xQ (X : CX) : State → Prop := X.2.2.2.2.2.2.2.2.2.2.2.2.1
def xdC (X : CX) : Nat → ClassId := X.2.2.2.2.2.2.2.2.2.2.2.2.2.1
def xdI (X : CX) : Nat → Nat → Nat := X.2.2.2.2.2.2.2.2.2.2.2.2.2.2.1
def xcA (X : CX) : ClassId := X.2.2.2.2.2.2.2.2.2.2.2.2.2.2.2.1
def xad (X : CX) : Nat → Nat := X.2.2.2.2.2.2.2.2.2.2.2.2.2.2.2.2.1
def xA (X : CX) : Nat → Prop := X.2.2.2.2.2.2.2.2.2.2.2.2.2.2.2.2.2.1
def xnL (X : CX) : Nat := X.2.2.2.2.2.2.2.2.2.2.2.2.2.2.2.2.2.2
/-- the machine goes on from pc, with these locals, this stack, this state of the world -/
def JJ (X : CX) (pc : Nat) (ls : List (Nat × Value)) (st : List Value) (σ : ST) : Prop :=
  ∀ (H : Heap) (locs : List Loc) (lsA : Array Slot), va_P (xdC X, xdI X) vwCl (wld (xcA X) (xad X) σ) H → va_S (xA X) (xs X).heap H locs → lv_has lsA (xnL X) ls →
    W (xp X) (xl X) (xe X) (xR X) (xs X) (xm X) (xargs X) (xbelow X) (xmeth X) (xc X) H locs (xcells X) (xslots X) (xQ X) (F0 (xm X) pc lsA st)
/-- the one text constant of the class -/
def SC (ad : Nat → Nat) (A : Nat → Prop) (U : State) (H : Heap) : Prop := vk_S 1 [5] [[46, 100, 115, 98, 119]] (fun _ => ad 43) (fun _ => ad 44) A U H ∧ vk_R "LanternTongue$Page" 58 ".dsbw" (ad 43) U ∧ va_Z "java/lang/String" "COMPACT_STRINGS" "Z" (.int 1) A U H
/-- what a running method knows -/
def Ok (X : CX) (own : String) (cc : ByteArray) (nL D : Nat) : Prop :=
  (xp X).tables.exec = Jvm.exec ∧ (xc X).code = cc ∧ (xc X).maxLocals = nL ∧ xnL X = nL ∧ (xs X).vm.findClass own = some (xm X).cls ∧ (∀ w ∈ GW, w.before (xargs X) (xs X) = true) ∧ NW (xs X) ∧
  va_K (xdC X, xdI X) vwCl [(xcA X, .int)] (xs X) ∧ (∀ σ, va_D (xA X) (wld (xcA X) (xad X) σ)) ∧ (∀ q, (xs X).heap.size ≤ q → xA X q) ∧ (xmeth X).locks = false ∧ SC (xad X) (xA X) (xs X) (xs X).heap ∧
  (xR X).frames = D ∧ (xR X).locals = 38 * D ∧ xcells X ≤ (xR X).cells ∧ xslots X ≤ (xR X).slots
def rmd (d : Nat) : Room := { frames := d, cells := 0, slots := 0, locals := 38 * d }
def Wd (dC : Nat → ClassId) (dI : Nat → Nat → Nat) (cA : ClassId) (ad : Nat → Nat) (sz : Nat) (σ : ST) (U : State) : Prop :=
  U.heap.size = sz ∧ va_P (dC, dI) vwCl (wld cA ad σ) U.heap ∧ va_K (dC, dI) vwCl [(cA, .int)] U ∧ va_D (fun _ => True) (wld cA ad σ) ∧ NW U ∧ SC ad (va_A (wld cA ad σ) sz) U U.heap
def Qd (dC : Nat → ClassId) (dI : Nat → Nat → Nat) (cA : ClassId) (ad : Nat → Nat) (A : Nat → Prop) (r : Option Value) (σ' : ST) : Array Value → State → Outcome → State → Prop :=
  fun _ st oc t => (oc = .returned r ∧ va_P (dC, dI) vwCl (wld cA ad σ') t.heap) ∧ va_F A st t
/-- the contract: with these arguments (the last first) and this state the method returns r and leaves σ' -/
def Ct (d : Nat) (y : MethodName) (bytes : ByteArray) (maxL : Nat) (ret : Option FieldType) (ra : (Nat → Nat) → List Value) (σ : ST) (r : Option Value) (σ' : ST) : Prop :=
  ∀ (l : Launch) (dC : Nat → ClassId) (dI : Nat → Nat → Nat) (cA : ClassId) (ad : Nat → Nat) (sz : Nat),
    Met l y (.code y bytes maxL ret :: GW) (rmd d) (va_Pc (ra ad).reverse (Wd dC dI cA ad sz σ)) (Qd dC dI cA ad (va_A (wld cA ad σ) sz) r σ') 0 0 (va_A (wld cA ad σ) sz)
/-- what the method's end asks for -/
def OkM (X : CX) (ret : Option FieldType) (r : Option Value) (σ' : ST) : Prop :=
  (xmeth X).sig.returnType = ret ∧ xcells X = 0 ∧ xslots X = 0 ∧ xQ X = MQ (xbelow X) (Qd (xdC X) (xdI X) (xcA X) (xad X) (xA X) r σ') (xargs X) (xs X) 0 0 (xA X)
theorem wld_ad (cA : ClassId) (ad : Nat → Nat) (σ σ' : ST) : (wld cA ad σ).map Prod.fst = (wld cA ad σ').map Prod.fst := rfl
theorem va_D_addr {A : Nat → Prop} {w w' : va_W} (h : w.map Prod.fst = w'.map Prod.fst) (hD : va_D A w) : va_D A w' := by
  have key : ∀ (k : Nat) (q : Nat × va_E), w'[k]? = some q → ∃ q2, w[k]? = some q2 ∧ q2.1 = q.1 := by
    intro k q hq
    have h1 : (w'.map Prod.fst)[k]? = some q.1 := by rw [List.getElem?_map, hq]; rfl
    rw [← h, List.getElem?_map] at h1
    cases hw : w[k]? with
    | none => rw [hw] at h1; cases h1
    | some q2 => rw [hw] at h1; exact ⟨q2, rfl, Option.some.inj h1⟩
  refine ⟨fun i j p q hp hq e => ?_, fun k q hq => ?_⟩
  · obtain ⟨p2, a1, a2⟩ := key i p hp
    obtain ⟨q2, b1, b2⟩ := key j q hq
    exact hD.1 i j p2 q2 a1 b1 (by rw [a2, b2]; exact e)
  · obtain ⟨q2, b1, b2⟩ := key k q hq
    rw [← b2]; exact hD.2 k q2 b1
theorem va_A_addr {w w' : va_W} (h : w.map Prod.fst = w'.map Prod.fst) {sz q : Nat} (ha : va_A w sz q) : va_A w' sz q := by
  rcases ha with ⟨k, e, hk⟩ | ha
  · have h1 : (w.map Prod.fst)[k]? = some q := by rw [List.getElem?_map, hk]; rfl
    rw [h, List.getElem?_map] at h1
    cases hw : w'[k]? with
    | none => rw [hw] at h1; cases h1
    | some q2 =>
      rw [hw] at h1
      have e1 : q2.1 = q := Option.some.inj h1
      exact Or.inl ⟨k, q2.2, by rw [hw, ← e1]⟩
  · exact Or.inr ha
theorem SC.warm {ad : Nat → Nat} {A : Nat → Prop} {s U : State} {H : Heap} (hW : s.WarmedH U.vm) (h : SC ad A s H) : SC ad A U H := ⟨vk_S.moved hW.alike h.1, vk_R.warm hW h.2.1, va_Z.moved hW.alike h.2.2⟩
theorem SC.kept {ad : Nat → Nat} {A : Nat → Prop} {U : State} {H H1 : Heap} (h : SC ad A U H) (hq : ∀ a : Nat, a < H.size → ¬ A a → H1[a]? = H[a]?) : SC ad A U H1 := ⟨vk_S.kept h.1 hq, h.2.1, h.2.2.kept hq⟩
theorem SC.narrow {ad : Nat → Nat} {A B : Nat → Prop} {U : State} {H : Heap} (h : SC ad A U H) (hAB : ∀ q, B q → A q) : SC ad B U H := ⟨vk_S.narrow h.1 hAB, h.2.1, h.2.2.narrow hAB⟩
theorem Wd.blind {av : List Value} {dC : Nat → ClassId} {dI : Nat → Nat → Nat} {cA : ClassId} {ad : Nat → Nat} {sz : Nat} {σ : ST} : FrameBlind (va_Pc av (Wd dC dI cA ad sz σ)) := by
  intro a U g m h
  obtain ⟨h0, h1, h2, h3, h4, h5, h6, h7, h8⟩ := h
  exact ⟨h0, h1, h2, va_K.moved (u := U) (U := U.calling g m a) (Vm.Alike.refl U.vm) h3, h4, NW.same (u := U) rfl h5, vk_S.moved (u := U) (Vm.Alike.refl U.vm) h6, vk_R.same (u := U) rfl h7, va_Z.moved (u := U) (Vm.Alike.refl U.vm) h8⟩
/-- a contract out of a walk -/
theorem Ct.of {d : Nat} {y : MethodName} {bytes : ByteArray} {maxL : Nat} {ret : Option FieldType} {ra : (Nat → Nat) → List Value} {σ : ST} {r : Option Value} {σ' : ST} {ls : (Nat → Nat) → List (Nat × Value)}
    (hy : plainName y.cls = true) (hlen : ∀ ad, (lg_sl (ra ad).reverse).length ≤ maxL) (hls : ∀ ad, lv_args 0 (ra ad).reverse = ls ad)
    (body : ∀ X, Ok X y.cls bytes maxL d → OkM X ret r σ' → JJ X 0 (ls (xad X)) [] σ) : Ct d y bytes maxL ret ra σ r σ' := by
  intro l dC dI cA ad sz
  refine Met.ofW (cc := bytes) (maxL := maxL) (ret := ret) hy rfl ?_
  intro p e s m args below meth c s₁ B hml hv
  obtain ⟨rfl, hsz, hP, hK, hD0, hN, hC⟩ := hv
  subst hsz
  have hts0 := atoms_spec (ws := .code y bytes maxL ret :: GW) B.pre
  have hl := lv_entry (ra ad).reverse (n := maxL) (hlen ad)
  rw [hls] at hl
  rw [lg_entry_eq]
  have b := body (p, l, e, rmd d, s, m, (ra ad).reverse.toArray, below, meth, c, 0, 0, MQ below (Qd dC dI cA ad (va_A (wld cA ad σ) s.heap.size) r σ') (ra ad).reverse.toArray s 0 0 (va_A (wld cA ad σ) s.heap.size), dC, dI, cA, ad, va_A (wld cA ad σ) s.heap.size, maxL)
    ⟨B.exec, B.bytes, hml, rfl, findClass_of_methodNamed B.named, fun w hw => hts0 w (List.mem_cons_of_mem _ hw), hN, hK, fun σ2 => va_D_addr (wld_ad cA ad σ σ2) hD0.self, fun q hq => Or.inr hq, B.notSynchronized, hC, rfl, rfl, Nat.le_refl 0, Nat.le_refl 0⟩
    ⟨B.returns, rfl, rfl, rfl⟩
  exact b s.heap [] _ hP va_S.rf hl
section ROWS
variable {X : CX} {own : String} {cc : ByteArray} {nL D pc : Nat} {ls ls' : List (Nat × Value)} {st : List Value} {σ σ' : ST}
theorem JJ.sub (ks : List Nat) (hk : lv_pick ls ks = ls') (k : JJ X pc ls' st σ) : JJ X pc ls st σ := fun H locs lsA hP hS hl => k H locs lsA hP hS (lv_sub hl ks hk)
theorem JJ.iconst (hX : Ok X own cc nL D) {n : Int} {v : Int32} (hd : decode cc pc = .ok (.iconst n, 1)) (hv : Int32.ofInt n = v) (k : JJ X (pc + 1) ls (.int v :: st) σ) : JJ X pc ls st σ := fun H locs lsA hP hS hl => lv_iconst hX.1 hX.2.1 hd hv (k H locs lsA hP hS hl)
theorem JJ.bipush (hX : Ok X own cc nL D) {n : Int} {v : Int32} (hd : decode cc pc = .ok (.bipush n, 2)) (hv : (Int8.ofInt n).toInt32 = v) (k : JJ X (pc + 2) ls (.int v :: st) σ) : JJ X pc ls st σ := fun H locs lsA hP hS hl => lv_bipush hX.1 hX.2.1 hd hv (k H locs lsA hP hS hl)
theorem JJ.sipush (hX : Ok X own cc nL D) {n : Int} {v : Int32} (hd : decode cc pc = .ok (.sipush n, 3)) (hv : (Int16.ofInt n).toInt32 = v) (k : JJ X (pc + 3) ls (.int v :: st) σ) : JJ X pc ls st σ := fun H locs lsA hP hS hl => lv_sipush hX.1 hX.2.1 hd hv (k H locs lsA hP hS hl)
theorem JJ.lconst (hX : Ok X own cc nL D) {n : Fin 2} {v : Int64} (hd : decode cc pc = .ok (.lconst n, 1)) (hv : Int64.ofNat (n : Nat) = v) (k : JJ X (pc + 1) ls (.long v :: st) σ) : JJ X pc ls st σ := fun H locs lsA hP hS hl => lv_lconst hX.1 hX.2.1 hd hv (k H locs lsA hP hS hl)
theorem JJ.ldc (hX : Ok X own cc nL D) {index : Nat} {v : Int32} (hc : Cond.constant own index v ∈ GW) (hd : decode cc pc = .ok (.ldc index, 2)) (k : JJ X (pc + 2) ls (.int v :: st) σ) : JJ X pc ls st σ := fun H locs lsA hP hS hl => lv_ldc hX.1 hX.2.1 hX.2.2.2.2.1 (hX.2.2.2.2.2.1 _ hc) hd (k H locs lsA hP hS hl)
theorem JJ.ldcw (hX : Ok X own cc nL D) {index : Nat} {v : Int32} (hc : Cond.constant own index v ∈ GW) (hd : decode cc pc = .ok (.ldc_w index, 3)) (k : JJ X (pc + 3) ls (.int v :: st) σ) : JJ X pc ls st σ := fun H locs lsA hP hS hl => lv_ldcw hX.1 hX.2.1 hX.2.2.2.2.1 (hX.2.2.2.2.2.1 _ hc) hd (k H locs lsA hP hS hl)
theorem JJ.ldc2 (hX : Ok X own cc nL D) {index : Nat} {v : Int64} (hc : Cond.constantLong own index v ∈ GW) (hd : decode cc pc = .ok (.ldc2_w index, 3)) (k : JJ X (pc + 3) ls (.long v :: st) σ) : JJ X pc ls st σ := fun H locs lsA hP hS hl => lv_ldc2 hX.1 hX.2.1 hX.2.2.2.2.1 (hX.2.2.2.2.2.1 _ hc) hd (k H locs lsA hP hS hl)
theorem JJ.iload_n (hX : Ok X own cc nL D) {n : Fin 4} {x : Int32} (j : Nat) (hd : decode cc pc = .ok (.iload_n n, 1)) (hj : ls[j]? = some ((n : Nat), .int x)) (k : JJ X (pc + 1) ls (.int x :: st) σ) : JJ X pc ls st σ := fun H locs lsA hP hS hl => lv_iload_n hX.1 hX.2.1 hd rfl (lv_at hl j hj) (k H locs lsA hP hS hl)
theorem JJ.iload (hX : Ok X own cc nL D) {i : Nat} {x : Int32} (j : Nat) (hd : decode cc pc = .ok (.iload i, 2)) (hj : ls[j]? = some (i, .int x)) (k : JJ X (pc + 2) ls (.int x :: st) σ) : JJ X pc ls st σ := fun H locs lsA hP hS hl => lv_iload hX.1 hX.2.1 hd (lv_at hl j hj) (k H locs lsA hP hS hl)
theorem JJ.lload_n (hX : Ok X own cc nL D) {n : Fin 4} {x : Int64} (j : Nat) (hd : decode cc pc = .ok (.lload_n n, 1)) (hj : ls[j]? = some ((n : Nat), .long x)) (k : JJ X (pc + 1) ls (.long x :: st) σ) : JJ X pc ls st σ := fun H locs lsA hP hS hl => lv_lload_n hX.1 hX.2.1 hd rfl (lv_at hl j hj) (k H locs lsA hP hS hl)
theorem JJ.lload (hX : Ok X own cc nL D) {i : Nat} {x : Int64} (j : Nat) (hd : decode cc pc = .ok (.lload i, 2)) (hj : ls[j]? = some (i, .long x)) (k : JJ X (pc + 2) ls (.long x :: st) σ) : JJ X pc ls st σ := fun H locs lsA hP hS hl => lv_lload hX.1 hX.2.1 hd (lv_at hl j hj) (k H locs lsA hP hS hl)
theorem JJ.aload_n (hX : Ok X own cc nL D) {n : Fin 4} {x : Nat} (j : Nat) (hd : decode cc pc = .ok (.aload_n n, 1)) (hj : ls[j]? = some ((n : Nat), .ref x)) (k : JJ X (pc + 1) ls (.ref x :: st) σ) : JJ X pc ls st σ := fun H locs lsA hP hS hl => lv_aload_n hX.1 hX.2.1 hd rfl (lv_at hl j hj) (k H locs lsA hP hS hl)
theorem JJ.aload (hX : Ok X own cc nL D) {i : Nat} {x : Nat} (j : Nat) (hd : decode cc pc = .ok (.aload i, 2)) (hj : ls[j]? = some (i, .ref x)) (k : JJ X (pc + 2) ls (.ref x :: st) σ) : JJ X pc ls st σ := fun H locs lsA hP hS hl => lv_aload hX.1 hX.2.1 hd (lv_at hl j hj) (k H locs lsA hP hS hl)
/-- the locals, ordered by place, behind a store at i -/
def stL (i : Nat) (v : Value) (ls : List (Nat × Value)) : List (Nat × Value) := ls.filter (fun q => Nat.blt q.1 i) ++ (i, v) :: ls.filter (fun q => Nat.blt i q.1)
theorem stL_has {lsA : Array Slot} {nL i : Nat} {v : Value} {ls : List (Nat × Value)} (hc : ls.all (fun q => !(q.1 + 1 == i && q.2.category == 2)) = true) (h : lv_has lsA nL ((i, v) :: ls.filter (fun q => !(q.1 == i) && !(q.1 + 1 == i && q.2.category == 2)))) : lv_has lsA nL (stL i v ls) := by
  refine ⟨h.1, h.2.1, fun q hq => h.2.2 q ?_⟩
  unfold stL at hq
  rcases List.mem_append.mp hq with hq | hq
  · obtain ⟨h1, h2⟩ := List.mem_filter.mp hq
    have h3 := List.all_eq_true.mp hc q h1
    have h4 : q.1 < i := by simpa using h2
    refine List.mem_cons_of_mem _ (List.mem_filter.mpr ⟨h1, ?_⟩)
    rw [h3, Bool.and_true]
    have : q.1 ≠ i := by omega
    simpa using this
  · rcases List.mem_cons.mp hq with hq | hq
    · rw [hq]; exact List.mem_cons_self
    · obtain ⟨h1, h2⟩ := List.mem_filter.mp hq
      have h3 := List.all_eq_true.mp hc q h1
      have h4 : i < q.1 := by simpa using h2
      refine List.mem_cons_of_mem _ (List.mem_filter.mpr ⟨h1, ?_⟩)
      rw [h3, Bool.and_true]
      have : q.1 ≠ i := by omega
      simpa using this
theorem stL_has2 {lsA : Array Slot} {nL i : Nat} {v : Value} {ls : List (Nat × Value)} (hc : ls.all (fun q => !(q.1 == i + 1) && !(q.1 + 1 == i && q.2.category == 2)) = true) (h : lv_has lsA nL ((i, v) :: ls.filter (fun q => !(q.1 == i) && (!(q.1 == i + 1) && !(q.1 + 1 == i && q.2.category == 2))))) : lv_has lsA nL (stL i v ls) := by
  refine ⟨h.1, h.2.1, fun q hq => h.2.2 q ?_⟩
  unfold stL at hq
  rcases List.mem_append.mp hq with hq | hq
  · obtain ⟨h1, h2⟩ := List.mem_filter.mp hq
    have h3 := List.all_eq_true.mp hc q h1
    have h4 : q.1 < i := by simpa using h2
    refine List.mem_cons_of_mem _ (List.mem_filter.mpr ⟨h1, ?_⟩)
    rw [h3, Bool.and_true]
    have : q.1 ≠ i := by omega
    simpa using this
  · rcases List.mem_cons.mp hq with hq | hq
    · rw [hq]; exact List.mem_cons_self
    · obtain ⟨h1, h2⟩ := List.mem_filter.mp hq
      have h3 := List.all_eq_true.mp hc q h1
      have h4 : i < q.1 := by simpa using h2
      refine List.mem_cons_of_mem _ (List.mem_filter.mpr ⟨h1, ?_⟩)
      rw [h3, Bool.and_true]
      have : q.1 ≠ i := by omega
      simpa using this
theorem JJ.istore_n (hX : Ok X own cc nL D) {n : Fin 4} {x : Int32} (hd : decode cc pc = .ok (.istore_n n, 1)) (hn : (n : Nat) < nL) (hc : ls.all (fun q => !(q.1 + 1 == (n : Nat) && q.2.category == 2)) = true) (hs : stL (n : Nat) (.int x) ls = ls') (k : JJ X (pc + 1) ls' st σ) : JJ X pc ls (.int x :: st) σ := fun H locs lsA hP hS hl => lv_istore_n hX.1 hX.2.1 hd rfl hl (by rw [hX.2.2.2.1]; exact hn) rfl (fun ls2 h2 => k H locs ls2 hP hS (hs ▸ stL_has hc h2))
theorem JJ.istore (hX : Ok X own cc nL D) {i : Nat} {x : Int32} (hd : decode cc pc = .ok (.istore i, 2)) (hn : i < nL) (hc : ls.all (fun q => !(q.1 + 1 == i && q.2.category == 2)) = true) (hs : stL i (.int x) ls = ls') (k : JJ X (pc + 2) ls' st σ) : JJ X pc ls (.int x :: st) σ := fun H locs lsA hP hS hl => lv_istore hX.1 hX.2.1 hd hl (by rw [hX.2.2.2.1]; exact hn) rfl (fun ls2 h2 => k H locs ls2 hP hS (hs ▸ stL_has hc h2))
theorem JJ.lstore_n (hX : Ok X own cc nL D) {n : Fin 4} {x : Int64} (hd : decode cc pc = .ok (.lstore_n n, 1)) (hn : (n : Nat) + 1 < nL) (hc : ls.all (fun q => !(q.1 == (n : Nat) + 1) && !(q.1 + 1 == (n : Nat) && q.2.category == 2)) = true) (hs : stL (n : Nat) (.long x) ls = ls') (k : JJ X (pc + 1) ls' st σ) : JJ X pc ls (.long x :: st) σ := fun H locs lsA hP hS hl => lv_lstore_n hX.1 hX.2.1 hd rfl hl (by rw [hX.2.2.2.1]; exact hn) rfl (fun ls2 h2 => k H locs ls2 hP hS (hs ▸ stL_has2 hc h2))
theorem JJ.lstore (hX : Ok X own cc nL D) {i : Nat} {x : Int64} (hd : decode cc pc = .ok (.lstore i, 2)) (hn : i + 1 < nL) (hc : ls.all (fun q => !(q.1 == i + 1) && !(q.1 + 1 == i && q.2.category == 2)) = true) (hs : stL i (.long x) ls = ls') (k : JJ X (pc + 2) ls' st σ) : JJ X pc ls (.long x :: st) σ := fun H locs lsA hP hS hl => lv_lstore hX.1 hX.2.1 hd hl (by rw [hX.2.2.2.1]; exact hn) rfl (fun ls2 h2 => k H locs ls2 hP hS (hs ▸ stL_has2 hc h2))
theorem JJ.iinc (hX : Ok X own cc nL D) {i : Nat} {n : Int} {x v : Int32} (j : Nat) (hd : decode cc pc = .ok (.iinc i n, 3)) (hj : ls[j]? = some (i, .int x)) (hv : Int32.ofInt n = v) (hn : i < nL) (hc : ls.all (fun q => !(q.1 + 1 == i && q.2.category == 2)) = true) (hs : stL i (.int (x + v)) ls = ls') (k : JJ X (pc + 3) ls' st σ) : JJ X pc ls st σ := fun H locs lsA hP hS hl => lv_iinc hX.1 hX.2.1 hd hl hj (by rw [hv]) (by rw [hX.2.2.2.1]; exact hn) rfl (fun ls2 h2 => k H locs ls2 hP hS (hs ▸ stL_has hc h2))
theorem JJ.iadd (hX : Ok X own cc nL D) {x y : Int32} (hd : decode cc pc = .ok (.iadd, 1)) (k : JJ X (pc + 1) ls (.int (x + y) :: st) σ) : JJ X pc ls (.int y :: .int x :: st) σ := fun H locs lsA hP hS hl => lv_iadd hX.1 hX.2.1 hd (k H locs lsA hP hS hl)
theorem JJ.isub (hX : Ok X own cc nL D) {x y : Int32} (hd : decode cc pc = .ok (.isub, 1)) (k : JJ X (pc + 1) ls (.int (x - y) :: st) σ) : JJ X pc ls (.int y :: .int x :: st) σ := fun H locs lsA hP hS hl => lv_isub hX.1 hX.2.1 hd (k H locs lsA hP hS hl)
theorem JJ.imul (hX : Ok X own cc nL D) {x y : Int32} (hd : decode cc pc = .ok (.imul, 1)) (k : JJ X (pc + 1) ls (.int (x * y) :: st) σ) : JJ X pc ls (.int y :: .int x :: st) σ := fun H locs lsA hP hS hl => lv_imul hX.1 hX.2.1 hd (k H locs lsA hP hS hl)
theorem JJ.idiv (hX : Ok X own cc nL D) {x y : Int32} (hd : decode cc pc = .ok (.idiv, 1)) (hne : ¬ y = 0) (k : JJ X (pc + 1) ls (.int (x / y) :: st) σ) : JJ X pc ls (.int y :: .int x :: st) σ := fun H locs lsA hP hS hl => lv_idiv hX.1 hX.2.1 hd hne (k H locs lsA hP hS hl)
theorem JJ.irem (hX : Ok X own cc nL D) {x y : Int32} (hd : decode cc pc = .ok (.irem, 1)) (hne : ¬ y = 0) (k : JJ X (pc + 1) ls (.int (x - x / y * y) :: st) σ) : JJ X pc ls (.int y :: .int x :: st) σ := fun H locs lsA hP hS hl => lv_irem hX.1 hX.2.1 hd hne (k H locs lsA hP hS hl)
theorem JJ.ishl (hX : Ok X own cc nL D) {x y : Int32} (hd : decode cc pc = .ok (.ishl, 1)) (k : JJ X (pc + 1) ls (.int (x <<< (y &&& 31)) :: st) σ) : JJ X pc ls (.int y :: .int x :: st) σ := fun H locs lsA hP hS hl => lv_ishl hX.1 hX.2.1 hd (k H locs lsA hP hS hl)
theorem JJ.ishr (hX : Ok X own cc nL D) {x y : Int32} (hd : decode cc pc = .ok (.ishr, 1)) (k : JJ X (pc + 1) ls (.int (x >>> (y &&& 31)) :: st) σ) : JJ X pc ls (.int y :: .int x :: st) σ := fun H locs lsA hP hS hl => lv_ishr hX.1 hX.2.1 hd (k H locs lsA hP hS hl)
theorem JJ.iushr (hX : Ok X own cc nL D) {x y : Int32} (hd : decode cc pc = .ok (.iushr, 1)) (k : JJ X (pc + 1) ls (.int ((x.toUInt32 >>> (y.toUInt32 &&& Int32.toUInt32 31)).toInt32) :: st) σ) : JJ X pc ls (.int y :: .int x :: st) σ := fun H locs lsA hP hS hl => lv_iushr hX.1 hX.2.1 hd rfl (k H locs lsA hP hS hl)
theorem JJ.ior (hX : Ok X own cc nL D) {x y : Int32} (hd : decode cc pc = .ok (.ior, 1)) (k : JJ X (pc + 1) ls (.int (x ||| y) :: st) σ) : JJ X pc ls (.int y :: .int x :: st) σ := fun H locs lsA hP hS hl => lv_ior hX.1 hX.2.1 hd (k H locs lsA hP hS hl)
theorem JJ.iand (hX : Ok X own cc nL D) {x y : Int32} (hd : decode cc pc = .ok (.iand, 1)) (k : JJ X (pc + 1) ls (.int (x &&& y) :: st) σ) : JJ X pc ls (.int y :: .int x :: st) σ := fun H locs lsA hP hS hl => lv_iand hX.1 hX.2.1 hd (k H locs lsA hP hS hl)
theorem JJ.i2l (hX : Ok X own cc nL D) {x : Int32} (hd : decode cc pc = .ok (.i2l, 1)) (k : JJ X (pc + 1) ls (.long x.toInt64 :: st) σ) : JJ X pc ls (.int x :: st) σ := fun H locs lsA hP hS hl => lv_i2l hX.1 hX.2.1 hd rfl (k H locs lsA hP hS hl)
theorem JJ.l2i (hX : Ok X own cc nL D) {x : Int64} (hd : decode cc pc = .ok (.l2i, 1)) (k : JJ X (pc + 1) ls (.int x.toInt32 :: st) σ) : JJ X pc ls (.long x :: st) σ := fun H locs lsA hP hS hl => lv_l2i hX.1 hX.2.1 hd rfl (k H locs lsA hP hS hl)
theorem JJ.i2c (hX : Ok X own cc nL D) {x : Int32} (hd : decode cc pc = .ok (.i2c, 1)) (k : JJ X (pc + 1) ls (.int (x.toUInt32 % 65536).toInt32 :: st) σ) : JJ X pc ls (.int x :: st) σ := fun H locs lsA hP hS hl => lv_i2c hX.1 hX.2.1 hd rfl (k H locs lsA hP hS hl)
theorem JJ.ladd (hX : Ok X own cc nL D) {x y : Int64} (hd : decode cc pc = .ok (.ladd, 1)) (k : JJ X (pc + 1) ls (.long (x + y) :: st) σ) : JJ X pc ls (.long y :: .long x :: st) σ := fun H locs lsA hP hS hl => lv_ladd hX.1 hX.2.1 hd (k H locs lsA hP hS hl)
theorem JJ.lmul (hX : Ok X own cc nL D) {x y : Int64} (hd : decode cc pc = .ok (.lmul, 1)) (k : JJ X (pc + 1) ls (.long (x * y) :: st) σ) : JJ X pc ls (.long y :: .long x :: st) σ := fun H locs lsA hP hS hl => lv_lmul hX.1 hX.2.1 hd (k H locs lsA hP hS hl)
theorem JJ.lrem (hX : Ok X own cc nL D) {x y : Int64} (hd : decode cc pc = .ok (.lrem, 1)) (hne : ¬ y = 0) (k : JJ X (pc + 1) ls (.long (x - x / y * y) :: st) σ) : JJ X pc ls (.long y :: .long x :: st) σ := fun H locs lsA hP hS hl => lv_lrem hX.1 hX.2.1 hd hne (k H locs lsA hP hS hl)
theorem JJ.land (hX : Ok X own cc nL D) {x y : Int64} (hd : decode cc pc = .ok (.land, 1)) (k : JJ X (pc + 1) ls (.long (x &&& y) :: st) σ) : JJ X pc ls (.long y :: .long x :: st) σ := fun H locs lsA hP hS hl => lv_land hX.1 hX.2.1 hd (k H locs lsA hP hS hl)
theorem JJ.lcmp (hX : Ok X own cc nL D) {x y : Int64} (hd : decode cc pc = .ok (.lcmp, 1)) (k : JJ X (pc + 1) ls (.int (lg_cmp x y) :: st) σ) : JJ X pc ls (.long y :: .long x :: st) σ := fun H locs lsA hP hS hl => W.lcmp hX.1 hX.2.1 hd (k H locs lsA hP hS hl)
theorem JJ.dup (hX : Ok X own cc nL D) {v : Value} (hd : decode cc pc = .ok (.dup, 1)) (hv : v.category = 1) (k : JJ X (pc + 1) ls (v :: v :: st) σ) : JJ X pc ls (v :: st) σ := fun H locs lsA hP hS hl => lv_dup hX.1 hX.2.1 hd hv (k H locs lsA hP hS hl)
theorem JJ.dup2 (hX : Ok X own cc nL D) {v w : Value} (hd : decode cc pc = .ok (.dup2, 1)) (hv : v.category = 1) (hw : w.category = 1) (k : JJ X (pc + 1) ls (v :: w :: v :: w :: st) σ) : JJ X pc ls (v :: w :: st) σ := fun H locs lsA hP hS hl => lv_dup2_11 hX.1 hX.2.1 hd hv hw (k H locs lsA hP hS hl)
theorem JJ.pop (hX : Ok X own cc nL D) {v : Value} (hd : decode cc pc = .ok (.pop, 1)) (hv : v.category = 1) (k : JJ X (pc + 1) ls st σ) : JJ X pc ls (v :: st) σ := fun H locs lsA hP hS hl => lv_pop hX.1 hX.2.1 hd hv (k H locs lsA hP hS hl)
theorem JJ.goto (hX : Ok X own cc nL D) {off : Int} {tgt : Nat} (hd : decode cc pc = .ok (.goto off, 3)) (ht : (pc : Int) + off = (tgt : Int)) (k : JJ X tgt ls st σ) : JJ X pc ls st σ := fun H locs lsA hP hS hl => lv_goto hX.1 hX.2.1 hd ht (k H locs lsA hP hS hl)
theorem JJ.icmp_eq (hX : Ok X own cc nL D) {x y : Int32} {off : Int} {tgt : Nat} (hd : decode cc pc = .ok (.if_icmp .eq off, 3)) (ht : (pc : Int) + off = (tgt : Int)) (kt : x = y → JJ X tgt ls st σ) (kf : ¬ x = y → JJ X (pc + 3) ls st σ) : JJ X pc ls (.int y :: .int x :: st) σ := fun H locs lsA hP hS hl => lv_icmp_eq hX.1 hX.2.1 hd ht (fun h => kt h H locs lsA hP hS hl) (fun h => kf h H locs lsA hP hS hl)
theorem JJ.icmp_ne (hX : Ok X own cc nL D) {x y : Int32} {off : Int} {tgt : Nat} (hd : decode cc pc = .ok (.if_icmp .ne off, 3)) (ht : (pc : Int) + off = (tgt : Int)) (kt : ¬ x = y → JJ X tgt ls st σ) (kf : x = y → JJ X (pc + 3) ls st σ) : JJ X pc ls (.int y :: .int x :: st) σ := fun H locs lsA hP hS hl => lv_icmp_ne hX.1 hX.2.1 hd ht (fun h => kt h H locs lsA hP hS hl) (fun h => kf h H locs lsA hP hS hl)
theorem JJ.icmp_lt (hX : Ok X own cc nL D) {x y : Int32} {off : Int} {tgt : Nat} (hd : decode cc pc = .ok (.if_icmp .lt off, 3)) (ht : (pc : Int) + off = (tgt : Int)) (kt : x < y → JJ X tgt ls st σ) (kf : ¬ x < y → JJ X (pc + 3) ls st σ) : JJ X pc ls (.int y :: .int x :: st) σ := fun H locs lsA hP hS hl => lv_icmp_lt hX.1 hX.2.1 hd ht (fun h => kt h H locs lsA hP hS hl) (fun h => kf h H locs lsA hP hS hl)
theorem JJ.icmp_ge (hX : Ok X own cc nL D) {x y : Int32} {off : Int} {tgt : Nat} (hd : decode cc pc = .ok (.if_icmp .ge off, 3)) (ht : (pc : Int) + off = (tgt : Int)) (kt : y ≤ x → JJ X tgt ls st σ) (kf : ¬ y ≤ x → JJ X (pc + 3) ls st σ) : JJ X pc ls (.int y :: .int x :: st) σ := fun H locs lsA hP hS hl => lv_icmp_ge hX.1 hX.2.1 hd ht (fun h => kt h H locs lsA hP hS hl) (fun h => kf h H locs lsA hP hS hl)
theorem JJ.icmp_gt (hX : Ok X own cc nL D) {x y : Int32} {off : Int} {tgt : Nat} (hd : decode cc pc = .ok (.if_icmp .gt off, 3)) (ht : (pc : Int) + off = (tgt : Int)) (kt : y < x → JJ X tgt ls st σ) (kf : ¬ y < x → JJ X (pc + 3) ls st σ) : JJ X pc ls (.int y :: .int x :: st) σ := fun H locs lsA hP hS hl => lv_icmp_gt hX.1 hX.2.1 hd ht (fun h => kt h H locs lsA hP hS hl) (fun h => kf h H locs lsA hP hS hl)
theorem JJ.icmp_le (hX : Ok X own cc nL D) {x y : Int32} {off : Int} {tgt : Nat} (hd : decode cc pc = .ok (.if_icmp .le off, 3)) (ht : (pc : Int) + off = (tgt : Int)) (kt : x ≤ y → JJ X tgt ls st σ) (kf : ¬ x ≤ y → JJ X (pc + 3) ls st σ) : JJ X pc ls (.int y :: .int x :: st) σ := fun H locs lsA hP hS hl => lv_icmp_le hX.1 hX.2.1 hd ht (fun h => kt h H locs lsA hP hS hl) (fun h => kf h H locs lsA hP hS hl)
theorem JJ.if_eq (hX : Ok X own cc nL D) {x : Int32} {off : Int} {tgt : Nat} (hd : decode cc pc = .ok (.ifCond .eq off, 3)) (ht : (pc : Int) + off = (tgt : Int)) (kt : x = 0 → JJ X tgt ls st σ) (kf : ¬ x = 0 → JJ X (pc + 3) ls st σ) : JJ X pc ls (.int x :: st) σ := fun H locs lsA hP hS hl => lv_if_eq hX.1 hX.2.1 hd ht (fun h => kt h H locs lsA hP hS hl) (fun h => kf h H locs lsA hP hS hl)
theorem JJ.if_ne (hX : Ok X own cc nL D) {x : Int32} {off : Int} {tgt : Nat} (hd : decode cc pc = .ok (.ifCond .ne off, 3)) (ht : (pc : Int) + off = (tgt : Int)) (kt : ¬ x = 0 → JJ X tgt ls st σ) (kf : x = 0 → JJ X (pc + 3) ls st σ) : JJ X pc ls (.int x :: st) σ := fun H locs lsA hP hS hl => lv_if_ne hX.1 hX.2.1 hd ht (fun h => kt h H locs lsA hP hS hl) (fun h => kf h H locs lsA hP hS hl)
theorem JJ.if_lt (hX : Ok X own cc nL D) {x : Int32} {off : Int} {tgt : Nat} (hd : decode cc pc = .ok (.ifCond .lt off, 3)) (ht : (pc : Int) + off = (tgt : Int)) (kt : x < 0 → JJ X tgt ls st σ) (kf : ¬ x < 0 → JJ X (pc + 3) ls st σ) : JJ X pc ls (.int x :: st) σ := fun H locs lsA hP hS hl => lv_if_lt hX.1 hX.2.1 hd ht (fun h => kt h H locs lsA hP hS hl) (fun h => kf h H locs lsA hP hS hl)
theorem JJ.if_ge (hX : Ok X own cc nL D) {x : Int32} {off : Int} {tgt : Nat} (hd : decode cc pc = .ok (.ifCond .ge off, 3)) (ht : (pc : Int) + off = (tgt : Int)) (kt : 0 ≤ x → JJ X tgt ls st σ) (kf : ¬ 0 ≤ x → JJ X (pc + 3) ls st σ) : JJ X pc ls (.int x :: st) σ := fun H locs lsA hP hS hl => lv_if_ge hX.1 hX.2.1 hd ht (fun h => kt h H locs lsA hP hS hl) (fun h => kf h H locs lsA hP hS hl)
theorem JJ.if_gt (hX : Ok X own cc nL D) {x : Int32} {off : Int} {tgt : Nat} (hd : decode cc pc = .ok (.ifCond .gt off, 3)) (ht : (pc : Int) + off = (tgt : Int)) (kt : 0 < x → JJ X tgt ls st σ) (kf : ¬ 0 < x → JJ X (pc + 3) ls st σ) : JJ X pc ls (.int x :: st) σ := fun H locs lsA hP hS hl => lv_if_gt hX.1 hX.2.1 hd ht (fun h => kt h H locs lsA hP hS hl) (fun h => kf h H locs lsA hP hS hl)
theorem JJ.if_le (hX : Ok X own cc nL D) {x : Int32} {off : Int} {tgt : Nat} (hd : decode cc pc = .ok (.ifCond .le off, 3)) (ht : (pc : Int) + off = (tgt : Int)) (kt : x ≤ 0 → JJ X tgt ls st σ) (kf : ¬ x ≤ 0 → JJ X (pc + 3) ls st σ) : JJ X pc ls (.int x :: st) σ := fun H locs lsA hP hS hl => lv_if_le hX.1 hX.2.1 hd ht (fun h => kt h H locs lsA hP hS hl) (fun h => kf h H locs lsA hP hS hl)
theorem JJ.tableIn (hX : Ok X own cc nL D) {dflt lo hi : Int} {offs : Array Int} {len : Nat} {x v : Int32} {off : Int} {tgt : Nat} (hx : x = v) (hd : decode cc pc = .ok (.tableswitch dflt lo hi offs, len)) (h1 : ¬ v.toInt < lo) (h2 : ¬ hi < v.toInt) (ho : offs[(v.toInt - lo).toNat]? = some off) (ht : (pc : Int) + off = (tgt : Int)) (k : JJ X tgt ls st σ) : JJ X pc ls (.int x :: st) σ := fun H locs lsA hP hS hl => by
  subst hx
  exact lv_tableIn hX.1 hX.2.1 hd h1 h2 ho ht (k H locs lsA hP hS hl)
theorem JJ.tableOut (hX : Ok X own cc nL D) {dflt lo hi : Int} {offs : Array Int} {len : Nat} {x : Int32} {tgt : Nat} (hd : decode cc pc = .ok (.tableswitch dflt lo hi offs, len)) (h : x.toInt < lo ∨ hi < x.toInt) (ht : (pc : Int) + dflt = (tgt : Int)) (k : JJ X tgt ls st σ) : JJ X pc ls (.int x :: st) σ := fun H locs lsA hP hS hl => lv_tableOut hX.1 hX.2.1 hd h ht (k H locs lsA hP hS hl)
theorem JJ.lookup (hX : Ok X own cc nL D) {dflt : Int} {ps : Array (Int × Int)} {len : Nat} {x : Int32} {off : Int} {tgt : Nat} (hd : decode cc pc = .ok (.lookupswitch dflt ps, len)) (hp : (ps.toList.zip (ps.toList.drop 1)).all (fun (a, next) => a.1 < next.1) = true) (ho : Op.lookupswitch.offset ps.toList dflt x.toInt = off) (ht : (pc : Int) + off = (tgt : Int)) (k : JJ X tgt ls st σ) : JJ X pc ls (.int x :: st) σ := fun H locs lsA hP hS hl => lv_lookup hX.1 hX.2.1 hd hp ho ht (k H locs lsA hP hS hl)
theorem sw_out {n : Nat} {x : Int32} (h : ∀ k : Nat, k ≤ n → ¬ x = nI k) (hn : n < 2 ^ 31) : x.toInt < (0 : Int) ∨ (n : Int) < x.toInt := by
  by_cases h0 : x.toInt < 0
  · exact Or.inl h0
  · refine Or.inr ?_
    by_cases h1 : (n : Int) < x.toInt
    · exact h1
    · exfalso
      have e : ¬ x < 0 := by
        intro z
        have := Int32.lt_iff_toInt_lt.mp z
        exact h0 (by simpa using this)
      obtain ⟨j, hj, rfl⟩ := nI_of e
      rw [nI_toInt hj] at h1
      exact h j (by omega) rfl
-- fields
theorem JJ.get (hX : Ok X own cc nL D) (q ci k : Nat) {C : String} {T : u_T} {N idx : Nat} {fs : List Value} {v : Value} (hcl : vwCl[ci]? = some (C, T, N)) (hin : ∀ w ∈ u_ws C T N, w ∈ GW) (hk : k < N) (hl : Cond.fieldLink own idx (T k).1 (T k).2.1 (T k).2.2.1 ∈ GW) (he : (wld (xcA X) (xad X) σ)[q]? = some (xad X q, .inr (ci, fs))) (hv : fs[k]? = some v)
    (hd : decode cc pc = .ok (.getfield idx, 3)) (kk : JJ X (pc + 3) ls (v :: st) σ) : JJ X pc ls (.ref (xad X q) :: st) σ := fun H locs lsA hP hS h2 => by
  obtain ⟨hx, hb, hml, hnl, hown, hts, hN, hK, hD, hA, hlo, hC, -⟩ := hX
  exact va_get (D := (xdC X, xdI X)) hx hb hts hin hown hK hP q he hcl k hk (hts _ hl) (fun _ h => h) hv hd (kk H locs lsA hP hS h2)
theorem JJ.getN (hX : Ok X own cc nL D) (q ci k : Nat) {C host : String} {T : u_T} {N idx : Nat} {fs : List Value} {v : Value} (hcl : vwCl[ci]? = some (C, T, N)) (hin : ∀ w ∈ u_ws C T N, w ∈ GW) (hk : k < N) (hl : Cond.fieldLinkNest own idx (T k).1 (T k).2.1 (T k).2.2.1 host ∈ nestW) (he : (wld (xcA X) (xad X) σ)[q]? = some (xad X q, .inr (ci, fs))) (hv : fs[k]? = some v)
    (hd : decode cc pc = .ok (.getfield idx, 3)) (kk : JJ X (pc + 3) ls (v :: st) σ) : JJ X pc ls (.ref (xad X q) :: st) σ := fun H locs lsA hP hS h2 => by
  obtain ⟨hx, hb, hml, hnl, hown, hts, hN, hK, hD, hA, hlo, hC, -⟩ := hX
  exact va_getN (D := (xdC X, xdI X)) hx hb hts hin hown hK hP q he hcl k hk (va_Nw.use rfl (hN _ hl)) (fun _ h => h) hv hd (kk H locs lsA hP hS h2)
theorem JJ.put (hX : Ok X own cc nL D) (q ci k : Nat) {C : String} {T : u_T} {N idx : Nat} {fs : List Value} {v : Value} {ty : FieldType} {ty0 : Nat → FieldType} (hcl : vwCl[ci]? = some (C, T, N)) (hin : ∀ w ∈ u_ws C T N, w ∈ GW) (hty : ∀ k, k < N → parseFieldDescriptor (T k).2.2.1 = some (ty0 k)) (hnm : ∀ a, a < N → ∀ b, b < N → a ≠ b → (T a).2.1 ≠ (T b).2.1) (hk : k < N) (hl : Cond.fieldLink own idx (T k).1 (T k).2.1 (T k).2.2.1 ∈ GW) (he : (wld (xcA X) (xad X) σ)[q]? = some (xad X q, .inr (ci, fs))) (hfin : (T k).2.2.2 = false) (hd2 : parseFieldDescriptor (T k).2.2.1 = some ty) (hn : narrow ty v = v) (hfit : fits ty v = true) (hlen : k < fs.length)
    (hset : (wld (xcA X) (xad X) σ).set q (xad X q, .inr (ci, fs.set k v)) = wld (xcA X) (xad X) σ')
    (hd : decode cc pc = .ok (.putfield idx, 3)) (kk : JJ X (pc + 3) ls st σ') : JJ X pc ls (v :: .ref (xad X q) :: st) σ := fun H locs lsA hP hS h2 => by
  obtain ⟨hx, hb, hml, hnl, hown, hts, hN, hK, hD, hA, hlo, hC, -⟩ := hX
  exact va_put (D := (xdC X, xdI X)) hx hb hts hin ty0 hty hnm hown hK hP (hD σ) hS q he hcl k hk (hts _ hl) (fun _ h => h) hfin hd2 hn hfit hlen hd (fun H1 locs1 hP1 _ hS1 => kk H1 locs1 lsA (hset ▸ hP1) hS1 h2)
theorem JJ.putN (hX : Ok X own cc nL D) (q ci k : Nat) {C host : String} {T : u_T} {N idx : Nat} {fs : List Value} {v : Value} {ty : FieldType} {ty0 : Nat → FieldType} (hcl : vwCl[ci]? = some (C, T, N)) (hin : ∀ w ∈ u_ws C T N, w ∈ GW) (hty : ∀ k, k < N → parseFieldDescriptor (T k).2.2.1 = some (ty0 k)) (hnm : ∀ a, a < N → ∀ b, b < N → a ≠ b → (T a).2.1 ≠ (T b).2.1) (hk : k < N) (hl : Cond.fieldLinkNest own idx (T k).1 (T k).2.1 (T k).2.2.1 host ∈ nestW) (he : (wld (xcA X) (xad X) σ)[q]? = some (xad X q, .inr (ci, fs))) (hfin : (T k).2.2.2 = false) (hd2 : parseFieldDescriptor (T k).2.2.1 = some ty) (hn : narrow ty v = v) (hfit : fits ty v = true) (hlen : k < fs.length)
    (hset : (wld (xcA X) (xad X) σ).set q (xad X q, .inr (ci, fs.set k v)) = wld (xcA X) (xad X) σ')
    (hd : decode cc pc = .ok (.putfield idx, 3)) (kk : JJ X (pc + 3) ls st σ') : JJ X pc ls (v :: .ref (xad X q) :: st) σ := fun H locs lsA hP hS h2 => by
  obtain ⟨hx, hb, hml, hnl, hown, hts, hN, hK, hD, hA, hlo, hC, -⟩ := hX
  exact va_putN (D := (xdC X, xdI X)) hx hb hts hin ty0 hty hnm hown hK hP (hD σ) hS q he hcl k hk (va_Nw.use rfl (hN _ hl)) (fun _ h => h) hfin hd2 hn hfit hlen hd (fun H1 locs1 hP1 _ hS1 => kk H1 locs1 lsA (hset ▸ hP1) hS1 h2)
-- arrays
theorem JJ.iald (hX : Ok X own cc nL D) (q : Nat) {n : Nat} {f : Nat → Int32} {i : Int32} (he : (wld (xcA X) (xad X) σ)[q]? = some (xad X q, .inl (xcA X, n, .inl f))) (hin : vp_in i n) (hd : decode cc pc = .ok (.iaload, 1)) (kk : JJ X (pc + 1) ls (.int (f i.toNatClampNeg) :: st) σ) : JJ X pc ls (.int i :: .ref (xad X q) :: st) σ := fun H locs lsA hP hS h2 => by
  obtain ⟨hx, hb, hml, hnl, hown, hts, hN, hK, hD, hA, hlo, hC, -⟩ := hX
  exact va_iald (D := (xdC X, xdI X)) hx hb hK hP q 0 he rfl hin hd (kk H locs lsA hP hS h2)
theorem JJ.iast (hX : Ok X own cc nL D) (q : Nat) {n : Nat} {f : Nat → Int32} {i x : Int32} (he : (wld (xcA X) (xad X) σ)[q]? = some (xad X q, .inl (xcA X, n, .inl f))) (hset : (wld (xcA X) (xad X) σ).set q (xad X q, .inl (xcA X, n, .inl (upd f i.toNatClampNeg x))) = wld (xcA X) (xad X) σ') (hin : vp_in i n) (hd : decode cc pc = .ok (.iastore, 1)) (kk : JJ X (pc + 1) ls st σ') : JJ X pc ls (.int x :: .int i :: .ref (xad X q) :: st) σ := fun H locs lsA hP hS h2 => by
  obtain ⟨hx, hb, hml, hnl, hown, hts, hN, hK, hD, hA, hlo, hC, -⟩ := hX
  exact va_iast (D := (xdC X, xdI X)) hx hb hK hP (hD σ) hS q 0 he rfl hin hd (fun H1 locs1 hP1 _ hS1 => kk H1 locs1 lsA (hset ▸ hP1) hS1 h2)
theorem JJ.alen (hX : Ok X own cc nL D) (q : Nat) {n : Nat} {f : Nat → Int32} {v : Int32} (he : (wld (xcA X) (xad X) σ)[q]? = some (xad X q, .inl (xcA X, n, .inl f))) (hv : Int32.ofNat n = v) (hd : decode cc pc = .ok (.arraylength, 1)) (kk : JJ X (pc + 1) ls (.int v :: st) σ) : JJ X pc ls (.ref (xad X q) :: st) σ := fun H locs lsA hP hS h2 => by
  obtain ⟨hx, hb, hml, hnl, hown, hts, hN, hK, hD, hA, hlo, hC, -⟩ := hX
  exact va_alen (D := (xdC X, xdI X)) hx hb hK hP q 0 he rfl hv hd (kk H locs lsA hP hS h2)
-- ends
theorem JJ.iret (hX : Ok X own cc nL D) {v : Int32} (hM : OkM X (some .int) (some (.int v)) σ) (hd : decode cc pc = .ok (.ireturn, 1)) : JJ X pc ls [.int v] σ := fun H locs lsA hP hS h2 => by
  obtain ⟨hx, hb, hml, hnl, hown, hts, hN, hK, hD, hA, hlo, hC, -⟩ := hX
  obtain ⟨hr, h3, h4, h5⟩ := hM
  rw [h5, h3, h4]
  exact W.iret (Qc := Qd (xdC X) (xdI X) (xcA X) (xad X) (xA X) (some (.int v)) σ) hx hb hr (fun t ht _ => ⟨⟨rfl, by rw [ht]; exact hP⟩, hS.F ht⟩) hS.2.2 hd hlo
theorem JJ.zret (hX : Ok X own cc nL D) {v : Int32} {ty : FieldType} (hM : OkM X (some ty) (some (.int v)) σ) (hn : narrow ty (.int v) = .int v) (hd : decode cc pc = .ok (.ireturn, 1)) : JJ X pc ls [.int v] σ := fun H locs lsA hP hS h2 => by
  obtain ⟨hx, hb, hml, hnl, hown, hts, hN, hK, hD, hA, hlo, hC, -⟩ := hX
  obtain ⟨hr, h3, h4, h5⟩ := hM
  rw [h5, h3, h4]
  exact W.zret (Qc := Qd (xdC X) (xdI X) (xcA X) (xad X) (xA X) (some (.int v)) σ) hx hb hr hn (fun t ht _ => ⟨⟨rfl, by rw [ht]; exact hP⟩, hS.F ht⟩) hS.2.2 hd hlo
/-- a boolean's end: the lowest bit -/
theorem JJ.bret (hX : Ok X own cc nL D) {v : Int32} (hM : OkM X (some .boolean) (some (.int (v &&& 1))) σ) (hd : decode cc pc = .ok (.ireturn, 1)) : JJ X pc ls [.int v] σ := fun H locs lsA hP hS h2 => by
  obtain ⟨hx, hb, hml, hnl, hown, hts, hN, hK, hD, hA, hlo, hC, -⟩ := hX
  obtain ⟨hr, h3, h4, h5⟩ := hM
  rw [h5, h3, h4]
  intro T hT Y
  obtain ⟨fs, hret, hrun, hended, hW, hframe⟩ := Y.leave (v := some (.int (v &&& 1))) (hlocks := hlo) (fun h => by rw [hr] at h; cases h)
  have hmeth' : T.vm.method? (xm X) = some (xmeth X) := Y.method'
  refine ⟨T.setFrames fs, ?_, .returned (some (.int (v &&& 1))), hrun, hended, ⟨⟨rfl, by show va_P _ _ _ T.heap; rw [hT]; exact hP⟩, hS.F hT⟩, locs, ⟨⟨_, rfl⟩, hW, hframe⟩, hS.2.2⟩
  jvm_step Y.here [Y.here.top, hx, hb, hd, hmeth', hr, narrow]
  (try refine ⟨rfl, ?_⟩); (try refine ⟨rfl, ?_⟩)
  first | (intro acts; rw [hret _ acts rfl rfl rfl]) | rw [hret _ _ rfl rfl rfl]
  exact Steps.refl _
theorem JJ.lret (hX : Ok X own cc nL D) {v : Int64} (hM : OkM X (some .long) (some (.long v)) σ) (hd : decode cc pc = .ok (.lreturn, 1)) : JJ X pc ls [.long v] σ := fun H locs lsA hP hS h2 => by
  obtain ⟨hx, hb, hml, hnl, hown, hts, hN, hK, hD, hA, hlo, hC, -⟩ := hX
  obtain ⟨hr, h3, h4, h5⟩ := hM
  rw [h5, h3, h4]
  exact W.lret (Qc := Qd (xdC X) (xdI X) (xcA X) (xad X) (xA X) (some (.long v)) σ) hx hb hr (fun t ht _ => ⟨⟨rfl, by rw [ht]; exact hP⟩, hS.F ht⟩) hS.2.2 hd hlo
theorem JJ.vret (hX : Ok X own cc nL D) (hM : OkM X none none σ) (hd : decode cc pc = .ok (.return_, 1)) : JJ X pc ls [] σ := fun H locs lsA hP hS h2 => by
  obtain ⟨hx, hb, hml, hnl, hown, hts, hN, hK, hD, hA, hlo, hC, -⟩ := hX
  obtain ⟨hr, h3, h4, h5⟩ := hM
  rw [h5, h3, h4]
  exact W.vret (Qc := Qd (xdC X) (xdI X) (xcA X) (xad X) (xA X) none σ) hx hb hr (fun t ht _ => ⟨⟨rfl, by rw [ht]; exact hP⟩, hS.F ht⟩) hS.2.2 hd hlo
-- calls
theorem JJ.fin {H : Heap} {locs : List Loc} {lsA : Array Slot} {rest st0 : List Value} {r : Option Value} {av : Array Value} (hX : Ok X own cc nL D) (hS : va_S (xA X) (xs X).heap H locs) (hl : lv_has lsA (xnL X) ls)
    (hr : va_Run (xp X) (xl X) (xe X) (xR X) (xs X) (xm X) (xargs X) (xbelow X) (xmeth X) (xc X) H locs (xcells X) (xslots X) 0 0 (F0 (xm X) pc lsA st0) rest (Qd (xdC X) (xdI X) (xcA X) (xad X) (va_A (wld (xcA X) (xad X) σ) H.size) r σ' av) (va_A (wld (xcA X) (xad X) σ) H.size))
    (kk : JJ X (pc + 3) ls (r.toList ++ rest) σ') : W (xp X) (xl X) (xe X) (xR X) (xs X) (xm X) (xargs X) (xbelow X) (xmeth X) (xc X) H locs (xcells X) (xslots X) (xQ X) (F0 (xm X) pc lsA st0) := by
  have hF : ∀ q, va_A (wld (xcA X) (xad X) σ) H.size q → xA X q := by
    intro q hq
    rcases hq with ⟨k, e, hk⟩ | hq
    · exact (hX.2.2.2.2.2.2.2.2.1 σ).2 k (q, e) hk
    · exact hX.2.2.2.2.2.2.2.2.2.1 q (Nat.le_trans hS.1 hq)
  intro T hT Y
  obtain ⟨v, st₀, t, T', L, h0, Y', hL, e1, e2, ⟨⟨hv, hp⟩, hz, hk⟩, go⟩ := hr T hT Y
  cases hv
  rw [h0] at hz hk
  obtain ⟨t2, a1, b1⟩ := kk T'.heap (locs ++ L) lsA (by rw [e1]; exact hp)
    ⟨Nat.le_trans hS.1 (by rw [e1]; exact hz), fun q h1 h2 => by rw [e1, hk q (Nat.lt_of_lt_of_le h1 hS.1) (fun z => h2 (hF q z))]; exact hS.2.1 q h1 h2, fun q hq => by
      rcases List.mem_append.mp hq with h | h
      · exact hS.2.2 q h
      · exact hF _ (hL q h)⟩ hl T' rfl Y'
  exact ⟨t2, go t2 a1, b1⟩
theorem JJ.pre {H : Heap} {locs : List Loc} (hX : Ok X own cc nL D) (hP : va_P (xdC X, xdI X) vwCl (wld (xcA X) (xad X) σ) H) (hS : va_S (xA X) (xs X).heap H locs) (av : List Value) : PreS (xs X) H (va_Pc av (Wd (xdC X) (xdI X) (xcA X) (xad X) H.size σ)) av := by
  obtain ⟨hx, hb, hml, hnl, hown, hts, hN, hK, hD, hA, hlo, hC, -⟩ := hX
  refine ⟨Wd.blind, fun U hU hW => ⟨rfl, by rw [hU], by rw [hU]; exact hP, va_K.moved hW.alike hK, (hD σ).weaken (fun _ _ _ _ => trivial), NW.warm hW hN, ?_⟩⟩
  rw [hU]
  refine SC.warm hW (SC.narrow (SC.kept hC hS.2.1) (fun q hq => ?_))
  rcases hq with ⟨k, e, hk⟩ | hq
  · exact (hD σ).2 k (q, e) hk
  · exact hA q (Nat.le_trans hS.1 hq)
/-- what the tables say of a callee -/
def Cal (y : MethodName) (bytes : ByteArray) (maxL n : Nat) (ret : Option FieldType) : Prop := Cond.code y bytes maxL ret ∈ GW ∧ Cond.initialized y.cls ∈ GW ∧ (y.cls ≠ "java/lang/invoke/MethodHandle" ∧ y.cls ≠ "java/lang/invoke/VarHandle" ∧ (parseMethodDescriptor y.desc).map (fun d => d.parameters.length) = some n)
def CalV (y : MethodName) : Prop := Cond.instanceMethod y ∈ GW ∧ Cond.selects y.cls y y ∈ GW
/-- the receiver's class -/
def Rcv (X : CX) (σ : ST) (q : Nat) (C : String) : Prop := ∀ (H : Heap) (locs : List Loc), va_P (xdC X, xdI X) vwCl (wld (xcA X) (xad X) σ) H → va_S (xA X) (xs X).heap H locs → ∃ cell : Cell, H[xad X q]? = some cell ∧ cell.vm.isStatics = false ∧ (xs X).vm.findClass C = some cell.cls
theorem Rcv.obj (hX : Ok X own cc nL D) {q ci : Nat} {C : vw_C} {fs : List Value} (hci : vwCl[ci]? = some C) (he : (wld (xcA X) (xad X) σ)[q]? = some (xad X q, .inr (ci, fs))) : Rcv X σ q C.1 := fun H locs hP hS => va_recv hX.2.2.2.2.2.2.2.1 hP hci he
theorem Rcv.str (hX : Ok X own cc nL D) : Rcv X σ 43 "java/lang/String" := fun H locs hP hS => vk_recv (i := 0) hX.2.2.2.2.2.2.2.2.2.2.2.1.1 (by decide) hS
theorem JJ.callV (hX : Ok X own cc nL D) {d idx maxL n q : Nat} {y : MethodName} {bytes : ByteArray} {ret : Option FieldType} {ra : (Nat → Nat) → List Value} {r : Option Value} {As st0 : List Value} (hc : Ct d y bytes maxL ret ra σ r σ') (hcal : Cal y bytes maxL n ret) (hv : CalV y) (hlk : Cond.methodLink own idx y ∈ GW)
    (hra : (ra (xad X)).reverse = .ref (xad X q) :: As) (hst : st0 = As.reverse ++ .ref (xad X q) :: st) (hn : As.length = n) (hrc : Rcv X σ q y.cls)
    (hroom : (st.map fun v => v.category).sum ≤ 8) (hdd : d + 1 ≤ D ∧ maxL ≤ 19) (hd : decode cc pc = .ok (.invokevirtual idx, 3)) (kk : JJ X (pc + 3) ls (r.toList ++ st) σ') : JJ X pc ls st0 σ := fun H locs lsA hP hS hl => by
  have hX0 := hX
  obtain ⟨hx, hb, hml, hnl, hown, hts, hN, hK, hD, hA, hlo, hC, hfr, hlc, hce, hsl⟩ := hX
  subst hst
  have hpre := JJ.pre hX0 hP hS (ra (xad X)).reverse
  have hrec := hrc H locs hP hS
  refine JJ.fin (σ := σ) (r := r) (av := (Value.ref (xad X q) :: As).toArray) hX0 hS hl (va_runV (cc := cc) (nL := nL) (Ts := GW) (own := own) (C := y.cls) (index := idx) (bytes := bytes) (maxL := maxL) (ret := ret) (n := n) (b := xad X q) (As := As) (rest := st) ⟨hx, hb, hml, hown, hts⟩ (hc (xl X) (xdC X) (xdI X) (xcA X) (xad X) H.size)
    ⟨callB_of n hts (GW_in hcal.1) rfl rfl rfl (hts _ hcal.2.1) (hts _ hlk) hcal.2.2 ⟨by show d + 1 ≤ _; omega, by show 8 + (maxL + 11) + 38 * d ≤ _; omega⟩, hts _ hv.1, hts _ hv.2⟩
    ⟨hpre.1, hrec, fun U hU hW => by have h7 := hpre.2 U hU hW; rw [hra] at h7; rw [hra]; exact h7⟩ rfl hn (by rw [← hnl]; exact hl.1) rfl (lv_room hroom) hd ⟨hce, hsl⟩) kk
theorem JJ.callVN (hX : Ok X own cc nL D) {d idx maxL n q : Nat} {y : MethodName} {host : String} {bytes : ByteArray} {ret : Option FieldType} {ra : (Nat → Nat) → List Value} {r : Option Value} {As st0 : List Value} (hc : Ct d y bytes maxL ret ra σ r σ') (hcal : Cal y bytes maxL n ret) (hv : CalV y) (hlk : Cond.methodLinkNest own idx y host ∈ nestW)
    (hra : (ra (xad X)).reverse = .ref (xad X q) :: As) (hst : st0 = As.reverse ++ .ref (xad X q) :: st) (hn : As.length = n) (hrc : Rcv X σ q y.cls)
    (hroom : (st.map fun v => v.category).sum ≤ 8) (hdd : d + 1 ≤ D ∧ maxL ≤ 19) (hd : decode cc pc = .ok (.invokevirtual idx, 3)) (kk : JJ X (pc + 3) ls (r.toList ++ st) σ') : JJ X pc ls st0 σ := fun H locs lsA hP hS hl => by
  have hX0 := hX
  obtain ⟨hx, hb, hml, hnl, hown, hts, hN, hK, hD, hA, hlo, hC, hfr, hlc, hce, hsl⟩ := hX
  subst hst
  have hpre := JJ.pre hX0 hP hS (ra (xad X)).reverse
  have hrec := hrc H locs hP hS
  refine JJ.fin (σ := σ) (r := r) (av := (Value.ref (xad X q) :: As).toArray) hX0 hS hl (va_runVN (cc := cc) (nL := nL) (Ts := GW) (own := own) (host := host) (C := y.cls) (index := idx) (bytes := bytes) (maxL := maxL) (ret := ret) (n := n) (b := xad X q) (As := As) (rest := st) ⟨hx, hb, hml, hown, hts⟩ (hc (xl X) (xdC X) (xdI X) (xcA X) (xad X) H.size)
    ⟨va_cnB n hts (GW_in hcal.1) rfl rfl rfl (hN _ hlk) (hts _ hcal.2.1) hcal.2.2 ⟨by show d + 1 ≤ _; omega, by show 8 + (maxL + 11) + 38 * d ≤ _; omega⟩, hts _ hv.1, hts _ hv.2⟩
    ⟨hpre.1, hrec, fun U hU hW => by have h7 := hpre.2 U hU hW; rw [hra] at h7; rw [hra]; exact h7⟩ rfl hn (by rw [← hnl]; exact hl.1) rfl (lv_room hroom) hd ⟨hce, hsl⟩) kk
theorem JJ.callS (hX : Ok X own cc nL D) {d idx maxL n : Nat} {y : MethodName} {bytes : ByteArray} {ret : Option FieldType} {ra : (Nat → Nat) → List Value} {r : Option Value} {st0 : List Value} (hc : Ct d y bytes maxL ret ra σ r σ') (hcal : Cal y bytes maxL n ret) (hv : Cond.static y ∈ GW) (hlk : Cond.methodLink own idx y ∈ GW)
    (hst : st0 = ra (xad X) ++ st) (hn : (ra (xad X)).length = n)
    (hroom : (st.map fun v => v.category).sum ≤ 8) (hdd : d + 1 ≤ D ∧ maxL ≤ 19) (hd : decode cc pc = .ok (.invokestatic idx, 3)) (kk : JJ X (pc + 3) ls (r.toList ++ st) σ') : JJ X pc ls st0 σ := fun H locs lsA hP hS hl => by
  have hX0 := hX
  obtain ⟨hx, hb, hml, hnl, hown, hts, hN, hK, hD, hA, hlo, hC, hfr, hlc, hce, hsl⟩ := hX
  subst hst
  have hpre := JJ.pre hX0 hP hS (ra (xad X)).reverse
  refine JJ.fin (σ := σ) (r := r) (av := (ra (xad X)).reverse.toArray) hX0 hS hl (va_runS (cc := cc) (nL := nL) (Ts := GW) (own := own) (index := idx) (bytes := bytes) (maxL := maxL) (ret := ret) (n := n) (As := (ra (xad X)).reverse) (rest := st) ⟨hx, hb, hml, hown, hts⟩ (hc (xl X) (xdC X) (xdI X) (xcA X) (xad X) H.size)
    ⟨callB_of n hts (GW_in hcal.1) rfl rfl rfl (hts _ hcal.2.1) (hts _ hlk) hcal.2.2 ⟨by show d + 1 ≤ _; omega, by show 8 + (maxL + 11) + 38 * d ≤ _; omega⟩, hts _ hv⟩
    hpre rfl (by rw [List.length_reverse]; exact hn) (by rw [← hnl]; exact hl.1) (by rw [List.reverse_reverse]) (lv_room hroom) hd ⟨hce, hsl⟩) kk
theorem JJ.callSN (hX : Ok X own cc nL D) {d idx maxL n : Nat} {y : MethodName} {host : String} {bytes : ByteArray} {ret : Option FieldType} {ra : (Nat → Nat) → List Value} {r : Option Value} {st0 : List Value} (hc : Ct d y bytes maxL ret ra σ r σ') (hcal : Cal y bytes maxL n ret) (hv : Cond.static y ∈ GW) (hlk : Cond.methodLinkNest own idx y host ∈ nestW)
    (hst : st0 = ra (xad X) ++ st) (hn : (ra (xad X)).length = n)
    (hroom : (st.map fun v => v.category).sum ≤ 8) (hdd : d + 1 ≤ D ∧ maxL ≤ 19) (hd : decode cc pc = .ok (.invokestatic idx, 3)) (kk : JJ X (pc + 3) ls (r.toList ++ st) σ') : JJ X pc ls st0 σ := fun H locs lsA hP hS hl => by
  have hX0 := hX
  obtain ⟨hx, hb, hml, hnl, hown, hts, hN, hK, hD, hA, hlo, hC, hfr, hlc, hce, hsl⟩ := hX
  subst hst
  have hpre := JJ.pre hX0 hP hS (ra (xad X)).reverse
  refine JJ.fin (σ := σ) (r := r) (av := (ra (xad X)).reverse.toArray) hX0 hS hl (va_runSN (cc := cc) (nL := nL) (Ts := GW) (own := own) (host := host) (index := idx) (bytes := bytes) (maxL := maxL) (ret := ret) (n := n) (As := (ra (xad X)).reverse) (rest := st) ⟨hx, hb, hml, hown, hts⟩ (hc (xl X) (xdC X) (xdI X) (xcA X) (xad X) H.size)
    ⟨va_cnB n hts (GW_in hcal.1) rfl rfl rfl (hN _ hlk) (hts _ hcal.2.1) hcal.2.2 ⟨by show d + 1 ≤ _; omega, by show 8 + (maxL + 11) + 38 * d ≤ _; omega⟩, hts _ hv, trivial⟩
    hpre rfl (by rw [List.length_reverse]; exact hn) (by rw [← hnl]; exact hl.1) (by rw [List.reverse_reverse]) (lv_room hroom) hd ⟨hce, hsl⟩) kk
theorem JJ.mmax (hX : Ok X own cc nL D) {idx : Nat} {x y : Int32} (hlk : Cond.methodLink own idx Lib.Math.max.name ∈ GW) (hst : Cond.static Lib.Math.max.name ∈ GW) (hin : Cond.initialized "java/lang/Math" ∈ GW) (hco : Cond.code Lib.Math.max.name Lib.Math.max.code 2 (some .int) ∈ GW) (hroom : (st.map fun v => v.category).sum ≤ 8) (hdd : 1 ≤ D) (hd : decode cc pc = .ok (.invokestatic idx, 3)) (kk : JJ X (pc + 3) ls (.int (if x < y then y else x) :: st) σ) : JJ X pc ls (.int y :: .int x :: st) σ := fun H locs lsA hP hS hl => by
  obtain ⟨hx, hb, hml, hnl, hown, hts, hN, hK, hD, hA, hlo, hC, hfr, hlc, hce, hsl⟩ := hX
  exact va_mmax hx hb (by rw [hml, ← hnl]; exact hl.1.symm) hown (hts _ hlk) (hts _ hst) (hts _ hin) (hts _ hco) (by omega) (by omega) hce hsl hd (kk H locs lsA hP hS hl)
theorem JJ.mmin (hX : Ok X own cc nL D) {idx : Nat} {x y : Int32} (hlk : Cond.methodLink own idx Lib.Math.min.name ∈ GW) (hst : Cond.static Lib.Math.min.name ∈ GW) (hin : Cond.initialized "java/lang/Math" ∈ GW) (hco : Cond.code Lib.Math.min.name Lib.Math.min.code 2 (some .int) ∈ GW) (hroom : (st.map fun v => v.category).sum ≤ 8) (hdd : 1 ≤ D) (hd : decode cc pc = .ok (.invokestatic idx, 3)) (kk : JJ X (pc + 3) ls (.int (if y < x then y else x) :: st) σ) : JJ X pc ls (.int y :: .int x :: st) σ := fun H locs lsA hP hS hl => by
  obtain ⟨hx, hb, hml, hnl, hown, hts, hN, hK, hD, hA, hlo, hC, hfr, hlc, hce, hsl⟩ := hX
  exact va_mmin hx hb (by rw [hml, ← hnl]; exact hl.1.symm) hown (hts _ hlk) (hts _ hst) (hts _ hin) (hts _ hco) (by omega) (by omega) hce hsl hd (kk H locs lsA hP hS hl)
theorem JJ.callVi (hX : Ok X own cc nL D) {d idx maxL n q : Nat} {y : MethodName} {bytes : ByteArray} {ret : Option FieldType} {ra : (Nat → Nat) → List Value} {As st0 : List Value} {v : Int32} (hc : Ct d y bytes maxL ret ra σ (some (.int v)) σ') (hcal : Cal y bytes maxL n ret) (hv : CalV y) (hlk : Cond.methodLink own idx y ∈ GW)
    (hra : (ra (xad X)).reverse = .ref (xad X q) :: As) (hst : st0 = As.reverse ++ .ref (xad X q) :: st) (hn : As.length = n) (hrc : Rcv X σ q y.cls)
    (hroom : (st.map fun v => v.category).sum ≤ 8) (hdd : d + 1 ≤ D ∧ maxL ≤ 19) (hd : decode cc pc = .ok (.invokevirtual idx, 3)) (kk : JJ X (pc + 3) ls (.int v :: st) σ') : JJ X pc ls st0 σ := JJ.callV hX hc hcal hv hlk hra hst hn hrc hroom hdd hd kk
theorem JJ.callVl (hX : Ok X own cc nL D) {d idx maxL n q : Nat} {y : MethodName} {bytes : ByteArray} {ret : Option FieldType} {ra : (Nat → Nat) → List Value} {As st0 : List Value} {v : Int64} (hc : Ct d y bytes maxL ret ra σ (some (.long v)) σ') (hcal : Cal y bytes maxL n ret) (hv : CalV y) (hlk : Cond.methodLink own idx y ∈ GW)
    (hra : (ra (xad X)).reverse = .ref (xad X q) :: As) (hst : st0 = As.reverse ++ .ref (xad X q) :: st) (hn : As.length = n) (hrc : Rcv X σ q y.cls)
    (hroom : (st.map fun v => v.category).sum ≤ 8) (hdd : d + 1 ≤ D ∧ maxL ≤ 19) (hd : decode cc pc = .ok (.invokevirtual idx, 3)) (kk : JJ X (pc + 3) ls (.long v :: st) σ') : JJ X pc ls st0 σ := JJ.callV hX hc hcal hv hlk hra hst hn hrc hroom hdd hd kk
theorem JJ.callVv (hX : Ok X own cc nL D) {d idx maxL n q : Nat} {y : MethodName} {bytes : ByteArray} {ret : Option FieldType} {ra : (Nat → Nat) → List Value} {As st0 : List Value} (hc : Ct d y bytes maxL ret ra σ none σ') (hcal : Cal y bytes maxL n ret) (hv : CalV y) (hlk : Cond.methodLink own idx y ∈ GW)
    (hra : (ra (xad X)).reverse = .ref (xad X q) :: As) (hst : st0 = As.reverse ++ .ref (xad X q) :: st) (hn : As.length = n) (hrc : Rcv X σ q y.cls)
    (hroom : (st.map fun v => v.category).sum ≤ 8) (hdd : d + 1 ≤ D ∧ maxL ≤ 19) (hd : decode cc pc = .ok (.invokevirtual idx, 3)) (kk : JJ X (pc + 3) ls (st) σ') : JJ X pc ls st0 σ := JJ.callV hX hc hcal hv hlk hra hst hn hrc hroom hdd hd kk
theorem JJ.callVNi (hX : Ok X own cc nL D) {d idx maxL n q : Nat} {y : MethodName} {host : String} {bytes : ByteArray} {ret : Option FieldType} {ra : (Nat → Nat) → List Value} {As st0 : List Value} {v : Int32} (hc : Ct d y bytes maxL ret ra σ (some (.int v)) σ') (hcal : Cal y bytes maxL n ret) (hv : CalV y) (hlk : Cond.methodLinkNest own idx y host ∈ nestW)
    (hra : (ra (xad X)).reverse = .ref (xad X q) :: As) (hst : st0 = As.reverse ++ .ref (xad X q) :: st) (hn : As.length = n) (hrc : Rcv X σ q y.cls)
    (hroom : (st.map fun v => v.category).sum ≤ 8) (hdd : d + 1 ≤ D ∧ maxL ≤ 19) (hd : decode cc pc = .ok (.invokevirtual idx, 3)) (kk : JJ X (pc + 3) ls (.int v :: st) σ') : JJ X pc ls st0 σ := JJ.callVN hX hc hcal hv hlk hra hst hn hrc hroom hdd hd kk
theorem JJ.callVNl (hX : Ok X own cc nL D) {d idx maxL n q : Nat} {y : MethodName} {host : String} {bytes : ByteArray} {ret : Option FieldType} {ra : (Nat → Nat) → List Value} {As st0 : List Value} {v : Int64} (hc : Ct d y bytes maxL ret ra σ (some (.long v)) σ') (hcal : Cal y bytes maxL n ret) (hv : CalV y) (hlk : Cond.methodLinkNest own idx y host ∈ nestW)
    (hra : (ra (xad X)).reverse = .ref (xad X q) :: As) (hst : st0 = As.reverse ++ .ref (xad X q) :: st) (hn : As.length = n) (hrc : Rcv X σ q y.cls)
    (hroom : (st.map fun v => v.category).sum ≤ 8) (hdd : d + 1 ≤ D ∧ maxL ≤ 19) (hd : decode cc pc = .ok (.invokevirtual idx, 3)) (kk : JJ X (pc + 3) ls (.long v :: st) σ') : JJ X pc ls st0 σ := JJ.callVN hX hc hcal hv hlk hra hst hn hrc hroom hdd hd kk
theorem JJ.callVNv (hX : Ok X own cc nL D) {d idx maxL n q : Nat} {y : MethodName} {host : String} {bytes : ByteArray} {ret : Option FieldType} {ra : (Nat → Nat) → List Value} {As st0 : List Value} (hc : Ct d y bytes maxL ret ra σ none σ') (hcal : Cal y bytes maxL n ret) (hv : CalV y) (hlk : Cond.methodLinkNest own idx y host ∈ nestW)
    (hra : (ra (xad X)).reverse = .ref (xad X q) :: As) (hst : st0 = As.reverse ++ .ref (xad X q) :: st) (hn : As.length = n) (hrc : Rcv X σ q y.cls)
    (hroom : (st.map fun v => v.category).sum ≤ 8) (hdd : d + 1 ≤ D ∧ maxL ≤ 19) (hd : decode cc pc = .ok (.invokevirtual idx, 3)) (kk : JJ X (pc + 3) ls (st) σ') : JJ X pc ls st0 σ := JJ.callVN hX hc hcal hv hlk hra hst hn hrc hroom hdd hd kk
theorem JJ.callSi (hX : Ok X own cc nL D) {d idx maxL n : Nat} {y : MethodName} {bytes : ByteArray} {ret : Option FieldType} {ra : (Nat → Nat) → List Value} {st0 : List Value} {v : Int32} (hc : Ct d y bytes maxL ret ra σ (some (.int v)) σ') (hcal : Cal y bytes maxL n ret) (hv : Cond.static y ∈ GW) (hlk : Cond.methodLink own idx y ∈ GW)
    (hst : st0 = ra (xad X) ++ st) (hn : (ra (xad X)).length = n)
    (hroom : (st.map fun v => v.category).sum ≤ 8) (hdd : d + 1 ≤ D ∧ maxL ≤ 19) (hd : decode cc pc = .ok (.invokestatic idx, 3)) (kk : JJ X (pc + 3) ls (.int v :: st) σ') : JJ X pc ls st0 σ := JJ.callS hX hc hcal hv hlk hst hn hroom hdd hd kk
theorem JJ.callSl (hX : Ok X own cc nL D) {d idx maxL n : Nat} {y : MethodName} {bytes : ByteArray} {ret : Option FieldType} {ra : (Nat → Nat) → List Value} {st0 : List Value} {v : Int64} (hc : Ct d y bytes maxL ret ra σ (some (.long v)) σ') (hcal : Cal y bytes maxL n ret) (hv : Cond.static y ∈ GW) (hlk : Cond.methodLink own idx y ∈ GW)
    (hst : st0 = ra (xad X) ++ st) (hn : (ra (xad X)).length = n)
    (hroom : (st.map fun v => v.category).sum ≤ 8) (hdd : d + 1 ≤ D ∧ maxL ≤ 19) (hd : decode cc pc = .ok (.invokestatic idx, 3)) (kk : JJ X (pc + 3) ls (.long v :: st) σ') : JJ X pc ls st0 σ := JJ.callS hX hc hcal hv hlk hst hn hroom hdd hd kk
theorem JJ.callSv (hX : Ok X own cc nL D) {d idx maxL n : Nat} {y : MethodName} {bytes : ByteArray} {ret : Option FieldType} {ra : (Nat → Nat) → List Value} {st0 : List Value} (hc : Ct d y bytes maxL ret ra σ none σ') (hcal : Cal y bytes maxL n ret) (hv : Cond.static y ∈ GW) (hlk : Cond.methodLink own idx y ∈ GW)
    (hst : st0 = ra (xad X) ++ st) (hn : (ra (xad X)).length = n)
    (hroom : (st.map fun v => v.category).sum ≤ 8) (hdd : d + 1 ≤ D ∧ maxL ≤ 19) (hd : decode cc pc = .ok (.invokestatic idx, 3)) (kk : JJ X (pc + 3) ls (st) σ') : JJ X pc ls st0 σ := JJ.callS hX hc hcal hv hlk hst hn hroom hdd hd kk
theorem JJ.callSNi (hX : Ok X own cc nL D) {d idx maxL n : Nat} {y : MethodName} {host : String} {bytes : ByteArray} {ret : Option FieldType} {ra : (Nat → Nat) → List Value} {st0 : List Value} {v : Int32} (hc : Ct d y bytes maxL ret ra σ (some (.int v)) σ') (hcal : Cal y bytes maxL n ret) (hv : Cond.static y ∈ GW) (hlk : Cond.methodLinkNest own idx y host ∈ nestW)
    (hst : st0 = ra (xad X) ++ st) (hn : (ra (xad X)).length = n)
    (hroom : (st.map fun v => v.category).sum ≤ 8) (hdd : d + 1 ≤ D ∧ maxL ≤ 19) (hd : decode cc pc = .ok (.invokestatic idx, 3)) (kk : JJ X (pc + 3) ls (.int v :: st) σ') : JJ X pc ls st0 σ := JJ.callSN hX hc hcal hv hlk hst hn hroom hdd hd kk
theorem JJ.callSNl (hX : Ok X own cc nL D) {d idx maxL n : Nat} {y : MethodName} {host : String} {bytes : ByteArray} {ret : Option FieldType} {ra : (Nat → Nat) → List Value} {st0 : List Value} {v : Int64} (hc : Ct d y bytes maxL ret ra σ (some (.long v)) σ') (hcal : Cal y bytes maxL n ret) (hv : Cond.static y ∈ GW) (hlk : Cond.methodLinkNest own idx y host ∈ nestW)
    (hst : st0 = ra (xad X) ++ st) (hn : (ra (xad X)).length = n)
    (hroom : (st.map fun v => v.category).sum ≤ 8) (hdd : d + 1 ≤ D ∧ maxL ≤ 19) (hd : decode cc pc = .ok (.invokestatic idx, 3)) (kk : JJ X (pc + 3) ls (.long v :: st) σ') : JJ X pc ls st0 σ := JJ.callSN hX hc hcal hv hlk hst hn hroom hdd hd kk
theorem JJ.callSNv (hX : Ok X own cc nL D) {d idx maxL n : Nat} {y : MethodName} {host : String} {bytes : ByteArray} {ret : Option FieldType} {ra : (Nat → Nat) → List Value} {st0 : List Value} (hc : Ct d y bytes maxL ret ra σ none σ') (hcal : Cal y bytes maxL n ret) (hv : Cond.static y ∈ GW) (hlk : Cond.methodLinkNest own idx y host ∈ nestW)
    (hst : st0 = ra (xad X) ++ st) (hn : (ra (xad X)).length = n)
    (hroom : (st.map fun v => v.category).sum ≤ 8) (hdd : d + 1 ≤ D ∧ maxL ≤ 19) (hd : decode cc pc = .ok (.invokestatic idx, 3)) (kk : JJ X (pc + 3) ls (st) σ') : JJ X pc ls st0 σ := JJ.callSN hX hc hcal hv hlk hst hn hroom hdd hd kk
-- the text constant and its bytes
theorem JJ.ldcS (hX : Ok X "LanternTongue$Page" cc nL D) (hd : decode cc pc = .ok (.ldc 58, 2)) (k : JJ X (pc + 2) ls (.ref (xad X 43) :: st) σ) : JJ X pc ls st σ := fun H locs lsA hP hS hl => va_ldcS hX.1 hX.2.1 hX.2.2.2.2.1 hX.2.2.2.2.2.2.2.2.2.2.2.1.2.1 hd (k H locs lsA hP hS hl)
theorem JJ.strV (hX : Ok X own cc nL D) {idx : Nat} (hlk : Cond.fieldLink own idx "java/lang/String" "value" "[B" ∈ GW) (hd : decode cc pc = .ok (.getfield idx, 3)) (k : JJ X (pc + 3) ls (.ref (xad X 44) :: st) σ) : JJ X pc ls (.ref (xad X 43) :: st) σ := fun H locs lsA hP hS hl => vk_getf hX.1 hX.2.1 (hX.2.2.2.2.2.2.2.2.2.2.2.1.1.1 0 (by decide)).2.2.1 hS hX.2.2.2.2.1 (hX.2.2.2.2.2.1 _ hlk) (fun _ h => h) hd (k H locs lsA hP hS hl)
theorem JJ.strC (hX : Ok X own cc nL D) {idx : Nat} (hlk : Cond.fieldLink own idx "java/lang/String" "coder" "B" ∈ GW) (hd : decode cc pc = .ok (.getfield idx, 3)) (k : JJ X (pc + 3) ls (.int 0 :: st) σ) : JJ X pc ls (.ref (xad X 43) :: st) σ := fun H locs lsA hP hS hl => vk_getf hX.1 hX.2.1 (hX.2.2.2.2.2.2.2.2.2.2.2.1.1.1 0 (by decide)).2.1 hS hX.2.2.2.2.1 (hX.2.2.2.2.2.1 _ hlk) (fun _ h => h) hd (k H locs lsA hP hS hl)
theorem JJ.compact (hX : Ok X own cc nL D) {idx : Nat} (hlk : Cond.fieldLink own idx "java/lang/String" "COMPACT_STRINGS" "Z" ∈ GW) (hd : decode cc pc = .ok (.getstatic idx, 3)) (k : JJ X (pc + 3) ls (.int 1 :: st) σ) : JJ X pc ls st σ := fun H locs lsA hP hS hl => va_gets hX.1 hX.2.1 hX.2.2.2.2.2.2.2.2.2.2.2.1.2.2 hS hX.2.2.2.2.1 (hX.2.2.2.2.2.1 _ hlk) (fun _ h => h) hd (k H locs lsA hP hS hl)
def byteAt (k : Nat) : Int32 := [46, 100, 115, 98, 119].getD k 0
theorem JJ.bald (hX : Ok X own cc nL D) {i : Int32} (hin : vp_in i 5) (hd : decode cc pc = .ok (.baload, 1)) (k : JJ X (pc + 1) ls (.int (byteAt i.toNatClampNeg) :: st) σ) : JJ X pc ls (.int i :: .ref (xad X 44) :: st) σ := fun H locs lsA hP hS hl => va_tb hX.1 hX.2.1 (hX.2.2.2.2.2.2.2.2.2.2.2.1.1.1 0 (by decide)).2.2.2 hS hin rfl hd (k H locs lsA hP hS hl)
theorem JJ.blen (hX : Ok X own cc nL D) (hd : decode cc pc = .ok (.arraylength, 1)) (k : JJ X (pc + 1) ls (.int 5 :: st) σ) : JJ X pc ls (.ref (xad X 44) :: st) σ := fun H locs lsA hP hS hl => va_tlen hX.1 hX.2.1 (hX.2.2.2.2.2.2.2.2.2.2.2.1.1.1 0 (by decide)).2.2.2 hS rfl hd (k H locs lsA hP hS hl)
theorem JJ.i2b (hX : Ok X own cc nL D) {x : Int32} (hd : decode cc pc = .ok (.i2b, 1)) (k : JJ X (pc + 1) ls (.int x.toInt8.toInt32 :: st) σ) : JJ X pc ls (.int x :: st) σ := fun H locs lsA hP hS hl => lv_i2b hX.1 hX.2.1 hd rfl (k H locs lsA hP hS hl)
end ROWS
theorem gte {α : Type} {c : Prop} [Decidable c] {a : Option α} {r : α} (h : (if c then a else none) = some r) : c ∧ a = some r := by
  by_cases hc : c
  · rw [if_pos hc] at h; exact ⟨hc, h⟩
  · rw [if_neg hc] at h; cases h
theorem lk_out2 {x a b : Int32} {o0 o1 d : Int} (h0 : ¬ x = a) (h1 : ¬ x = b) : Op.lookupswitch.offset [(a.toInt, o0), (b.toInt, o1)] d x.toInt = d := by
  rw [Op.lookupswitch.offset_cons, if_neg (fun e => h0 (Int32.toInt_inj.mp e.symm)), Op.lookupswitch.offset_cons, if_neg (fun e => h1 (Int32.toInt_inj.mp e.symm))]
  rfl
theorem inB_of {i : Int32} {n : Nat} (h0 : ¬ i < 0) (h1 : ¬ nI n ≤ i) (hn : n < 2 ^ 31) : vp_in i n := by
  rcases pk_ix i hn with h | h | ⟨j, hj, rfl⟩
  · exact absurd h h0
  · exact absurd h h1
  · exact vp_in_nI hj hn
theorem ipos {α : Sort _} {c : Prop} [Decidable c] {a b x : α} (hc : c) (h : (if c then a else b) = x) : a = x := by rw [if_pos hc] at h; exact h
theorem ineg {α : Sort _} {c : Prop} [Decidable c] {a b x : α} (hc : ¬ c) (h : (if c then a else b) = x) : b = x := by rw [if_neg hc] at h; exact h
theorem bnd {α β : Type} {x : Option α} {f : α → Option β} {b : β} (h : x.bind f = some b) : ∃ a, x = some a ∧ f a = some b := by
  cases x with
  | none => cases h
  | some a => exact ⟨a, rfl, h⟩
/-- the index lies in a row of n places -/
def inB (i : Int32) (n : Nat) : Bool := !(decide (i < 0)) && Nat.blt i.toNatClampNeg n
theorem inB_in {i : Int32} {n : Nat} (h : inB i n = true) : vp_in i n := by
  unfold inB at h
  simp only [Bool.and_eq_true, Bool.not_eq_true', decide_eq_false_iff_not] at h
  intro z
  rcases z with z | z
  · exact h.1 z
  · have : i.toNatClampNeg < n := by simpa using h.2
    omega
end
