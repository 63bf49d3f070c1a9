section
-- ===== PART A: goes FIRST, ahead of the names: the tables' words, and 'selects' of the private methods out of them =====
/-- a private method of a class that the tables say can be made, by its rows of tables_1 -/
def lw_okq (q : MethodName × Nat) : Prop := (q.1.cls ≠ "java/lang/invoke/MethodHandle" ∧ q.1.cls ≠ "java/lang/invoke/VarHandle") ∧ Cond.instantiable q.1.cls q.2 ∈ tables_1 ∧ Cond.privateMethod q.1 ∈ tables_1 ∧ Cond.instanceMethod q.1 ∈ tables_1
theorem lw_p0 : lw_okq (⟨"CityCups", "isNode", "(I)Z"⟩, 12) := ⟨⟨by decide +kernel, by decide +kernel⟩, List.mem_of_getElem? (i := 23) (by decide +kernel), List.mem_of_getElem? (i := 523) (by decide +kernel), List.mem_of_getElem? (i := 524) (by decide +kernel)⟩
theorem lw_p1 : lw_okq (⟨"CityCups", "isTap", "(I)Z"⟩, 12) := ⟨⟨by decide +kernel, by decide +kernel⟩, List.mem_of_getElem? (i := 23) (by decide +kernel), List.mem_of_getElem? (i := 566) (by decide +kernel), List.mem_of_getElem? (i := 567) (by decide +kernel)⟩
theorem lw_p2 : lw_okq (⟨"CityCups", "tellOfTap", "(LCityCups$Ledger;III)I"⟩, 12) := ⟨⟨by decide +kernel, by decide +kernel⟩, List.mem_of_getElem? (i := 23) (by decide +kernel), List.mem_of_getElem? (i := 578) (by decide +kernel), List.mem_of_getElem? (i := 579) (by decide +kernel)⟩
theorem lw_p3 : lw_okq (⟨"CityCups", "isPast", "(I)Z"⟩, 12) := ⟨⟨by decide +kernel, by decide +kernel⟩, List.mem_of_getElem? (i := 23) (by decide +kernel), List.mem_of_getElem? (i := 582) (by decide +kernel), List.mem_of_getElem? (i := 583) (by decide +kernel)⟩
theorem lw_p4 : lw_okq (⟨"CityCups", "tellOfCity", "(LCityCups$Ledger;II)I"⟩, 12) := ⟨⟨by decide +kernel, by decide +kernel⟩, List.mem_of_getElem? (i := 23) (by decide +kernel), List.mem_of_getElem? (i := 594) (by decide +kernel), List.mem_of_getElem? (i := 595) (by decide +kernel)⟩
theorem lw_p5 : lw_okq (⟨"CityCups$Reader", "readToken", "()V"⟩, 12) := ⟨⟨by decide +kernel, by decide +kernel⟩, List.mem_of_getElem? (i := 265) (by decide +kernel), List.mem_of_getElem? (i := 680) (by decide +kernel), List.mem_of_getElem? (i := 681) (by decide +kernel)⟩
theorem lw_p6 : lw_okq (⟨"CityCups$Reader", "kindAt", "(I)I"⟩, 12) := ⟨⟨by decide +kernel, by decide +kernel⟩, List.mem_of_getElem? (i := 265) (by decide +kernel), List.mem_of_getElem? (i := 684) (by decide +kernel), List.mem_of_getElem? (i := 685) (by decide +kernel)⟩
theorem lw_p7 : lw_okq (⟨"CityCups$Reader", "readStatement", "(IZ)Z"⟩, 12) := ⟨⟨by decide +kernel, by decide +kernel⟩, List.mem_of_getElem? (i := 265) (by decide +kernel), List.mem_of_getElem? (i := 691) (by decide +kernel), List.mem_of_getElem? (i := 692) (by decide +kernel)⟩
theorem lw_p8 : lw_okq (⟨"CityCups$Reader", "verdictOf", "(Z)I"⟩, 12) := ⟨⟨by decide +kernel, by decide +kernel⟩, List.mem_of_getElem? (i := 265) (by decide +kernel), List.mem_of_getElem? (i := 695) (by decide +kernel), List.mem_of_getElem? (i := 696) (by decide +kernel)⟩
theorem lw_p9 : lw_okq (⟨"CityCups$Reader", "isWord", "(Ljava/lang/String;)Z"⟩, 12) := ⟨⟨by decide +kernel, by decide +kernel⟩, List.mem_of_getElem? (i := 265) (by decide +kernel), List.mem_of_getElem? (i := 701) (by decide +kernel), List.mem_of_getElem? (i := 702) (by decide +kernel)⟩
theorem lw_p10 : lw_okq (⟨"CityCups$Reader", "workAtHand", "()I"⟩, 12) := ⟨⟨by decide +kernel, by decide +kernel⟩, List.mem_of_getElem? (i := 265) (by decide +kernel), List.mem_of_getElem? (i := 755) (by decide +kernel), List.mem_of_getElem? (i := 756) (by decide +kernel)⟩
theorem lw_p11 : lw_okq (⟨"CityCups$Reader", "readAny", "(I)Z"⟩, 12) := ⟨⟨by decide +kernel, by decide +kernel⟩, List.mem_of_getElem? (i := 265) (by decide +kernel), List.mem_of_getElem? (i := 766) (by decide +kernel), List.mem_of_getElem? (i := 767) (by decide +kernel)⟩
theorem lw_p12 : lw_okq (⟨"CityCups$Reader", "readAll", "(I)Z"⟩, 12) := ⟨⟨by decide +kernel, by decide +kernel⟩, List.mem_of_getElem? (i := 265) (by decide +kernel), List.mem_of_getElem? (i := 770) (by decide +kernel), List.mem_of_getElem? (i := 771) (by decide +kernel)⟩
theorem lw_p13 : lw_okq (⟨"CityCups$Reader", "readOne", "(I)Z"⟩, 12) := ⟨⟨by decide +kernel, by decide +kernel⟩, List.mem_of_getElem? (i := 265) (by decide +kernel), List.mem_of_getElem? (i := 774) (by decide +kernel), List.mem_of_getElem? (i := 775) (by decide +kernel)⟩
theorem lw_p14 : lw_okq (⟨"CityCups$Reader", "isSign", "(I)Z"⟩, 12) := ⟨⟨by decide +kernel, by decide +kernel⟩, List.mem_of_getElem? (i := 265) (by decide +kernel), List.mem_of_getElem? (i := 779) (by decide +kernel), List.mem_of_getElem? (i := 780) (by decide +kernel)⟩
theorem lw_p15 : lw_okq (⟨"CityCups$Reader", "readComparison", "()Z"⟩, 12) := ⟨⟨by decide +kernel, by decide +kernel⟩, List.mem_of_getElem? (i := 265) (by decide +kernel), List.mem_of_getElem? (i := 783) (by decide +kernel), List.mem_of_getElem? (i := 784) (by decide +kernel)⟩
def lw_privs_1 : List (MethodName × Nat) := [(⟨"CityCups", "isNode", "(I)Z"⟩, 12), (⟨"CityCups", "isTap", "(I)Z"⟩, 12), (⟨"CityCups", "tellOfTap", "(LCityCups$Ledger;III)I"⟩, 12), (⟨"CityCups", "isPast", "(I)Z"⟩, 12), (⟨"CityCups", "tellOfCity", "(LCityCups$Ledger;II)I"⟩, 12), (⟨"CityCups$Reader", "readToken", "()V"⟩, 12), (⟨"CityCups$Reader", "kindAt", "(I)I"⟩, 12), (⟨"CityCups$Reader", "readStatement", "(IZ)Z"⟩, 12), (⟨"CityCups$Reader", "verdictOf", "(Z)I"⟩, 12), (⟨"CityCups$Reader", "isWord", "(Ljava/lang/String;)Z"⟩, 12), (⟨"CityCups$Reader", "workAtHand", "()I"⟩, 12), (⟨"CityCups$Reader", "readAny", "(I)Z"⟩, 12), (⟨"CityCups$Reader", "readAll", "(I)Z"⟩, 12), (⟨"CityCups$Reader", "readOne", "(I)Z"⟩, 12), (⟨"CityCups$Reader", "isSign", "(I)Z"⟩, 12), (⟨"CityCups$Reader", "readComparison", "()Z"⟩, 12)]
theorem lw_r1 : ∀ q ∈ lw_privs_1, lw_okq q := List.forall_mem_cons.mpr ⟨lw_p0, List.forall_mem_cons.mpr ⟨lw_p1, List.forall_mem_cons.mpr ⟨lw_p2, List.forall_mem_cons.mpr ⟨lw_p3, List.forall_mem_cons.mpr ⟨lw_p4, List.forall_mem_cons.mpr ⟨lw_p5, List.forall_mem_cons.mpr ⟨lw_p6, List.forall_mem_cons.mpr ⟨lw_p7, List.forall_mem_cons.mpr ⟨lw_p8, List.forall_mem_cons.mpr ⟨lw_p9, List.forall_mem_cons.mpr ⟨lw_p10, List.forall_mem_cons.mpr ⟨lw_p11, List.forall_mem_cons.mpr ⟨lw_p12, List.forall_mem_cons.mpr ⟨lw_p13, List.forall_mem_cons.mpr ⟨lw_p14, List.forall_mem_cons.mpr ⟨lw_p15, fun _ h => absurd h List.not_mem_nil⟩⟩⟩⟩⟩⟩⟩⟩⟩⟩⟩⟩⟩⟩⟩⟩
theorem lw_p16 : lw_okq (⟨"CityCups$Reader", "factAtHand", "()I"⟩, 12) := ⟨⟨by decide +kernel, by decide +kernel⟩, List.mem_of_getElem? (i := 265) (by decide +kernel), List.mem_of_getElem? (i := 787) (by decide +kernel), List.mem_of_getElem? (i := 788) (by decide +kernel)⟩
theorem lw_p17 : lw_okq (⟨"CityCups$Reader", "numberAtHand", "()I"⟩, 12) := ⟨⟨by decide +kernel, by decide +kernel⟩, List.mem_of_getElem? (i := 265) (by decide +kernel), List.mem_of_getElem? (i := 796) (by decide +kernel), List.mem_of_getElem? (i := 797) (by decide +kernel)⟩
theorem lw_p18 : lw_okq (⟨"CityCups$Reader", "emit", "(I)V"⟩, 12) := ⟨⟨by decide +kernel, by decide +kernel⟩, List.mem_of_getElem? (i := 265) (by decide +kernel), List.mem_of_getElem? (i := 804) (by decide +kernel), List.mem_of_getElem? (i := 805) (by decide +kernel)⟩
theorem lw_p19 : lw_okq (⟨"CityCups", "endText", "(I)V"⟩, 12) := ⟨⟨by decide +kernel, by decide +kernel⟩, List.mem_of_getElem? (i := 23) (by decide +kernel), List.mem_of_getElem? (i := 828) (by decide +kernel), List.mem_of_getElem? (i := 829) (by decide +kernel)⟩
theorem lw_p20 : lw_okq (⟨"CityCups$Names", "isFit", "(II)Z"⟩, 8) := ⟨⟨by decide +kernel, by decide +kernel⟩, List.mem_of_getElem? (i := 358) (by decide +kernel), List.mem_of_getElem? (i := 860) (by decide +kernel), List.mem_of_getElem? (i := 861) (by decide +kernel)⟩
theorem lw_p21 : lw_okq (⟨"CityCups", "isJobOf", "(III)Z"⟩, 12) := ⟨⟨by decide +kernel, by decide +kernel⟩, List.mem_of_getElem? (i := 23) (by decide +kernel), List.mem_of_getElem? (i := 886) (by decide +kernel), List.mem_of_getElem? (i := 887) (by decide +kernel)⟩
theorem lw_p22 : lw_okq (⟨"CityCups", "isJob", "(I)Z"⟩, 12) := ⟨⟨by decide +kernel, by decide +kernel⟩, List.mem_of_getElem? (i := 23) (by decide +kernel), List.mem_of_getElem? (i := 898) (by decide +kernel), List.mem_of_getElem? (i := 899) (by decide +kernel)⟩
theorem lw_p23 : lw_okq (⟨"CityCups", "payersOfJob", "(I)I"⟩, 12) := ⟨⟨by decide +kernel, by decide +kernel⟩, List.mem_of_getElem? (i := 23) (by decide +kernel), List.mem_of_getElem? (i := 906) (by decide +kernel), List.mem_of_getElem? (i := 907) (by decide +kernel)⟩
theorem lw_p24 : lw_okq (⟨"CityCups", "payersOf", "(III)I"⟩, 12) := ⟨⟨by decide +kernel, by decide +kernel⟩, List.mem_of_getElem? (i := 23) (by decide +kernel), List.mem_of_getElem? (i := 910) (by decide +kernel), List.mem_of_getElem? (i := 911) (by decide +kernel)⟩
theorem lw_p25 : lw_okq (⟨"CityCups", "gatherFacts", "(IIII)V"⟩, 12) := ⟨⟨by decide +kernel, by decide +kernel⟩, List.mem_of_getElem? (i := 23) (by decide +kernel), List.mem_of_getElem? (i := 914) (by decide +kernel), List.mem_of_getElem? (i := 915) (by decide +kernel)⟩
theorem lw_p26 : lw_okq (⟨"CityCups$Law", "holds", "(II[I)Z"⟩, 4) := ⟨⟨by decide +kernel, by decide +kernel⟩, List.mem_of_getElem? (i := 463) (by decide +kernel), List.mem_of_getElem? (i := 931) (by decide +kernel), List.mem_of_getElem? (i := 932) (by decide +kernel)⟩
theorem lw_p27 : lw_okq (⟨"CityCups", "deliberate", "()V"⟩, 12) := ⟨⟨by decide +kernel, by decide +kernel⟩, List.mem_of_getElem? (i := 23) (by decide +kernel), List.mem_of_getElem? (i := 946) (by decide +kernel), List.mem_of_getElem? (i := 947) (by decide +kernel)⟩
theorem lw_p28 : lw_okq (⟨"CityCups$Trusts", "decide", "(III)V"⟩, 10) := ⟨⟨by decide +kernel, by decide +kernel⟩, List.mem_of_getElem? (i := 311) (by decide +kernel), List.mem_of_getElem? (i := 960) (by decide +kernel), List.mem_of_getElem? (i := 961) (by decide +kernel)⟩
theorem lw_p29 : lw_okq (⟨"CityCups", "isShut", "(III)Z"⟩, 12) := ⟨⟨by decide +kernel, by decide +kernel⟩, List.mem_of_getElem? (i := 23) (by decide +kernel), List.mem_of_getElem? (i := 993) (by decide +kernel), List.mem_of_getElem? (i := 994) (by decide +kernel)⟩
theorem lw_p30 : lw_okq (⟨"CityCups", "isCapped", "(III)Z"⟩, 12) := ⟨⟨by decide +kernel, by decide +kernel⟩, List.mem_of_getElem? (i := 23) (by decide +kernel), List.mem_of_getElem? (i := 997) (by decide +kernel), List.mem_of_getElem? (i := 998) (by decide +kernel)⟩
theorem lw_p31 : lw_okq (⟨"CityCups", "isHouse", "(I)Z"⟩, 12) := ⟨⟨by decide +kernel, by decide +kernel⟩, List.mem_of_getElem? (i := 23) (by decide +kernel), List.mem_of_getElem? (i := 1005) (by decide +kernel), List.mem_of_getElem? (i := 1006) (by decide +kernel)⟩
def lw_privs_2 : List (MethodName × Nat) := [(⟨"CityCups$Reader", "factAtHand", "()I"⟩, 12), (⟨"CityCups$Reader", "numberAtHand", "()I"⟩, 12), (⟨"CityCups$Reader", "emit", "(I)V"⟩, 12), (⟨"CityCups", "endText", "(I)V"⟩, 12), (⟨"CityCups$Names", "isFit", "(II)Z"⟩, 8), (⟨"CityCups", "isJobOf", "(III)Z"⟩, 12), (⟨"CityCups", "isJob", "(I)Z"⟩, 12), (⟨"CityCups", "payersOfJob", "(I)I"⟩, 12), (⟨"CityCups", "payersOf", "(III)I"⟩, 12), (⟨"CityCups", "gatherFacts", "(IIII)V"⟩, 12), (⟨"CityCups$Law", "holds", "(II[I)Z"⟩, 4), (⟨"CityCups", "deliberate", "()V"⟩, 12), (⟨"CityCups$Trusts", "decide", "(III)V"⟩, 10), (⟨"CityCups", "isShut", "(III)Z"⟩, 12), (⟨"CityCups", "isCapped", "(III)Z"⟩, 12), (⟨"CityCups", "isHouse", "(I)Z"⟩, 12)]
theorem lw_r2 : ∀ q ∈ lw_privs_2, lw_okq q := List.forall_mem_cons.mpr ⟨lw_p16, List.forall_mem_cons.mpr ⟨lw_p17, List.forall_mem_cons.mpr ⟨lw_p18, List.forall_mem_cons.mpr ⟨lw_p19, List.forall_mem_cons.mpr ⟨lw_p20, List.forall_mem_cons.mpr ⟨lw_p21, List.forall_mem_cons.mpr ⟨lw_p22, List.forall_mem_cons.mpr ⟨lw_p23, List.forall_mem_cons.mpr ⟨lw_p24, List.forall_mem_cons.mpr ⟨lw_p25, List.forall_mem_cons.mpr ⟨lw_p26, List.forall_mem_cons.mpr ⟨lw_p27, List.forall_mem_cons.mpr ⟨lw_p28, List.forall_mem_cons.mpr ⟨lw_p29, List.forall_mem_cons.mpr ⟨lw_p30, List.forall_mem_cons.mpr ⟨lw_p31, fun _ h => absurd h List.not_mem_nil⟩⟩⟩⟩⟩⟩⟩⟩⟩⟩⟩⟩⟩⟩⟩⟩
theorem lw_p32 : lw_okq (⟨"CityCups", "uncappedTaps", "(ZII)I"⟩, 12) := ⟨⟨by decide +kernel, by decide +kernel⟩, List.mem_of_getElem? (i := 23) (by decide +kernel), List.mem_of_getElem? (i := 1012) (by decide +kernel), List.mem_of_getElem? (i := 1013) (by decide +kernel)⟩
theorem lw_p33 : lw_okq (⟨"CityCups", "thirstyHouses", "(III)I"⟩, 12) := ⟨⟨by decide +kernel, by decide +kernel⟩, List.mem_of_getElem? (i := 23) (by decide +kernel), List.mem_of_getElem? (i := 1035) (by decide +kernel), List.mem_of_getElem? (i := 1036) (by decide +kernel)⟩
theorem lw_p34 : lw_okq (⟨"CityCups$Cover", "choose", "(IIII)V"⟩, 8) := ⟨⟨by decide +kernel, by decide +kernel⟩, List.mem_of_getElem? (i := 431) (by decide +kernel), List.mem_of_getElem? (i := 1065) (by decide +kernel), List.mem_of_getElem? (i := 1066) (by decide +kernel)⟩
theorem lw_p35 : lw_okq (⟨"CityCups$Cover", "pack", "(III)V"⟩, 8) := ⟨⟨by decide +kernel, by decide +kernel⟩, List.mem_of_getElem? (i := 431) (by decide +kernel), List.mem_of_getElem? (i := 1073) (by decide +kernel), List.mem_of_getElem? (i := 1074) (by decide +kernel)⟩
theorem lw_p36 : lw_okq (⟨"CityCups", "cleanPipes", "(I)I"⟩, 12) := ⟨⟨by decide +kernel, by decide +kernel⟩, List.mem_of_getElem? (i := 23) (by decide +kernel), List.mem_of_getElem? (i := 1098) (by decide +kernel), List.mem_of_getElem? (i := 1099) (by decide +kernel)⟩
theorem lw_p37 : lw_okq (⟨"CityCups", "isLeadSure", "(III)Z"⟩, 12) := ⟨⟨by decide +kernel, by decide +kernel⟩, List.mem_of_getElem? (i := 23) (by decide +kernel), List.mem_of_getElem? (i := 1102) (by decide +kernel), List.mem_of_getElem? (i := 1103) (by decide +kernel)⟩
theorem lw_p38 : lw_okq (⟨"CityCups", "mostFlow", "(III)I"⟩, 12) := ⟨⟨by decide +kernel, by decide +kernel⟩, List.mem_of_getElem? (i := 23) (by decide +kernel), List.mem_of_getElem? (i := 1111) (by decide +kernel), List.mem_of_getElem? (i := 1112) (by decide +kernel)⟩
theorem lw_p39 : lw_okq (⟨"CityCups", "leastFlow", "(III)I"⟩, 12) := ⟨⟨by decide +kernel, by decide +kernel⟩, List.mem_of_getElem? (i := 23) (by decide +kernel), List.mem_of_getElem? (i := 1115) (by decide +kernel), List.mem_of_getElem? (i := 1116) (by decide +kernel)⟩
theorem lw_p40 : lw_okq (⟨"CityCups", "areTaps", "(II)Z"⟩, 12) := ⟨⟨by decide +kernel, by decide +kernel⟩, List.mem_of_getElem? (i := 23) (by decide +kernel), List.mem_of_getElem? (i := 1123) (by decide +kernel), List.mem_of_getElem? (i := 1124) (by decide +kernel)⟩
theorem lw_p41 : lw_okq (⟨"CityCups$Walker", "gather", "(LCityCups$City;I)V"⟩, 10) := ⟨⟨by decide +kernel, by decide +kernel⟩, List.mem_of_getElem? (i := 392) (by decide +kernel), List.mem_of_getElem? (i := 1131) (by decide +kernel), List.mem_of_getElem? (i := 1132) (by decide +kernel)⟩
theorem lw_p42 : lw_okq (⟨"CityCups$Walker", "shortestTo", "(III)I"⟩, 10) := ⟨⟨by decide +kernel, by decide +kernel⟩, List.mem_of_getElem? (i := 392) (by decide +kernel), List.mem_of_getElem? (i := 1136) (by decide +kernel), List.mem_of_getElem? (i := 1137) (by decide +kernel)⟩
theorem lw_p43 : lw_okq (⟨"CityCups$Walker", "goOn", "(IIIII)V"⟩, 10) := ⟨⟨by decide +kernel, by decide +kernel⟩, List.mem_of_getElem? (i := 392) (by decide +kernel), List.mem_of_getElem? (i := 1153) (by decide +kernel), List.mem_of_getElem? (i := 1154) (by decide +kernel)⟩
theorem lw_p44 : lw_okq (⟨"CityCups", "troughsOn", "(II)I"⟩, 12) := ⟨⟨by decide +kernel, by decide +kernel⟩, List.mem_of_getElem? (i := 23) (by decide +kernel), List.mem_of_getElem? (i := 1162) (by decide +kernel), List.mem_of_getElem? (i := 1163) (by decide +kernel)⟩
theorem lw_p45 : lw_okq (⟨"CityCups", "isWorn", "(I)Z"⟩, 12) := ⟨⟨by decide +kernel, by decide +kernel⟩, List.mem_of_getElem? (i := 23) (by decide +kernel), List.mem_of_getElem? (i := 1186) (by decide +kernel), List.mem_of_getElem? (i := 1187) (by decide +kernel)⟩
theorem lw_p46 : lw_okq (⟨"CityCups$Names", "findDonor", "(II)Z"⟩, 8) := ⟨⟨by decide +kernel, by decide +kernel⟩, List.mem_of_getElem? (i := 358) (by decide +kernel), List.mem_of_getElem? (i := 1202) (by decide +kernel), List.mem_of_getElem? (i := 1203) (by decide +kernel)⟩
theorem lw_p47 : lw_okq (⟨"CityCups", "expectedBursts", "(III)I"⟩, 12) := ⟨⟨by decide +kernel, by decide +kernel⟩, List.mem_of_getElem? (i := 23) (by decide +kernel), List.mem_of_getElem? (i := 1217) (by decide +kernel), List.mem_of_getElem? (i := 1218) (by decide +kernel)⟩
def lw_privs_3 : List (MethodName × Nat) := [(⟨"CityCups", "uncappedTaps", "(ZII)I"⟩, 12), (⟨"CityCups", "thirstyHouses", "(III)I"⟩, 12), (⟨"CityCups$Cover", "choose", "(IIII)V"⟩, 8), (⟨"CityCups$Cover", "pack", "(III)V"⟩, 8), (⟨"CityCups", "cleanPipes", "(I)I"⟩, 12), (⟨"CityCups", "isLeadSure", "(III)Z"⟩, 12), (⟨"CityCups", "mostFlow", "(III)I"⟩, 12), (⟨"CityCups", "leastFlow", "(III)I"⟩, 12), (⟨"CityCups", "areTaps", "(II)Z"⟩, 12), (⟨"CityCups$Walker", "gather", "(LCityCups$City;I)V"⟩, 10), (⟨"CityCups$Walker", "shortestTo", "(III)I"⟩, 10), (⟨"CityCups$Walker", "goOn", "(IIIII)V"⟩, 10), (⟨"CityCups", "troughsOn", "(II)I"⟩, 12), (⟨"CityCups", "isWorn", "(I)Z"⟩, 12), (⟨"CityCups$Names", "findDonor", "(II)Z"⟩, 8), (⟨"CityCups", "expectedBursts", "(III)I"⟩, 12)]
theorem lw_r3 : ∀ q ∈ lw_privs_3, lw_okq q := List.forall_mem_cons.mpr ⟨lw_p32, List.forall_mem_cons.mpr ⟨lw_p33, List.forall_mem_cons.mpr ⟨lw_p34, List.forall_mem_cons.mpr ⟨lw_p35, List.forall_mem_cons.mpr ⟨lw_p36, List.forall_mem_cons.mpr ⟨lw_p37, List.forall_mem_cons.mpr ⟨lw_p38, List.forall_mem_cons.mpr ⟨lw_p39, List.forall_mem_cons.mpr ⟨lw_p40, List.forall_mem_cons.mpr ⟨lw_p41, List.forall_mem_cons.mpr ⟨lw_p42, List.forall_mem_cons.mpr ⟨lw_p43, List.forall_mem_cons.mpr ⟨lw_p44, List.forall_mem_cons.mpr ⟨lw_p45, List.forall_mem_cons.mpr ⟨lw_p46, List.forall_mem_cons.mpr ⟨lw_p47, fun _ h => absurd h List.not_mem_nil⟩⟩⟩⟩⟩⟩⟩⟩⟩⟩⟩⟩⟩⟩⟩⟩
theorem lw_p48 : lw_okq (⟨"CityCups", "isByIce", "(III)Z"⟩, 12) := ⟨⟨by decide +kernel, by decide +kernel⟩, List.mem_of_getElem? (i := 23) (by decide +kernel), List.mem_of_getElem? (i := 1225) (by decide +kernel), List.mem_of_getElem? (i := 1226) (by decide +kernel)⟩
theorem lw_p49 : lw_okq (⟨"CityCups$Jobs", "isStoneDone", "(II)Z"⟩, 7) := ⟨⟨by decide +kernel, by decide +kernel⟩, List.mem_of_getElem? (i := 210) (by decide +kernel), List.mem_of_getElem? (i := 1237) (by decide +kernel), List.mem_of_getElem? (i := 1238) (by decide +kernel)⟩
theorem lw_p50 : lw_okq (⟨"CityCups", "stoneDays", "(I)I"⟩, 12) := ⟨⟨by decide +kernel, by decide +kernel⟩, List.mem_of_getElem? (i := 23) (by decide +kernel), List.mem_of_getElem? (i := 1241) (by decide +kernel), List.mem_of_getElem? (i := 1242) (by decide +kernel)⟩
theorem lw_p51 : lw_okq (⟨"CityCups", "damagesSeen", "(III)I"⟩, 12) := ⟨⟨by decide +kernel, by decide +kernel⟩, List.mem_of_getElem? (i := 23) (by decide +kernel), List.mem_of_getElem? (i := 1259) (by decide +kernel), List.mem_of_getElem? (i := 1260) (by decide +kernel)⟩
theorem lw_p52 : lw_okq (⟨"CityCups", "sumFillings", "(III)V"⟩, 12) := ⟨⟨by decide +kernel, by decide +kernel⟩, List.mem_of_getElem? (i := 23) (by decide +kernel), List.mem_of_getElem? (i := 1270) (by decide +kernel), List.mem_of_getElem? (i := 1271) (by decide +kernel)⟩
theorem lw_p53 : lw_okq (⟨"CityCups", "tapsAheadOf", "(I)I"⟩, 12) := ⟨⟨by decide +kernel, by decide +kernel⟩, List.mem_of_getElem? (i := 23) (by decide +kernel), List.mem_of_getElem? (i := 1279) (by decide +kernel), List.mem_of_getElem? (i := 1280) (by decide +kernel)⟩
theorem lw_p54 : lw_okq (⟨"CityCupsModel", "copies", "(II)V"⟩, 87) := ⟨⟨by decide +kernel, by decide +kernel⟩, List.mem_of_getElem? (i := 1336) (by decide +kernel), List.mem_of_getElem? (i := 1609) (by decide +kernel), List.mem_of_getElem? (i := 1610) (by decide +kernel)⟩
theorem lw_p55 : lw_okq (⟨"CityCupsModel", "isNode", "(I)Z"⟩, 87) := ⟨⟨by decide +kernel, by decide +kernel⟩, List.mem_of_getElem? (i := 1336) (by decide +kernel), List.mem_of_getElem? (i := 1624) (by decide +kernel), List.mem_of_getElem? (i := 1625) (by decide +kernel)⟩
theorem lw_p56 : lw_okq (⟨"CityCupsModel", "isTap", "(I)Z"⟩, 87) := ⟨⟨by decide +kernel, by decide +kernel⟩, List.mem_of_getElem? (i := 1336) (by decide +kernel), List.mem_of_getElem? (i := 1656) (by decide +kernel), List.mem_of_getElem? (i := 1657) (by decide +kernel)⟩
theorem lw_p57 : lw_okq (⟨"CityCupsModel", "tells", "(IIIII)I"⟩, 87) := ⟨⟨by decide +kernel, by decide +kernel⟩, List.mem_of_getElem? (i := 1336) (by decide +kernel), List.mem_of_getElem? (i := 1672) (by decide +kernel), List.mem_of_getElem? (i := 1673) (by decide +kernel)⟩
theorem lw_p58 : lw_okq (⟨"CityCupsModel", "toldOf", "(I)I"⟩, 87) := ⟨⟨by decide +kernel, by decide +kernel⟩, List.mem_of_getElem? (i := 1336) (by decide +kernel), List.mem_of_getElem? (i := 1676) (by decide +kernel), List.mem_of_getElem? (i := 1677) (by decide +kernel)⟩
theorem lw_p59 : lw_okq (⟨"CityCupsModel", "reads", "(IZI)Z"⟩, 87) := ⟨⟨by decide +kernel, by decide +kernel⟩, List.mem_of_getElem? (i := 1336) (by decide +kernel), List.mem_of_getElem? (i := 1732) (by decide +kernel), List.mem_of_getElem? (i := 1733) (by decide +kernel)⟩
theorem lw_p60 : lw_okq (⟨"CityCupsModel", "beginsText", "(I)V"⟩, 87) := ⟨⟨by decide +kernel, by decide +kernel⟩, List.mem_of_getElem? (i := 1336) (by decide +kernel), List.mem_of_getElem? (i := 1736) (by decide +kernel), List.mem_of_getElem? (i := 1737) (by decide +kernel)⟩
theorem lw_p61 : lw_okq (⟨"CityCupsModel", "next", "()V"⟩, 87) := ⟨⟨by decide +kernel, by decide +kernel⟩, List.mem_of_getElem? (i := 1336) (by decide +kernel), List.mem_of_getElem? (i := 1740) (by decide +kernel), List.mem_of_getElem? (i := 1741) (by decide +kernel)⟩
theorem lw_p62 : lw_okq (⟨"CityCupsModel", "here", "()I"⟩, 87) := ⟨⟨by decide +kernel, by decide +kernel⟩, List.mem_of_getElem? (i := 1336) (by decide +kernel), List.mem_of_getElem? (i := 1744) (by decide +kernel), List.mem_of_getElem? (i := 1745) (by decide +kernel)⟩
theorem lw_p63 : lw_okq (⟨"CityCupsModel", "readStatement", "(Z)V"⟩, 87) := ⟨⟨by decide +kernel, by decide +kernel⟩, List.mem_of_getElem? (i := 1336) (by decide +kernel), List.mem_of_getElem? (i := 1751) (by decide +kernel), List.mem_of_getElem? (i := 1752) (by decide +kernel)⟩
def lw_privs_4 : List (MethodName × Nat) := [(⟨"CityCups", "isByIce", "(III)Z"⟩, 12), (⟨"CityCups$Jobs", "isStoneDone", "(II)Z"⟩, 7), (⟨"CityCups", "stoneDays", "(I)I"⟩, 12), (⟨"CityCups", "damagesSeen", "(III)I"⟩, 12), (⟨"CityCups", "sumFillings", "(III)V"⟩, 12), (⟨"CityCups", "tapsAheadOf", "(I)I"⟩, 12), (⟨"CityCupsModel", "copies", "(II)V"⟩, 87), (⟨"CityCupsModel", "isNode", "(I)Z"⟩, 87), (⟨"CityCupsModel", "isTap", "(I)Z"⟩, 87), (⟨"CityCupsModel", "tells", "(IIIII)I"⟩, 87), (⟨"CityCupsModel", "toldOf", "(I)I"⟩, 87), (⟨"CityCupsModel", "reads", "(IZI)Z"⟩, 87), (⟨"CityCupsModel", "beginsText", "(I)V"⟩, 87), (⟨"CityCupsModel", "next", "()V"⟩, 87), (⟨"CityCupsModel", "here", "()I"⟩, 87), (⟨"CityCupsModel", "readStatement", "(Z)V"⟩, 87)]
theorem lw_r4 : ∀ q ∈ lw_privs_4, lw_okq q := List.forall_mem_cons.mpr ⟨lw_p48, List.forall_mem_cons.mpr ⟨lw_p49, List.forall_mem_cons.mpr ⟨lw_p50, List.forall_mem_cons.mpr ⟨lw_p51, List.forall_mem_cons.mpr ⟨lw_p52, List.forall_mem_cons.mpr ⟨lw_p53, List.forall_mem_cons.mpr ⟨lw_p54, List.forall_mem_cons.mpr ⟨lw_p55, List.forall_mem_cons.mpr ⟨lw_p56, List.forall_mem_cons.mpr ⟨lw_p57, List.forall_mem_cons.mpr ⟨lw_p58, List.forall_mem_cons.mpr ⟨lw_p59, List.forall_mem_cons.mpr ⟨lw_p60, List.forall_mem_cons.mpr ⟨lw_p61, List.forall_mem_cons.mpr ⟨lw_p62, List.forall_mem_cons.mpr ⟨lw_p63, fun _ h => absurd h List.not_mem_nil⟩⟩⟩⟩⟩⟩⟩⟩⟩⟩⟩⟩⟩⟩⟩⟩
theorem lw_p64 : lw_okq (⟨"CityCupsModel", "errs", "()V"⟩, 87) := ⟨⟨by decide +kernel, by decide +kernel⟩, List.mem_of_getElem? (i := 1336) (by decide +kernel), List.mem_of_getElem? (i := 1755) (by decide +kernel), List.mem_of_getElem? (i := 1756) (by decide +kernel)⟩
theorem lw_p65 : lw_okq (⟨"CityCupsModel", "is", "(J)Z"⟩, 87) := ⟨⟨by decide +kernel, by decide +kernel⟩, List.mem_of_getElem? (i := 1336) (by decide +kernel), List.mem_of_getElem? (i := 1761) (by decide +kernel), List.mem_of_getElem? (i := 1762) (by decide +kernel)⟩
theorem lw_p66 : lw_okq (⟨"CityCupsModel", "workHere", "()I"⟩, 87) := ⟨⟨by decide +kernel, by decide +kernel⟩, List.mem_of_getElem? (i := 1336) (by decide +kernel), List.mem_of_getElem? (i := 1767) (by decide +kernel), List.mem_of_getElem? (i := 1768) (by decide +kernel)⟩
theorem lw_p67 : lw_okq (⟨"CityCupsModel", "readCondition", "()V"⟩, 87) := ⟨⟨by decide +kernel, by decide +kernel⟩, List.mem_of_getElem? (i := 1336) (by decide +kernel), List.mem_of_getElem? (i := 1778) (by decide +kernel), List.mem_of_getElem? (i := 1779) (by decide +kernel)⟩
theorem lw_p68 : lw_okq (⟨"CityCupsModel", "readTest", "()V"⟩, 87) := ⟨⟨by decide +kernel, by decide +kernel⟩, List.mem_of_getElem? (i := 1336) (by decide +kernel), List.mem_of_getElem? (i := 1783) (by decide +kernel), List.mem_of_getElem? (i := 1784) (by decide +kernel)⟩
theorem lw_p69 : lw_okq (⟨"CityCupsModel", "wordHere", "()I"⟩, 87) := ⟨⟨by decide +kernel, by decide +kernel⟩, List.mem_of_getElem? (i := 1336) (by decide +kernel), List.mem_of_getElem? (i := 1787) (by decide +kernel), List.mem_of_getElem? (i := 1788) (by decide +kernel)⟩
theorem lw_p70 : lw_okq (⟨"CityCupsModel", "step", "(IIII)V"⟩, 87) := ⟨⟨by decide +kernel, by decide +kernel⟩, List.mem_of_getElem? (i := 1336) (by decide +kernel), List.mem_of_getElem? (i := 1796) (by decide +kernel), List.mem_of_getElem? (i := 1797) (by decide +kernel)⟩
theorem lw_p71 : lw_okq (⟨"CityCupsModel", "closes", "()Z"⟩, 87) := ⟨⟨by decide +kernel, by decide +kernel⟩, List.mem_of_getElem? (i := 1336) (by decide +kernel), List.mem_of_getElem? (i := 1800) (by decide +kernel), List.mem_of_getElem? (i := 1801) (by decide +kernel)⟩
theorem lw_p72 : lw_okq (⟨"CityCupsModel", "packs", "()V"⟩, 87) := ⟨⟨by decide +kernel, by decide +kernel⟩, List.mem_of_getElem? (i := 1336) (by decide +kernel), List.mem_of_getElem? (i := 1806) (by decide +kernel), List.mem_of_getElem? (i := 1807) (by decide +kernel)⟩
theorem lw_p73 : lw_okq (⟨"CityCupsModel", "readsName", "(IZ)Z"⟩, 87) := ⟨⟨by decide +kernel, by decide +kernel⟩, List.mem_of_getElem? (i := 1336) (by decide +kernel), List.mem_of_getElem? (i := 1824) (by decide +kernel), List.mem_of_getElem? (i := 1825) (by decide +kernel)⟩
theorem lw_p74 : lw_okq (⟨"CityCupsModel", "hasName", "(I)Z"⟩, 87) := ⟨⟨by decide +kernel, by decide +kernel⟩, List.mem_of_getElem? (i := 1336) (by decide +kernel), List.mem_of_getElem? (i := 1836) (by decide +kernel), List.mem_of_getElem? (i := 1837) (by decide +kernel)⟩
theorem lw_p75 : lw_okq (⟨"CityCupsModel", "doesFit", "(II)Z"⟩, 87) := ⟨⟨by decide +kernel, by decide +kernel⟩, List.mem_of_getElem? (i := 1336) (by decide +kernel), List.mem_of_getElem? (i := 1840) (by decide +kernel), List.mem_of_getElem? (i := 1841) (by decide +kernel)⟩
theorem lw_p76 : lw_okq (⟨"CityCupsModel", "couldGive", "(II)Z"⟩, 87) := ⟨⟨by decide +kernel, by decide +kernel⟩, List.mem_of_getElem? (i := 1336) (by decide +kernel), List.mem_of_getElem? (i := 1849) (by decide +kernel), List.mem_of_getElem? (i := 1850) (by decide +kernel)⟩
theorem lw_p77 : lw_okq (⟨"CityCupsModel", "isWay", "(II)Z"⟩, 87) := ⟨⟨by decide +kernel, by decide +kernel⟩, List.mem_of_getElem? (i := 1336) (by decide +kernel), List.mem_of_getElem? (i := 1853) (by decide +kernel), List.mem_of_getElem? (i := 1854) (by decide +kernel)⟩
theorem lw_p78 : lw_okq (⟨"CityCupsModel", "getsOne", "(II)Z"⟩, 87) := ⟨⟨by decide +kernel, by decide +kernel⟩, List.mem_of_getElem? (i := 1336) (by decide +kernel), List.mem_of_getElem? (i := 1857) (by decide +kernel), List.mem_of_getElem? (i := 1858) (by decide +kernel)⟩
theorem lw_p79 : lw_okq (⟨"CityCupsModel", "hands", "(II)V"⟩, 87) := ⟨⟨by decide +kernel, by decide +kernel⟩, List.mem_of_getElem? (i := 1336) (by decide +kernel), List.mem_of_getElem? (i := 1861) (by decide +kernel), List.mem_of_getElem? (i := 1862) (by decide +kernel)⟩
def lw_privs_5 : List (MethodName × Nat) := [(⟨"CityCupsModel", "errs", "()V"⟩, 87), (⟨"CityCupsModel", "is", "(J)Z"⟩, 87), (⟨"CityCupsModel", "workHere", "()I"⟩, 87), (⟨"CityCupsModel", "readCondition", "()V"⟩, 87), (⟨"CityCupsModel", "readTest", "()V"⟩, 87), (⟨"CityCupsModel", "wordHere", "()I"⟩, 87), (⟨"CityCupsModel", "step", "(IIII)V"⟩, 87), (⟨"CityCupsModel", "closes", "()Z"⟩, 87), (⟨"CityCupsModel", "packs", "()V"⟩, 87), (⟨"CityCupsModel", "readsName", "(IZ)Z"⟩, 87), (⟨"CityCupsModel", "hasName", "(I)Z"⟩, 87), (⟨"CityCupsModel", "doesFit", "(II)Z"⟩, 87), (⟨"CityCupsModel", "couldGive", "(II)Z"⟩, 87), (⟨"CityCupsModel", "isWay", "(II)Z"⟩, 87), (⟨"CityCupsModel", "getsOne", "(II)Z"⟩, 87), (⟨"CityCupsModel", "hands", "(II)V"⟩, 87)]
theorem lw_r5 : ∀ q ∈ lw_privs_5, lw_okq q := List.forall_mem_cons.mpr ⟨lw_p64, List.forall_mem_cons.mpr ⟨lw_p65, List.forall_mem_cons.mpr ⟨lw_p66, List.forall_mem_cons.mpr ⟨lw_p67, List.forall_mem_cons.mpr ⟨lw_p68, List.forall_mem_cons.mpr ⟨lw_p69, List.forall_mem_cons.mpr ⟨lw_p70, List.forall_mem_cons.mpr ⟨lw_p71, List.forall_mem_cons.mpr ⟨lw_p72, List.forall_mem_cons.mpr ⟨lw_p73, List.forall_mem_cons.mpr ⟨lw_p74, List.forall_mem_cons.mpr ⟨lw_p75, List.forall_mem_cons.mpr ⟨lw_p76, List.forall_mem_cons.mpr ⟨lw_p77, List.forall_mem_cons.mpr ⟨lw_p78, List.forall_mem_cons.mpr ⟨lw_p79, fun _ h => absurd h List.not_mem_nil⟩⟩⟩⟩⟩⟩⟩⟩⟩⟩⟩⟩⟩⟩⟩⟩
theorem lw_p80 : lw_okq (⟨"CityCupsModel", "isShut", "(III)Z"⟩, 87) := ⟨⟨by decide +kernel, by decide +kernel⟩, List.mem_of_getElem? (i := 1336) (by decide +kernel), List.mem_of_getElem? (i := 1876) (by decide +kernel), List.mem_of_getElem? (i := 1877) (by decide +kernel)⟩
theorem lw_p81 : lw_okq (⟨"CityCupsModel", "last", "(IIIII)I"⟩, 87) := ⟨⟨by decide +kernel, by decide +kernel⟩, List.mem_of_getElem? (i := 1336) (by decide +kernel), List.mem_of_getElem? (i := 1880) (by decide +kernel), List.mem_of_getElem? (i := 1881) (by decide +kernel)⟩
theorem lw_p82 : lw_okq (⟨"CityCupsModel", "isCapped", "(III)Z"⟩, 87) := ⟨⟨by decide +kernel, by decide +kernel⟩, List.mem_of_getElem? (i := 1336) (by decide +kernel), List.mem_of_getElem? (i := 1884) (by decide +kernel), List.mem_of_getElem? (i := 1885) (by decide +kernel)⟩
theorem lw_p83 : lw_okq (⟨"CityCupsModel", "asked", "(IIII)V"⟩, 87) := ⟨⟨by decide +kernel, by decide +kernel⟩, List.mem_of_getElem? (i := 1336) (by decide +kernel), List.mem_of_getElem? (i := 1888) (by decide +kernel), List.mem_of_getElem? (i := 1889) (by decide +kernel)⟩
theorem lw_p84 : lw_okq (⟨"CityCupsModel", "hasTrough", "(III)Z"⟩, 87) := ⟨⟨by decide +kernel, by decide +kernel⟩, List.mem_of_getElem? (i := 1336) (by decide +kernel), List.mem_of_getElem? (i := 1892) (by decide +kernel), List.mem_of_getElem? (i := 1893) (by decide +kernel)⟩
theorem lw_p85 : lw_okq (⟨"CityCupsModel", "saysSo", "(II)Z"⟩, 87) := ⟨⟨by decide +kernel, by decide +kernel⟩, List.mem_of_getElem? (i := 1336) (by decide +kernel), List.mem_of_getElem? (i := 1896) (by decide +kernel), List.mem_of_getElem? (i := 1897) (by decide +kernel)⟩
theorem lw_p86 : lw_okq (⟨"CityCupsModel", "holds", "(I)Z"⟩, 87) := ⟨⟨by decide +kernel, by decide +kernel⟩, List.mem_of_getElem? (i := 1336) (by decide +kernel), List.mem_of_getElem? (i := 1900) (by decide +kernel), List.mem_of_getElem? (i := 1901) (by decide +kernel)⟩
theorem lw_p87 : lw_okq (⟨"CityCupsModel", "isHouse", "(I)Z"⟩, 87) := ⟨⟨by decide +kernel, by decide +kernel⟩, List.mem_of_getElem? (i := 1336) (by decide +kernel), List.mem_of_getElem? (i := 1908) (by decide +kernel), List.mem_of_getElem? (i := 1909) (by decide +kernel)⟩
theorem lw_p88 : lw_okq (⟨"CityCupsModel", "findRunning", "(II)V"⟩, 87) := ⟨⟨by decide +kernel, by decide +kernel⟩, List.mem_of_getElem? (i := 1336) (by decide +kernel), List.mem_of_getElem? (i := 1915) (by decide +kernel), List.mem_of_getElem? (i := 1916) (by decide +kernel)⟩
theorem lw_p89 : lw_okq (⟨"CityCupsModel", "coveredBy", "(II)I"⟩, 87) := ⟨⟨by decide +kernel, by decide +kernel⟩, List.mem_of_getElem? (i := 1336) (by decide +kernel), List.mem_of_getElem? (i := 1920) (by decide +kernel), List.mem_of_getElem? (i := 1921) (by decide +kernel)⟩
theorem lw_p90 : lw_okq (⟨"CityCupsModel", "couldOpen", "(II)I"⟩, 87) := ⟨⟨by decide +kernel, by decide +kernel⟩, List.mem_of_getElem? (i := 1336) (by decide +kernel), List.mem_of_getElem? (i := 1942) (by decide +kernel), List.mem_of_getElem? (i := 1943) (by decide +kernel)⟩
theorem lw_p91 : lw_okq (⟨"CityCupsModel", "bound", "(I)I"⟩, 87) := ⟨⟨by decide +kernel, by decide +kernel⟩, List.mem_of_getElem? (i := 1336) (by decide +kernel), List.mem_of_getElem? (i := 1946) (by decide +kernel), List.mem_of_getElem? (i := 1947) (by decide +kernel)⟩
theorem lw_p92 : lw_okq (⟨"CityCupsModel", "fewest", "(II)I"⟩, 87) := ⟨⟨by decide +kernel, by decide +kernel⟩, List.mem_of_getElem? (i := 1336) (by decide +kernel), List.mem_of_getElem? (i := 1953) (by decide +kernel), List.mem_of_getElem? (i := 1954) (by decide +kernel)⟩
theorem lw_p93 : lw_okq (⟨"CityCupsModel", "isBelow", "(II)Z"⟩, 87) := ⟨⟨by decide +kernel, by decide +kernel⟩, List.mem_of_getElem? (i := 1336) (by decide +kernel), List.mem_of_getElem? (i := 1961) (by decide +kernel), List.mem_of_getElem? (i := 1962) (by decide +kernel)⟩
theorem lw_p94 : lw_okq (⟨"CityCupsModel", "isSurelyNot", "(II)Z"⟩, 87) := ⟨⟨by decide +kernel, by decide +kernel⟩, List.mem_of_getElem? (i := 1336) (by decide +kernel), List.mem_of_getElem? (i := 1969) (by decide +kernel), List.mem_of_getElem? (i := 1970) (by decide +kernel)⟩
theorem lw_p95 : lw_okq (⟨"CityCupsModel", "isJob", "(I)Z"⟩, 87) := ⟨⟨by decide +kernel, by decide +kernel⟩, List.mem_of_getElem? (i := 1336) (by decide +kernel), List.mem_of_getElem? (i := 1985) (by decide +kernel), List.mem_of_getElem? (i := 1986) (by decide +kernel)⟩
def lw_privs_6 : List (MethodName × Nat) := [(⟨"CityCupsModel", "isShut", "(III)Z"⟩, 87), (⟨"CityCupsModel", "last", "(IIIII)I"⟩, 87), (⟨"CityCupsModel", "isCapped", "(III)Z"⟩, 87), (⟨"CityCupsModel", "asked", "(IIII)V"⟩, 87), (⟨"CityCupsModel", "hasTrough", "(III)Z"⟩, 87), (⟨"CityCupsModel", "saysSo", "(II)Z"⟩, 87), (⟨"CityCupsModel", "holds", "(I)Z"⟩, 87), (⟨"CityCupsModel", "isHouse", "(I)Z"⟩, 87), (⟨"CityCupsModel", "findRunning", "(II)V"⟩, 87), (⟨"CityCupsModel", "coveredBy", "(II)I"⟩, 87), (⟨"CityCupsModel", "couldOpen", "(II)I"⟩, 87), (⟨"CityCupsModel", "bound", "(I)I"⟩, 87), (⟨"CityCupsModel", "fewest", "(II)I"⟩, 87), (⟨"CityCupsModel", "isBelow", "(II)Z"⟩, 87), (⟨"CityCupsModel", "isSurelyNot", "(II)Z"⟩, 87), (⟨"CityCupsModel", "isJob", "(I)Z"⟩, 87)]
theorem lw_r6 : ∀ q ∈ lw_privs_6, lw_okq q := List.forall_mem_cons.mpr ⟨lw_p80, List.forall_mem_cons.mpr ⟨lw_p81, List.forall_mem_cons.mpr ⟨lw_p82, List.forall_mem_cons.mpr ⟨lw_p83, List.forall_mem_cons.mpr ⟨lw_p84, List.forall_mem_cons.mpr ⟨lw_p85, List.forall_mem_cons.mpr ⟨lw_p86, List.forall_mem_cons.mpr ⟨lw_p87, List.forall_mem_cons.mpr ⟨lw_p88, List.forall_mem_cons.mpr ⟨lw_p89, List.forall_mem_cons.mpr ⟨lw_p90, List.forall_mem_cons.mpr ⟨lw_p91, List.forall_mem_cons.mpr ⟨lw_p92, List.forall_mem_cons.mpr ⟨lw_p93, List.forall_mem_cons.mpr ⟨lw_p94, List.forall_mem_cons.mpr ⟨lw_p95, fun _ h => absurd h List.not_mem_nil⟩⟩⟩⟩⟩⟩⟩⟩⟩⟩⟩⟩⟩⟩⟩⟩
theorem lw_p96 : lw_okq (⟨"CityCupsModel", "mayPay", "(IIII)Z"⟩, 87) := ⟨⟨by decide +kernel, by decide +kernel⟩, List.mem_of_getElem? (i := 1336) (by decide +kernel), List.mem_of_getElem? (i := 1993) (by decide +kernel), List.mem_of_getElem? (i := 1994) (by decide +kernel)⟩
theorem lw_p97 : lw_okq (⟨"CityCupsModel", "findCouncil", "()V"⟩, 87) := ⟨⟨by decide +kernel, by decide +kernel⟩, List.mem_of_getElem? (i := 1336) (by decide +kernel), List.mem_of_getElem? (i := 2005) (by decide +kernel), List.mem_of_getElem? (i := 2006) (by decide +kernel)⟩
theorem lw_p98 : lw_okq (⟨"CityCupsModel", "findAsked", "()V"⟩, 87) := ⟨⟨by decide +kernel, by decide +kernel⟩, List.mem_of_getElem? (i := 1336) (by decide +kernel), List.mem_of_getElem? (i := 2009) (by decide +kernel), List.mem_of_getElem? (i := 2010) (by decide +kernel)⟩
theorem lw_p99 : lw_okq (⟨"CityCupsModel", "costOf", "(I)I"⟩, 87) := ⟨⟨by decide +kernel, by decide +kernel⟩, List.mem_of_getElem? (i := 1336) (by decide +kernel), List.mem_of_getElem? (i := 2013) (by decide +kernel), List.mem_of_getElem? (i := 2014) (by decide +kernel)⟩
theorem lw_p100 : lw_okq (⟨"CityCupsModel", "lateOf", "(I)I"⟩, 87) := ⟨⟨by decide +kernel, by decide +kernel⟩, List.mem_of_getElem? (i := 1336) (by decide +kernel), List.mem_of_getElem? (i := 2025) (by decide +kernel), List.mem_of_getElem? (i := 2026) (by decide +kernel)⟩
theorem lw_p101 : lw_okq (⟨"CityCupsModel", "areTaps", "(II)Z"⟩, 87) := ⟨⟨by decide +kernel, by decide +kernel⟩, List.mem_of_getElem? (i := 1336) (by decide +kernel), List.mem_of_getElem? (i := 2033) (by decide +kernel), List.mem_of_getElem? (i := 2034) (by decide +kernel)⟩
theorem lw_p102 : lw_okq (⟨"CityCupsModel", "listed", "(I)I"⟩, 87) := ⟨⟨by decide +kernel, by decide +kernel⟩, List.mem_of_getElem? (i := 1336) (by decide +kernel), List.mem_of_getElem? (i := 2037) (by decide +kernel), List.mem_of_getElem? (i := 2038) (by decide +kernel)⟩
theorem lw_p103 : lw_okq (⟨"CityCupsModel", "frostOf", "(III)I"⟩, 87) := ⟨⟨by decide +kernel, by decide +kernel⟩, List.mem_of_getElem? (i := 1336) (by decide +kernel), List.mem_of_getElem? (i := 2045) (by decide +kernel), List.mem_of_getElem? (i := 2046) (by decide +kernel)⟩
theorem lw_p104 : lw_okq (⟨"CityCupsModel", "goesOn", "(I)Z"⟩, 87) := ⟨⟨by decide +kernel, by decide +kernel⟩, List.mem_of_getElem? (i := 1336) (by decide +kernel), List.mem_of_getElem? (i := 2049) (by decide +kernel), List.mem_of_getElem? (i := 2050) (by decide +kernel)⟩
theorem lw_p105 : lw_okq (⟨"CityCupsModel", "expected", "(III)I"⟩, 87) := ⟨⟨by decide +kernel, by decide +kernel⟩, List.mem_of_getElem? (i := 1336) (by decide +kernel), List.mem_of_getElem? (i := 2068) (by decide +kernel), List.mem_of_getElem? (i := 2069) (by decide +kernel)⟩
theorem lw_p106 : lw_okq (⟨"CityCupsModel", "chanceOf", "(II)I"⟩, 87) := ⟨⟨by decide +kernel, by decide +kernel⟩, List.mem_of_getElem? (i := 1336) (by decide +kernel), List.mem_of_getElem? (i := 2072) (by decide +kernel), List.mem_of_getElem? (i := 2073) (by decide +kernel)⟩
theorem lw_p107 : lw_okq (⟨"CityCupsModel", "isAsked", "(IIIII)Z"⟩, 87) := ⟨⟨by decide +kernel, by decide +kernel⟩, List.mem_of_getElem? (i := 1336) (by decide +kernel), List.mem_of_getElem? (i := 2076) (by decide +kernel), List.mem_of_getElem? (i := 2077) (by decide +kernel)⟩
theorem lw_p108 : lw_okq (⟨"CityCupsModel", "stoneOf", "(II)I"⟩, 87) := ⟨⟨by decide +kernel, by decide +kernel⟩, List.mem_of_getElem? (i := 1336) (by decide +kernel), List.mem_of_getElem? (i := 2088) (by decide +kernel), List.mem_of_getElem? (i := 2089) (by decide +kernel)⟩
theorem lw_p109 : lw_okq (⟨"CityCupsModel", "bottlesOf", "(IIII)I"⟩, 87) := ⟨⟨by decide +kernel, by decide +kernel⟩, List.mem_of_getElem? (i := 1336) (by decide +kernel), List.mem_of_getElem? (i := 2105) (by decide +kernel), List.mem_of_getElem? (i := 2106) (by decide +kernel)⟩
theorem lw_p110 : lw_okq (⟨"CityCupsModel", "jobsSo", "(Z)I"⟩, 87) := ⟨⟨by decide +kernel, by decide +kernel⟩, List.mem_of_getElem? (i := 1336) (by decide +kernel), List.mem_of_getElem? (i := 2121) (by decide +kernel), List.mem_of_getElem? (i := 2122) (by decide +kernel)⟩
theorem lw_p111 : lw_okq (⟨"CityCupsModel", "names", "()I"⟩, 87) := ⟨⟨by decide +kernel, by decide +kernel⟩, List.mem_of_getElem? (i := 1336) (by decide +kernel), List.mem_of_getElem? (i := 2125) (by decide +kernel), List.mem_of_getElem? (i := 2126) (by decide +kernel)⟩
def lw_privs_7 : List (MethodName × Nat) := [(⟨"CityCupsModel", "mayPay", "(IIII)Z"⟩, 87), (⟨"CityCupsModel", "findCouncil", "()V"⟩, 87), (⟨"CityCupsModel", "findAsked", "()V"⟩, 87), (⟨"CityCupsModel", "costOf", "(I)I"⟩, 87), (⟨"CityCupsModel", "lateOf", "(I)I"⟩, 87), (⟨"CityCupsModel", "areTaps", "(II)Z"⟩, 87), (⟨"CityCupsModel", "listed", "(I)I"⟩, 87), (⟨"CityCupsModel", "frostOf", "(III)I"⟩, 87), (⟨"CityCupsModel", "goesOn", "(I)Z"⟩, 87), (⟨"CityCupsModel", "expected", "(III)I"⟩, 87), (⟨"CityCupsModel", "chanceOf", "(II)I"⟩, 87), (⟨"CityCupsModel", "isAsked", "(IIIII)Z"⟩, 87), (⟨"CityCupsModel", "stoneOf", "(II)I"⟩, 87), (⟨"CityCupsModel", "bottlesOf", "(IIII)I"⟩, 87), (⟨"CityCupsModel", "jobsSo", "(Z)I"⟩, 87), (⟨"CityCupsModel", "names", "()I"⟩, 87)]
theorem lw_r7 : ∀ q ∈ lw_privs_7, lw_okq q := List.forall_mem_cons.mpr ⟨lw_p96, List.forall_mem_cons.mpr ⟨lw_p97, List.forall_mem_cons.mpr ⟨lw_p98, List.forall_mem_cons.mpr ⟨lw_p99, List.forall_mem_cons.mpr ⟨lw_p100, List.forall_mem_cons.mpr ⟨lw_p101, List.forall_mem_cons.mpr ⟨lw_p102, List.forall_mem_cons.mpr ⟨lw_p103, List.forall_mem_cons.mpr ⟨lw_p104, List.forall_mem_cons.mpr ⟨lw_p105, List.forall_mem_cons.mpr ⟨lw_p106, List.forall_mem_cons.mpr ⟨lw_p107, List.forall_mem_cons.mpr ⟨lw_p108, List.forall_mem_cons.mpr ⟨lw_p109, List.forall_mem_cons.mpr ⟨lw_p110, List.forall_mem_cons.mpr ⟨lw_p111, fun _ h => absurd h List.not_mem_nil⟩⟩⟩⟩⟩⟩⟩⟩⟩⟩⟩⟩⟩⟩⟩⟩
def lw_privs : List (MethodName × Nat) := lw_privs_1 ++ (lw_privs_2 ++ (lw_privs_3 ++ (lw_privs_4 ++ (lw_privs_5 ++ (lw_privs_6 ++ (lw_privs_7))))))
def lw_tbl : List Cond := k2_sels lw_privs ++ tables_1
theorem lw_privs_ok : ∀ q ∈ lw_privs, lw_okq q := by
  show ∀ q ∈ lw_privs_1 ++ (lw_privs_2 ++ (lw_privs_3 ++ (lw_privs_4 ++ (lw_privs_5 ++ (lw_privs_6 ++ (lw_privs_7)))))), lw_okq q
  exact List.forall_mem_append.mpr ⟨lw_r1, List.forall_mem_append.mpr ⟨lw_r2, List.forall_mem_append.mpr ⟨lw_r3, List.forall_mem_append.mpr ⟨lw_r4, List.forall_mem_append.mpr ⟨lw_r5, List.forall_mem_append.mpr ⟨lw_r6, lw_r7⟩⟩⟩⟩⟩⟩
-- ===== end of PART A; then your names; then what follows =====
end
section
/-! ===== BEGIN words of one list among another's, by their places ===== -/
theorem goodIn_r {big : List Cond} (ws : List Cond) (ps : List Nat) (hp : ws = ps.filterMap (fun i => big[i]?)) (h : ws.all goodWord = true) : GoodIn big ws := by
  intro w hw
  have h1 := List.all_eq_true.mp h w hw
  rw [hp] at hw
  obtain ⟨i, -, hi⟩ := List.mem_filterMap.mp hw
  have hm : w ∈ big := by first | exact List.mem_of_getElem? hi | exact List.getElem?_mem hi
  exact ⟨hm, good_of_word h1⟩
theorem goodIn_app {big a b : List Cond} (ha : GoodIn big a) (hb : GoodIn big b) : GoodIn big (a ++ b) := fun w h => (List.mem_append.mp h).elim (ha w) (hb w)
theorem goodIn_ca {big a b : List Cond} {c : Cond} (ha : GoodIn big (c :: a)) (hb : GoodIn big b) : GoodIn big (c :: (a ++ b)) := fun w h => (List.mem_cons.mp h).elim (fun e => ha w (List.mem_cons.mpr (Or.inl e))) (fun h => (List.mem_append.mp h).elim (fun h => ha w (List.mem_cons.mpr (Or.inr h))) (hb w))
theorem goodIn_sub {big ws : List Cond} (hm : ∀ w ∈ ws, w ∈ big) (h : ws.all goodWord = true) : GoodIn big ws := fun w hw => ⟨hm w hw, good_of_word (List.all_eq_true.mp h w hw)⟩
/-! ===== END ===== -/

/-! ===== BEGIN printed: names, fields, word lists, decode rows ===== -/
def RX0 : String := "CityCups$City"
def TX0 : u_T := fun k => match k with
  | 0 => ("CityCups$City", "nodes", "I", false)
  | 1 => ("CityCups$City", "taps", "I", false)
  | 2 => ("CityCups$City", "houses", "I", false)
  | 3 => ("CityCups$City", "places", "I", false)
  | 4 => ("CityCups$City", "pipes", "I", false)
  | 5 => ("CityCups$City", "troughs", "I", false)
  | 6 => ("CityCups$City", "parents", "[I", true)
  | 7 => ("CityCups$City", "above", "[I", true)
  | 8 => ("CityCups$City", "tapNodes", "[I", true)
  | 9 => ("CityCups$City", "tapCells", "[I", true)
  | 10 => ("CityCups$City", "aheads", "[I", true)
  | 11 => ("CityCups$City", "losses", "[I", true)
  | 12 => ("CityCups$City", "hardness", "[I", true)
  | 13 => ("CityCups$City", "houseCells", "[I", true)
  | _ => ("CityCups$City", "placeCells", "[I", true)
def tyX0 : Nat → FieldType := fun k => match k with
  | 0 => .int
  | 1 => .int
  | 2 => .int
  | 3 => .int
  | 4 => .int
  | 5 => .int
  | 6 => .array .int
  | 7 => .array .int
  | 8 => .array .int
  | 9 => .array .int
  | 10 => .array .int
  | 11 => .array .int
  | 12 => .array .int
  | 13 => .array .int
  | _ => .array .int
abbrev wsX00 : List Cond := u_ws RX0 TX0 15
theorem nmX0 : ∀ a, a < 15 → ∀ b, b < 15 → a ≠ b → (TX0 a).2.1 ≠ (TX0 b).2.1 := by decide +kernel
theorem tyX0_ok : ∀ k, k < 15 → parseFieldDescriptor (TX0 k).2.2.1 = some (tyX0 k) := by decide +kernel
abbrev cX0_init : ByteArray := prog_2_method_1_code
def yX0_init : MethodName := ⟨RX0, "<init>", "()V"⟩
abbrev cX0_addNode : ByteArray := prog_2_method_2_code
def yX0_addNode : MethodName := ⟨RX0, "addNode", "(I)I"⟩
abbrev cX0_addTap : ByteArray := prog_2_method_3_code
def yX0_addTap : MethodName := ⟨RX0, "addTap", "(IIIZI)I"⟩
abbrev cX0_addHouse : ByteArray := prog_2_method_4_code
def yX0_addHouse : MethodName := ⟨RX0, "addHouse", "(I)I"⟩
abbrev cX0_addPlace : ByteArray := prog_2_method_5_code
def yX0_addPlace : MethodName := ⟨RX0, "addPlace", "(I)I"⟩
abbrev cX0_aboveTap : ByteArray := prog_2_method_6_code
def yX0_aboveTap : MethodName := ⟨RX0, "aboveTap", "(I)I"⟩
abbrev cX0_nearest : ByteArray := prog_2_method_7_code
def yX0_nearest : MethodName := ⟨RX0, "nearest", "(III)I"⟩
abbrev cX0_tapsNear : ByteArray := prog_2_method_8_code
def yX0_tapsNear : MethodName := ⟨RX0, "tapsNear", "(III)I"⟩
abbrev cX0_tapsNearAny : ByteArray := prog_2_method_9_code
def yX0_tapsNearAny : MethodName := ⟨RX0, "tapsNearAny", "(III)I"⟩
abbrev cX0_housesNear : ByteArray := prog_2_method_10_code
def yX0_housesNear : MethodName := ⟨RX0, "housesNear", "(III)I"⟩
abbrev cX0_placesNearAny : ByteArray := prog_2_method_11_code
def yX0_placesNearAny : MethodName := ⟨RX0, "placesNearAny", "(II)I"⟩
abbrev cX0_become : ByteArray := prog_2_method_12_code
def yX0_become : MethodName := ⟨RX0, "become", "(LCityCups$City;)V"⟩
def RX1 : String := "CityCups$Cover"
def TX1 : u_T := fun k => match k with
  | 0 => ("CityCups$Cover", "size", "I", false)
  | 1 => ("CityCups$Cover", "taps", "[I", true)
  | 2 => ("CityCups$Cover", "helps", "[I", true)
  | 3 => ("CityCups$Cover", "homes", "I", false)
  | 4 => ("CityCups$Cover", "helpers", "[I", true)
  | 5 => ("CityCups$Cover", "wanted", "I", false)
  | 6 => ("CityCups$Cover", "best", "I", false)
  | _ => ("CityCups$Cover", "bestTaps", "I", false)
def tyX1 : Nat → FieldType := fun k => match k with
  | 0 => .int
  | 1 => .array .int
  | 2 => .array .int
  | 3 => .int
  | 4 => .array .int
  | 5 => .int
  | 6 => .int
  | _ => .int
abbrev wsX10 : List Cond := u_ws RX1 TX1 8
theorem nmX1 : ∀ a, a < 8 → ∀ b, b < 8 → a ≠ b → (TX1 a).2.1 ≠ (TX1 b).2.1 := by decide +kernel
theorem tyX1_ok : ∀ k, k < 8 → parseFieldDescriptor (TX1 k).2.2.1 = some (tyX1 k) := by decide +kernel
abbrev cX1_init : ByteArray := prog_3_method_1_code
def yX1_init : MethodName := ⟨RX1, "<init>", "()V"⟩
abbrev cX1_prepare : ByteArray := prog_3_method_2_code
def yX1_prepare : MethodName := ⟨RX1, "prepare", "(LCityCups$City;III)V"⟩
abbrev cX1_fewestTaps : ByteArray := prog_3_method_3_code
def yX1_fewestTaps : MethodName := ⟨RX1, "fewestTaps", "()I"⟩
abbrev cX1_choose : ByteArray := prog_3_method_4_code
def yX1_choose : MethodName := ⟨RX1, "choose", "(IIII)V"⟩
abbrev cX1_mostApart : ByteArray := prog_3_method_5_code
def yX1_mostApart : MethodName := ⟨RX1, "mostApart", "()I"⟩
abbrev cX1_pack : ByteArray := prog_3_method_6_code
def yX1_pack : MethodName := ⟨RX1, "pack", "(III)V"⟩
def RX2 : String := "CityCups$Diary"
def TX2 : u_T := fun k => match k with
  | 0 => ("CityCups$Diary", "shuts", "LCityCups$Ledger;", true)
  | 1 => ("CityCups$Diary", "levels", "LCityCups$Ledger;", true)
  | 2 => ("CityCups$Diary", "bottles", "LCityCups$Ledger;", true)
  | 3 => ("CityCups$Diary", "tests", "LCityCups$Ledger;", true)
  | 4 => ("CityCups$Diary", "flows", "LCityCups$Ledger;", true)
  | 5 => ("CityCups$Diary", "nights", "LCityCups$Ledger;", true)
  | 6 => ("CityCups$Diary", "bursts", "LCityCups$Ledger;", true)
  | 7 => ("CityCups$Diary", "damages", "LCityCups$Ledger;", true)
  | 8 => ("CityCups$Diary", "hurtings", "LCityCups$Ledger;", true)
  | 9 => ("CityCups$Diary", "fillings", "LCityCups$Ledger;", true)
  | 10 => ("CityCups$Diary", "cups", "LCityCups$Ledger;", true)
  | 11 => ("CityCups$Diary", "plantings", "LCityCups$Ledger;", true)
  | 12 => ("CityCups$Diary", "cold", "[I", true)
  | 13 => ("CityCups$Diary", "today", "I", false)
  | 14 => ("CityCups$Diary", "error", "I", false)
  | _ => ("CityCups$Diary", "bannedFrom", "I", false)
def tyX2 : Nat → FieldType := fun k => match k with
  | 0 => .object "CityCups$Ledger"
  | 1 => .object "CityCups$Ledger"
  | 2 => .object "CityCups$Ledger"
  | 3 => .object "CityCups$Ledger"
  | 4 => .object "CityCups$Ledger"
  | 5 => .object "CityCups$Ledger"
  | 6 => .object "CityCups$Ledger"
  | 7 => .object "CityCups$Ledger"
  | 8 => .object "CityCups$Ledger"
  | 9 => .object "CityCups$Ledger"
  | 10 => .object "CityCups$Ledger"
  | 11 => .object "CityCups$Ledger"
  | 12 => .array .int
  | 13 => .int
  | 14 => .int
  | _ => .int
abbrev wsX20 : List Cond := u_ws RX2 TX2 16
theorem nmX2 : ∀ a, a < 16 → ∀ b, b < 16 → a ≠ b → (TX2 a).2.1 ≠ (TX2 b).2.1 := by decide +kernel
theorem tyX2_ok : ∀ k, k < 16 → parseFieldDescriptor (TX2 k).2.2.1 = some (tyX2 k) := by decide +kernel
abbrev cX2_init : ByteArray := prog_4_method_1_code
def yX2_init : MethodName := ⟨RX2, "<init>", "()V"⟩
abbrev cX2_become : ByteArray := prog_4_method_2_code
def yX2_become : MethodName := ⟨RX2, "become", "(LCityCups$Diary;)V"⟩
def RX3 : String := "CityCups$Jobs"
def TX3 : u_T := fun k => match k with
  | 0 => ("CityCups$Jobs", "size", "I", false)
  | 1 => ("CityCups$Jobs", "taps", "[I", true)
  | 2 => ("CityCups$Jobs", "works", "[I", true)
  | 3 => ("CityCups$Jobs", "costs", "[I", true)
  | 4 => ("CityCups$Jobs", "promises", "[I", true)
  | 5 => ("CityCups$Jobs", "doneOn", "[I", true)
  | _ => ("CityCups$Jobs", "paid", "[I", true)
def tyX3 : Nat → FieldType := fun k => match k with
  | 0 => .int
  | 1 => .array .int
  | 2 => .array .int
  | 3 => .array .int
  | 4 => .array .int
  | 5 => .array .int
  | _ => .array .int
abbrev wsX30 : List Cond := u_ws RX3 TX3 7
theorem nmX3 : ∀ a, a < 7 → ∀ b, b < 7 → a ≠ b → (TX3 a).2.1 ≠ (TX3 b).2.1 := by decide +kernel
theorem tyX3_ok : ∀ k, k < 7 → parseFieldDescriptor (TX3 k).2.2.1 = some (tyX3 k) := by decide +kernel
abbrev cX3_init : ByteArray := prog_5_method_1_code
def yX3_init : MethodName := ⟨RX3, "<init>", "()V"⟩
abbrev cX3_add : ByteArray := prog_5_method_2_code
def yX3_add : MethodName := ⟨RX3, "add", "(IIII)I"⟩
abbrev cX3_lateness : ByteArray := prog_5_method_3_code
def yX3_lateness : MethodName := ⟨RX3, "lateness", "(II)I"⟩
abbrev cX3_latenessOfAll : ByteArray := prog_5_method_4_code
def yX3_latenessOfAll : MethodName := ⟨RX3, "latenessOfAll", "(I)I"⟩
abbrev cX3_howManyDone : ByteArray := prog_5_method_5_code
def yX3_howManyDone : MethodName := ⟨RX3, "howManyDone", "()I"⟩
abbrev cX3_howManyPaid : ByteArray := prog_5_method_6_code
def yX3_howManyPaid : MethodName := ⟨RX3, "howManyPaid", "()I"⟩
abbrev cX3_isStoneDone : ByteArray := prog_5_method_7_code
def yX3_isStoneDone : MethodName := ⟨RX3, "isStoneDone", "(II)Z"⟩
abbrev cX3_lastStone : ByteArray := prog_5_method_8_code
def yX3_lastStone : MethodName := ⟨RX3, "lastStone", "(II)I"⟩
abbrev cX3_nextStone : ByteArray := prog_5_method_9_code
def yX3_nextStone : MethodName := ⟨RX3, "nextStone", "(II)I"⟩
abbrev cX3_become : ByteArray := prog_5_method_10_code
def yX3_become : MethodName := ⟨RX3, "become", "(LCityCups$Jobs;)V"⟩
def RX4 : String := "CityCups$Law"
def TX4 : u_T := fun k => match k with
  | 0 => ("CityCups$Law", "verdicts", "[I", true)
  | 1 => ("CityCups$Law", "works", "[I", true)
  | 2 => ("CityCups$Law", "ends", "[I", true)
  | _ => ("CityCups$Law", "code", "[I", true)
def tyX4 : Nat → FieldType := fun k => match k with
  | 0 => .array .int
  | 1 => .array .int
  | 2 => .array .int
  | _ => .array .int
abbrev wsX40 : List Cond := u_ws RX4 TX4 4
theorem nmX4 : ∀ a, a < 4 → ∀ b, b < 4 → a ≠ b → (TX4 a).2.1 ≠ (TX4 b).2.1 := by decide +kernel
theorem tyX4_ok : ∀ k, k < 4 → parseFieldDescriptor (TX4 k).2.2.1 = some (tyX4 k) := by decide +kernel
abbrev cX4_init : ByteArray := prog_6_method_1_code
def yX4_init : MethodName := ⟨RX4, "<init>", "([I[I[I[I)V"⟩
abbrev cX4_comparison : ByteArray := prog_6_method_2_code
def yX4_comparison : MethodName := ⟨RX4, "comparison", "(III)I"⟩
abbrev cX4_statements : ByteArray := prog_6_method_3_code
def yX4_statements : MethodName := ⟨RX4, "statements", "()I"⟩
abbrev cX4_says : ByteArray := prog_6_method_4_code
def yX4_says : MethodName := ⟨RX4, "says", "(I[I)Z"⟩
abbrev cX4_holds : ByteArray := prog_6_method_5_code
def yX4_holds : MethodName := ⟨RX4, "holds", "(II[I)Z"⟩
abbrev cX4_compares : ByteArray := prog_6_method_6_code
def yX4_compares : MethodName := ⟨RX4, "compares", "(I[I)Z"⟩
def RX5 : String := "CityCups$Ledger"
def TX5 : u_T := fun k => match k with
  | 0 => ("CityCups$Ledger", "who", "[I", true)
  | 1 => ("CityCups$Ledger", "on", "[I", true)
  | 2 => ("CityCups$Ledger", "what", "[I", true)
  | 3 => ("CityCups$Ledger", "since", "[I", true)
  | _ => ("CityCups$Ledger", "size", "I", false)
def tyX5 : Nat → FieldType := fun k => match k with
  | 0 => .array .int
  | 1 => .array .int
  | 2 => .array .int
  | 3 => .array .int
  | _ => .int
abbrev wsX50 : List Cond := u_ws RX5 TX5 5
theorem nmX5 : ∀ a, a < 5 → ∀ b, b < 5 → a ≠ b → (TX5 a).2.1 ≠ (TX5 b).2.1 := by decide +kernel
theorem tyX5_ok : ∀ k, k < 5 → parseFieldDescriptor (TX5 k).2.2.1 = some (tyX5 k) := by decide +kernel
abbrev cX5_init : ByteArray := prog_7_method_1_code
def yX5_init : MethodName := ⟨RX5, "<init>", "(I)V"⟩
abbrev cX5_tell : ByteArray := prog_7_method_2_code
def yX5_tell : MethodName := ⟨RX5, "tell", "(IIII)I"⟩
abbrev cX5_counts : ByteArray := prog_7_method_3_code
def yX5_counts : MethodName := ⟨RX5, "counts", "(IIII)Z"⟩
abbrev cX5_latest : ByteArray := prog_7_method_4_code
def yX5_latest : MethodName := ⟨RX5, "latest", "(III)I"⟩
abbrev cX5_isSo : ByteArray := prog_7_method_5_code
def yX5_isSo : MethodName := ⟨RX5, "isSo", "(III)Z"⟩
abbrev cX5_thoseSo : ByteArray := prog_7_method_6_code
def yX5_thoseSo : MethodName := ⟨RX5, "thoseSo", "(II)I"⟩
abbrev cX5_become : ByteArray := prog_7_method_7_code
def yX5_become : MethodName := ⟨RX5, "become", "(LCityCups$Ledger;)V"⟩
def RX6 : String := "CityCups$Names"
def TX6 : u_T := fun k => match k with
  | 0 => ("CityCups$Names", "donors", "I", false)
  | 1 => ("CityCups$Names", "wornLengths", "[I", true)
  | 2 => ("CityCups$Names", "fitting", "[I", true)
  | 3 => ("CityCups$Names", "wornSigns", "[I", true)
  | 4 => ("CityCups$Names", "donorLengths", "[I", true)
  | 5 => ("CityCups$Names", "donorSigns", "[I", true)
  | 6 => ("CityCups$Names", "tapOf", "[I", true)
  | _ => ("CityCups$Names", "seen", "I", false)
def tyX6 : Nat → FieldType := fun k => match k with
  | 0 => .int
  | 1 => .array .int
  | 2 => .array .int
  | 3 => .array .int
  | 4 => .array .int
  | 5 => .array .int
  | 6 => .array .int
  | _ => .int
abbrev wsX60 : List Cond := u_ws RX6 TX6 8
theorem nmX6 : ∀ a, a < 8 → ∀ b, b < 8 → a ≠ b → (TX6 a).2.1 ≠ (TX6 b).2.1 := by decide +kernel
theorem tyX6_ok : ∀ k, k < 8 → parseFieldDescriptor (TX6 k).2.2.1 = some (tyX6 k) := by decide +kernel
abbrev cX6_init : ByteArray := prog_8_method_1_code
def yX6_init : MethodName := ⟨RX6, "<init>", "()V"⟩
abbrev cX6_addDonor : ByteArray := prog_8_method_2_code
def yX6_addDonor : MethodName := ⟨RX6, "addDonor", "([II)I"⟩
abbrev cX6_wear : ByteArray := prog_8_method_3_code
def yX6_wear : MethodName := ⟨RX6, "wear", "(I[II)I"⟩
abbrev cX6_isFit : ByteArray := prog_8_method_4_code
def yX6_isFit : MethodName := ⟨RX6, "isFit", "(II)Z"⟩
abbrev cX6_wornAmong : ByteArray := prog_8_method_5_code
def yX6_wornAmong : MethodName := ⟨RX6, "wornAmong", "(I)I"⟩
abbrev cX6_someWayHas : ByteArray := prog_8_method_6_code
def yX6_someWayHas : MethodName := ⟨RX6, "someWayHas", "(III)Z"⟩
abbrev cX6_findDonor : ByteArray := prog_8_method_7_code
def yX6_findDonor : MethodName := ⟨RX6, "findDonor", "(II)Z"⟩
def RX7 : String := "CityCups$Reader"
def TX7 : u_T := fun k => match k with
  | 0 => ("CityCups$Reader", "tape", "[I", true)
  | 1 => ("CityCups$Reader", "size", "I", false)
  | 2 => ("CityCups$Reader", "start", "I", false)
  | 3 => ("CityCups$Reader", "length", "I", false)
  | 4 => ("CityCups$Reader", "next", "I", false)
  | 5 => ("CityCups$Reader", "kind", "I", false)
  | 6 => ("CityCups$Reader", "statements", "I", false)
  | 7 => ("CityCups$Reader", "codeSize", "I", false)
  | 8 => ("CityCups$Reader", "verdicts", "[I", true)
  | 9 => ("CityCups$Reader", "works", "[I", true)
  | 10 => ("CityCups$Reader", "ends", "[I", true)
  | _ => ("CityCups$Reader", "code", "[I", true)
def tyX7 : Nat → FieldType := fun k => match k with
  | 0 => .array .int
  | 1 => .int
  | 2 => .int
  | 3 => .int
  | 4 => .int
  | 5 => .int
  | 6 => .int
  | 7 => .int
  | 8 => .array .int
  | 9 => .array .int
  | 10 => .array .int
  | _ => .array .int
abbrev wsX70 : List Cond := u_ws RX7 TX7 12
theorem nmX7 : ∀ a, a < 12 → ∀ b, b < 12 → a ≠ b → (TX7 a).2.1 ≠ (TX7 b).2.1 := by decide +kernel
theorem tyX7_ok : ∀ k, k < 12 → parseFieldDescriptor (TX7 k).2.2.1 = some (tyX7 k) := by decide +kernel
abbrev cX7_init : ByteArray := prog_9_method_1_code
def yX7_init : MethodName := ⟨RX7, "<init>", "()V"⟩
abbrev cX7_hasRoom : ByteArray := prog_9_method_2_code
def yX7_hasRoom : MethodName := ⟨RX7, "hasRoom", "()Z"⟩
abbrev cX7_has : ByteArray := prog_9_method_3_code
def yX7_has : MethodName := ⟨RX7, "has", "(I)Z"⟩
abbrev cX7_put : ByteArray := prog_9_method_4_code
def yX7_put : MethodName := ⟨RX7, "put", "(I)V"⟩
abbrev cX7_faultOfName : ByteArray := prog_9_method_5_code
def yX7_faultOfName : MethodName := ⟨RX7, "faultOfName", "(IZ)I"⟩
abbrev cX7_readLaw : ByteArray := prog_9_method_6_code
def yX7_readLaw : MethodName := ⟨RX7, "readLaw", "(IZ)LCityCups$Law;"⟩
abbrev cX7_readStatement : ByteArray := prog_9_method_7_code
def yX7_readStatement : MethodName := ⟨RX7, "readStatement", "(IZ)Z"⟩
abbrev cX7_verdictOf : ByteArray := prog_9_method_8_code
def yX7_verdictOf : MethodName := ⟨RX7, "verdictOf", "(Z)I"⟩
abbrev cX7_readAny : ByteArray := prog_9_method_9_code
def yX7_readAny : MethodName := ⟨RX7, "readAny", "(I)Z"⟩
abbrev cX7_readAll : ByteArray := prog_9_method_10_code
def yX7_readAll : MethodName := ⟨RX7, "readAll", "(I)Z"⟩
abbrev cX7_readOne : ByteArray := prog_9_method_11_code
def yX7_readOne : MethodName := ⟨RX7, "readOne", "(I)Z"⟩
abbrev cX7_readComparison : ByteArray := prog_9_method_12_code
def yX7_readComparison : MethodName := ⟨RX7, "readComparison", "()Z"⟩
abbrev cX7_emit : ByteArray := prog_9_method_13_code
def yX7_emit : MethodName := ⟨RX7, "emit", "(I)V"⟩
abbrev cX7_workAtHand : ByteArray := prog_9_method_14_code
def yX7_workAtHand : MethodName := ⟨RX7, "workAtHand", "()I"⟩
abbrev cX7_factAtHand : ByteArray := prog_9_method_15_code
def yX7_factAtHand : MethodName := ⟨RX7, "factAtHand", "()I"⟩
abbrev cX7_numberAtHand : ByteArray := prog_9_method_16_code
def yX7_numberAtHand : MethodName := ⟨RX7, "numberAtHand", "()I"⟩
abbrev cX7_isWord : ByteArray := prog_9_method_17_code
def yX7_isWord : MethodName := ⟨RX7, "isWord", "(Ljava/lang/String;)Z"⟩
abbrev cX7_isSign : ByteArray := prog_9_method_18_code
def yX7_isSign : MethodName := ⟨RX7, "isSign", "(I)Z"⟩
abbrev cX7_readToken : ByteArray := prog_9_method_19_code
def yX7_readToken : MethodName := ⟨RX7, "readToken", "()V"⟩
abbrev cX7_kindAt : ByteArray := prog_9_method_20_code
def yX7_kindAt : MethodName := ⟨RX7, "kindAt", "(I)I"⟩
abbrev cX7_isLetter : ByteArray := prog_9_method_21_code
def yX7_isLetter : MethodName := ⟨RX7, "isLetter", "(I)Z"⟩
def RX8 : String := "CityCups$State"
def TX8 : u_T := fun k => match k with
  | 0 => ("CityCups$State", "city", "LCityCups$City;", true)
  | 1 => ("CityCups$State", "diary", "LCityCups$Diary;", true)
  | 2 => ("CityCups$State", "jobs", "LCityCups$Jobs;", true)
  | 3 => ("CityCups$State", "coin", "[I", true)
  | _ => ("CityCups$State", "trustsThen", "I", false)
def tyX8 : Nat → FieldType := fun k => match k with
  | 0 => .object "CityCups$City"
  | 1 => .object "CityCups$Diary"
  | 2 => .object "CityCups$Jobs"
  | 3 => .array .int
  | _ => .int
abbrev wsX80 : List Cond := u_ws RX8 TX8 5
theorem nmX8 : ∀ a, a < 5 → ∀ b, b < 5 → a ≠ b → (TX8 a).2.1 ≠ (TX8 b).2.1 := by decide +kernel
theorem tyX8_ok : ∀ k, k < 5 → parseFieldDescriptor (TX8 k).2.2.1 = some (tyX8 k) := by decide +kernel
abbrev cX8_init : ByteArray := prog_10_method_1_code
def yX8_init : MethodName := ⟨RX8, "<init>", "()V"⟩
abbrev cX8_become : ByteArray := prog_10_method_2_code
def yX8_become : MethodName := ⟨RX8, "become", "(LCityCups$State;I)V"⟩
def RX9 : String := "CityCups$Trusts"
def TX9 : u_T := fun k => match k with
  | 0 => ("CityCups$Trusts", "size", "I", false)
  | 1 => ("CityCups$Trusts", "taps", "[I", true)
  | 2 => ("CityCups$Trusts", "laws", "[LCityCups$Law;", true)
  | 3 => ("CityCups$Trusts", "asked", "I", false)
  | 4 => ("CityCups$Trusts", "askedJobs", "[I", true)
  | 5 => ("CityCups$Trusts", "costs", "[I", true)
  | 6 => ("CityCups$Trusts", "payers", "[I", true)
  | 7 => ("CityCups$Trusts", "left", "[I", true)
  | 8 => ("CityCups$Trusts", "best", "I", false)
  | _ => ("CityCups$Trusts", "bestCode", "I", false)
def tyX9 : Nat → FieldType := fun k => match k with
  | 0 => .int
  | 1 => .array .int
  | 2 => .array (.object "CityCups$Law")
  | 3 => .int
  | 4 => .array .int
  | 5 => .array .int
  | 6 => .array .int
  | 7 => .array .int
  | 8 => .int
  | _ => .int
abbrev wsX90 : List Cond := u_ws RX9 TX9 10
theorem nmX9 : ∀ a, a < 10 → ∀ b, b < 10 → a ≠ b → (TX9 a).2.1 ≠ (TX9 b).2.1 := by decide +kernel
theorem tyX9_ok : ∀ k, k < 10 → parseFieldDescriptor (TX9 k).2.2.1 = some (tyX9 k) := by decide +kernel
abbrev cX9_init : ByteArray := prog_11_method_1_code
def yX9_init : MethodName := ⟨RX9, "<init>", "()V"⟩
abbrev cX9_add : ByteArray := prog_11_method_2_code
def yX9_add : MethodName := ⟨RX9, "add", "(LCityCups$Law;I)I"⟩
abbrev cX9_ask : ByteArray := prog_11_method_3_code
def yX9_ask : MethodName := ⟨RX9, "ask", "(III)V"⟩
abbrev cX9_share : ByteArray := prog_11_method_4_code
def yX9_share : MethodName := ⟨RX9, "share", "([I)V"⟩
abbrev cX9_decide : ByteArray := prog_11_method_5_code
def yX9_decide : MethodName := ⟨RX9, "decide", "(III)V"⟩
abbrev cX9_payerOf : ByteArray := prog_11_method_6_code
def yX9_payerOf : MethodName := ⟨RX9, "payerOf", "(I)I"⟩
def RX10 : String := "CityCups$Walker"
def TX10 : u_T := fun k => match k with
  | 0 => ("CityCups$Walker", "stops", "I", false)
  | 1 => ("CityCups$Walker", "numbers", "[I", true)
  | 2 => ("CityCups$Walker", "cells", "[I", true)
  | 3 => ("CityCups$Walker", "losses", "[I", true)
  | 4 => ("CityCups$Walker", "shortest", "[I", true)
  | 5 => ("CityCups$Walker", "cold", "[I", true)
  | 6 => ("CityCups$Walker", "order", "[I", true)
  | 7 => ("CityCups$Walker", "bestOrder", "[I", true)
  | 8 => ("CityCups$Walker", "speed", "I", false)
  | _ => ("CityCups$Walker", "best", "I", false)
def tyX10 : Nat → FieldType := fun k => match k with
  | 0 => .int
  | 1 => .array .int
  | 2 => .array .int
  | 3 => .array .int
  | 4 => .array .int
  | 5 => .array .int
  | 6 => .array .int
  | 7 => .array .int
  | 8 => .int
  | _ => .int
abbrev wsX100 : List Cond := u_ws RX10 TX10 10
theorem nmX10 : ∀ a, a < 10 → ∀ b, b < 10 → a ≠ b → (TX10 a).2.1 ≠ (TX10 b).2.1 := by decide +kernel
theorem tyX10_ok : ∀ k, k < 10 → parseFieldDescriptor (TX10 k).2.2.1 = some (tyX10 k) := by decide +kernel
abbrev cX10_init : ByteArray := prog_12_method_1_code
def yX10_init : MethodName := ⟨RX10, "<init>", "()V"⟩
abbrev cX10_gather : ByteArray := prog_12_method_2_code
def yX10_gather : MethodName := ⟨RX10, "gather", "(LCityCups$City;I)V"⟩
abbrev cX10_shortestRound : ByteArray := prog_12_method_3_code
def yX10_shortestRound : MethodName := ⟨RX10, "shortestRound", "(LCityCups$City;II)I"⟩
abbrev cX10_shortestTo : ByteArray := prog_12_method_4_code
def yX10_shortestTo : MethodName := ⟨RX10, "shortestTo", "(III)I"⟩
abbrev cX10_planShutting : ByteArray := prog_12_method_5_code
def yX10_planShutting : MethodName := ⟨RX10, "planShutting", "(LCityCups$City;III[I)V"⟩
abbrev cX10_goOn : ByteArray := prog_12_method_6_code
def yX10_goOn : MethodName := ⟨RX10, "goOn", "(IIIII)V"⟩
def RX11 : String := "CityCups"
def TX11 : u_T := fun k => match k with
  | 0 => ("CityCups", "now", "LCityCups$State;", true)
  | 1 => ("CityCups", "images", "[LCityCups$State;", true)
  | 2 => ("CityCups", "reader", "LCityCups$Reader;", true)
  | 3 => ("CityCups", "trusts", "LCityCups$Trusts;", true)
  | 4 => ("CityCups", "names", "LCityCups$Names;", true)
  | 5 => ("CityCups", "walker", "LCityCups$Walker;", true)
  | 6 => ("CityCups", "cover", "LCityCups$Cover;", true)
  | 7 => ("CityCups", "facts", "[I", true)
  | 8 => ("CityCups", "totals", "[I", true)
  | 9 => ("CityCups", "capLaw", "LCityCups$Law;", false)
  | 10 => ("CityCups", "imageCount", "I", false)
  | _ => ("CityCups", "faultPlace", "I", false)
def tyX11 : Nat → FieldType := fun k => match k with
  | 0 => .object "CityCups$State"
  | 1 => .array (.object "CityCups$State")
  | 2 => .object "CityCups$Reader"
  | 3 => .object "CityCups$Trusts"
  | 4 => .object "CityCups$Names"
  | 5 => .object "CityCups$Walker"
  | 6 => .object "CityCups$Cover"
  | 7 => .array .int
  | 8 => .array .int
  | 9 => .object "CityCups$Law"
  | 10 => .int
  | _ => .int
abbrev wsX110 : List Cond := u_ws RX11 TX11 12
theorem nmX11 : ∀ a, a < 12 → ∀ b, b < 12 → a ≠ b → (TX11 a).2.1 ≠ (TX11 b).2.1 := by decide +kernel
theorem tyX11_ok : ∀ k, k < 12 → parseFieldDescriptor (TX11 k).2.2.1 = some (tyX11 k) := by decide +kernel
abbrev cX11_init : ByteArray := prog_1_method_1_code
def yX11_init : MethodName := ⟨RX11, "<init>", "()V"⟩
abbrev cX11_node : ByteArray := prog_1_method_2_code
def yX11_node : MethodName := ⟨RX11, "node", "(I)I"⟩
abbrev cX11_tap : ByteArray := prog_1_method_3_code
def yX11_tap : MethodName := ⟨RX11, "tap", "(IIIZI)I"⟩
abbrev cX11_house : ByteArray := prog_1_method_4_code
def yX11_house : MethodName := ⟨RX11, "house", "(I)I"⟩
abbrev cX11_course : ByteArray := prog_1_method_5_code
def yX11_course : MethodName := ⟨RX11, "course", "(I)I"⟩
abbrev cX11_hard : ByteArray := prog_1_method_6_code
def yX11_hard : MethodName := ⟨RX11, "hard", "(II)Z"⟩
abbrev cX11_day : ByteArray := prog_1_method_7_code
def yX11_day : MethodName := ⟨RX11, "day", "(I)Z"⟩
abbrev cX11_shut : ByteArray := prog_1_method_8_code
def yX11_shut : MethodName := ⟨RX11, "shut", "(IIZ)I"⟩
abbrev cX11_level : ByteArray := prog_1_method_9_code
def yX11_level : MethodName := ⟨RX11, "level", "(II)I"⟩
abbrev cX11_bottle : ByteArray := prog_1_method_10_code
def yX11_bottle : MethodName := ⟨RX11, "bottle", "(IIZ)I"⟩
abbrev cX11_test : ByteArray := prog_1_method_11_code
def yX11_test : MethodName := ⟨RX11, "test", "(IIZ)I"⟩
abbrev cX11_flow : ByteArray := prog_1_method_12_code
def yX11_flow : MethodName := ⟨RX11, "flow", "(III)I"⟩
abbrev cX11_error : ByteArray := prog_1_method_13_code
def yX11_error : MethodName := ⟨RX11, "error", "(I)Z"⟩
abbrev cX11_cold : ByteArray := prog_1_method_14_code
def yX11_cold : MethodName := ⟨RX11, "cold", "(II)Z"⟩
abbrev cX11_night : ByteArray := prog_1_method_15_code
def yX11_night : MethodName := ⟨RX11, "night", "(II)I"⟩
abbrev cX11_burst : ByteArray := prog_1_method_16_code
def yX11_burst : MethodName := ⟨RX11, "burst", "(II)I"⟩
abbrev cX11_damage : ByteArray := prog_1_method_17_code
def yX11_damage : MethodName := ⟨RX11, "damage", "(III)I"⟩
abbrev cX11_hurt : ByteArray := prog_1_method_18_code
def yX11_hurt : MethodName := ⟨RX11, "hurt", "(III)I"⟩
abbrev cX11_fill : ByteArray := prog_1_method_19_code
def yX11_fill : MethodName := ⟨RX11, "fill", "(III)I"⟩
abbrev cX11_cup : ByteArray := prog_1_method_20_code
def yX11_cup : MethodName := ⟨RX11, "cup", "(IIZ)I"⟩
abbrev cX11_plant : ByteArray := prog_1_method_21_code
def yX11_plant : MethodName := ⟨RX11, "plant", "(IIZ)I"⟩
abbrev cX11_ban : ByteArray := prog_1_method_22_code
def yX11_ban : MethodName := ⟨RX11, "ban", "(I)Z"⟩
abbrev cX11_feed : ByteArray := prog_1_method_23_code
def yX11_feed : MethodName := ⟨RX11, "feed", "(IIIII)I"⟩
abbrev cX11_cap : ByteArray := prog_1_method_24_code
def yX11_cap : MethodName := ⟨RX11, "cap", "(I)I"⟩
abbrev cX11_trust : ByteArray := prog_1_method_25_code
def yX11_trust : MethodName := ⟨RX11, "trust", "(III)I"⟩
abbrev cX11_donor : ByteArray := prog_1_method_26_code
def yX11_donor : MethodName := ⟨RX11, "donor", "(I)I"⟩
abbrev cX11_worn : ByteArray := prog_1_method_27_code
def yX11_worn : MethodName := ⟨RX11, "worn", "(II)I"⟩
abbrev cX11_fault : ByteArray := prog_1_method_28_code
def yX11_fault : MethodName := ⟨RX11, "fault", "()I"⟩
abbrev cX11_job : ByteArray := prog_1_method_29_code
def yX11_job : MethodName := ⟨RX11, "job", "(IIII)I"⟩
abbrev cX11_done : ByteArray := prog_1_method_30_code
def yX11_done : MethodName := ⟨RX11, "done", "(II)Z"⟩
abbrev cX11_pays : ByteArray := prog_1_method_31_code
def yX11_pays : MethodName := ⟨RX11, "pays", "(II)I"⟩
abbrev cX11_payers : ByteArray := prog_1_method_32_code
def yX11_payers : MethodName := ⟨RX11, "payers", "(III)I"⟩
abbrev cX11_council : ByteArray := prog_1_method_33_code
def yX11_council : MethodName := ⟨RX11, "council", "(I)I"⟩
abbrev cX11_settle : ByteArray := prog_1_method_34_code
def yX11_settle : MethodName := ⟨RX11, "settle", "()I"⟩
abbrev cX11_late : ByteArray := prog_1_method_35_code
def yX11_late : MethodName := ⟨RX11, "late", "(I)I"⟩
abbrev cX11_runs : ByteArray := prog_1_method_36_code
def yX11_runs : MethodName := ⟨RX11, "runs", "(III)I"⟩
abbrev cX11_covered : ByteArray := prog_1_method_37_code
def yX11_covered : MethodName := ⟨RX11, "covered", "(IIII)I"⟩
abbrev cX11_thirsty : ByteArray := prog_1_method_38_code
def yX11_thirsty : MethodName := ⟨RX11, "thirsty", "(IIII)I"⟩
abbrev cX11_mend : ByteArray := prog_1_method_39_code
def yX11_mend : MethodName := ⟨RX11, "mend", "(IIII)I"⟩
abbrev cX11_gift : ByteArray := prog_1_method_40_code
def yX11_gift : MethodName := ⟨RX11, "gift", "(IIII)I"⟩
abbrev cX11_germs : ByteArray := prog_1_method_41_code
def yX11_germs : MethodName := ⟨RX11, "germs", "(III)I"⟩
abbrev cX11_lead : ByteArray := prog_1_method_42_code
def yX11_lead : MethodName := ⟨RX11, "lead", "(II)I"⟩
abbrev cX11_drips : ByteArray := prog_1_method_43_code
def yX11_drips : MethodName := ⟨RX11, "drips", "(IIII)I"⟩
abbrev cX11_round : ByteArray := prog_1_method_44_code
def yX11_round : MethodName := ⟨RX11, "round", "(II)I"⟩
abbrev cX11_frost : ByteArray := prog_1_method_45_code
def yX11_frost : MethodName := ⟨RX11, "frost", "(IIII)I"⟩
abbrev cX11_horse : ByteArray := prog_1_method_46_code
def yX11_horse : MethodName := ⟨RX11, "horse", "(IIIII)I"⟩
abbrev cX11_stations : ByteArray := prog_1_method_47_code
def yX11_stations : MethodName := ⟨RX11, "stations", "(IIIII)I"⟩
abbrev cX11_fits : ByteArray := prog_1_method_48_code
def yX11_fits : MethodName := ⟨RX11, "fits", "(II)I"⟩
abbrev cX11_could : ByteArray := prog_1_method_49_code
def yX11_could : MethodName := ⟨RX11, "could", "(II)I"⟩
abbrev cX11_remembers : ByteArray := prog_1_method_50_code
def yX11_remembers : MethodName := ⟨RX11, "remembers", "(I)I"⟩
abbrev cX11_beside : ByteArray := prog_1_method_51_code
def yX11_beside : MethodName := ⟨RX11, "beside", "(IIII)I"⟩
abbrev cX11_hurts : ByteArray := prog_1_method_52_code
def yX11_hurts : MethodName := ⟨RX11, "hurts", "(IIII)I"⟩
abbrev cX11_wears : ByteArray := prog_1_method_53_code
def yX11_wears : MethodName := ⟨RX11, "wears", "(II)I"⟩
abbrev cX11_gone : ByteArray := prog_1_method_54_code
def yX11_gone : MethodName := ⟨RX11, "gone", "(I)I"⟩
abbrev cX11_watch : ByteArray := prog_1_method_55_code
def yX11_watch : MethodName := ⟨RX11, "watch", "(III)I"⟩
abbrev cX11_filled : ByteArray := prog_1_method_56_code
def yX11_filled : MethodName := ⟨RX11, "filled", "(IIII)I"⟩
abbrev cX11_busiest : ByteArray := prog_1_method_57_code
def yX11_busiest : MethodName := ⟨RX11, "busiest", "(IIII)I"⟩
abbrev cX11_banned : ByteArray := prog_1_method_58_code
def yX11_banned : MethodName := ⟨RX11, "banned", "(III)I"⟩
abbrev cX11_image : ByteArray := prog_1_method_59_code
def yX11_image : MethodName := ⟨RX11, "image", "()I"⟩
abbrev cX11_back : ByteArray := prog_1_method_60_code
def yX11_back : MethodName := ⟨RX11, "back", "(I)Z"⟩
abbrev cX11_count : ByteArray := prog_1_method_61_code
def yX11_count : MethodName := ⟨RX11, "count", "(I)I"⟩
abbrev cX11_isWithin : ByteArray := prog_1_method_62_code
def yX11_isWithin : MethodName := ⟨RX11, "isWithin", "(II)Z"⟩
abbrev cX11_isDay : ByteArray := prog_1_method_63_code
def yX11_isDay : MethodName := ⟨RX11, "isDay", "(I)Z"⟩
abbrev cX11_isCell : ByteArray := prog_1_method_64_code
def yX11_isCell : MethodName := ⟨RX11, "isCell", "(I)Z"⟩
abbrev cX11_isWalk : ByteArray := prog_1_method_65_code
def yX11_isWalk : MethodName := ⟨RX11, "isWalk", "(III)Z"⟩
abbrev cX11_isSpan : ByteArray := prog_1_method_66_code
def yX11_isSpan : MethodName := ⟨RX11, "isSpan", "(III)Z"⟩
abbrev cX11_isPast : ByteArray := prog_1_method_67_code
def yX11_isPast : MethodName := ⟨RX11, "isPast", "(I)Z"⟩
abbrev cX11_isNode : ByteArray := prog_1_method_68_code
def yX11_isNode : MethodName := ⟨RX11, "isNode", "(I)Z"⟩
abbrev cX11_isTap : ByteArray := prog_1_method_69_code
def yX11_isTap : MethodName := ⟨RX11, "isTap", "(I)Z"⟩
abbrev cX11_isHouse : ByteArray := prog_1_method_70_code
def yX11_isHouse : MethodName := ⟨RX11, "isHouse", "(I)Z"⟩
abbrev cX11_isJob : ByteArray := prog_1_method_71_code
def yX11_isJob : MethodName := ⟨RX11, "isJob", "(I)Z"⟩
abbrev cX11_isJobOf : ByteArray := prog_1_method_72_code
def yX11_isJobOf : MethodName := ⟨RX11, "isJobOf", "(III)Z"⟩
abbrev cX11_isWorn : ByteArray := prog_1_method_73_code
def yX11_isWorn : MethodName := ⟨RX11, "isWorn", "(I)Z"⟩
abbrev cX11_areTaps : ByteArray := prog_1_method_74_code
def yX11_areTaps : MethodName := ⟨RX11, "areTaps", "(II)Z"⟩
abbrev cX11_isIn : ByteArray := prog_1_method_75_code
def yX11_isIn : MethodName := ⟨RX11, "isIn", "(II)Z"⟩
abbrev cX11_pick : ByteArray := prog_1_method_76_code
def yX11_pick : MethodName := ⟨RX11, "pick", "(II)I"⟩
abbrev cX11_lastIn : ByteArray := prog_1_method_77_code
def yX11_lastIn : MethodName := ⟨RX11, "lastIn", "(III)I"⟩
abbrev cX11_stepsBetween : ByteArray := prog_1_method_78_code
def yX11_stepsBetween : MethodName := ⟨RX11, "stepsBetween", "(II)I"⟩
abbrev cX11_tellOfTap : ByteArray := prog_1_method_79_code
def yX11_tellOfTap : MethodName := ⟨RX11, "tellOfTap", "(LCityCups$Ledger;III)I"⟩
abbrev cX11_tellOfCity : ByteArray := prog_1_method_80_code
def yX11_tellOfCity : MethodName := ⟨RX11, "tellOfCity", "(LCityCups$Ledger;II)I"⟩
abbrev cX11_endText : ByteArray := prog_1_method_81_code
def yX11_endText : MethodName := ⟨RX11, "endText", "(I)V"⟩
abbrev cX11_isShut : ByteArray := prog_1_method_82_code
def yX11_isShut : MethodName := ⟨RX11, "isShut", "(III)Z"⟩
abbrev cX11_troughsOn : ByteArray := prog_1_method_83_code
def yX11_troughsOn : MethodName := ⟨RX11, "troughsOn", "(II)I"⟩
abbrev cX11_gatherFacts : ByteArray := prog_1_method_84_code
def yX11_gatherFacts : MethodName := ⟨RX11, "gatherFacts", "(IIII)V"⟩
abbrev cX11_isCapped : ByteArray := prog_1_method_85_code
def yX11_isCapped : MethodName := ⟨RX11, "isCapped", "(III)Z"⟩
abbrev cX11_uncappedTaps : ByteArray := prog_1_method_86_code
def yX11_uncappedTaps : MethodName := ⟨RX11, "uncappedTaps", "(ZII)I"⟩
abbrev cX11_thirstyHouses : ByteArray := prog_1_method_87_code
def yX11_thirstyHouses : MethodName := ⟨RX11, "thirstyHouses", "(III)I"⟩
abbrev cX11_cleanPipes : ByteArray := prog_1_method_88_code
def yX11_cleanPipes : MethodName := ⟨RX11, "cleanPipes", "(I)I"⟩
abbrev cX11_isLeadSure : ByteArray := prog_1_method_89_code
def yX11_isLeadSure : MethodName := ⟨RX11, "isLeadSure", "(III)Z"⟩
abbrev cX11_leastFlow : ByteArray := prog_1_method_90_code
def yX11_leastFlow : MethodName := ⟨RX11, "leastFlow", "(III)I"⟩
abbrev cX11_mostFlow : ByteArray := prog_1_method_91_code
def yX11_mostFlow : MethodName := ⟨RX11, "mostFlow", "(III)I"⟩
abbrev cX11_payersOf : ByteArray := prog_1_method_92_code
def yX11_payersOf : MethodName := ⟨RX11, "payersOf", "(III)I"⟩
abbrev cX11_payersOfJob : ByteArray := prog_1_method_93_code
def yX11_payersOfJob : MethodName := ⟨RX11, "payersOfJob", "(I)I"⟩
abbrev cX11_deliberate : ByteArray := prog_1_method_94_code
def yX11_deliberate : MethodName := ⟨RX11, "deliberate", "()V"⟩
abbrev cX11_expectedBursts : ByteArray := prog_1_method_95_code
def yX11_expectedBursts : MethodName := ⟨RX11, "expectedBursts", "(III)I"⟩
abbrev cX11_isByIce : ByteArray := prog_1_method_96_code
def yX11_isByIce : MethodName := ⟨RX11, "isByIce", "(III)Z"⟩
abbrev cX11_stoneDays : ByteArray := prog_1_method_97_code
def yX11_stoneDays : MethodName := ⟨RX11, "stoneDays", "(I)I"⟩
abbrev cX11_damagesSeen : ByteArray := prog_1_method_98_code
def yX11_damagesSeen : MethodName := ⟨RX11, "damagesSeen", "(III)I"⟩
abbrev cX11_sumFillings : ByteArray := prog_1_method_99_code
def yX11_sumFillings : MethodName := ⟨RX11, "sumFillings", "(III)V"⟩
abbrev cX11_tapsAheadOf : ByteArray := prog_1_method_100_code
def yX11_tapsAheadOf : MethodName := ⟨RX11, "tapsAheadOf", "(I)I"⟩
def RX12 : String := "CityCupsModel"
def TX12 : u_T := fun k => match k with
  | 0 => ("CityCupsModel", "nodes", "[I", true)
  | 1 => ("CityCupsModel", "taps", "[I", true)
  | 2 => ("CityCupsModel", "houses", "[I", true)
  | 3 => ("CityCupsModel", "todays", "[I", true)
  | 4 => ("CityCupsModel", "tolds", "[I", true)
  | 5 => ("CityCupsModel", "jobs", "[I", true)
  | 6 => ("CityCupsModel", "errors", "[I", true)
  | 7 => ("CityCupsModel", "bans", "[I", true)
  | 8 => ("CityCupsModel", "courses", "[I", true)
  | 9 => ("CityCupsModel", "trustsThen", "[I", true)
  | 10 => ("CityCupsModel", "parents", "[I", true)
  | 11 => ("CityCupsModel", "tapNode", "[I", true)
  | 12 => ("CityCupsModel", "tapCell", "[I", true)
  | 13 => ("CityCupsModel", "aheads", "[I", true)
  | 14 => ("CityCupsModel", "losses", "[I", true)
  | 15 => ("CityCupsModel", "hards", "[I", true)
  | 16 => ("CityCupsModel", "colds", "[I", true)
  | 17 => ("CityCupsModel", "troughs", "[Z", true)
  | 18 => ("CityCupsModel", "paid", "[Z", true)
  | 19 => ("CityCupsModel", "houseCell", "[I", true)
  | 20 => ("CityCupsModel", "courseCell", "[I", true)
  | 21 => ("CityCupsModel", "coins", "[I", true)
  | 22 => ("CityCupsModel", "kinds", "[I", true)
  | 23 => ("CityCupsModel", "whos", "[I", true)
  | 24 => ("CityCupsModel", "days", "[I", true)
  | 25 => ("CityCupsModel", "muches", "[I", true)
  | 26 => ("CityCupsModel", "knowns", "[I", true)
  | 27 => ("CityCupsModel", "jobTap", "[I", true)
  | 28 => ("CityCupsModel", "jobWork", "[I", true)
  | 29 => ("CityCupsModel", "jobCost", "[I", true)
  | 30 => ("CityCupsModel", "jobBy", "[I", true)
  | 31 => ("CityCupsModel", "jobDone", "[I", true)
  | 32 => ("CityCupsModel", "images", "I", false)
  | 33 => ("CityCupsModel", "trusts", "I", false)
  | 34 => ("CityCupsModel", "donors", "I", false)
  | 35 => ("CityCupsModel", "hasCap", "Z", false)
  | 36 => ("CityCupsModel", "statements", "[I", true)
  | 37 => ("CityCupsModel", "tapsOf", "[I", true)
  | 38 => ("CityCupsModel", "says", "[Z", true)
  | 39 => ("CityCupsModel", "work", "[I", true)
  | 40 => ("CityCupsModel", "condFrom", "[I", true)
  | 41 => ("CityCupsModel", "condTo", "[I", true)
  | 42 => ("CityCupsModel", "written", "I", false)
  | 43 => ("CityCupsModel", "stepKind", "[I", true)
  | 44 => ("CityCupsModel", "stepWord", "[I", true)
  | 45 => ("CityCupsModel", "stepSign", "[I", true)
  | 46 => ("CityCupsModel", "stepNumber", "[I", true)
  | 47 => ("CityCupsModel", "tape", "[B", true)
  | 48 => ("CityCupsModel", "taped", "I", false)
  | 49 => ("CityCupsModel", "faultAt", "I", false)
  | 50 => ("CityCupsModel", "limit", "I", false)
  | 51 => ("CityCupsModel", "point", "I", false)
  | 52 => ("CityCupsModel", "from", "I", false)
  | 53 => ("CityCupsModel", "token", "I", false)
  | 54 => ("CityCupsModel", "value", "I", false)
  | 55 => ("CityCupsModel", "text", "J", false)
  | 56 => ("CityCupsModel", "isWrong", "Z", false)
  | 57 => ("CityCupsModel", "opened", "[I", true)
  | 58 => ("CityCupsModel", "joined", "[I", true)
  | 59 => ("CityCupsModel", "opens", "I", false)
  | 60 => ("CityCupsModel", "moved", "[I", true)
  | 61 => ("CityCupsModel", "asks", "[I", true)
  | 62 => ("CityCupsModel", "pile", "[Z", true)
  | 63 => ("CityCupsModel", "donorSize", "[I", true)
  | 64 => ("CityCupsModel", "wornSize", "[I", true)
  | 65 => ("CityCupsModel", "donorLetters", "[B", true)
  | 66 => ("CityCupsModel", "wornLetters", "[B", true)
  | 67 => ("CityCupsModel", "letters", "[B", true)
  | 68 => ("CityCupsModel", "givenTo", "[I", true)
  | 69 => ("CityCupsModel", "cameBy", "[I", true)
  | 70 => ("CityCupsModel", "line", "[I", true)
  | 71 => ("CityCupsModel", "isRunning", "[Z", true)
  | 72 => ("CityCupsModel", "mends", "[I", true)
  | 73 => ("CityCupsModel", "helps", "[I", true)
  | 74 => ("CityCupsModel", "askedJobs", "[I", true)
  | 75 => ("CityCupsModel", "left", "[I", true)
  | 76 => ("CityCupsModel", "may", "[Z", true)
  | 77 => ("CityCupsModel", "askedMany", "I", false)
  | 78 => ("CityCupsModel", "bestCost", "I", false)
  | 79 => ("CityCupsModel", "bestCode", "I", false)
  | 80 => ("CityCupsModel", "visits", "[I", true)
  | 81 => ("CityCupsModel", "reach", "[I", true)
  | 82 => ("CityCupsModel", "row", "[I", true)
  | 83 => ("CityCupsModel", "bestRow", "[I", true)
  | 84 => ("CityCupsModel", "drinks", "[I", true)
  | 85 => ("CityCupsModel", "places", "[I", true)
  | _ => ("CityCupsModel", "amounts", "[I", true)
def tyX12 : Nat → FieldType := fun k => match k with
  | 0 => .array .int
  | 1 => .array .int
  | 2 => .array .int
  | 3 => .array .int
  | 4 => .array .int
  | 5 => .array .int
  | 6 => .array .int
  | 7 => .array .int
  | 8 => .array .int
  | 9 => .array .int
  | 10 => .array .int
  | 11 => .array .int
  | 12 => .array .int
  | 13 => .array .int
  | 14 => .array .int
  | 15 => .array .int
  | 16 => .array .int
  | 17 => .array .boolean
  | 18 => .array .boolean
  | 19 => .array .int
  | 20 => .array .int
  | 21 => .array .int
  | 22 => .array .int
  | 23 => .array .int
  | 24 => .array .int
  | 25 => .array .int
  | 26 => .array .int
  | 27 => .array .int
  | 28 => .array .int
  | 29 => .array .int
  | 30 => .array .int
  | 31 => .array .int
  | 32 => .int
  | 33 => .int
  | 34 => .int
  | 35 => .boolean
  | 36 => .array .int
  | 37 => .array .int
  | 38 => .array .boolean
  | 39 => .array .int
  | 40 => .array .int
  | 41 => .array .int
  | 42 => .int
  | 43 => .array .int
  | 44 => .array .int
  | 45 => .array .int
  | 46 => .array .int
  | 47 => .array .byte
  | 48 => .int
  | 49 => .int
  | 50 => .int
  | 51 => .int
  | 52 => .int
  | 53 => .int
  | 54 => .int
  | 55 => .long
  | 56 => .boolean
  | 57 => .array .int
  | 58 => .array .int
  | 59 => .int
  | 60 => .array .int
  | 61 => .array .int
  | 62 => .array .boolean
  | 63 => .array .int
  | 64 => .array .int
  | 65 => .array .byte
  | 66 => .array .byte
  | 67 => .array .byte
  | 68 => .array .int
  | 69 => .array .int
  | 70 => .array .int
  | 71 => .array .boolean
  | 72 => .array .int
  | 73 => .array .int
  | 74 => .array .int
  | 75 => .array .int
  | 76 => .array .boolean
  | 77 => .int
  | 78 => .int
  | 79 => .int
  | 80 => .array .int
  | 81 => .array .int
  | 82 => .array .int
  | 83 => .array .int
  | 84 => .array .int
  | 85 => .array .int
  | _ => .array .int
abbrev wsX120 : List Cond := u_ws RX12 TX12 87
theorem nmX12 : ∀ a, a < 87 → ∀ b, b < 87 → a ≠ b → (TX12 a).2.1 ≠ (TX12 b).2.1 := by decide +kernel
theorem tyX12_ok : ∀ k, k < 87 → parseFieldDescriptor (TX12 k).2.2.1 = some (tyX12 k) := by decide +kernel
abbrev cX12_init : ByteArray := prog_14_method_1_code
def yX12_init : MethodName := ⟨RX12, "<init>", "()V"⟩
abbrev cX12_within : ByteArray := prog_14_method_3_code
def yX12_within : MethodName := ⟨RX12, "within", "(III)Z"⟩
abbrev cX12_isDay : ByteArray := prog_14_method_4_code
def yX12_isDay : MethodName := ⟨RX12, "isDay", "(I)Z"⟩
abbrev cX12_isCell : ByteArray := prog_14_method_5_code
def yX12_isCell : MethodName := ⟨RX12, "isCell", "(I)Z"⟩
abbrev cX12_apart : ByteArray := prog_14_method_6_code
def yX12_apart : MethodName := ⟨RX12, "apart", "(II)I"⟩
abbrev cX12_steps : ByteArray := prog_14_method_7_code
def yX12_steps : MethodName := ⟨RX12, "steps", "(II)I"⟩
abbrev cX12_bitsOf : ByteArray := prog_14_method_8_code
def yX12_bitsOf : MethodName := ⟨RX12, "bitsOf", "(I)I"⟩
abbrev cX12_copies : ByteArray := prog_14_method_9_code
def yX12_copies : MethodName := ⟨RX12, "copies", "(II)V"⟩
abbrev cX12_image : ByteArray := prog_14_method_10_code
def yX12_image : MethodName := ⟨RX12, "image", "()I"⟩
abbrev cX12_back : ByteArray := prog_14_method_11_code
def yX12_back : MethodName := ⟨RX12, "back", "(I)Z"⟩
abbrev cX12_isTap : ByteArray := prog_14_method_12_code
def yX12_isTap : MethodName := ⟨RX12, "isTap", "(I)Z"⟩
abbrev cX12_isNode : ByteArray := prog_14_method_13_code
def yX12_isNode : MethodName := ⟨RX12, "isNode", "(I)Z"⟩
abbrev cX12_isHouse : ByteArray := prog_14_method_14_code
def yX12_isHouse : MethodName := ⟨RX12, "isHouse", "(I)Z"⟩
abbrev cX12_node : ByteArray := prog_14_method_15_code
def yX12_node : MethodName := ⟨RX12, "node", "(I)I"⟩
abbrev cX12_tap : ByteArray := prog_14_method_16_code
def yX12_tap : MethodName := ⟨RX12, "tap", "(IIIZI)I"⟩
abbrev cX12_house : ByteArray := prog_14_method_17_code
def yX12_house : MethodName := ⟨RX12, "house", "(I)I"⟩
abbrev cX12_day : ByteArray := prog_14_method_18_code
def yX12_day : MethodName := ⟨RX12, "day", "(I)Z"⟩
abbrev cX12_error : ByteArray := prog_14_method_19_code
def yX12_error : MethodName := ⟨RX12, "error", "(I)Z"⟩
abbrev cX12_cold : ByteArray := prog_14_method_20_code
def yX12_cold : MethodName := ⟨RX12, "cold", "(II)Z"⟩
abbrev cX12_hard : ByteArray := prog_14_method_21_code
def yX12_hard : MethodName := ⟨RX12, "hard", "(II)Z"⟩
abbrev cX12_ban : ByteArray := prog_14_method_22_code
def yX12_ban : MethodName := ⟨RX12, "ban", "(I)Z"⟩
abbrev cX12_course : ByteArray := prog_14_method_23_code
def yX12_course : MethodName := ⟨RX12, "course", "(I)I"⟩
abbrev cX12_toldOf : ByteArray := prog_14_method_24_code
def yX12_toldOf : MethodName := ⟨RX12, "toldOf", "(I)I"⟩
abbrev cX12_tells : ByteArray := prog_14_method_25_code
def yX12_tells : MethodName := ⟨RX12, "tells", "(IIIII)I"⟩
abbrev cX12_shut : ByteArray := prog_14_method_26_code
def yX12_shut : MethodName := ⟨RX12, "shut", "(IIZ)I"⟩
abbrev cX12_level : ByteArray := prog_14_method_27_code
def yX12_level : MethodName := ⟨RX12, "level", "(II)I"⟩
abbrev cX12_bottle : ByteArray := prog_14_method_28_code
def yX12_bottle : MethodName := ⟨RX12, "bottle", "(IIZ)I"⟩
abbrev cX12_test : ByteArray := prog_14_method_29_code
def yX12_test : MethodName := ⟨RX12, "test", "(IIZ)I"⟩
abbrev cX12_flow : ByteArray := prog_14_method_30_code
def yX12_flow : MethodName := ⟨RX12, "flow", "(III)I"⟩
abbrev cX12_night : ByteArray := prog_14_method_31_code
def yX12_night : MethodName := ⟨RX12, "night", "(II)I"⟩
abbrev cX12_burst : ByteArray := prog_14_method_32_code
def yX12_burst : MethodName := ⟨RX12, "burst", "(II)I"⟩
abbrev cX12_damage : ByteArray := prog_14_method_33_code
def yX12_damage : MethodName := ⟨RX12, "damage", "(III)I"⟩
abbrev cX12_hurt : ByteArray := prog_14_method_34_code
def yX12_hurt : MethodName := ⟨RX12, "hurt", "(III)I"⟩
abbrev cX12_fill : ByteArray := prog_14_method_35_code
def yX12_fill : MethodName := ⟨RX12, "fill", "(III)I"⟩
abbrev cX12_cup : ByteArray := prog_14_method_36_code
def yX12_cup : MethodName := ⟨RX12, "cup", "(IIZ)I"⟩
abbrev cX12_plant : ByteArray := prog_14_method_37_code
def yX12_plant : MethodName := ⟨RX12, "plant", "(IIZ)I"⟩
abbrev cX12_last : ByteArray := prog_14_method_38_code
def yX12_last : MethodName := ⟨RX12, "last", "(IIIII)I"⟩
abbrev cX12_isShut : ByteArray := prog_14_method_39_code
def yX12_isShut : MethodName := ⟨RX12, "isShut", "(III)Z"⟩
abbrev cX12_hasTrough : ByteArray := prog_14_method_40_code
def yX12_hasTrough : MethodName := ⟨RX12, "hasTrough", "(III)Z"⟩
abbrev cX12_feed : ByteArray := prog_14_method_41_code
def yX12_feed : MethodName := ⟨RX12, "feed", "(IIIII)I"⟩
abbrev cX12_here : ByteArray := prog_14_method_42_code
def yX12_here : MethodName := ⟨RX12, "here", "()I"⟩
abbrev cX12_next : ByteArray := prog_14_method_43_code
def yX12_next : MethodName := ⟨RX12, "next", "()V"⟩
abbrev cX12_errs : ByteArray := prog_14_method_44_code
def yX12_errs : MethodName := ⟨RX12, "errs", "()V"⟩
abbrev cX12_is : ByteArray := prog_14_method_45_code
def yX12_is : MethodName := ⟨RX12, "is", "(J)Z"⟩
abbrev cX12_wordHere : ByteArray := prog_14_method_46_code
def yX12_wordHere : MethodName := ⟨RX12, "wordHere", "()I"⟩
abbrev cX12_workHere : ByteArray := prog_14_method_47_code
def yX12_workHere : MethodName := ⟨RX12, "workHere", "()I"⟩
abbrev cX12_step : ByteArray := prog_14_method_48_code
def yX12_step : MethodName := ⟨RX12, "step", "(IIII)V"⟩
abbrev cX12_readTest : ByteArray := prog_14_method_49_code
def yX12_readTest : MethodName := ⟨RX12, "readTest", "()V"⟩
abbrev cX12_closes : ByteArray := prog_14_method_50_code
def yX12_closes : MethodName := ⟨RX12, "closes", "()Z"⟩
abbrev cX12_readCondition : ByteArray := prog_14_method_51_code
def yX12_readCondition : MethodName := ⟨RX12, "readCondition", "()V"⟩
abbrev cX12_readStatement : ByteArray := prog_14_method_52_code
def yX12_readStatement : MethodName := ⟨RX12, "readStatement", "(Z)V"⟩
abbrev cX12_beginsText : ByteArray := prog_14_method_53_code
def yX12_beginsText : MethodName := ⟨RX12, "beginsText", "(I)V"⟩
abbrev cX12_reads : ByteArray := prog_14_method_54_code
def yX12_reads : MethodName := ⟨RX12, "reads", "(IZI)Z"⟩
abbrev cX12_packs : ByteArray := prog_14_method_55_code
def yX12_packs : MethodName := ⟨RX12, "packs", "()V"⟩
abbrev cX12_cap : ByteArray := prog_14_method_56_code
def yX12_cap : MethodName := ⟨RX12, "cap", "(I)I"⟩
abbrev cX12_trust : ByteArray := prog_14_method_57_code
def yX12_trust : MethodName := ⟨RX12, "trust", "(III)I"⟩
abbrev cX12_fault : ByteArray := prog_14_method_58_code
def yX12_fault : MethodName := ⟨RX12, "fault", "()I"⟩
abbrev cX12_holds : ByteArray := prog_14_method_59_code
def yX12_holds : MethodName := ⟨RX12, "holds", "(I)Z"⟩
abbrev cX12_asked : ByteArray := prog_14_method_60_code
def yX12_asked : MethodName := ⟨RX12, "asked", "(IIII)V"⟩
abbrev cX12_saysSo : ByteArray := prog_14_method_61_code
def yX12_saysSo : MethodName := ⟨RX12, "saysSo", "(II)Z"⟩
abbrev cX12_isCapped : ByteArray := prog_14_method_62_code
def yX12_isCapped : MethodName := ⟨RX12, "isCapped", "(III)Z"⟩
abbrev cX12_readsName : ByteArray := prog_14_method_63_code
def yX12_readsName : MethodName := ⟨RX12, "readsName", "(IZ)Z"⟩
abbrev cX12_donor : ByteArray := prog_14_method_64_code
def yX12_donor : MethodName := ⟨RX12, "donor", "(I)I"⟩
abbrev cX12_worn : ByteArray := prog_14_method_65_code
def yX12_worn : MethodName := ⟨RX12, "worn", "(II)I"⟩
abbrev cX12_doesFit : ByteArray := prog_14_method_66_code
def yX12_doesFit : MethodName := ⟨RX12, "doesFit", "(II)Z"⟩
abbrev cX12_hasName : ByteArray := prog_14_method_67_code
def yX12_hasName : MethodName := ⟨RX12, "hasName", "(I)Z"⟩
abbrev cX12_fits : ByteArray := prog_14_method_68_code
def yX12_fits : MethodName := ⟨RX12, "fits", "(II)I"⟩
abbrev cX12_getsOne : ByteArray := prog_14_method_69_code
def yX12_getsOne : MethodName := ⟨RX12, "getsOne", "(II)Z"⟩
abbrev cX12_hands : ByteArray := prog_14_method_70_code
def yX12_hands : MethodName := ⟨RX12, "hands", "(II)V"⟩
abbrev cX12_isWay : ByteArray := prog_14_method_71_code
def yX12_isWay : MethodName := ⟨RX12, "isWay", "(II)Z"⟩
abbrev cX12_couldGive : ByteArray := prog_14_method_72_code
def yX12_couldGive : MethodName := ⟨RX12, "couldGive", "(II)Z"⟩
abbrev cX12_could : ByteArray := prog_14_method_73_code
def yX12_could : MethodName := ⟨RX12, "could", "(II)I"⟩
abbrev cX12_remembers : ByteArray := prog_14_method_74_code
def yX12_remembers : MethodName := ⟨RX12, "remembers", "(I)I"⟩
abbrev cX12_runs : ByteArray := prog_14_method_75_code
def yX12_runs : MethodName := ⟨RX12, "runs", "(III)I"⟩
abbrev cX12_findRunning : ByteArray := prog_14_method_76_code
def yX12_findRunning : MethodName := ⟨RX12, "findRunning", "(II)V"⟩
abbrev cX12_coveredBy : ByteArray := prog_14_method_77_code
def yX12_coveredBy : MethodName := ⟨RX12, "coveredBy", "(II)I"⟩
abbrev cX12_isWalk : ByteArray := prog_14_method_78_code
def yX12_isWalk : MethodName := ⟨RX12, "isWalk", "(I)Z"⟩
abbrev cX12_covered : ByteArray := prog_14_method_79_code
def yX12_covered : MethodName := ⟨RX12, "covered", "(IIII)I"⟩
abbrev cX12_thirsty : ByteArray := prog_14_method_80_code
def yX12_thirsty : MethodName := ⟨RX12, "thirsty", "(IIII)I"⟩
abbrev cX12_gift : ByteArray := prog_14_method_81_code
def yX12_gift : MethodName := ⟨RX12, "gift", "(IIII)I"⟩
abbrev cX12_couldOpen : ByteArray := prog_14_method_82_code
def yX12_couldOpen : MethodName := ⟨RX12, "couldOpen", "(II)I"⟩
abbrev cX12_mend : ByteArray := prog_14_method_83_code
def yX12_mend : MethodName := ⟨RX12, "mend", "(IIII)I"⟩
abbrev cX12_fewest : ByteArray := prog_14_method_84_code
def yX12_fewest : MethodName := ⟨RX12, "fewest", "(II)I"⟩
abbrev cX12_bound : ByteArray := prog_14_method_85_code
def yX12_bound : MethodName := ⟨RX12, "bound", "(I)I"⟩
abbrev cX12_isBelow : ByteArray := prog_14_method_86_code
def yX12_isBelow : MethodName := ⟨RX12, "isBelow", "(II)Z"⟩
abbrev cX12_germs : ByteArray := prog_14_method_87_code
def yX12_germs : MethodName := ⟨RX12, "germs", "(III)I"⟩
abbrev cX12_isSurelyNot : ByteArray := prog_14_method_88_code
def yX12_isSurelyNot : MethodName := ⟨RX12, "isSurelyNot", "(II)Z"⟩
abbrev cX12_lead : ByteArray := prog_14_method_89_code
def yX12_lead : MethodName := ⟨RX12, "lead", "(II)I"⟩
abbrev cX12_drips : ByteArray := prog_14_method_90_code
def yX12_drips : MethodName := ⟨RX12, "drips", "(IIII)I"⟩
abbrev cX12_isJob : ByteArray := prog_14_method_91_code
def yX12_isJob : MethodName := ⟨RX12, "isJob", "(I)Z"⟩
abbrev cX12_job : ByteArray := prog_14_method_92_code
def yX12_job : MethodName := ⟨RX12, "job", "(IIII)I"⟩
abbrev cX12_done : ByteArray := prog_14_method_93_code
def yX12_done : MethodName := ⟨RX12, "done", "(II)Z"⟩
abbrev cX12_mayPay : ByteArray := prog_14_method_94_code
def yX12_mayPay : MethodName := ⟨RX12, "mayPay", "(IIII)Z"⟩
abbrev cX12_pays : ByteArray := prog_14_method_95_code
def yX12_pays : MethodName := ⟨RX12, "pays", "(II)I"⟩
abbrev cX12_payers : ByteArray := prog_14_method_96_code
def yX12_payers : MethodName := ⟨RX12, "payers", "(III)I"⟩
abbrev cX12_findAsked : ByteArray := prog_14_method_97_code
def yX12_findAsked : MethodName := ⟨RX12, "findAsked", "()V"⟩
abbrev cX12_costOf : ByteArray := prog_14_method_98_code
def yX12_costOf : MethodName := ⟨RX12, "costOf", "(I)I"⟩
abbrev cX12_findCouncil : ByteArray := prog_14_method_99_code
def yX12_findCouncil : MethodName := ⟨RX12, "findCouncil", "()V"⟩
abbrev cX12_council : ByteArray := prog_14_method_100_code
def yX12_council : MethodName := ⟨RX12, "council", "(I)I"⟩
abbrev cX12_settle : ByteArray := prog_14_method_101_code
def yX12_settle : MethodName := ⟨RX12, "settle", "()I"⟩
abbrev cX12_lateOf : ByteArray := prog_14_method_102_code
def yX12_lateOf : MethodName := ⟨RX12, "lateOf", "(I)I"⟩
abbrev cX12_late : ByteArray := prog_14_method_103_code
def yX12_late : MethodName := ⟨RX12, "late", "(I)I"⟩
abbrev cX12_listed : ByteArray := prog_14_method_104_code
def yX12_listed : MethodName := ⟨RX12, "listed", "(I)I"⟩
abbrev cX12_areTaps : ByteArray := prog_14_method_105_code
def yX12_areTaps : MethodName := ⟨RX12, "areTaps", "(II)Z"⟩
abbrev cX12_round : ByteArray := prog_14_method_106_code
def yX12_round : MethodName := ⟨RX12, "round", "(II)I"⟩
abbrev cX12_goesOn : ByteArray := prog_14_method_107_code
def yX12_goesOn : MethodName := ⟨RX12, "goesOn", "(I)Z"⟩
abbrev cX12_frostOf : ByteArray := prog_14_method_108_code
def yX12_frostOf : MethodName := ⟨RX12, "frostOf", "(III)I"⟩
abbrev cX12_frost : ByteArray := prog_14_method_109_code
def yX12_frost : MethodName := ⟨RX12, "frost", "(IIII)I"⟩
abbrev cX12_horse : ByteArray := prog_14_method_110_code
def yX12_horse : MethodName := ⟨RX12, "horse", "(IIIII)I"⟩
abbrev cX12_stations : ByteArray := prog_14_method_111_code
def yX12_stations : MethodName := ⟨RX12, "stations", "(IIIII)I"⟩
abbrev cX12_chanceOf : ByteArray := prog_14_method_112_code
def yX12_chanceOf : MethodName := ⟨RX12, "chanceOf", "(II)I"⟩
abbrev cX12_isAsked : ByteArray := prog_14_method_113_code
def yX12_isAsked : MethodName := ⟨RX12, "isAsked", "(IIIII)Z"⟩
abbrev cX12_areDays : ByteArray := prog_14_method_114_code
def yX12_areDays : MethodName := ⟨RX12, "areDays", "(III)Z"⟩
abbrev cX12_expected : ByteArray := prog_14_method_115_code
def yX12_expected : MethodName := ⟨RX12, "expected", "(III)I"⟩
abbrev cX12_beside : ByteArray := prog_14_method_116_code
def yX12_beside : MethodName := ⟨RX12, "beside", "(IIII)I"⟩
abbrev cX12_hurts : ByteArray := prog_14_method_117_code
def yX12_hurts : MethodName := ⟨RX12, "hurts", "(IIII)I"⟩
abbrev cX12_stoneOf : ByteArray := prog_14_method_118_code
def yX12_stoneOf : MethodName := ⟨RX12, "stoneOf", "(II)I"⟩
abbrev cX12_wears : ByteArray := prog_14_method_119_code
def yX12_wears : MethodName := ⟨RX12, "wears", "(II)I"⟩
abbrev cX12_gone : ByteArray := prog_14_method_120_code
def yX12_gone : MethodName := ⟨RX12, "gone", "(I)I"⟩
abbrev cX12_watch : ByteArray := prog_14_method_121_code
def yX12_watch : MethodName := ⟨RX12, "watch", "(III)I"⟩
abbrev cX12_bottlesOf : ByteArray := prog_14_method_122_code
def yX12_bottlesOf : MethodName := ⟨RX12, "bottlesOf", "(IIII)I"⟩
abbrev cX12_filled : ByteArray := prog_14_method_123_code
def yX12_filled : MethodName := ⟨RX12, "filled", "(IIII)I"⟩
abbrev cX12_busiest : ByteArray := prog_14_method_124_code
def yX12_busiest : MethodName := ⟨RX12, "busiest", "(IIII)I"⟩
abbrev cX12_banned : ByteArray := prog_14_method_125_code
def yX12_banned : MethodName := ⟨RX12, "banned", "(III)I"⟩
abbrev cX12_jobsSo : ByteArray := prog_14_method_126_code
def yX12_jobsSo : MethodName := ⟨RX12, "jobsSo", "(Z)I"⟩
abbrev cX12_names : ByteArray := prog_14_method_127_code
def yX12_names : MethodName := ⟨RX12, "names", "()I"⟩
abbrev cX12_count : ByteArray := prog_14_method_128_code
def yX12_count : MethodName := ⟨RX12, "count", "(I)I"⟩
def RJ6 : String := "java/lang/Integer"
def TJ6 : u_T := fun k => match k with
  | _ => ("", "", "", false)
def tyJ6 : Nat → FieldType := fun k => match k with
  | _ => .int
abbrev wsJ60 : List Cond := u_ws RJ6 TJ6 0
theorem nmJ6 : ∀ a, a < 0 → ∀ b, b < 0 → a ≠ b → (TJ6 a).2.1 ≠ (TJ6 b).2.1 := by decide +kernel
theorem tyJ6_ok : ∀ k, k < 0 → parseFieldDescriptor (TJ6 k).2.2.1 = some (tyJ6 k) := by decide +kernel
abbrev cJ6_bitCount_0f7a4 : ByteArray := prog_16_method_49_code
def yJ6_bitCount_0f7a4 : MethodName := ⟨RJ6, "bitCount", "(I)I"⟩
def RJ9 : String := "java/lang/Math"
def TJ9 : u_T := fun k => match k with
  | _ => ("", "", "", false)
def tyJ9 : Nat → FieldType := fun k => match k with
  | _ => .int
abbrev wsJ90 : List Cond := u_ws RJ9 TJ9 0
theorem nmJ9 : ∀ a, a < 0 → ∀ b, b < 0 → a ≠ b → (TJ9 a).2.1 ≠ (TJ9 b).2.1 := by decide +kernel
theorem tyJ9_ok : ∀ k, k < 0 → parseFieldDescriptor (TJ9 k).2.2.1 = some (tyJ9 k) := by decide +kernel
abbrev cJ9_floorMod_7cf53 : ByteArray := prog_17_method_50_code
def yJ9_floorMod_7cf53 : MethodName := ⟨RJ9, "floorMod", "(II)I"⟩
abbrev cJ9_abs_0f7a4 : ByteArray := prog_17_method_59_code
def yJ9_abs_0f7a4 : MethodName := ⟨RJ9, "abs", "(I)I"⟩
abbrev cJ9_max_7cf53 : ByteArray := prog_17_method_65_code
def yJ9_max_7cf53 : MethodName := ⟨RJ9, "max", "(II)I"⟩
abbrev cJ9_min_7cf53 : ByteArray := prog_17_method_69_code
def yJ9_min_7cf53 : MethodName := ⟨RJ9, "min", "(II)I"⟩
def RJ0 : String := "java/lang/String"
def TJ0 : u_T := fun k => match k with
  | _ => ("", "", "", false)
def tyJ0 : Nat → FieldType := fun k => match k with
  | _ => .int
abbrev wsJ00 : List Cond := u_ws RJ0 TJ0 0
theorem nmJ0 : ∀ a, a < 0 → ∀ b, b < 0 → a ≠ b → (TJ0 a).2.1 ≠ (TJ0 b).2.1 := by decide +kernel
theorem tyJ0_ok : ∀ k, k < 0 → parseFieldDescriptor (TJ0 k).2.2.1 = some (tyJ0 k) := by decide +kernel
abbrev cJ0_length_8abf5 : ByteArray := prog_18_method_54_code
def yJ0_length_8abf5 : MethodName := ⟨RJ0, "length", "()I"⟩
abbrev cJ0_charAt_5068e : ByteArray := prog_18_method_56_code
def yJ0_charAt_5068e : MethodName := ⟨RJ0, "charAt", "(I)C"⟩
abbrev cJ0_coder_7d493 : ByteArray := prog_18_method_152_code
def yJ0_coder_7d493 : MethodName := ⟨RJ0, "coder", "()B"⟩
abbrev cJ0_isLatin1_aae02 : ByteArray := prog_18_method_154_code
def yJ0_isLatin1_aae02 : MethodName := ⟨RJ0, "isLatin1", "()Z"⟩
abbrev cJ0_checkIndex_df160 : ByteArray := prog_18_method_155_code
def yJ0_checkIndex_df160 : MethodName := ⟨RJ0, "checkIndex", "(II)V"⟩
def RJ1 : String := "java/lang/StringLatin1"
def TJ1 : u_T := fun k => match k with
  | _ => ("", "", "", false)
def tyJ1 : Nat → FieldType := fun k => match k with
  | _ => .int
abbrev wsJ10 : List Cond := u_ws RJ1 TJ1 0
theorem nmJ1 : ∀ a, a < 0 → ∀ b, b < 0 → a ≠ b → (TJ1 a).2.1 ≠ (TJ1 b).2.1 := by decide +kernel
theorem tyJ1_ok : ∀ k, k < 0 → parseFieldDescriptor (TJ1 k).2.2.1 = some (tyJ1 k) := by decide +kernel
abbrev cJ1_charAt_3b067 : ByteArray := prog_19_method_2_code
def yJ1_charAt_3b067 : MethodName := ⟨RJ1, "charAt", "([BI)C"⟩
def RJ2 : String := "java/lang/StringUTF16"
def TJ2 : u_T := fun k => match k with
  | _ => ("", "", "", false)
def tyJ2 : Nat → FieldType := fun k => match k with
  | _ => .int
abbrev wsJ20 : List Cond := u_ws RJ2 TJ2 0
theorem nmJ2 : ∀ a, a < 0 → ∀ b, b < 0 → a ≠ b → (TJ2 a).2.1 ≠ (TJ2 b).2.1 := by decide +kernel
theorem tyJ2_ok : ∀ k, k < 0 → parseFieldDescriptor (TJ2 k).2.2.1 = some (tyJ2 k) := by decide +kernel
abbrev cJ2_getChar_3b067 : ByteArray := prog_20_method_5_code
def yJ2_getChar_3b067 : MethodName := ⟨RJ2, "getChar", "([BI)C"⟩
abbrev cJ2_length_9d52b : ByteArray := prog_20_method_6_code
def yJ2_length_9d52b : MethodName := ⟨RJ2, "length", "([B)I"⟩
abbrev cJ2_charAt_3b067 : ByteArray := prog_20_method_83_code
def yJ2_charAt_3b067 : MethodName := ⟨RJ2, "charAt", "([BI)C"⟩
abbrev cJ2_checkIndex_2214a : ByteArray := prog_20_method_91_code
def yJ2_checkIndex_2214a : MethodName := ⟨RJ2, "checkIndex", "(I[B)V"⟩
def RJ10 : String := "java/lang/System"
def TJ10 : u_T := fun k => match k with
  | _ => ("", "", "", false)
def tyJ10 : Nat → FieldType := fun k => match k with
  | _ => .int
abbrev wsJ100 : List Cond := u_ws RJ10 TJ10 0
theorem nmJ10 : ∀ a, a < 0 → ∀ b, b < 0 → a ≠ b → (TJ10 a).2.1 ≠ (TJ10 b).2.1 := by decide +kernel
theorem tyJ10_ok : ∀ k, k < 0 → parseFieldDescriptor (TJ10 k).2.2.1 = some (tyJ10 k) := by decide +kernel
def RJ7 : String := "java/util/Arrays"
def TJ7 : u_T := fun k => match k with
  | _ => ("", "", "", false)
def tyJ7 : Nat → FieldType := fun k => match k with
  | _ => .int
abbrev wsJ70 : List Cond := u_ws RJ7 TJ7 0
theorem nmJ7 : ∀ a, a < 0 → ∀ b, b < 0 → a ≠ b → (TJ7 a).2.1 ≠ (TJ7 b).2.1 := by decide +kernel
theorem tyJ7_ok : ∀ k, k < 0 → parseFieldDescriptor (TJ7 k).2.2.1 = some (tyJ7 k) := by decide +kernel
abbrev cJ7_fill_53178 : ByteArray := prog_22_method_103_code
def yJ7_fill_53178 : MethodName := ⟨RJ7, "fill", "([II)V"⟩
abbrev cJ7_copyOf_59c91 : ByteArray := prog_22_method_123_code
def yJ7_copyOf_59c91 : MethodName := ⟨RJ7, "copyOf", "([II)[I"⟩
def RJ3 : String := "jdk/internal/util/Preconditions"
def TJ3 : u_T := fun k => match k with
  | _ => ("", "", "", false)
def tyJ3 : Nat → FieldType := fun k => match k with
  | _ => .int
abbrev wsJ30 : List Cond := u_ws RJ3 TJ3 0
theorem nmJ3 : ∀ a, a < 0 → ∀ b, b < 0 → a ≠ b → (TJ3 a).2.1 ≠ (TJ3 b).2.1 := by decide +kernel
theorem tyJ3_ok : ∀ k, k < 0 → parseFieldDescriptor (TJ3 k).2.2.1 = some (tyJ3 k) := by decide +kernel
abbrev cJ3_checkIndex_8e157 : ByteArray := prog_23_method_11_code
def yJ3_checkIndex_8e157 : MethodName := ⟨RJ3, "checkIndex", "(IILjava/util/function/BiFunction;)I"⟩
def RL : String := "CityCupsLaw"
abbrev cL_law : ByteArray := code
def yL_law : MethodName := ⟨RL, "law", "([I)Z"⟩
def wsL_law_r1 : List Cond := [Cond.classLink RL 7 RX11, Cond.instantiable RX11 12, Cond.initialized RX11, Cond.classLink RL 10 RX12, Cond.instantiable RX12 87, Cond.initialized RX12, Cond.methodLink RL 9 yX11_init, Cond.instanceMethod yX11_init, Cond.code yX11_init cX11_init 1 none, Cond.methodLink RX11 3 objectInit, Cond.instanceMethod objectInit, Cond.code objectInit ⟨#[0xb1]⟩ 1 none, Cond.classLink RX11 9 RX8, Cond.instantiable RX8 5, Cond.initialized RX8, Cond.fieldLink RX11 12 "CityCups" "now" "LCityCups$State;", Cond.fieldLink RX11 16 "CityCups" "images" "[LCityCups$State;", Cond.classLink RX11 20 RX7, Cond.instantiable RX7 12, Cond.initialized RX7, Cond.fieldLink RX11 23 "CityCups" "reader" "LCityCups$Reader;", Cond.classLink RX11 27 RX9, Cond.instantiable RX9 10, Cond.initialized RX9]
def wsL_law_r2 : List Cond := [Cond.fieldLink RX11 30 "CityCups" "trusts" "LCityCups$Trusts;", Cond.classLink RX11 34 RX6, Cond.instantiable RX6 8, Cond.initialized RX6, Cond.fieldLink RX11 37 "CityCups" "names" "LCityCups$Names;", Cond.classLink RX11 41 RX10, Cond.instantiable RX10 10, Cond.initialized RX10, Cond.fieldLink RX11 44 "CityCups" "walker" "LCityCups$Walker;", Cond.classLink RX11 48 RX1, Cond.instantiable RX1 8, Cond.initialized RX1, Cond.fieldLink RX11 51 "CityCups" "cover" "LCityCups$Cover;", Cond.arrayClass .int, Cond.fieldLink RX11 55 "CityCups" "facts" "[I", Cond.fieldLink RX11 59 "CityCups" "totals" "[I", Cond.classLink RX11 62 RX4, Cond.instantiable RX4 4, Cond.initialized RX4, Cond.fieldLink RX11 67 "CityCups" "capLaw" "LCityCups$Law;", Cond.fieldLink RX11 71 "CityCups" "imageCount" "I", Cond.fieldLink RX11 75 "CityCups" "faultPlace" "I", Cond.instanceMethod yX8_init, Cond.code yX8_init cX8_init 1 none]
def wsL_law_r3 : List Cond := [Cond.methodLink RX8 3 objectInit, Cond.classLink RX8 9 RX0, Cond.instantiable RX0 15, Cond.initialized RX0, Cond.fieldLink RX8 12 "CityCups$State" "city" "LCityCups$City;", Cond.classLink RX8 18 RX2, Cond.instantiable RX2 16, Cond.initialized RX2, Cond.fieldLink RX8 21 "CityCups$State" "diary" "LCityCups$Diary;", Cond.classLink RX8 25 RX3, Cond.instantiable RX3 7, Cond.initialized RX3, Cond.fieldLink RX8 28 "CityCups$State" "jobs" "LCityCups$Jobs;", Cond.fieldLink RX8 32 "CityCups$State" "coin" "[I", Cond.instanceMethod yX0_init, Cond.code yX0_init cX0_init 1 none, Cond.methodLink RX0 3 objectInit, Cond.fieldLink RX0 9 "CityCups$City" "parents" "[I", Cond.fieldLink RX0 15 "CityCups$City" "above" "[I", Cond.fieldLink RX0 18 "CityCups$City" "tapNodes" "[I", Cond.fieldLink RX0 21 "CityCups$City" "tapCells" "[I", Cond.fieldLink RX0 24 "CityCups$City" "aheads" "[I", Cond.fieldLink RX0 27 "CityCups$City" "losses" "[I", Cond.fieldLink RX0 30 "CityCups$City" "hardness" "[I"]
def wsL_law_r4 : List Cond := [Cond.fieldLink RX0 33 "CityCups$City" "houseCells" "[I", Cond.fieldLink RX0 36 "CityCups$City" "placeCells" "[I", Cond.instanceMethod yX2_init, Cond.code yX2_init cX2_init 1 none, Cond.methodLink RX2 3 objectInit, Cond.classLink RX2 9 RX5, Cond.instantiable RX5 5, Cond.initialized RX5, Cond.fieldLink RX2 14 "CityCups$Diary" "shuts" "LCityCups$Ledger;", Cond.fieldLink RX2 20 "CityCups$Diary" "levels" "LCityCups$Ledger;", Cond.fieldLink RX2 23 "CityCups$Diary" "bottles" "LCityCups$Ledger;", Cond.fieldLink RX2 26 "CityCups$Diary" "tests" "LCityCups$Ledger;", Cond.fieldLink RX2 29 "CityCups$Diary" "flows" "LCityCups$Ledger;", Cond.fieldLink RX2 32 "CityCups$Diary" "nights" "LCityCups$Ledger;", Cond.fieldLink RX2 35 "CityCups$Diary" "bursts" "LCityCups$Ledger;", Cond.fieldLink RX2 38 "CityCups$Diary" "damages" "LCityCups$Ledger;", Cond.fieldLink RX2 41 "CityCups$Diary" "hurtings" "LCityCups$Ledger;", Cond.fieldLink RX2 44 "CityCups$Diary" "fillings" "LCityCups$Ledger;", Cond.fieldLink RX2 47 "CityCups$Diary" "cups" "LCityCups$Ledger;", Cond.fieldLink RX2 50 "CityCups$Diary" "plantings" "LCityCups$Ledger;", Cond.fieldLink RX2 53 "CityCups$Diary" "cold" "[I", Cond.fieldLink RX2 57 "CityCups$Diary" "today" "I", Cond.fieldLink RX2 61 "CityCups$Diary" "error" "I", Cond.fieldLink RX2 64 "CityCups$Diary" "bannedFrom" "I"]
def wsL_law_r5 : List Cond := [Cond.methodLink RX2 11 yX5_init, Cond.instanceMethod yX5_init, Cond.code yX5_init cX5_init 3 none, Cond.methodLink RX5 3 objectInit, Cond.methodLink RX5 9 Lib.Math.max.name, Cond.static Lib.Math.max.name, Cond.initialized "java/lang/Math", Cond.code Lib.Math.max.name Lib.Math.max.code 2 (some .int), Cond.fieldLink RX5 15 "CityCups$Ledger" "who" "[I", Cond.fieldLink RX5 21 "CityCups$Ledger" "on" "[I", Cond.fieldLink RX5 24 "CityCups$Ledger" "what" "[I", Cond.fieldLink RX5 27 "CityCups$Ledger" "since" "[I", Cond.instanceMethod yX3_init, Cond.code yX3_init cX3_init 1 none, Cond.methodLink RX3 3 objectInit, Cond.fieldLink RX3 9 "CityCups$Jobs" "taps" "[I", Cond.fieldLink RX3 15 "CityCups$Jobs" "works" "[I", Cond.fieldLink RX3 18 "CityCups$Jobs" "costs" "[I", Cond.fieldLink RX3 21 "CityCups$Jobs" "promises" "[I", Cond.fieldLink RX3 24 "CityCups$Jobs" "doneOn" "[I", Cond.fieldLink RX3 27 "CityCups$Jobs" "paid" "[I", Cond.instanceMethod yX7_init, Cond.code yX7_init cX7_init 1 none, Cond.methodLink RX7 3 objectInit]
def wsL_law_r6 : List Cond := [Cond.fieldLink RX7 9 "CityCups$Reader" "tape" "[I", Cond.fieldLink RX7 15 "CityCups$Reader" "verdicts" "[I", Cond.fieldLink RX7 18 "CityCups$Reader" "works" "[I", Cond.fieldLink RX7 21 "CityCups$Reader" "ends" "[I", Cond.fieldLink RX7 24 "CityCups$Reader" "code" "[I", Cond.instanceMethod yX9_init, Cond.code yX9_init cX9_init 1 none, Cond.methodLink RX9 3 objectInit, Cond.fieldLink RX9 9 "CityCups$Trusts" "taps" "[I", Cond.classLink RX9 15 RX4, Cond.fieldLink RX9 17 "CityCups$Trusts" "laws" "[LCityCups$Law;", Cond.fieldLink RX9 21 "CityCups$Trusts" "askedJobs" "[I", Cond.fieldLink RX9 24 "CityCups$Trusts" "costs" "[I", Cond.fieldLink RX9 27 "CityCups$Trusts" "payers" "[I", Cond.fieldLink RX9 30 "CityCups$Trusts" "left" "[I", Cond.instanceMethod yX6_init, Cond.code yX6_init cX6_init 1 none, Cond.methodLink RX6 3 objectInit, Cond.fieldLink RX6 9 "CityCups$Names" "wornLengths" "[I", Cond.fieldLink RX6 15 "CityCups$Names" "fitting" "[I", Cond.fieldLink RX6 18 "CityCups$Names" "wornSigns" "[I", Cond.fieldLink RX6 21 "CityCups$Names" "donorLengths" "[I", Cond.fieldLink RX6 24 "CityCups$Names" "donorSigns" "[I", Cond.fieldLink RX6 27 "CityCups$Names" "tapOf" "[I"]
def wsL_law_r7 : List Cond := [Cond.instanceMethod yX10_init, Cond.code yX10_init cX10_init 1 none, Cond.methodLink RX10 3 objectInit, Cond.fieldLink RX10 9 "CityCups$Walker" "numbers" "[I", Cond.fieldLink RX10 15 "CityCups$Walker" "cells" "[I", Cond.fieldLink RX10 18 "CityCups$Walker" "losses" "[I", Cond.fieldLink RX10 21 "CityCups$Walker" "shortest" "[I", Cond.fieldLink RX10 24 "CityCups$Walker" "cold" "[I", Cond.fieldLink RX10 27 "CityCups$Walker" "order" "[I", Cond.fieldLink RX10 30 "CityCups$Walker" "bestOrder" "[I", Cond.instanceMethod yX1_init, Cond.code yX1_init cX1_init 1 none, Cond.methodLink RX1 3 objectInit, Cond.fieldLink RX1 9 "CityCups$Cover" "taps" "[I", Cond.fieldLink RX1 15 "CityCups$Cover" "helps" "[I", Cond.fieldLink RX1 18 "CityCups$Cover" "helpers" "[I", Cond.methodLink RX11 64 yX4_init, Cond.instanceMethod yX4_init, Cond.code yX4_init cX4_init 5 none, Cond.methodLink RX4 3 objectInit, Cond.fieldLink RX4 9 "CityCups$Law" "verdicts" "[I", Cond.fieldLink RX4 15 "CityCups$Law" "works" "[I", Cond.fieldLink RX4 18 "CityCups$Law" "ends" "[I", Cond.fieldLink RX4 21 "CityCups$Law" "code" "[I"]
def wsL_law_r8 : List Cond := [Cond.methodLink RL 12 yX12_init, Cond.instanceMethod yX12_init, Cond.code yX12_init cX12_init 1 none, Cond.methodLink RX12 1 objectInit, Cond.fieldLink RX12 7 "CityCupsModel" "nodes" "[I", Cond.fieldLink RX12 13 "CityCupsModel" "taps" "[I", Cond.fieldLink RX12 16 "CityCupsModel" "houses" "[I", Cond.fieldLink RX12 19 "CityCupsModel" "todays" "[I", Cond.fieldLink RX12 22 "CityCupsModel" "tolds" "[I", Cond.fieldLink RX12 25 "CityCupsModel" "jobs" "[I", Cond.fieldLink RX12 28 "CityCupsModel" "errors" "[I", Cond.fieldLink RX12 31 "CityCupsModel" "bans" "[I", Cond.fieldLink RX12 34 "CityCupsModel" "courses" "[I", Cond.fieldLink RX12 37 "CityCupsModel" "trustsThen" "[I", Cond.fieldLink RX12 40 "CityCupsModel" "parents" "[I", Cond.fieldLink RX12 43 "CityCupsModel" "tapNode" "[I", Cond.fieldLink RX12 46 "CityCupsModel" "tapCell" "[I", Cond.fieldLink RX12 49 "CityCupsModel" "aheads" "[I", Cond.fieldLink RX12 52 "CityCupsModel" "losses" "[I", Cond.fieldLink RX12 55 "CityCupsModel" "hards" "[I", Cond.fieldLink RX12 58 "CityCupsModel" "colds" "[I", Cond.arrayClass .boolean, Cond.fieldLink RX12 61 "CityCupsModel" "troughs" "[Z", Cond.fieldLink RX12 65 "CityCupsModel" "paid" "[Z"]
def wsL_law_r9 : List Cond := [Cond.fieldLink RX12 68 "CityCupsModel" "houseCell" "[I", Cond.fieldLink RX12 71 "CityCupsModel" "courseCell" "[I", Cond.fieldLink RX12 74 "CityCupsModel" "coins" "[I", Cond.fieldLink RX12 77 "CityCupsModel" "kinds" "[I", Cond.fieldLink RX12 80 "CityCupsModel" "whos" "[I", Cond.fieldLink RX12 83 "CityCupsModel" "days" "[I", Cond.fieldLink RX12 86 "CityCupsModel" "muches" "[I", Cond.fieldLink RX12 89 "CityCupsModel" "knowns" "[I", Cond.fieldLink RX12 92 "CityCupsModel" "jobTap" "[I", Cond.fieldLink RX12 95 "CityCupsModel" "jobWork" "[I", Cond.fieldLink RX12 98 "CityCupsModel" "jobCost" "[I", Cond.fieldLink RX12 101 "CityCupsModel" "jobBy" "[I", Cond.fieldLink RX12 104 "CityCupsModel" "jobDone" "[I", Cond.fieldLink RX12 107 "CityCupsModel" "statements" "[I", Cond.fieldLink RX12 110 "CityCupsModel" "tapsOf" "[I", Cond.fieldLink RX12 113 "CityCupsModel" "says" "[Z", Cond.fieldLink RX12 116 "CityCupsModel" "work" "[I", Cond.fieldLink RX12 119 "CityCupsModel" "condFrom" "[I", Cond.fieldLink RX12 122 "CityCupsModel" "condTo" "[I", Cond.fieldLink RX12 125 "CityCupsModel" "stepKind" "[I", Cond.fieldLink RX12 128 "CityCupsModel" "stepWord" "[I", Cond.fieldLink RX12 131 "CityCupsModel" "stepSign" "[I", Cond.fieldLink RX12 134 "CityCupsModel" "stepNumber" "[I", Cond.arrayClass .byte]
def wsL_law_r10 : List Cond := [Cond.fieldLink RX12 137 "CityCupsModel" "tape" "[B", Cond.fieldLink RX12 141 "CityCupsModel" "faultAt" "I", Cond.fieldLink RX12 145 "CityCupsModel" "opened" "[I", Cond.fieldLink RX12 148 "CityCupsModel" "joined" "[I", Cond.fieldLink RX12 151 "CityCupsModel" "moved" "[I", Cond.fieldLink RX12 154 "CityCupsModel" "asks" "[I", Cond.fieldLink RX12 157 "CityCupsModel" "pile" "[Z", Cond.fieldLink RX12 160 "CityCupsModel" "donorSize" "[I", Cond.fieldLink RX12 163 "CityCupsModel" "wornSize" "[I", Cond.fieldLink RX12 166 "CityCupsModel" "donorLetters" "[B", Cond.fieldLink RX12 169 "CityCupsModel" "wornLetters" "[B", Cond.fieldLink RX12 172 "CityCupsModel" "letters" "[B", Cond.fieldLink RX12 175 "CityCupsModel" "givenTo" "[I", Cond.fieldLink RX12 178 "CityCupsModel" "cameBy" "[I", Cond.fieldLink RX12 181 "CityCupsModel" "line" "[I", Cond.fieldLink RX12 184 "CityCupsModel" "isRunning" "[Z", Cond.fieldLink RX12 187 "CityCupsModel" "mends" "[I", Cond.fieldLink RX12 190 "CityCupsModel" "helps" "[I", Cond.fieldLink RX12 193 "CityCupsModel" "askedJobs" "[I", Cond.fieldLink RX12 196 "CityCupsModel" "left" "[I", Cond.fieldLink RX12 199 "CityCupsModel" "may" "[Z", Cond.fieldLink RX12 202 "CityCupsModel" "visits" "[I", Cond.fieldLink RX12 205 "CityCupsModel" "reach" "[I", Cond.fieldLink RX12 208 "CityCupsModel" "row" "[I"]
def wsL_law_r11 : List Cond := [Cond.fieldLink RX12 211 "CityCupsModel" "bestRow" "[I", Cond.fieldLink RX12 214 "CityCupsModel" "drinks" "[I", Cond.fieldLink RX12 217 "CityCupsModel" "places" "[I", Cond.fieldLink RX12 220 "CityCupsModel" "amounts" "[I", Cond.methodLink RL 13 yX11_node, Cond.instanceMethod yX11_node, Cond.selects RX11 yX11_node yX11_node, Cond.code yX11_node cX11_node 2 (some .int), Cond.fieldLink RX11 82 "CityCups$State" "city" "LCityCups$City;", Cond.methodLink RX11 78 yX11_isNode, Cond.instanceMethod yX11_isNode, Cond.selects RX11 yX11_isNode yX11_isNode, Cond.code yX11_isNode cX11_isNode 2 (some .boolean), Cond.fieldLink RX11 358 "CityCups$City" "nodes" "I", Cond.methodLink RX11 96 yX11_isWithin, Cond.static yX11_isWithin, Cond.code yX11_isWithin cX11_isWithin 2 (some .boolean), Cond.methodLink RX11 86 yX0_addNode, Cond.instanceMethod yX0_addNode, Cond.selects RX0 yX0_addNode yX0_addNode, Cond.code yX0_addNode cX0_addNode 2 (some .int), Cond.fieldLink RX0 39 "CityCups$City" "nodes" "I", Cond.fieldLink RX0 43 "CityCups$City" "pipes" "I", Cond.methodLink RL 17 yX12_node]
def wsL_law_r12 : List Cond := [Cond.instanceMethod yX12_node, Cond.selects RX12 yX12_node yX12_node, Cond.code yX12_node cX12_node 2 (some .int), Cond.methodLink RX12 241 yX12_isNode, Cond.instanceMethod yX12_isNode, Cond.selects RX12 yX12_isNode yX12_isNode, Cond.code yX12_isNode cX12_isNode 2 (some .boolean), Cond.methodLink RL 18 yX11_tap, Cond.instanceMethod yX11_tap, Cond.selects RX11 yX11_tap yX11_tap, Cond.code yX11_tap cX11_tap 6 (some .int), Cond.constant RX11 95 (60000), Cond.methodLink RX11 92 yX11_isCell, Cond.static yX11_isCell, Cond.code yX11_isCell cX11_isCell 1 (some .boolean), Cond.methodLink RX11 100 yX0_addTap, Cond.instanceMethod yX0_addTap, Cond.selects RX0 yX0_addTap yX0_addTap, Cond.code yX0_addTap cX0_addTap 6 (some .int), Cond.fieldLink RX0 46 "CityCups$City" "taps" "I", Cond.fieldLink RX0 49 "CityCups$City" "troughs" "I", Cond.methodLink RL 22 yX12_tap, Cond.instanceMethod yX12_tap, Cond.selects RX12 yX12_tap yX12_tap]
def wsL_law_r13 : List Cond := [Cond.code yX12_tap cX12_tap 7 (some .int), Cond.constant RX12 248 (60000), Cond.methodLink RX12 245 yX12_isCell, Cond.static yX12_isCell, Cond.code yX12_isCell cX12_isCell 1 (some .boolean), Cond.methodLink RX12 237 yX12_within, Cond.static yX12_within, Cond.code yX12_within cX12_within 3 (some .boolean), Cond.methodLink RL 23 yX11_house, Cond.instanceMethod yX11_house, Cond.selects RX11 yX11_house yX11_house, Cond.code yX11_house cX11_house 2 (some .int), Cond.methodLink RX11 104 yX0_addHouse, Cond.instanceMethod yX0_addHouse, Cond.selects RX0 yX0_addHouse yX0_addHouse, Cond.code yX0_addHouse cX0_addHouse 2 (some .int), Cond.fieldLink RX0 52 "CityCups$City" "houses" "I", Cond.methodLink RL 26 yX12_house, Cond.instanceMethod yX12_house, Cond.selects RX12 yX12_house yX12_house, Cond.code yX12_house cX12_house 2 (some .int), Cond.methodLink RL 27 yX11_day, Cond.instanceMethod yX11_day, Cond.selects RX11 yX11_day yX11_day]
def wsL_law_r14 : List Cond := [Cond.code yX11_day cX11_day 2 (some .boolean), Cond.fieldLink RX11 116 "CityCups$State" "diary" "LCityCups$Diary;", Cond.fieldLink RX11 120 "CityCups$Diary" "today" "I", Cond.methodLink RL 31 yX12_day, Cond.instanceMethod yX12_day, Cond.selects RX12 yX12_day yX12_day, Cond.code yX12_day cX12_day 2 (some .boolean), Cond.methodLink RL 32 yX11_shut, Cond.instanceMethod yX11_shut, Cond.selects RX11 yX11_shut yX11_shut, Cond.code yX11_shut cX11_shut 4 (some .int), Cond.fieldLink RX11 125 "CityCups$Diary" "shuts" "LCityCups$Ledger;", Cond.methodLink RX11 129 yX11_tellOfTap, Cond.instanceMethod yX11_tellOfTap, Cond.selects RX11 yX11_tellOfTap yX11_tellOfTap, Cond.code yX11_tellOfTap cX11_tellOfTap 5 (some .int), Cond.methodLink RX11 110 yX11_isTap, Cond.instanceMethod yX11_isTap, Cond.selects RX11 yX11_isTap yX11_isTap, Cond.code yX11_isTap cX11_isTap 2 (some .boolean), Cond.fieldLink RX11 443 "CityCups$City" "taps" "I", Cond.methodLink RX11 146 yX11_isPast, Cond.instanceMethod yX11_isPast, Cond.selects RX11 yX11_isPast yX11_isPast]
def wsL_law_r15 : List Cond := [Cond.code yX11_isPast cX11_isPast 2 (some .boolean), Cond.methodLink RX11 152 yX5_tell, Cond.instanceMethod yX5_tell, Cond.selects RX5 yX5_tell yX5_tell, Cond.code yX5_tell cX5_tell 6 (some .int), Cond.fieldLink RX5 30 "CityCups$Ledger" "size" "I", Cond.methodLink RL 36 yX12_shut, Cond.instanceMethod yX12_shut, Cond.selects RX12 yX12_shut yX12_shut, Cond.code yX12_shut cX12_shut 4 (some .int), Cond.methodLink RX12 249 yX12_isTap, Cond.instanceMethod yX12_isTap, Cond.selects RX12 yX12_isTap yX12_isTap, Cond.code yX12_isTap cX12_isTap 2 (some .boolean), Cond.methodLink RX12 256 yX12_tells, Cond.instanceMethod yX12_tells, Cond.selects RX12 yX12_tells yX12_tells, Cond.code yX12_tells cX12_tells 7 (some .int), Cond.methodLink RX12 252 yX12_toldOf, Cond.instanceMethod yX12_toldOf, Cond.selects RX12 yX12_toldOf yX12_toldOf, Cond.code yX12_toldOf cX12_toldOf 4 (some .int), Cond.methodLink RL 37 yX11_level, Cond.instanceMethod yX11_level]
def wsL_law_r16 : List Cond := [Cond.selects RX11 yX11_level yX11_level, Cond.code yX11_level cX11_level 3 (some .int), Cond.fieldLink RX11 133 "CityCups$Diary" "levels" "LCityCups$Ledger;", Cond.methodLink RX11 136 yX11_tellOfCity, Cond.instanceMethod yX11_tellOfCity, Cond.selects RX11 yX11_tellOfCity yX11_tellOfCity, Cond.code yX11_tellOfCity cX11_tellOfCity 4 (some .int), Cond.methodLink RL 41 yX12_level, Cond.instanceMethod yX12_level, Cond.selects RX12 yX12_level yX12_level, Cond.code yX12_level cX12_level 3 (some .int), Cond.methodLink RL 42 yX11_bottle, Cond.instanceMethod yX11_bottle, Cond.selects RX11 yX11_bottle yX11_bottle, Cond.code yX11_bottle cX11_bottle 4 (some .int), Cond.fieldLink RX11 140 "CityCups$Diary" "bottles" "LCityCups$Ledger;", Cond.methodLink RL 45 yX12_bottle, Cond.instanceMethod yX12_bottle, Cond.selects RX12 yX12_bottle yX12_bottle, Cond.code yX12_bottle cX12_bottle 4 (some .int), Cond.methodLink RL 46 yX11_test, Cond.instanceMethod yX11_test, Cond.selects RX11 yX11_test yX11_test, Cond.code yX11_test cX11_test 4 (some .int)]
def wsL_law_r17 : List Cond := [Cond.fieldLink RX11 143 "CityCups$Diary" "tests" "LCityCups$Ledger;", Cond.methodLink RL 49 yX12_test, Cond.instanceMethod yX12_test, Cond.selects RX12 yX12_test yX12_test, Cond.code yX12_test cX12_test 4 (some .int), Cond.methodLink RL 50 yX11_flow, Cond.instanceMethod yX11_flow, Cond.selects RX11 yX11_flow yX11_flow, Cond.code yX11_flow cX11_flow 4 (some .int), Cond.fieldLink RX11 149 "CityCups$Diary" "flows" "LCityCups$Ledger;", Cond.methodLink RL 54 yX12_flow, Cond.instanceMethod yX12_flow, Cond.selects RX12 yX12_flow yX12_flow, Cond.code yX12_flow cX12_flow 4 (some .int), Cond.methodLink RL 55 yX11_error, Cond.instanceMethod yX11_error, Cond.selects RX11 yX11_error yX11_error, Cond.code yX11_error cX11_error 2 (some .boolean), Cond.fieldLink RX11 158 "CityCups$Diary" "error" "I", Cond.methodLink RL 58 yX12_error, Cond.instanceMethod yX12_error, Cond.selects RX12 yX12_error yX12_error, Cond.code yX12_error cX12_error 2 (some .boolean), Cond.methodLink RL 59 yX11_cold]
def wsL_law_r18 : List Cond := [Cond.instanceMethod yX11_cold, Cond.selects RX11 yX11_cold yX11_cold, Cond.code yX11_cold cX11_cold 3 (some .boolean), Cond.fieldLink RX11 161 "CityCups$Diary" "cold" "[I", Cond.methodLink RL 63 yX12_cold, Cond.instanceMethod yX12_cold, Cond.selects RX12 yX12_cold yX12_cold, Cond.code yX12_cold cX12_cold 3 (some .boolean), Cond.methodLink RL 64 yX11_feed, Cond.instanceMethod yX11_feed, Cond.selects RX11 yX11_feed yX11_feed, Cond.code yX11_feed cX11_feed 6 (some .int), Cond.fieldLink RX11 205 "CityCups$Reader" "size" "I", Cond.methodLink RX11 197 yX7_hasRoom, Cond.instanceMethod yX7_hasRoom, Cond.selects RX7 yX7_hasRoom yX7_hasRoom, Cond.code yX7_hasRoom cX7_hasRoom 1 (some .boolean), Cond.fieldLink RX7 27 "CityCups$Reader" "size" "I", Cond.methodLink RX11 201 yX7_put, Cond.instanceMethod yX7_put, Cond.selects RX7 yX7_put yX7_put, Cond.code yX7_put cX7_put 3 none, Cond.methodLink RL 68 yX12_feed, Cond.instanceMethod yX12_feed]
def wsL_law_r19 : List Cond := [Cond.selects RX12 yX12_feed yX12_feed, Cond.code yX12_feed cX12_feed 8 (some .int), Cond.fieldLink RX12 263 "CityCupsModel" "taped" "I", Cond.methodLink RL 69 yX11_cap, Cond.instanceMethod yX11_cap, Cond.selects RX11 yX11_cap yX11_cap, Cond.code yX11_cap cX11_cap 3 (some .int), Cond.fieldLink RX11 215 "CityCups$Reader" "start" "I", Cond.methodLink RX11 208 yX7_has, Cond.instanceMethod yX7_has, Cond.selects RX7 yX7_has yX7_has, Cond.code yX7_has cX7_has 2 (some .boolean), Cond.methodLink RX11 211 yX7_readLaw, Cond.instanceMethod yX7_readLaw, Cond.selects RX7 yX7_readLaw yX7_readLaw, Cond.code yX7_readLaw cX7_readLaw 4 (some (.object "CityCups$Law")), Cond.fieldLink RX7 35 "CityCups$Reader" "length" "I", Cond.fieldLink RX7 38 "CityCups$Reader" "next" "I", Cond.fieldLink RX7 41 "CityCups$Reader" "statements" "I", Cond.fieldLink RX7 44 "CityCups$Reader" "codeSize" "I", Cond.fieldLink RX7 50 "CityCups$Reader" "kind" "I", Cond.classLink RX7 57 RX4, Cond.methodLink RX7 47 yX7_readToken, Cond.instanceMethod yX7_readToken]
def wsL_law_r20 : List Cond := [Cond.selects RX7 yX7_readToken yX7_readToken, Cond.code yX7_readToken cX7_readToken 1 none, Cond.fieldLink RX7 119 "CityCups$Reader" "start" "I", Cond.methodLink RX7 159 yX7_kindAt, Cond.instanceMethod yX7_kindAt, Cond.selects RX7 yX7_kindAt yX7_kindAt, Cond.code yX7_kindAt cX7_kindAt 4 (some .int), Cond.methodLink RX7 31 yX7_isLetter, Cond.static yX7_isLetter, Cond.code yX7_isLetter cX7_isLetter 1 (some .boolean), Cond.methodLink RX7 53 yX7_readStatement, Cond.instanceMethod yX7_readStatement, Cond.selects RX7 yX7_readStatement yX7_readStatement, Cond.code yX7_readStatement cX7_readStatement 3 (some .boolean), Cond.methodLink RX7 68 yX7_verdictOf, Cond.instanceMethod yX7_verdictOf, Cond.selects RX7 yX7_verdictOf yX7_verdictOf, Cond.code yX7_verdictOf cX7_verdictOf 2 (some .int), Cond.methodLink RX7 78 yX7_isWord, Cond.instanceMethod yX7_isWord, Cond.selects RX7 yX7_isWord yX7_isWord, Cond.code yX7_isWord cX7_isWord 3 (some .boolean), Cond.methodLink RX7 151 yJ0_length_8abf5, Cond.instanceMethod yJ0_length_8abf5]
def wsL_law_r21 : List Cond := [Cond.selects RJ0 yJ0_length_8abf5 yJ0_length_8abf5, Cond.initialized RJ0, Cond.code yJ0_length_8abf5 cJ0_length_8abf5 1 (some .int), Cond.fieldLink RJ0 9 "java/lang/String" "value" "[B", Cond.methodLink RJ0 335 yJ0_coder_7d493, Cond.instanceMethod yJ0_coder_7d493, Cond.selects RJ0 yJ0_coder_7d493 yJ0_coder_7d493, Cond.code yJ0_coder_7d493 cJ0_coder_7d493 1 (some .byte), Cond.fieldLink RJ0 38 "java/lang/String" "COMPACT_STRINGS" "Z", Cond.fieldLink RJ0 15 "java/lang/String" "coder" "B", Cond.methodLink RX7 155 yJ0_charAt_5068e, Cond.instanceMethod yJ0_charAt_5068e, Cond.selects RJ0 yJ0_charAt_5068e yJ0_charAt_5068e, Cond.code yJ0_charAt_5068e cJ0_charAt_5068e 2 (some .char), Cond.methodLink RJ0 492 yJ0_isLatin1_aae02, Cond.instanceMethod yJ0_isLatin1_aae02, Cond.selects RJ0 yJ0_isLatin1_aae02 yJ0_isLatin1_aae02, Cond.code yJ0_isLatin1_aae02 cJ0_isLatin1_aae02 1 (some .boolean), Cond.methodLink RJ0 495 yJ1_charAt_3b067, Cond.static yJ1_charAt_3b067, Cond.initialized RJ1, Cond.code yJ1_charAt_3b067 cJ1_charAt_3b067 2 (some .char), Cond.methodLink RJ1 9 yJ0_checkIndex_df160, Cond.static yJ0_checkIndex_df160]
def wsL_law_r22 : List Cond := [Cond.code yJ0_checkIndex_df160 cJ0_checkIndex_df160 2 none, Cond.fieldLink RJ0 1053 "jdk/internal/util/Preconditions" "SIOOBE_FORMATTER" "Ljava/util/function/BiFunction;", Cond.methodLink RJ0 1059 yJ3_checkIndex_8e157, Cond.static yJ3_checkIndex_8e157, Cond.initialized RJ3, Cond.code yJ3_checkIndex_8e157 cJ3_checkIndex_8e157 3 (some .int), Cond.methodLink RJ0 498 yJ2_charAt_3b067, Cond.static yJ2_charAt_3b067, Cond.initialized RJ2, Cond.code yJ2_charAt_3b067 cJ2_charAt_3b067 2 (some .char), Cond.methodLink RJ2 67 yJ2_checkIndex_2214a, Cond.static yJ2_checkIndex_2214a, Cond.code yJ2_checkIndex_2214a cJ2_checkIndex_2214a 2 none, Cond.methodLink RJ2 48 yJ2_length_9d52b, Cond.static yJ2_length_9d52b, Cond.code yJ2_length_9d52b cJ2_length_9d52b 1 (some .int), Cond.methodLink RJ2 414 yJ0_checkIndex_df160, Cond.methodLink RJ2 71 yJ2_getChar_3b067, Cond.static yJ2_getChar_3b067, Cond.code yJ2_getChar_3b067 cJ2_getChar_3b067 2 (some .char), Cond.fieldLink RJ2 44 "java/lang/StringUTF16" "$assertionsDisabled" "Z", Cond.fieldLink RJ2 59 "java/lang/StringUTF16" "HI_BYTE_SHIFT" "I", Cond.fieldLink RJ2 63 "java/lang/StringUTF16" "LO_BYTE_SHIFT" "I", Cond.methodLink RX7 72 yX7_workAtHand]
def wsL_law_r23 : List Cond := [Cond.instanceMethod yX7_workAtHand, Cond.selects RX7 yX7_workAtHand yX7_workAtHand, Cond.code yX7_workAtHand cX7_workAtHand 1 (some .int), Cond.methodLink RX7 82 yX7_readAny, Cond.instanceMethod yX7_readAny, Cond.selects RX7 yX7_readAny yX7_readAny, Cond.code yX7_readAny cX7_readAny 3 (some .boolean), Cond.methodLink RX7 96 yX7_readAll, Cond.instanceMethod yX7_readAll, Cond.selects RX7 yX7_readAll yX7_readAll, Cond.methodLink RX7 101 yX7_emit, Cond.instanceMethod yX7_emit, Cond.selects RX7 yX7_emit yX7_emit, Cond.code yX7_emit cX7_emit 2 none, Cond.code yX7_readAll cX7_readAll 3 (some .boolean), Cond.methodLink RX7 105 yX7_readOne, Cond.instanceMethod yX7_readOne, Cond.selects RX7 yX7_readOne yX7_readOne, Cond.code yX7_readOne cX7_readOne 3 (some .boolean), Cond.methodLink RX7 85 yX7_isSign, Cond.instanceMethod yX7_isSign, Cond.selects RX7 yX7_isSign yX7_isSign, Cond.code yX7_isSign cX7_isSign 2 (some .boolean), Cond.methodLink RX7 112 yX7_readComparison]
def wsL_law_r24 : List Cond := [Cond.instanceMethod yX7_readComparison, Cond.selects RX7 yX7_readComparison yX7_readComparison, Cond.code yX7_readComparison cX7_readComparison 3 (some .boolean), Cond.methodLink RX7 116 yX7_factAtHand, Cond.instanceMethod yX7_factAtHand, Cond.selects RX7 yX7_factAtHand yX7_factAtHand, Cond.code yX7_factAtHand cX7_factAtHand 1 (some .int), Cond.methodLink RX7 122 yX7_numberAtHand, Cond.instanceMethod yX7_numberAtHand, Cond.selects RX7 yX7_numberAtHand yX7_numberAtHand, Cond.code yX7_numberAtHand cX7_numberAtHand 3 (some .int), Cond.methodLink RX7 125 yX4_comparison, Cond.static yX4_comparison, Cond.code yX4_comparison cX4_comparison 3 (some .int), Cond.constant RX4 24 (100000), Cond.methodLink RX7 59 yJ7_copyOf_59c91, Cond.static yJ7_copyOf_59c91, Cond.initialized RJ7, Cond.code yJ7_copyOf_59c91 cJ7_copyOf_59c91 3 (some (.array .int)), Cond.methodLink RJ7 316 ⟨"[I", "clone", "()Ljava/lang/Object;"⟩, Cond.sameMethod "[I" "java/lang/Object" "clone" "()Ljava/lang/Object;", Cond.native ⟨"java/lang/Object", "clone", "()Ljava/lang/Object;"⟩, Cond.instanceMethod ⟨"java/lang/Object", "clone", "()Ljava/lang/Object;"⟩, Cond.selects "[I" ⟨"[I", "clone", "()Ljava/lang/Object;"⟩ ⟨"java/lang/Object", "clone", "()Ljava/lang/Object;"⟩]
def wsL_law_r25 : List Cond := [Cond.classLink RJ7 317 "[I", Cond.methodLink RJ7 304 Lib.Math.min.name, Cond.static Lib.Math.min.name, Cond.code Lib.Math.min.name Lib.Math.min.code 2 (some .int), Cond.methodLink RJ7 150 arraycopyName, Cond.native arraycopyName, Cond.static arraycopyName, Cond.initialized "java/lang/System", Cond.methodLink RX7 65 yX4_init, Cond.methodLink RX11 218 yX11_endText, Cond.instanceMethod yX11_endText, Cond.selects RX11 yX11_endText yX11_endText, Cond.code yX11_endText cX11_endText 2 none, Cond.methodLink RX11 221 yX4_statements, Cond.instanceMethod yX4_statements, Cond.selects RX4 yX4_statements yX4_statements, Cond.code yX4_statements cX4_statements 1 (some .int), Cond.methodLink RL 72 yX12_cap, Cond.instanceMethod yX12_cap, Cond.selects RX12 yX12_cap yX12_cap, Cond.code yX12_cap cX12_cap 2 (some .int), Cond.fieldLink RX12 320 "CityCupsModel" "written" "I", Cond.fieldLink RX12 387 "CityCupsModel" "hasCap" "Z", Cond.methodLink RX12 380 yX12_reads]
def wsL_law_r26 : List Cond := [Cond.instanceMethod yX12_reads, Cond.selects RX12 yX12_reads yX12_reads, Cond.code yX12_reads cX12_reads 6 (some .boolean), Cond.fieldLink RX12 288 "CityCupsModel" "token" "I", Cond.fieldLink RX12 294 "CityCupsModel" "isWrong" "Z", Cond.methodLink RX12 372 yX12_beginsText, Cond.instanceMethod yX12_beginsText, Cond.selects RX12 yX12_beginsText yX12_beginsText, Cond.code yX12_beginsText cX12_beginsText 2 none, Cond.fieldLink RX12 269 "CityCupsModel" "limit" "I", Cond.fieldLink RX12 266 "CityCupsModel" "point" "I", Cond.methodLink RX12 329 yX12_next, Cond.instanceMethod yX12_next, Cond.selects RX12 yX12_next yX12_next, Cond.code yX12_next cX12_next 2 none, Cond.fieldLink RX12 276 "CityCupsModel" "from" "I", Cond.constantLong RX12 279 (-1), Cond.fieldLink RX12 281 "CityCupsModel" "text" "J", Cond.fieldLink RX12 285 "CityCupsModel" "value" "I", Cond.constantLong RX12 291 (27), Cond.constant RX12 293 (1000000), Cond.methodLink RX12 272 yX12_here, Cond.instanceMethod yX12_here, Cond.selects RX12 yX12_here yX12_here]
def wsL_law_r27 : List Cond := [Cond.code yX12_here cX12_here 1 (some .int), Cond.methodLink RX12 376 yX12_readStatement, Cond.instanceMethod yX12_readStatement, Cond.selects RX12 yX12_readStatement yX12_readStatement, Cond.code yX12_readStatement cX12_readStatement 4 none, Cond.constantLong RX12 356 (11716), Cond.constantLong RX12 358 (2230), Cond.constantLong RX12 360 (261071456), Cond.constantLong RX12 362 (10413527), Cond.constantLong RX12 367 (249), Cond.methodLink RX12 326 yX12_errs, Cond.instanceMethod yX12_errs, Cond.selects RX12 yX12_errs yX12_errs, Cond.code yX12_errs cX12_errs 1 none, Cond.methodLink RX12 341 yX12_is, Cond.instanceMethod yX12_is, Cond.selects RX12 yX12_is yX12_is, Cond.code yX12_is cX12_is 3 (some .boolean), Cond.methodLink RX12 364 yX12_workHere, Cond.instanceMethod yX12_workHere, Cond.selects RX12 yX12_workHere yX12_workHere, Cond.code yX12_workHere cX12_workHere 1 (some .int), Cond.constantLong RX12 310 (14623), Cond.constantLong RX12 312 (321926)]
def wsL_law_r28 : List Cond := [Cond.constantLong RX12 314 (10502357), Cond.constantLong RX12 304 (296854829), Cond.constantLong RX12 316 (276647), Cond.constantLong RX12 318 (1132), Cond.methodLink RX12 369 yX12_readCondition, Cond.instanceMethod yX12_readCondition, Cond.selects RX12 yX12_readCondition yX12_readCondition, Cond.code yX12_readCondition cX12_readCondition 3 none, Cond.fieldLink RX12 336 "CityCupsModel" "opens" "I", Cond.constantLong RX12 347 (10631), Cond.methodLink RX12 349 yX12_readTest, Cond.instanceMethod yX12_readTest, Cond.selects RX12 yX12_readTest yX12_readTest, Cond.code yX12_readTest cX12_readTest 4 none, Cond.methodLink RX12 323 yX12_wordHere, Cond.instanceMethod yX12_wordHere, Cond.selects RX12 yX12_wordHere yX12_wordHere, Cond.code yX12_wordHere cX12_wordHere 1 (some .int), Cond.constantLong RX12 298 (6491892), Cond.constantLong RX12 300 (923), Cond.constantLong RX12 302 (286610), Cond.constantLong RX12 306 (2968), Cond.constantLong RX12 308 (70517), Cond.methodLink RX12 332 yX12_step]
def wsL_law_r29 : List Cond := [Cond.instanceMethod yX12_step, Cond.selects RX12 yX12_step yX12_step, Cond.code yX12_step cX12_step 5 none, Cond.methodLink RX12 352 yX12_closes, Cond.instanceMethod yX12_closes, Cond.selects RX12 yX12_closes yX12_closes, Cond.code yX12_closes cX12_closes 2 (some .boolean), Cond.constantLong RX12 339 (1111), Cond.constantLong RX12 345 (423), Cond.methodLink RX12 384 yX12_packs, Cond.instanceMethod yX12_packs, Cond.selects RX12 yX12_packs yX12_packs, Cond.code yX12_packs cX12_packs 5 none, Cond.methodLink RL 73 yX11_trust, Cond.instanceMethod yX11_trust, Cond.selects RX11 yX11_trust yX11_trust, Cond.code yX11_trust cX11_trust 5 (some .int), Cond.constant RX11 225 (16777215), Cond.constant RX11 226 (99999), Cond.fieldLink RX11 227 "CityCups$Trusts" "size" "I", Cond.fieldLink RX11 228 "CityCups$State" "coin" "[I", Cond.methodLink RX11 231 yX9_add, Cond.instanceMethod yX9_add, Cond.selects RX9 yX9_add yX9_add]
def wsL_law_r30 : List Cond := [Cond.code yX9_add cX9_add 3 (some .int), Cond.fieldLink RX9 33 "CityCups$Trusts" "size" "I", Cond.methodLink RL 76 yX12_trust, Cond.instanceMethod yX12_trust, Cond.selects RX12 yX12_trust yX12_trust, Cond.code yX12_trust cX12_trust 4 (some .int), Cond.constant RX12 390 (16777215), Cond.constant RX12 391 (99999), Cond.fieldLink RX12 234 "CityCupsModel" "trusts" "I", Cond.methodLink RL 77 yX11_donor, Cond.instanceMethod yX11_donor, Cond.selects RX11 yX11_donor yX11_donor, Cond.code yX11_donor cX11_donor 3 (some .int), Cond.fieldLink RX11 235 "CityCups$Names" "donors" "I", Cond.fieldLink RX11 242 "CityCups$Reader" "tape" "[I", Cond.methodLink RX11 238 yX7_faultOfName, Cond.instanceMethod yX7_faultOfName, Cond.selects RX7 yX7_faultOfName yX7_faultOfName, Cond.code yX7_faultOfName cX7_faultOfName 4 (some .int), Cond.methodLink RX11 245 yX6_addDonor, Cond.instanceMethod yX6_addDonor, Cond.selects RX6 yX6_addDonor yX6_addDonor, Cond.code yX6_addDonor cX6_addDonor 4 (some .int), Cond.fieldLink RX6 30 "CityCups$Names" "donors" "I"]
def wsL_law_r31 : List Cond := [Cond.methodLink RX6 34 arraycopyName, Cond.methodLink RX6 40 yX6_isFit, Cond.instanceMethod yX6_isFit, Cond.selects RX6 yX6_isFit yX6_isFit, Cond.code yX6_isFit cX6_isFit 6 (some .boolean), Cond.methodLink RL 80 yX12_donor, Cond.instanceMethod yX12_donor, Cond.selects RX12 yX12_donor yX12_donor, Cond.code yX12_donor cX12_donor 3 (some .int), Cond.fieldLink RX12 405 "CityCupsModel" "donors" "I", Cond.methodLink RX12 408 yX12_readsName, Cond.instanceMethod yX12_readsName, Cond.selects RX12 yX12_readsName yX12_readsName, Cond.code yX12_readsName cX12_readsName 6 (some .boolean), Cond.methodLink RL 81 yX11_worn, Cond.instanceMethod yX11_worn, Cond.selects RX11 yX11_worn yX11_worn, Cond.code yX11_worn cX11_worn 4 (some .int), Cond.methodLink RX11 249 yX6_wear, Cond.instanceMethod yX6_wear, Cond.selects RX6 yX6_wear yX6_wear, Cond.code yX6_wear cX6_wear 5 (some .int), Cond.methodLink RX6 44 yJ6_bitCount_0f7a4, Cond.static yJ6_bitCount_0f7a4]
def wsL_law_r32 : List Cond := [Cond.initialized RJ6, Cond.code yJ6_bitCount_0f7a4 cJ6_bitCount_0f7a4 1 (some .int), Cond.constant RJ6 265 (1431655765), Cond.constant RJ6 266 (858993459), Cond.constant RJ6 267 (252645135), Cond.methodLink RL 84 yX12_worn, Cond.instanceMethod yX12_worn, Cond.selects RX12 yX12_worn yX12_worn, Cond.code yX12_worn cX12_worn 4 (some .int), Cond.methodLink RX12 412 yX12_fits, Cond.instanceMethod yX12_fits, Cond.selects RX12 yX12_fits yX12_fits, Cond.code yX12_fits cX12_fits 5 (some .int), Cond.methodLink RX12 415 yX12_hasName, Cond.instanceMethod yX12_hasName, Cond.selects RX12 yX12_hasName yX12_hasName, Cond.code yX12_hasName cX12_hasName 2 (some .boolean), Cond.methodLink RX12 418 yX12_doesFit, Cond.instanceMethod yX12_doesFit, Cond.selects RX12 yX12_doesFit yX12_doesFit, Cond.code yX12_doesFit cX12_doesFit 4 (some .boolean), Cond.methodLink RL 85 yX11_fault, Cond.instanceMethod yX11_fault, Cond.selects RX11 yX11_fault yX11_fault]
def wsL_law_r33 : List Cond := [Cond.code yX11_fault cX11_fault 1 (some .int), Cond.methodLink RL 89 yX12_fault, Cond.instanceMethod yX12_fault, Cond.selects RX12 yX12_fault yX12_fault, Cond.code yX12_fault cX12_fault 1 (some .int), Cond.methodLink RL 90 yX11_job, Cond.instanceMethod yX11_job, Cond.selects RX11 yX11_job yX11_job, Cond.code yX11_job cX11_job 5 (some .int), Cond.fieldLink RX11 257 "CityCups$State" "jobs" "LCityCups$Jobs;", Cond.methodLink RX11 253 yX11_isJobOf, Cond.instanceMethod yX11_isJobOf, Cond.selects RX11 yX11_isJobOf yX11_isJobOf, Cond.code yX11_isJobOf cX11_isJobOf 4 (some .boolean), Cond.methodLink RX11 191 yX11_isDay, Cond.static yX11_isDay, Cond.code yX11_isDay cX11_isDay 1 (some .boolean), Cond.methodLink RX11 261 yX3_add, Cond.instanceMethod yX3_add, Cond.selects RX3 yX3_add yX3_add, Cond.code yX3_add cX3_add 5 (some .int), Cond.fieldLink RX3 30 "CityCups$Jobs" "size" "I", Cond.methodLink RL 94 yX12_job, Cond.instanceMethod yX12_job]
def wsL_law_r34 : List Cond := [Cond.selects RX12 yX12_job yX12_job, Cond.code yX12_job cX12_job 6 (some .int), Cond.methodLink RX12 433 yX12_isDay, Cond.static yX12_isDay, Cond.code yX12_isDay cX12_isDay 1 (some .boolean), Cond.methodLink RL 95 yX11_done, Cond.instanceMethod yX11_done, Cond.selects RX11 yX11_done yX11_done, Cond.code yX11_done cX11_done 3 (some .boolean), Cond.fieldLink RX11 268 "CityCups$Jobs" "doneOn" "[I", Cond.methodLink RX11 265 yX11_isJob, Cond.instanceMethod yX11_isJob, Cond.selects RX11 yX11_isJob yX11_isJob, Cond.code yX11_isJob cX11_isJob 2 (some .boolean), Cond.fieldLink RX11 502 "CityCups$Jobs" "size" "I", Cond.methodLink RL 98 yX12_done, Cond.instanceMethod yX12_done, Cond.selects RX12 yX12_done yX12_done, Cond.code yX12_done cX12_done 3 (some .boolean), Cond.methodLink RX12 479 yX12_isJob, Cond.instanceMethod yX12_isJob, Cond.selects RX12 yX12_isJob yX12_isJob, Cond.code yX12_isJob cX12_isJob 2 (some .boolean), Cond.methodLink RL 99 yX11_runs]
def wsL_law_r35 : List Cond := [Cond.instanceMethod yX11_runs, Cond.selects RX11 yX11_runs yX11_runs, Cond.code yX11_runs cX11_runs 4 (some .int), Cond.methodLink RX11 309 yX11_isShut, Cond.instanceMethod yX11_isShut, Cond.selects RX11 yX11_isShut yX11_isShut, Cond.code yX11_isShut cX11_isShut 4 (some .boolean), Cond.methodLink RX11 518 yX5_isSo, Cond.instanceMethod yX5_isSo, Cond.selects RX5 yX5_isSo yX5_isSo, Cond.code yX5_isSo cX5_isSo 5 (some .boolean), Cond.methodLink RX5 34 yX5_latest, Cond.instanceMethod yX5_latest, Cond.selects RX5 yX5_latest yX5_latest, Cond.code yX5_latest cX5_latest 5 (some .int), Cond.methodLink RX11 312 yX11_isCapped, Cond.instanceMethod yX11_isCapped, Cond.selects RX11 yX11_isCapped yX11_isCapped, Cond.code yX11_isCapped cX11_isCapped 4 (some .boolean), Cond.methodLink RX11 524 yX11_gatherFacts, Cond.instanceMethod yX11_gatherFacts, Cond.selects RX11 yX11_gatherFacts yX11_gatherFacts, Cond.code yX11_gatherFacts cX11_gatherFacts 7 none, Cond.fieldLink RX11 182 "CityCups$City" "troughs" "I"]
def wsL_law_r36 : List Cond := [Cond.fieldLink RX11 188 "CityCups$Diary" "plantings" "LCityCups$Ledger;", Cond.fieldLink RX11 372 "CityCups$Ledger" "what" "[I", Cond.fieldLink RX11 467 "CityCups$City" "aheads" "[I", Cond.fieldLink RX11 521 "CityCups$City" "tapNodes" "[I", Cond.methodLink RX11 384 yX5_latest, Cond.methodLink RX11 185 yX11_isIn, Cond.static yX11_isIn, Cond.code yX11_isIn cX11_isIn 2 (some .boolean), Cond.methodLink RX11 528 yX4_says, Cond.instanceMethod yX4_says, Cond.selects RX4 yX4_says yX4_says, Cond.code yX4_says cX4_says 6 (some .boolean), Cond.methodLink RX4 25 yX4_holds, Cond.instanceMethod yX4_holds, Cond.selects RX4 yX4_holds yX4_holds, Cond.code yX4_holds cX4_holds 7 (some .boolean), Cond.methodLink RX4 29 yX4_compares, Cond.static yX4_compares, Cond.code yX4_compares cX4_compares 5 (some .boolean), Cond.methodLink RL 102 yX12_runs, Cond.instanceMethod yX12_runs, Cond.selects RX12 yX12_runs yX12_runs, Cond.code yX12_runs cX12_runs 4 (some .int), Cond.methodLink RX12 436 yX12_isShut]
def wsL_law_r37 : List Cond := [Cond.instanceMethod yX12_isShut, Cond.selects RX12 yX12_isShut yX12_isShut, Cond.code yX12_isShut cX12_isShut 4 (some .boolean), Cond.methodLink RX12 260 yX12_last, Cond.instanceMethod yX12_last, Cond.selects RX12 yX12_last yX12_last, Cond.code yX12_last cX12_last 8 (some .int), Cond.methodLink RX12 439 yX12_isCapped, Cond.instanceMethod yX12_isCapped, Cond.selects RX12 yX12_isCapped yX12_isCapped, Cond.code yX12_isCapped cX12_isCapped 4 (some .boolean), Cond.methodLink RX12 398 yX12_asked, Cond.instanceMethod yX12_asked, Cond.selects RX12 yX12_asked yX12_asked, Cond.code yX12_asked cX12_asked 5 none, Cond.methodLink RX12 392 yX12_hasTrough, Cond.instanceMethod yX12_hasTrough, Cond.selects RX12 yX12_hasTrough yX12_hasTrough, Cond.code yX12_hasTrough cX12_hasTrough 4 (some .boolean), Cond.methodLink RX12 401 yX12_saysSo, Cond.instanceMethod yX12_saysSo, Cond.selects RX12 yX12_saysSo yX12_saysSo, Cond.code yX12_saysSo cX12_saysSo 4 (some .boolean), Cond.methodLink RX12 395 yX12_holds]
def wsL_law_r38 : List Cond := [Cond.instanceMethod yX12_holds, Cond.selects RX12 yX12_holds yX12_holds, Cond.code yX12_holds cX12_holds 5 (some .boolean), Cond.methodLink RL 103 yX11_covered, Cond.instanceMethod yX11_covered, Cond.selects RX11 yX11_covered yX11_covered, Cond.code yX11_covered cX11_covered 5 (some .int), Cond.fieldLink RX11 321 "CityCups$City" "houseCells" "[I", Cond.methodLink RX11 315 yX11_isHouse, Cond.instanceMethod yX11_isHouse, Cond.selects RX11 yX11_isHouse yX11_isHouse, Cond.code yX11_isHouse cX11_isHouse 2 (some .boolean), Cond.fieldLink RX11 499 "CityCups$City" "houses" "I", Cond.methodLink RX11 318 yX11_isWalk, Cond.static yX11_isWalk, Cond.code yX11_isWalk cX11_isWalk 3 (some .boolean), Cond.methodLink RX11 324 yX11_uncappedTaps, Cond.instanceMethod yX11_uncappedTaps, Cond.selects RX11 yX11_uncappedTaps yX11_uncappedTaps, Cond.code yX11_uncappedTaps cX11_uncappedTaps 7 (some .int), Cond.methodLink RX11 489 yX5_thoseSo, Cond.instanceMethod yX5_thoseSo, Cond.selects RX5 yX5_thoseSo yX5_thoseSo, Cond.code yX5_thoseSo cX5_thoseSo 6 (some .int)]
def wsL_law_r39 : List Cond := [Cond.methodLink RX11 328 yX0_nearest, Cond.instanceMethod yX0_nearest, Cond.selects RX0 yX0_nearest yX0_nearest, Cond.code yX0_nearest cX0_nearest 7 (some .int), Cond.static yX11_stepsBetween, Cond.code yX11_stepsBetween cX11_stepsBetween 2 (some .int), Cond.methodLink RX11 515 Lib.Math.abs.name, Cond.static Lib.Math.abs.name, Cond.code Lib.Math.abs.name Lib.Math.abs.code 1 (some .int), Cond.methodLink RL 106 yX12_covered, Cond.instanceMethod yX12_covered, Cond.selects RX12 yX12_covered yX12_covered, Cond.code yX12_covered cX12_covered 5 (some .int), Cond.methodLink RX12 449 yX12_isHouse, Cond.instanceMethod yX12_isHouse, Cond.selects RX12 yX12_isHouse yX12_isHouse, Cond.code yX12_isHouse cX12_isHouse 2 (some .boolean), Cond.methodLink RX12 452 yX12_isWalk, Cond.static yX12_isWalk, Cond.code yX12_isWalk cX12_isWalk 1 (some .boolean), Cond.methodLink RX12 455 yX12_findRunning, Cond.instanceMethod yX12_findRunning, Cond.selects RX12 yX12_findRunning yX12_findRunning, Cond.code yX12_findRunning cX12_findRunning 4 none]
def wsL_law_r40 : List Cond := [Cond.methodLink RX12 442 yX12_runs, Cond.methodLink RX12 458 yX12_coveredBy, Cond.instanceMethod yX12_coveredBy, Cond.selects RX12 yX12_coveredBy yX12_coveredBy, Cond.code yX12_coveredBy cX12_coveredBy 5 (some .int), Cond.methodLink RX12 446 yX12_steps, Cond.static yX12_steps, Cond.code yX12_steps cX12_steps 2 (some .int), Cond.methodLink RX12 223 yX12_apart, Cond.static yX12_apart, Cond.code yX12_apart cX12_apart 2 (some .int), Cond.methodLink RL 107 yX11_thirsty, Cond.instanceMethod yX11_thirsty, Cond.selects RX11 yX11_thirsty yX11_thirsty, Cond.code yX11_thirsty cX11_thirsty 5 (some .int), Cond.methodLink RX11 331 yX11_thirstyHouses, Cond.instanceMethod yX11_thirstyHouses, Cond.selects RX11 yX11_thirstyHouses yX11_thirstyHouses, Cond.code yX11_thirstyHouses cX11_thirstyHouses 7 (some .int), Cond.methodLink RX11 422 yX0_tapsNear, Cond.instanceMethod yX0_tapsNear, Cond.selects RX0 yX0_tapsNear yX0_tapsNear, Cond.code yX0_tapsNear cX0_tapsNear 6 (some .int), Cond.methodLink RX11 334 yX11_pick]
def wsL_law_r41 : List Cond := [Cond.static yX11_pick, Cond.code yX11_pick cX11_pick 4 (some .int), Cond.methodLink RX11 337 yJ6_bitCount_0f7a4, Cond.methodLink RL 110 yX12_thirsty, Cond.instanceMethod yX12_thirsty, Cond.selects RX12 yX12_thirsty yX12_thirsty, Cond.code yX12_thirsty cX12_thirsty 7 (some .int), Cond.methodLink RL 111 yX11_mend, Cond.instanceMethod yX11_mend, Cond.selects RX11 yX11_mend yX11_mend, Cond.code yX11_mend cX11_mend 7 (some .int), Cond.fieldLink RX11 346 "CityCups$Cover" "wanted" "I", Cond.methodLink RX11 342 yX1_prepare, Cond.instanceMethod yX1_prepare, Cond.selects RX1 yX1_prepare yX1_prepare, Cond.code yX1_prepare cX1_prepare 6 none, Cond.fieldLink RX1 21 "CityCups$Cover" "size" "I", Cond.fieldLink RX1 25 "CityCups$Cover" "wanted" "I", Cond.fieldLink RX1 28 "CityCups$City" "taps" "I", Cond.fieldLink RX1 36 "CityCups$City" "tapCells" "[I", Cond.fieldLink RX1 43 "CityCups$Cover" "homes" "I", Cond.fieldLink RX1 46 "CityCups$City" "houses" "I", Cond.fieldLink RX1 49 "CityCups$City" "houseCells" "[I", Cond.methodLink RX1 39 yX0_housesNear]
def wsL_law_r42 : List Cond := [Cond.instanceMethod yX0_housesNear, Cond.selects RX0 yX0_housesNear yX0_housesNear, Cond.code yX0_housesNear cX0_housesNear 6 (some .int), Cond.methodLink RX1 52 yX0_tapsNear, Cond.methodLink RX11 349 yX1_fewestTaps, Cond.instanceMethod yX1_fewestTaps, Cond.selects RX1 yX1_fewestTaps yX1_fewestTaps, Cond.code yX1_fewestTaps cX1_fewestTaps 1 (some .int), Cond.fieldLink RX1 55 "CityCups$Cover" "best" "I", Cond.fieldLink RX1 58 "CityCups$Cover" "bestTaps" "I", Cond.methodLink RX1 61 yX1_choose, Cond.instanceMethod yX1_choose, Cond.selects RX1 yX1_choose yX1_choose, Cond.code yX1_choose cX1_choose 5 none, Cond.methodLink RX11 352 yX1_mostApart, Cond.instanceMethod yX1_mostApart, Cond.selects RX1 yX1_mostApart yX1_mostApart, Cond.code yX1_mostApart cX1_mostApart 1 (some .int), Cond.methodLink RX1 65 yX1_pack, Cond.instanceMethod yX1_pack, Cond.selects RX1 yX1_pack yX1_pack, Cond.code yX1_pack cX1_pack 4 none, Cond.methodLink RL 114 yX12_mend, Cond.instanceMethod yX12_mend]
def wsL_law_r43 : List Cond := [Cond.selects RX12 yX12_mend yX12_mend, Cond.code yX12_mend cX12_mend 11 (some .int), Cond.methodLink RX12 461 yX12_couldOpen, Cond.instanceMethod yX12_couldOpen, Cond.selects RX12 yX12_couldOpen yX12_couldOpen, Cond.code yX12_couldOpen cX12_couldOpen 5 (some .int), Cond.methodLink RX12 464 yX12_bound, Cond.instanceMethod yX12_bound, Cond.selects RX12 yX12_bound yX12_bound, Cond.code yX12_bound cX12_bound 7 (some .int), Cond.methodLink RX12 470 yX12_bitsOf, Cond.static yX12_bitsOf, Cond.code yX12_bitsOf cX12_bitsOf 3 (some .int), Cond.methodLink RX12 467 yX12_fewest, Cond.instanceMethod yX12_fewest, Cond.selects RX12 yX12_fewest yX12_fewest, Cond.code yX12_fewest cX12_fewest 7 (some .int), Cond.methodLink RL 115 yX11_germs, Cond.instanceMethod yX11_germs, Cond.selects RX11 yX11_germs yX11_germs, Cond.code yX11_germs cX11_germs 10 (some .int), Cond.fieldLink RX11 361 "CityCups$Ledger" "size" "I", Cond.fieldLink RX11 366 "CityCups$Ledger" "who" "[I", Cond.methodLink RX11 362 yX5_counts]
def wsL_law_r44 : List Cond := [Cond.instanceMethod yX5_counts, Cond.selects RX5 yX5_counts yX5_counts, Cond.code yX5_counts cX5_counts 5 (some .boolean), Cond.methodLink RX11 369 yX0_aboveTap, Cond.instanceMethod yX0_aboveTap, Cond.selects RX0 yX0_aboveTap yX0_aboveTap, Cond.code yX0_aboveTap cX0_aboveTap 2 (some .int), Cond.methodLink RL 118 yX12_germs, Cond.instanceMethod yX12_germs, Cond.selects RX12 yX12_germs yX12_germs, Cond.code yX12_germs cX12_germs 9 (some .int), Cond.methodLink RX12 473 yX12_isBelow, Cond.instanceMethod yX12_isBelow, Cond.selects RX12 yX12_isBelow yX12_isBelow, Cond.code yX12_isBelow cX12_isBelow 4 (some .boolean), Cond.methodLink RL 119 yX11_lead, Cond.instanceMethod yX11_lead, Cond.selects RX11 yX11_lead yX11_lead, Cond.code yX11_lead cX11_lead 4 (some .int), Cond.fieldLink RX11 375 "CityCups$City" "pipes" "I", Cond.methodLink RX11 378 yX11_cleanPipes, Cond.instanceMethod yX11_cleanPipes, Cond.selects RX11 yX11_cleanPipes yX11_cleanPipes, Cond.code yX11_cleanPipes cX11_cleanPipes 5 (some .int)]
def wsL_law_r45 : List Cond := [Cond.fieldLink RX11 532 "CityCups$Ledger" "since" "[I", Cond.methodLink RX11 381 yX11_isLeadSure, Cond.instanceMethod yX11_isLeadSure, Cond.selects RX11 yX11_isLeadSure yX11_isLeadSure, Cond.code yX11_isLeadSure cX11_isLeadSure 6 (some .boolean), Cond.methodLink RL 122 yX12_lead, Cond.instanceMethod yX12_lead, Cond.selects RX12 yX12_lead yX12_lead, Cond.code yX12_lead cX12_lead 6 (some .int), Cond.methodLink RX12 476 yX12_isSurelyNot, Cond.instanceMethod yX12_isSurelyNot, Cond.selects RX12 yX12_isSurelyNot yX12_isSurelyNot, Cond.code yX12_isSurelyNot cX12_isSurelyNot 4 (some .boolean), Cond.methodLink RL 123 yX11_drips, Cond.instanceMethod yX11_drips, Cond.selects RX11 yX11_drips yX11_drips, Cond.code yX11_drips cX11_drips 10 (some .int), Cond.methodLink RX11 387 Lib.Math.max.name, Cond.fieldLink RX11 392 "CityCups$City" "parents" "[I", Cond.methodLink RX11 395 yX11_mostFlow, Cond.instanceMethod yX11_mostFlow, Cond.selects RX11 yX11_mostFlow yX11_mostFlow, Cond.code yX11_mostFlow cX11_mostFlow 5 (some .int), Cond.methodLink RX11 398 yX11_leastFlow]
def wsL_law_r46 : List Cond := [Cond.instanceMethod yX11_leastFlow, Cond.selects RX11 yX11_leastFlow yX11_leastFlow, Cond.code yX11_leastFlow cX11_leastFlow 5 (some .int), Cond.methodLink RL 126 yX12_drips, Cond.instanceMethod yX12_drips, Cond.selects RX12 yX12_drips yX12_drips, Cond.code yX12_drips cX12_drips 11 (some .int), Cond.methodLink RL 127 yX11_pays, Cond.instanceMethod yX11_pays, Cond.selects RX11 yX11_pays yX11_pays, Cond.code yX11_pays cX11_pays 3 (some .int), Cond.methodLink RX11 271 yX11_payersOfJob, Cond.instanceMethod yX11_payersOfJob, Cond.selects RX11 yX11_payersOfJob yX11_payersOfJob, Cond.code yX11_payersOfJob cX11_payersOfJob 2 (some .int), Cond.fieldLink RX11 541 "CityCups$Jobs" "taps" "[I", Cond.fieldLink RX11 542 "CityCups$Jobs" "works" "[I", Cond.fieldLink RX11 545 "CityCups$Jobs" "costs" "[I", Cond.methodLink RX11 274 yX11_payersOf, Cond.instanceMethod yX11_payersOf, Cond.selects RX11 yX11_payersOf yX11_payersOf, Cond.code yX11_payersOf cX11_payersOf 8 (some .int), Cond.fieldLink RX11 535 "CityCups$Trusts" "laws" "[LCityCups$Law;", Cond.fieldLink RX11 539 "CityCups$Trusts" "taps" "[I"]
def wsL_law_r47 : List Cond := [Cond.methodLink RL 130 yX12_pays, Cond.instanceMethod yX12_pays, Cond.selects RX12 yX12_pays yX12_pays, Cond.code yX12_pays cX12_pays 3 (some .int), Cond.methodLink RX12 482 yX12_mayPay, Cond.instanceMethod yX12_mayPay, Cond.selects RX12 yX12_mayPay yX12_mayPay, Cond.code yX12_mayPay cX12_mayPay 5 (some .boolean), Cond.methodLink RL 131 yX11_council, Cond.instanceMethod yX11_council, Cond.selects RX11 yX11_council yX11_council, Cond.code yX11_council cX11_council 2 (some .int), Cond.fieldLink RX11 281 "CityCups$Trusts" "asked" "I", Cond.fieldLink RX11 284 "CityCups$Trusts" "best" "I", Cond.fieldLink RX11 287 "CityCups$Trusts" "bestCode" "I", Cond.methodLink RX11 278 yX11_deliberate, Cond.instanceMethod yX11_deliberate, Cond.selects RX11 yX11_deliberate yX11_deliberate, Cond.code yX11_deliberate cX11_deliberate 2 none, Cond.fieldLink RX11 296 "CityCups$Jobs" "paid" "[I", Cond.methodLink RX11 546 yX9_ask, Cond.instanceMethod yX9_ask, Cond.selects RX9 yX9_ask yX9_ask, Cond.code yX9_ask cX9_ask 4 none]
def wsL_law_r48 : List Cond := [Cond.fieldLink RX9 37 "CityCups$Trusts" "asked" "I", Cond.methodLink RX11 549 yX9_share, Cond.instanceMethod yX9_share, Cond.selects RX9 yX9_share yX9_share, Cond.code yX9_share cX9_share 2 none, Cond.methodLink RX9 40 arraycopyName, Cond.constant RX9 46 (1073741824), Cond.fieldLink RX9 47 "CityCups$Trusts" "best" "I", Cond.fieldLink RX9 50 "CityCups$Trusts" "bestCode" "I", Cond.methodLink RX9 53 yX9_decide, Cond.instanceMethod yX9_decide, Cond.selects RX9 yX9_decide yX9_decide, Cond.code yX9_decide cX9_decide 6 none, Cond.fieldLink RX9 61 "CityCups$Trusts" "POWERS" "[I", Cond.methodLink RL 134 yX12_council, Cond.instanceMethod yX12_council, Cond.selects RX12 yX12_council yX12_council, Cond.code yX12_council cX12_council 2 (some .int), Cond.fieldLink RX12 492 "CityCupsModel" "bestCost" "I", Cond.fieldLink RX12 495 "CityCupsModel" "bestCode" "I", Cond.fieldLink RX12 486 "CityCupsModel" "askedMany" "I", Cond.methodLink RX12 501 yX12_findCouncil, Cond.instanceMethod yX12_findCouncil, Cond.selects RX12 yX12_findCouncil yX12_findCouncil]
def wsL_law_r49 : List Cond := [Cond.code yX12_findCouncil cX12_findCouncil 4 none, Cond.methodLink RX12 489 yX12_findAsked, Cond.instanceMethod yX12_findAsked, Cond.selects RX12 yX12_findAsked yX12_findAsked, Cond.code yX12_findAsked cX12_findAsked 3 none, Cond.methodLink RX12 498 yX12_costOf, Cond.instanceMethod yX12_costOf, Cond.selects RX12 yX12_costOf yX12_costOf, Cond.code yX12_costOf cX12_costOf 7 (some .int), Cond.methodLink RL 135 yX11_settle, Cond.instanceMethod yX11_settle, Cond.selects RX11 yX11_settle yX11_settle, Cond.code yX11_settle cX11_settle 3 (some .int), Cond.fieldLink RX11 293 "CityCups$Trusts" "costs" "[I", Cond.fieldLink RX11 299 "CityCups$Trusts" "askedJobs" "[I", Cond.methodLink RX11 290 yX9_payerOf, Cond.instanceMethod yX9_payerOf, Cond.selects RX9 yX9_payerOf yX9_payerOf, Cond.code yX9_payerOf cX9_payerOf 2 (some .int), Cond.methodLink RL 138 yX12_settle, Cond.instanceMethod yX12_settle, Cond.selects RX12 yX12_settle yX12_settle, Cond.code yX12_settle cX12_settle 4 (some .int), Cond.methodLink RL 139 yX11_late]
def wsL_law_r50 : List Cond := [Cond.instanceMethod yX11_late, Cond.selects RX11 yX11_late yX11_late, Cond.code yX11_late cX11_late 2 (some .int), Cond.methodLink RX11 302 yX3_latenessOfAll, Cond.instanceMethod yX3_latenessOfAll, Cond.selects RX3 yX3_latenessOfAll yX3_latenessOfAll, Cond.code yX3_latenessOfAll cX3_latenessOfAll 4 (some .int), Cond.methodLink RX3 40 yX3_lateness, Cond.instanceMethod yX3_lateness, Cond.selects RX3 yX3_lateness yX3_lateness, Cond.code yX3_lateness cX3_lateness 4 (some .int), Cond.methodLink RX3 34 Lib.Math.max.name, Cond.methodLink RX11 305 yX3_lateness, Cond.methodLink RL 142 yX12_late, Cond.instanceMethod yX12_late, Cond.selects RX12 yX12_late yX12_late, Cond.code yX12_late cX12_late 4 (some .int), Cond.methodLink RX12 504 yX12_lateOf, Cond.instanceMethod yX12_lateOf, Cond.selects RX12 yX12_lateOf yX12_lateOf, Cond.code yX12_lateOf cX12_lateOf 3 (some .int), Cond.methodLink RL 143 yX11_round, Cond.instanceMethod yX11_round, Cond.selects RX11 yX11_round yX11_round]
def wsL_law_r51 : List Cond := [Cond.code yX11_round cX11_round 3 (some .int), Cond.methodLink RX11 401 yX11_areTaps, Cond.instanceMethod yX11_areTaps, Cond.selects RX11 yX11_areTaps yX11_areTaps, Cond.code yX11_areTaps cX11_areTaps 3 (some .boolean), Cond.methodLink RX11 404 yX10_shortestRound, Cond.instanceMethod yX10_shortestRound, Cond.selects RX10 yX10_shortestRound yX10_shortestRound, Cond.code yX10_shortestRound cX10_shortestRound 7 (some .int), Cond.fieldLink RX10 33 "CityCups$Walker" "stops" "I", Cond.constant RX10 58 (1073741824), Cond.methodLink RX10 63 Lib.Math.min.name, Cond.methodLink RX10 50 yX10_gather, Cond.instanceMethod yX10_gather, Cond.selects RX10 yX10_gather yX10_gather, Cond.code yX10_gather cX10_gather 4 none, Cond.fieldLink RX10 37 "CityCups$City" "taps" "I", Cond.fieldLink RX10 46 "CityCups$City" "tapCells" "[I", Cond.fieldLink RX10 49 "CityCups$City" "losses" "[I", Cond.methodLink RX10 54 yX10_shortestTo, Cond.instanceMethod yX10_shortestTo, Cond.selects RX10 yX10_shortestTo yX10_shortestTo, Cond.code yX10_shortestTo cX10_shortestTo 8 (some .int), Cond.methodLink RL 146 yX12_round]
def wsL_law_r52 : List Cond := [Cond.instanceMethod yX12_round, Cond.selects RX12 yX12_round yX12_round, Cond.code yX12_round cX12_round 9 (some .int), Cond.methodLink RX12 507 yX12_areTaps, Cond.instanceMethod yX12_areTaps, Cond.selects RX12 yX12_areTaps yX12_areTaps, Cond.code yX12_areTaps cX12_areTaps 3 (some .boolean), Cond.methodLink RX12 510 yX12_listed, Cond.instanceMethod yX12_listed, Cond.selects RX12 yX12_listed yX12_listed, Cond.code yX12_listed cX12_listed 4 (some .int), Cond.methodLink RL 147 yX11_frost, Cond.instanceMethod yX11_frost, Cond.selects RX11 yX11_frost yX11_frost, Cond.code yX11_frost cX11_frost 5 (some .int), Cond.fieldLink RX11 412 "CityCups$Walker" "best" "I", Cond.fieldLink RX11 413 "CityCups$Walker" "bestOrder" "[I", Cond.methodLink RX11 408 yX10_planShutting, Cond.instanceMethod yX10_planShutting, Cond.selects RX10 yX10_planShutting yX10_planShutting, Cond.code yX10_planShutting cX10_planShutting 6 none, Cond.methodLink RX10 68 arraycopyName, Cond.methodLink RX10 74 Lib.Math.max.name, Cond.fieldLink RX10 77 "CityCups$Walker" "speed" "I"]
def wsL_law_r53 : List Cond := [Cond.fieldLink RX10 80 "CityCups$Walker" "best" "I", Cond.methodLink RX10 83 yX10_goOn, Cond.instanceMethod yX10_goOn, Cond.selects RX10 yX10_goOn yX10_goOn, Cond.code yX10_goOn cX10_goOn 9 none, Cond.methodLink RL 150 yX12_frost, Cond.instanceMethod yX12_frost, Cond.selects RX12 yX12_frost yX12_frost, Cond.code yX12_frost cX12_frost 10 (some .int), Cond.methodLink RX12 513 yX12_frostOf, Cond.instanceMethod yX12_frostOf, Cond.selects RX12 yX12_frostOf yX12_frostOf, Cond.code yX12_frostOf cX12_frostOf 9 (some .int), Cond.methodLink RX12 516 yX12_goesOn, Cond.instanceMethod yX12_goesOn, Cond.selects RX12 yX12_goesOn yX12_goesOn, Cond.code yX12_goesOn cX12_goesOn 7 (some .boolean), Cond.methodLink RL 151 yX11_fits, Cond.instanceMethod yX11_fits, Cond.selects RX11 yX11_fits yX11_fits, Cond.code yX11_fits cX11_fits 3 (some .int), Cond.fieldLink RX11 440 "CityCups$Names" "fitting" "[I", Cond.methodLink RX11 437 yX11_isWorn, Cond.instanceMethod yX11_isWorn]
def wsL_law_r54 : List Cond := [Cond.selects RX11 yX11_isWorn yX11_isWorn, Cond.code yX11_isWorn cX11_isWorn 2 (some .boolean), Cond.fieldLink RX11 512 "CityCups$Names" "wornLengths" "[I", Cond.methodLink RL 154 yX12_fits, Cond.methodLink RL 155 yX11_gift, Cond.instanceMethod yX11_gift, Cond.selects RX11 yX11_gift yX11_gift, Cond.code yX11_gift cX11_gift 5 (some .int), Cond.methodLink RX11 355 yX0_housesNear, Cond.methodLink RL 158 yX12_gift, Cond.instanceMethod yX12_gift, Cond.selects RX12 yX12_gift yX12_gift, Cond.code yX12_gift cX12_gift 7 (some .int), Cond.methodLink RL 159 yX11_hard, Cond.instanceMethod yX11_hard, Cond.selects RX11 yX11_hard yX11_hard, Cond.code yX11_hard cX11_hard 3 (some .boolean), Cond.fieldLink RX11 113 "CityCups$City" "hardness" "[I", Cond.methodLink RL 162 yX12_hard, Cond.instanceMethod yX12_hard, Cond.selects RX12 yX12_hard yX12_hard, Cond.code yX12_hard cX12_hard 3 (some .boolean), Cond.methodLink RL 163 yX11_night, Cond.instanceMethod yX11_night]
def wsL_law_r55 : List Cond := [Cond.selects RX11 yX11_night yX11_night, Cond.code yX11_night cX11_night 3 (some .int), Cond.fieldLink RX11 164 "CityCups$Diary" "nights" "LCityCups$Ledger;", Cond.methodLink RL 166 yX12_night, Cond.instanceMethod yX12_night, Cond.selects RX12 yX12_night yX12_night, Cond.code yX12_night cX12_night 3 (some .int), Cond.methodLink RL 167 yX11_burst, Cond.instanceMethod yX11_burst, Cond.selects RX11 yX11_burst yX11_burst, Cond.code yX11_burst cX11_burst 3 (some .int), Cond.fieldLink RX11 167 "CityCups$Diary" "bursts" "LCityCups$Ledger;", Cond.methodLink RL 170 yX12_burst, Cond.instanceMethod yX12_burst, Cond.selects RX12 yX12_burst yX12_burst, Cond.code yX12_burst cX12_burst 3 (some .int), Cond.methodLink RL 171 yX11_damage, Cond.instanceMethod yX11_damage, Cond.selects RX11 yX11_damage yX11_damage, Cond.code yX11_damage cX11_damage 4 (some .int), Cond.fieldLink RX11 170 "CityCups$Diary" "damages" "LCityCups$Ledger;", Cond.methodLink RL 174 yX12_damage, Cond.instanceMethod yX12_damage, Cond.selects RX12 yX12_damage yX12_damage]
def wsL_law_r56 : List Cond := [Cond.code yX12_damage cX12_damage 4 (some .int), Cond.methodLink RL 175 yX11_hurt, Cond.instanceMethod yX11_hurt, Cond.selects RX11 yX11_hurt yX11_hurt, Cond.code yX11_hurt cX11_hurt 4 (some .int), Cond.fieldLink RX11 173 "CityCups$Diary" "hurtings" "LCityCups$Ledger;", Cond.methodLink RL 178 yX12_hurt, Cond.instanceMethod yX12_hurt, Cond.selects RX12 yX12_hurt yX12_hurt, Cond.code yX12_hurt cX12_hurt 4 (some .int), Cond.methodLink RL 179 yX11_fill, Cond.instanceMethod yX11_fill, Cond.selects RX11 yX11_fill yX11_fill, Cond.code yX11_fill cX11_fill 4 (some .int), Cond.fieldLink RX11 176 "CityCups$Diary" "fillings" "LCityCups$Ledger;", Cond.methodLink RL 182 yX12_fill, Cond.instanceMethod yX12_fill, Cond.selects RX12 yX12_fill yX12_fill, Cond.code yX12_fill cX12_fill 4 (some .int), Cond.methodLink RL 183 yX11_cup, Cond.instanceMethod yX11_cup, Cond.selects RX11 yX11_cup yX11_cup, Cond.code yX11_cup cX11_cup 4 (some .int), Cond.fieldLink RX11 179 "CityCups$Diary" "cups" "LCityCups$Ledger;"]
def wsL_law_r57 : List Cond := [Cond.methodLink RL 186 yX12_cup, Cond.instanceMethod yX12_cup, Cond.selects RX12 yX12_cup yX12_cup, Cond.code yX12_cup cX12_cup 4 (some .int), Cond.methodLink RL 187 yX11_plant, Cond.instanceMethod yX11_plant, Cond.selects RX11 yX11_plant yX11_plant, Cond.code yX11_plant cX11_plant 4 (some .int), Cond.methodLink RL 190 yX12_plant, Cond.instanceMethod yX12_plant, Cond.selects RX12 yX12_plant yX12_plant, Cond.code yX12_plant cX12_plant 4 (some .int), Cond.methodLink RL 191 yX11_ban, Cond.instanceMethod yX11_ban, Cond.selects RX11 yX11_ban yX11_ban, Cond.code yX11_ban cX11_ban 2 (some .boolean), Cond.fieldLink RX11 194 "CityCups$Diary" "bannedFrom" "I", Cond.methodLink RL 194 yX12_ban, Cond.instanceMethod yX12_ban, Cond.selects RX12 yX12_ban yX12_ban, Cond.code yX12_ban cX12_ban 2 (some .boolean), Cond.methodLink RL 195 yX11_course, Cond.instanceMethod yX11_course, Cond.selects RX11 yX11_course yX11_course]
def wsL_law_r58 : List Cond := [Cond.code yX11_course cX11_course 2 (some .int), Cond.methodLink RX11 107 yX0_addPlace, Cond.instanceMethod yX0_addPlace, Cond.selects RX0 yX0_addPlace yX0_addPlace, Cond.code yX0_addPlace cX0_addPlace 2 (some .int), Cond.fieldLink RX0 55 "CityCups$City" "places" "I", Cond.methodLink RL 198 yX12_course, Cond.instanceMethod yX12_course, Cond.selects RX12 yX12_course yX12_course, Cond.code yX12_course cX12_course 2 (some .int), Cond.methodLink RL 199 yX11_beside, Cond.instanceMethod yX11_beside, Cond.selects RX11 yX11_beside yX11_beside, Cond.code yX11_beside cX11_beside 11 (some .int), Cond.fieldLink RX11 455 "CityCups$City" "losses" "[I", Cond.fieldLink RX11 458 "CityCups$Ledger" "on" "[I", Cond.methodLink RX11 449 yX11_isSpan, Cond.static yX11_isSpan, Cond.code yX11_isSpan cX11_isSpan 3 (some .boolean), Cond.methodLink RX11 452 yX11_expectedBursts, Cond.instanceMethod yX11_expectedBursts, Cond.selects RX11 yX11_expectedBursts yX11_expectedBursts, Cond.code yX11_expectedBursts cX11_expectedBursts 9 (some .int), Cond.methodLink RL 202 yX12_beside]
def wsL_law_r59 : List Cond := [Cond.instanceMethod yX12_beside, Cond.selects RX12 yX12_beside yX12_beside, Cond.code yX12_beside cX12_beside 9 (some .int), Cond.methodLink RX12 522 yX12_areDays, Cond.static yX12_areDays, Cond.code yX12_areDays cX12_areDays 3 (some .boolean), Cond.methodLink RX12 525 yX12_expected, Cond.instanceMethod yX12_expected, Cond.selects RX12 yX12_expected yX12_expected, Cond.code yX12_expected cX12_expected 8 (some .int), Cond.methodLink RX12 519 yX12_chanceOf, Cond.instanceMethod yX12_chanceOf, Cond.selects RX12 yX12_chanceOf yX12_chanceOf, Cond.code yX12_chanceOf cX12_chanceOf 5 (some .int), Cond.methodLink RX12 528 yX12_isAsked, Cond.instanceMethod yX12_isAsked, Cond.selects RX12 yX12_isAsked yX12_isAsked, Cond.code yX12_isAsked cX12_isAsked 6 (some .boolean), Cond.methodLink RL 203 yX11_hurts, Cond.instanceMethod yX11_hurts, Cond.selects RX11 yX11_hurts yX11_hurts, Cond.code yX11_hurts cX11_hurts 10 (some .int), Cond.methodLink RX11 461 yX11_isByIce, Cond.instanceMethod yX11_isByIce]
def wsL_law_r60 : List Cond := [Cond.selects RX11 yX11_isByIce yX11_isByIce, Cond.code yX11_isByIce cX11_isByIce 6 (some .boolean), Cond.methodLink RL 206 yX12_hurts, Cond.instanceMethod yX12_hurts, Cond.selects RX12 yX12_hurts yX12_hurts, Cond.code yX12_hurts cX12_hurts 9 (some .int), Cond.methodLink RL 207 yX11_wears, Cond.instanceMethod yX11_wears, Cond.selects RX11 yX11_wears yX11_wears, Cond.code yX11_wears cX11_wears 5 (some .int), Cond.methodLink RX11 473 Lib.Math.min.name, Cond.methodLink RX11 464 yX3_lastStone, Cond.instanceMethod yX3_lastStone, Cond.selects RX3 yX3_lastStone yX3_lastStone, Cond.code yX3_lastStone cX3_lastStone 5 (some .int), Cond.methodLink RX3 43 yX3_isStoneDone, Cond.instanceMethod yX3_isStoneDone, Cond.selects RX3 yX3_isStoneDone yX3_isStoneDone, Cond.code yX3_isStoneDone cX3_isStoneDone 3 (some .boolean), Cond.methodLink RX11 470 yX11_stoneDays, Cond.instanceMethod yX11_stoneDays, Cond.selects RX11 yX11_stoneDays yX11_stoneDays, Cond.code yX11_stoneDays cX11_stoneDays 2 (some .int), Cond.methodLink RL 210 yX12_wears]
def wsL_law_r61 : List Cond := [Cond.instanceMethod yX12_wears, Cond.selects RX12 yX12_wears yX12_wears, Cond.code yX12_wears cX12_wears 4 (some .int), Cond.methodLink RX12 532 yX12_stoneOf, Cond.instanceMethod yX12_stoneOf, Cond.selects RX12 yX12_stoneOf yX12_stoneOf, Cond.code yX12_stoneOf cX12_stoneOf 6 (some .int), Cond.methodLink RL 211 yX11_gone, Cond.instanceMethod yX11_gone, Cond.selects RX11 yX11_gone yX11_gone, Cond.code yX11_gone cX11_gone 6 (some .int), Cond.methodLink RX11 476 yX3_nextStone, Cond.instanceMethod yX3_nextStone, Cond.selects RX3 yX3_nextStone yX3_nextStone, Cond.code yX3_nextStone cX3_nextStone 5 (some .int), Cond.methodLink RX3 47 Lib.Math.min.name, Cond.methodLink RL 214 yX12_gone, Cond.instanceMethod yX12_gone, Cond.selects RX12 yX12_gone yX12_gone, Cond.code yX12_gone cX12_gone 3 (some .int), Cond.methodLink RX12 535 yX12_wears, Cond.methodLink RL 215 yX11_horse, Cond.instanceMethod yX11_horse, Cond.selects RX11 yX11_horse yX11_horse]
def wsL_law_r62 : List Cond := [Cond.code yX11_horse cX11_horse 10 (some .int), Cond.methodLink RX11 416 yX11_stepsBetween, Cond.methodLink RX11 419 yX11_troughsOn, Cond.instanceMethod yX11_troughsOn, Cond.selects RX11 yX11_troughsOn yX11_troughsOn, Cond.code yX11_troughsOn cX11_troughsOn 3 (some .int), Cond.methodLink RX11 425 yX0_tapsNearAny, Cond.instanceMethod yX0_tapsNearAny, Cond.selects RX0 yX0_tapsNearAny yX0_tapsNearAny, Cond.code yX0_tapsNearAny cX0_tapsNearAny 6 (some .int), Cond.methodLink RX0 66 yX0_tapsNear, Cond.methodLink RL 218 yX12_horse, Cond.instanceMethod yX12_horse, Cond.selects RX12 yX12_horse yX12_horse, Cond.code yX12_horse cX12_horse 10 (some .int), Cond.methodLink RL 219 yX11_stations, Cond.instanceMethod yX11_stations, Cond.selects RX11 yX11_stations yX11_stations, Cond.code yX11_stations cX11_stations 13 (some .int), Cond.fieldLink RX11 428 "CityCups$City" "places" "I", Cond.methodLink RX11 431 yX0_placesNearAny, Cond.instanceMethod yX0_placesNearAny, Cond.selects RX0 yX0_placesNearAny yX0_placesNearAny, Cond.code yX0_placesNearAny cX0_placesNearAny 5 (some .int)]
def wsL_law_r63 : List Cond := [Cond.methodLink RX11 434 yX11_lastIn, Cond.static yX11_lastIn, Cond.code yX11_lastIn cX11_lastIn 4 (some .int), Cond.methodLink RL 222 yX12_stations, Cond.instanceMethod yX12_stations, Cond.selects RX12 yX12_stations yX12_stations, Cond.code yX12_stations cX12_stations 9 (some .int), Cond.methodLink RL 223 yX11_watch, Cond.instanceMethod yX11_watch, Cond.selects RX11 yX11_watch yX11_watch, Cond.code yX11_watch cX11_watch 8 (some .int), Cond.methodLink RX11 479 yX11_damagesSeen, Cond.instanceMethod yX11_damagesSeen, Cond.selects RX11 yX11_damagesSeen yX11_damagesSeen, Cond.code yX11_damagesSeen cX11_damagesSeen 7 (some .int), Cond.methodLink RX11 553 yJ9_floorMod_7cf53, Cond.static yJ9_floorMod_7cf53, Cond.initialized RJ9, Cond.code yJ9_floorMod_7cf53 cJ9_floorMod_7cf53 3 (some .int), Cond.methodLink RL 226 yX12_watch, Cond.instanceMethod yX12_watch, Cond.selects RX12 yX12_watch yX12_watch, Cond.code yX12_watch cX12_watch 9 (some .int), Cond.methodLink RL 227 yX11_filled]
def wsL_law_r64 : List Cond := [Cond.instanceMethod yX11_filled, Cond.selects RX11 yX11_filled yX11_filled, Cond.code yX11_filled cX11_filled 7 (some .int), Cond.methodLink RX11 482 yX11_sumFillings, Cond.instanceMethod yX11_sumFillings, Cond.selects RX11 yX11_sumFillings yX11_sumFillings, Cond.code yX11_sumFillings cX11_sumFillings 6 none, Cond.methodLink RX11 556 yJ7_fill_53178, Cond.static yJ7_fill_53178, Cond.code yJ7_fill_53178 cJ7_fill_53178 4 none, Cond.methodLink RL 230 yX12_filled, Cond.instanceMethod yX12_filled, Cond.selects RX12 yX12_filled yX12_filled, Cond.code yX12_filled cX12_filled 5 (some .int), Cond.methodLink RX12 538 yX12_bottlesOf, Cond.instanceMethod yX12_bottlesOf, Cond.selects RX12 yX12_bottlesOf yX12_bottlesOf, Cond.code yX12_bottlesOf cX12_bottlesOf 7 (some .int), Cond.methodLink RL 231 yX11_busiest, Cond.instanceMethod yX11_busiest, Cond.selects RX11 yX11_busiest yX11_busiest, Cond.code yX11_busiest cX11_busiest 6 (some .int), Cond.methodLink RX11 486 yX11_tapsAheadOf, Cond.instanceMethod yX11_tapsAheadOf]
def wsL_law_r65 : List Cond := [Cond.selects RX11 yX11_tapsAheadOf yX11_tapsAheadOf, Cond.code yX11_tapsAheadOf cX11_tapsAheadOf 4 (some .int), Cond.methodLink RL 234 yX12_busiest, Cond.instanceMethod yX12_busiest, Cond.selects RX12 yX12_busiest yX12_busiest, Cond.code yX12_busiest cX12_busiest 8 (some .int), Cond.methodLink RL 235 yX11_banned, Cond.instanceMethod yX11_banned, Cond.selects RX11 yX11_banned yX11_banned, Cond.code yX11_banned cX11_banned 6 (some .int), Cond.methodLink RL 238 yX12_banned, Cond.instanceMethod yX12_banned, Cond.selects RX12 yX12_banned yX12_banned, Cond.code yX12_banned cX12_banned 6 (some .int), Cond.methodLink RL 239 yX11_payers, Cond.instanceMethod yX11_payers, Cond.selects RX11 yX11_payers yX11_payers, Cond.code yX11_payers cX11_payers 4 (some .int), Cond.methodLink RL 242 yX12_payers, Cond.instanceMethod yX12_payers, Cond.selects RX12 yX12_payers yX12_payers, Cond.code yX12_payers cX12_payers 6 (some .int), Cond.methodLink RL 243 yX11_could, Cond.instanceMethod yX11_could]
def wsL_law_r66 : List Cond := [Cond.selects RX11 yX11_could yX11_could, Cond.code yX11_could cX11_could 3 (some .int), Cond.methodLink RX11 446 yX6_someWayHas, Cond.instanceMethod yX6_someWayHas, Cond.selects RX6 yX6_someWayHas yX6_someWayHas, Cond.code yX6_someWayHas cX6_someWayHas 5 (some .boolean), Cond.fieldLink RX6 59 "CityCups$Names" "seen" "I", Cond.methodLink RX6 53 yJ7_fill_53178, Cond.methodLink RX6 62 yX6_findDonor, Cond.instanceMethod yX6_findDonor, Cond.selects RX6 yX6_findDonor yX6_findDonor, Cond.code yX6_findDonor cX6_findDonor 4 (some .boolean), Cond.methodLink RL 246 yX12_could, Cond.instanceMethod yX12_could, Cond.selects RX12 yX12_could yX12_could, Cond.code yX12_could cX12_could 3 (some .int), Cond.methodLink RX12 430 yX12_couldGive, Cond.instanceMethod yX12_couldGive, Cond.selects RX12 yX12_couldGive yX12_couldGive, Cond.code yX12_couldGive cX12_couldGive 3 (some .boolean), Cond.methodLink RX12 427 yX12_isWay, Cond.instanceMethod yX12_isWay, Cond.selects RX12 yX12_isWay yX12_isWay, Cond.code yX12_isWay cX12_isWay 4 (some .boolean)]
def wsL_law_r67 : List Cond := [Cond.methodLink RX12 424 yX12_getsOne, Cond.instanceMethod yX12_getsOne, Cond.selects RX12 yX12_getsOne yX12_getsOne, Cond.code yX12_getsOne cX12_getsOne 8 (some .boolean), Cond.methodLink RX12 421 yX12_hands, Cond.instanceMethod yX12_hands, Cond.selects RX12 yX12_hands yX12_hands, Cond.code yX12_hands cX12_hands 7 none, Cond.methodLink RL 247 yX11_remembers, Cond.instanceMethod yX11_remembers, Cond.selects RX11 yX11_remembers yX11_remembers, Cond.code yX11_remembers cX11_remembers 4 (some .int), Cond.methodLink RL 250 yX12_remembers, Cond.instanceMethod yX12_remembers, Cond.selects RX12 yX12_remembers yX12_remembers, Cond.code yX12_remembers cX12_remembers 5 (some .int), Cond.methodLink RL 251 yX11_image, Cond.instanceMethod yX11_image, Cond.selects RX11 yX11_image yX11_image, Cond.code yX11_image cX11_image 2 (some .int), Cond.fieldLink RX11 496 "CityCups$State" "trustsThen" "I", Cond.methodLink RX11 492 yX8_become, Cond.instanceMethod yX8_become, Cond.selects RX8 yX8_become yX8_become]
def wsL_law_r68 : List Cond := [Cond.code yX8_become cX8_become 4 none, Cond.methodLink RX8 36 yX0_become, Cond.instanceMethod yX0_become, Cond.selects RX0 yX0_become yX0_become, Cond.code yX0_become cX0_become 2 none, Cond.methodLink RX0 70 arraycopyName, Cond.methodLink RX8 40 yX2_become, Cond.instanceMethod yX2_become, Cond.selects RX2 yX2_become yX2_become, Cond.code yX2_become cX2_become 2 none, Cond.methodLink RX2 71 arraycopyName, Cond.methodLink RX2 67 yX5_become, Cond.instanceMethod yX5_become, Cond.selects RX5 yX5_become yX5_become, Cond.code yX5_become cX5_become 2 none, Cond.methodLink RX5 38 Lib.Math.min.name, Cond.methodLink RX5 41 arraycopyName, Cond.methodLink RX8 43 yX3_become, Cond.instanceMethod yX3_become, Cond.selects RX3 yX3_become yX3_become, Cond.code yX3_become cX3_become 2 none, Cond.methodLink RX3 50 arraycopyName, Cond.methodLink RL 254 yX12_image, Cond.instanceMethod yX12_image]
def wsL_law_r69 : List Cond := [Cond.selects RX12 yX12_image yX12_image, Cond.code yX12_image cX12_image 2 (some .int), Cond.fieldLink RX12 227 "CityCupsModel" "images" "I", Cond.methodLink RX12 230 yX12_copies, Cond.instanceMethod yX12_copies, Cond.selects RX12 yX12_copies yX12_copies, Cond.code yX12_copies cX12_copies 6 none, Cond.methodLink RL 255 yX11_back, Cond.instanceMethod yX11_back, Cond.selects RX11 yX11_back yX11_back, Cond.code yX11_back cX11_back 2 (some .boolean), Cond.methodLink RL 258 yX12_back, Cond.instanceMethod yX12_back, Cond.selects RX12 yX12_back yX12_back, Cond.code yX12_back cX12_back 3 (some .boolean), Cond.methodLink RL 259 yX11_count, Cond.instanceMethod yX11_count, Cond.selects RX11 yX11_count yX11_count, Cond.code yX11_count cX11_count 2 (some .int), Cond.methodLink RX11 503 yX3_howManyDone, Cond.instanceMethod yX3_howManyDone, Cond.selects RX3 yX3_howManyDone yX3_howManyDone, Cond.code yX3_howManyDone cX3_howManyDone 3 (some .int), Cond.methodLink RX11 506 yX3_howManyPaid]
def wsL_law_r70 : List Cond := [Cond.instanceMethod yX3_howManyPaid, Cond.selects RX3 yX3_howManyPaid yX3_howManyPaid, Cond.code yX3_howManyPaid cX3_howManyPaid 3 (some .int), Cond.methodLink RX11 509 yX6_wornAmong, Cond.instanceMethod yX6_wornAmong, Cond.selects RX6 yX6_wornAmong yX6_wornAmong, Cond.code yX6_wornAmong cX6_wornAmong 4 (some .int), Cond.methodLink RL 262 yX12_count, Cond.instanceMethod yX12_count, Cond.selects RX12 yX12_count yX12_count, Cond.code yX12_count cX12_count 2 (some .int), Cond.methodLink RX12 542 yX12_jobsSo, Cond.instanceMethod yX12_jobsSo, Cond.selects RX12 yX12_jobsSo yX12_jobsSo, Cond.code yX12_jobsSo cX12_jobsSo 4 (some .int), Cond.methodLink RX12 546 yX12_names, Cond.instanceMethod yX12_names, Cond.selects RX12 yX12_names yX12_names, Cond.code yX12_names cX12_names 3 (some .int)]
def wsL_law : List Cond := (wsL_law_r1 ++ (wsL_law_r2 ++ (wsL_law_r3 ++ (wsL_law_r4 ++ (wsL_law_r5 ++ (wsL_law_r6 ++ (wsL_law_r7 ++ (wsL_law_r8 ++ (wsL_law_r9 ++ (wsL_law_r10 ++ (wsL_law_r11 ++ (wsL_law_r12 ++ (wsL_law_r13 ++ (wsL_law_r14 ++ (wsL_law_r15 ++ (wsL_law_r16 ++ (wsL_law_r17 ++ (wsL_law_r18 ++ (wsL_law_r19 ++ (wsL_law_r20 ++ (wsL_law_r21 ++ (wsL_law_r22 ++ (wsL_law_r23 ++ (wsL_law_r24 ++ (wsL_law_r25 ++ (wsL_law_r26 ++ (wsL_law_r27 ++ (wsL_law_r28 ++ (wsL_law_r29 ++ (wsL_law_r30 ++ (wsL_law_r31 ++ (wsL_law_r32 ++ (wsL_law_r33 ++ (wsL_law_r34 ++ (wsL_law_r35 ++ (wsL_law_r36 ++ (wsL_law_r37 ++ (wsL_law_r38 ++ (wsL_law_r39 ++ (wsL_law_r40 ++ (wsL_law_r41 ++ (wsL_law_r42 ++ (wsL_law_r43 ++ (wsL_law_r44 ++ (wsL_law_r45 ++ (wsL_law_r46 ++ (wsL_law_r47 ++ (wsL_law_r48 ++ (wsL_law_r49 ++ (wsL_law_r50 ++ (wsL_law_r51 ++ (wsL_law_r52 ++ (wsL_law_r53 ++ (wsL_law_r54 ++ (wsL_law_r55 ++ (wsL_law_r56 ++ (wsL_law_r57 ++ (wsL_law_r58 ++ (wsL_law_r59 ++ (wsL_law_r60 ++ (wsL_law_r61 ++ (wsL_law_r62 ++ (wsL_law_r63 ++ (wsL_law_r64 ++ (wsL_law_r65 ++ (wsL_law_r66 ++ (wsL_law_r67 ++ (wsL_law_r68 ++ (wsL_law_r69 ++ wsL_law_r70))))))))))))))))))))))))))))))))))))))))))))))))))))))))))))))))))))) ++ wsX110 ++ wsX120 ++ wsX80 ++ wsX70 ++ wsX90 ++ wsX60 ++ wsX100 ++ wsX10 ++ wsX40 ++ wsX00 ++ wsX20 ++ wsX30 ++ wsX50 ++ ([] : List Cond)
set_option maxRecDepth 20000 in
theorem wsL_law_in : ∀ w ∈ wsL_law, w ∈ lw_tbl := fun w h => (goodIn_p wsL_law [138, 141, 146, 152, 224, 230, 234, 325, 380, 426, 473, 507, 546, 578, 1451, 633, 637, 640, 644, 1734, 1738, 648, 651, 656, 1742, 1745, 1730, 660, 664, 1750, 684, 1754, 688, 692, 680, 696, 700, 1782, 1770, 1786, 1790, 704, 708, 1794, 712, 1798, 716, 1802, 720, 1806, 724, 1758, 728, 1762, 770, 774, 778, 1838, 782, 786, 790, 794, 798, 801, 805, 809, 815, 819, 823, 829, 833, 836, 839, 844, 847, 850, 853, 857, 869, 880, 918, 884, 888, 893, 897, 901, 910, 913, 924, 934, 942, 946, 1842, 1846, 1850, 1854, 1858, 1865, 1869, 1875, 1881, 1892, 1897, 1901, 1910, 1914, 1920, 951, 957, 1924, 961, 965, 969, 974, 1934, 1938, 978, 982, 985, 1942, 1946, 1950, 1954, 992, 1930, 996, 1000, 766, 1004, 2091, 1986, 1008, 1012, 2095, 2099, 1103, 1107, 1036, 1032, 1111, 1028, 759, 1041, 1045, 1048, 1983, 1990, 1994, 1998, 2002, 2006, 2010, 2014, 1115, 1119, 1122, 1126, 1130, 1134, 1138, 1141, 2018, 2022, 2025, 2029, 2034, 2037, 2040, 1145, 1149, 1153, 1156, 2044, 1161, 1165, 1170, 1175, 1179, 1183, 1187, 2052, 2056, 2060, 2063, 2067, 1196, 1200, 1204, 2071, 2075, 1208, 1212, 1216, 2079, 2083, 1220, 1225, 1229, 2087, 1016, 1020, 1024, 2103, 2107, 1056, 1060, 1064, 1068, 1074, 2115, 2119, 2123, 2127, 1081, 1085, 2131, 1089, 1093, 1097, 2135, 2139, 1233, 1237, 1241, 1245, 1250, 2143, 2147, 2151, 1257, 1261, 1267, 2155, 2159, 2163, 1296, 1300, 1191, 2048, 676, 1766, 732, 1810, 736, 1814, 740, 1818, 744, 1822, 748, 1826, 752, 1830, 756, 1834, 763, 1774, 668, 672, 1778, 1324, 1327, 1331, 2175, 2178, 2182, 2186, 2190, 1335, 1339, 2194, 1343, 1347, 1351, 1355, 2198, 2202, 1360, 1364, 2206, 1271, 1276, 1280, 2167, 1285, 1289, 1292, 2171, 1369, 1373, 1376, 2211, 1380, 1384, 1312, 2215, 2219, 1389, 1393, 2223, 1397, 2227, 1052, 2111, 1304, 1308, 1316, 1959, 1963, 1967, 1971, 1975, 1320, 1979, 1401, 1405, 1409, 1414, 1418, 1425, 1719, 1723, 1430, 1727, 1434, 1438, 1442, 1446, 2231, 2235, 2239] (by decide +kernel) (by decide +kernel) w h).1
theorem inlX0 : ∀ w ∈ wsX00, w ∈ wsL_law := fun _ h => List.mem_append_left _ (List.mem_append_left _ (List.mem_append_left _ (List.mem_append_left _ (List.mem_append_right _ h))))
theorem inX0 : ∀ w ∈ wsX00, w ∈ lw_tbl := fun w h => wsL_law_in w (inlX0 w h)
theorem inlX1 : ∀ w ∈ wsX10, w ∈ wsL_law := fun _ h => List.mem_append_left _ (List.mem_append_left _ (List.mem_append_left _ (List.mem_append_left _ (List.mem_append_left _ (List.mem_append_left _ (List.mem_append_right _ h))))))
theorem inX1 : ∀ w ∈ wsX10, w ∈ lw_tbl := fun w h => wsL_law_in w (inlX1 w h)
theorem inlX2 : ∀ w ∈ wsX20, w ∈ wsL_law := fun _ h => List.mem_append_left _ (List.mem_append_left _ (List.mem_append_left _ (List.mem_append_right _ h)))
theorem inX2 : ∀ w ∈ wsX20, w ∈ lw_tbl := fun w h => wsL_law_in w (inlX2 w h)
theorem inlX3 : ∀ w ∈ wsX30, w ∈ wsL_law := fun _ h => List.mem_append_left _ (List.mem_append_left _ (List.mem_append_right _ h))
theorem inX3 : ∀ w ∈ wsX30, w ∈ lw_tbl := fun w h => wsL_law_in w (inlX3 w h)
theorem inlX4 : ∀ w ∈ wsX40, w ∈ wsL_law := fun _ h => List.mem_append_left _ (List.mem_append_left _ (List.mem_append_left _ (List.mem_append_left _ (List.mem_append_left _ (List.mem_append_right _ h)))))
theorem inX4 : ∀ w ∈ wsX40, w ∈ lw_tbl := fun w h => wsL_law_in w (inlX4 w h)
theorem inlX5 : ∀ w ∈ wsX50, w ∈ wsL_law := fun _ h => List.mem_append_left _ (List.mem_append_right _ h)
theorem inX5 : ∀ w ∈ wsX50, w ∈ lw_tbl := fun w h => wsL_law_in w (inlX5 w h)
theorem inlX6 : ∀ w ∈ wsX60, w ∈ wsL_law := fun _ h => List.mem_append_left _ (List.mem_append_left _ (List.mem_append_left _ (List.mem_append_left _ (List.mem_append_left _ (List.mem_append_left _ (List.mem_append_left _ (List.mem_append_left _ (List.mem_append_right _ h))))))))
theorem inX6 : ∀ w ∈ wsX60, w ∈ lw_tbl := fun w h => wsL_law_in w (inlX6 w h)
theorem inlX7 : ∀ w ∈ wsX70, w ∈ wsL_law := fun _ h => List.mem_append_left _ (List.mem_append_left _ (List.mem_append_left _ (List.mem_append_left _ (List.mem_append_left _ (List.mem_append_left _ (List.mem_append_left _ (List.mem_append_left _ (List.mem_append_left _ (List.mem_append_left _ (List.mem_append_right _ h))))))))))
theorem inX7 : ∀ w ∈ wsX70, w ∈ lw_tbl := fun w h => wsL_law_in w (inlX7 w h)
theorem inlX8 : ∀ w ∈ wsX80, w ∈ wsL_law := fun _ h => List.mem_append_left _ (List.mem_append_left _ (List.mem_append_left _ (List.mem_append_left _ (List.mem_append_left _ (List.mem_append_left _ (List.mem_append_left _ (List.mem_append_left _ (List.mem_append_left _ (List.mem_append_left _ (List.mem_append_left _ (List.mem_append_right _ h)))))))))))
theorem inX8 : ∀ w ∈ wsX80, w ∈ lw_tbl := fun w h => wsL_law_in w (inlX8 w h)
theorem inlX9 : ∀ w ∈ wsX90, w ∈ wsL_law := fun _ h => List.mem_append_left _ (List.mem_append_left _ (List.mem_append_left _ (List.mem_append_left _ (List.mem_append_left _ (List.mem_append_left _ (List.mem_append_left _ (List.mem_append_left _ (List.mem_append_left _ (List.mem_append_right _ h)))))))))
theorem inX9 : ∀ w ∈ wsX90, w ∈ lw_tbl := fun w h => wsL_law_in w (inlX9 w h)
theorem inlX10 : ∀ w ∈ wsX100, w ∈ wsL_law := fun _ h => List.mem_append_left _ (List.mem_append_left _ (List.mem_append_left _ (List.mem_append_left _ (List.mem_append_left _ (List.mem_append_left _ (List.mem_append_left _ (List.mem_append_right _ h)))))))
theorem inX10 : ∀ w ∈ wsX100, w ∈ lw_tbl := fun w h => wsL_law_in w (inlX10 w h)
theorem inlX11 : ∀ w ∈ wsX110, w ∈ wsL_law := fun _ h => List.mem_append_left _ (List.mem_append_left _ (List.mem_append_left _ (List.mem_append_left _ (List.mem_append_left _ (List.mem_append_left _ (List.mem_append_left _ (List.mem_append_left _ (List.mem_append_left _ (List.mem_append_left _ (List.mem_append_left _ (List.mem_append_left _ (List.mem_append_left _ (List.mem_append_right _ h)))))))))))))
theorem inX11 : ∀ w ∈ wsX110, w ∈ lw_tbl := fun w h => wsL_law_in w (inlX11 w h)
theorem inlX12 : ∀ w ∈ wsX120, w ∈ wsL_law := fun _ h => List.mem_append_left _ (List.mem_append_left _ (List.mem_append_left _ (List.mem_append_left _ (List.mem_append_left _ (List.mem_append_left _ (List.mem_append_left _ (List.mem_append_left _ (List.mem_append_left _ (List.mem_append_left _ (List.mem_append_left _ (List.mem_append_left _ (List.mem_append_right _ h))))))))))))
theorem inX12 : ∀ w ∈ wsX120, w ∈ lw_tbl := fun w h => wsL_law_in w (inlX12 w h)
theorem inJ6 : ∀ w ∈ wsJ60, w ∈ lw_tbl := by decide +kernel
theorem inJ9 : ∀ w ∈ wsJ90, w ∈ lw_tbl := by decide +kernel
theorem inJ0 : ∀ w ∈ wsJ00, w ∈ lw_tbl := by decide +kernel
theorem inJ1 : ∀ w ∈ wsJ10, w ∈ lw_tbl := by decide +kernel
theorem inJ2 : ∀ w ∈ wsJ20, w ∈ lw_tbl := by decide +kernel
theorem inJ10 : ∀ w ∈ wsJ100, w ∈ lw_tbl := by decide +kernel
theorem inJ7 : ∀ w ∈ wsJ70, w ∈ lw_tbl := by decide +kernel
theorem inJ3 : ∀ w ∈ wsJ30, w ∈ lw_tbl := by decide +kernel
abbrev vwCl : List vw_C := [(RX0, TX0, 15), (RX1, TX1, 8), (RX2, TX2, 16), (RX3, TX3, 7), (RX4, TX4, 4), (RX5, TX5, 5), (RX6, TX6, 8), (RX7, TX7, 12), (RX8, TX8, 5), (RX9, TX9, 10), (RX10, TX10, 10), (RX11, TX11, 12), (RX12, TX12, 87)]
/-! ===== END printed: names ===== -/
end
