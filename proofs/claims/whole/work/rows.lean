section
-- ===== PART A: goes FIRST, ahead of the names: the tables' words, and 'selects' of the private methods out of them =====
/-- a private method of a class that the tables say can be made, by its rows of tables_1 -/
def lw_okq (q : MethodName × Nat) : Prop := (q.1.cls ≠ "java/lang/invoke/MethodHandle" ∧ q.1.cls ≠ "java/lang/invoke/VarHandle") ∧ Cond.instantiable q.1.cls q.2 ∈ tables_1 ∧ Cond.privateMethod q.1 ∈ tables_1 ∧ Cond.instanceMethod q.1 ∈ tables_1
theorem lw_p0 : lw_okq (⟨"DotSquares", "typedBy", "(I)LDotSquares$Typed;"⟩, 11) := ⟨⟨by decide +kernel, by decide +kernel⟩, List.mem_of_getElem? (i := 21) (by decide +kernel), List.mem_of_getElem? (i := 329) (by decide +kernel), List.mem_of_getElem? (i := 330) (by decide +kernel)⟩
theorem lw_p1 : lw_okq (⟨"DotSquares$Typed", "levelBegunBy", "(I)I"⟩, 3) := ⟨⟨by decide +kernel, by decide +kernel⟩, List.mem_of_getElem? (i := 29) (by decide +kernel), List.mem_of_getElem? (i := 357) (by decide +kernel), List.mem_of_getElem? (i := 358) (by decide +kernel)⟩
theorem lw_p2 : lw_okq (⟨"DotSquares", "found", "(I)I"⟩, 11) := ⟨⟨by decide +kernel, by decide +kernel⟩, List.mem_of_getElem? (i := 21) (by decide +kernel), List.mem_of_getElem? (i := 411) (by decide +kernel), List.mem_of_getElem? (i := 412) (by decide +kernel)⟩
theorem lw_p3 : lw_okq (⟨"DotSquares", "bring", "(I)V"⟩, 11) := ⟨⟨by decide +kernel, by decide +kernel⟩, List.mem_of_getElem? (i := 21) (by decide +kernel), List.mem_of_getElem? (i := 439) (by decide +kernel), List.mem_of_getElem? (i := 440) (by decide +kernel)⟩
theorem lw_p4 : lw_okq (⟨"DotSquares$Mark", "layItems", "(LDotSquares$Typed;)V"⟩, 9) := ⟨⟨by decide +kernel, by decide +kernel⟩, List.mem_of_getElem? (i := 134) (by decide +kernel), List.mem_of_getElem? (i := 463) (by decide +kernel), List.mem_of_getElem? (i := 464) (by decide +kernel)⟩
theorem lw_p5 : lw_okq (⟨"DotSquares$Mark", "addChecks", "(LDotSquares$Mender;)V"⟩, 9) := ⟨⟨by decide +kernel, by decide +kernel⟩, List.mem_of_getElem? (i := 134) (by decide +kernel), List.mem_of_getElem? (i := 469) (by decide +kernel), List.mem_of_getElem? (i := 470) (by decide +kernel)⟩
theorem lw_p6 : lw_okq (⟨"DotSquares$Mender", "sumUp", "([II)V"⟩, 7) := ⟨⟨by decide +kernel, by decide +kernel⟩, List.mem_of_getElem? (i := 106) (by decide +kernel), List.mem_of_getElem? (i := 487) (by decide +kernel), List.mem_of_getElem? (i := 488) (by decide +kernel)⟩
theorem lw_p7 : lw_okq (⟨"DotSquares$Mender", "wantGone", "(II)V"⟩, 7) := ⟨⟨by decide +kernel, by decide +kernel⟩, List.mem_of_getElem? (i := 106) (by decide +kernel), List.mem_of_getElem? (i := 493) (by decide +kernel), List.mem_of_getElem? (i := 494) (by decide +kernel)⟩
theorem lw_p8 : lw_okq (⟨"DotSquares$Mender", "strike", "(II)V"⟩, 7) := ⟨⟨by decide +kernel, by decide +kernel⟩, List.mem_of_getElem? (i := 106) (by decide +kernel), List.mem_of_getElem? (i := 501) (by decide +kernel), List.mem_of_getElem? (i := 502) (by decide +kernel)⟩
theorem lw_p9 : lw_okq (⟨"DotSquares$Mender", "locate", "(I)I"⟩, 7) := ⟨⟨by decide +kernel, by decide +kernel⟩, List.mem_of_getElem? (i := 106) (by decide +kernel), List.mem_of_getElem? (i := 505) (by decide +kernel), List.mem_of_getElem? (i := 506) (by decide +kernel)⟩
theorem lw_p10 : lw_okq (⟨"DotSquares$Mender", "startLocators", "()V"⟩, 7) := ⟨⟨by decide +kernel, by decide +kernel⟩, List.mem_of_getElem? (i := 106) (by decide +kernel), List.mem_of_getElem? (i := 509) (by decide +kernel), List.mem_of_getElem? (i := 510) (by decide +kernel)⟩
theorem lw_p11 : lw_okq (⟨"DotSquares$Mender", "wantLocated", "(II)Z"⟩, 7) := ⟨⟨by decide +kernel, by decide +kernel⟩, List.mem_of_getElem? (i := 106) (by decide +kernel), List.mem_of_getElem? (i := 514) (by decide +kernel), List.mem_of_getElem? (i := 515) (by decide +kernel)⟩
theorem lw_p12 : lw_okq (⟨"DotSquares$Mender", "isLocated", "(II)Z"⟩, 7) := ⟨⟨by decide +kernel, by decide +kernel⟩, List.mem_of_getElem? (i := 106) (by decide +kernel), List.mem_of_getElem? (i := 518) (by decide +kernel), List.mem_of_getElem? (i := 519) (by decide +kernel)⟩
theorem lw_p13 : lw_okq (⟨"DotSquares$Mender", "correct", "([II)V"⟩, 7) := ⟨⟨by decide +kernel, by decide +kernel⟩, List.mem_of_getElem? (i := 106) (by decide +kernel), List.mem_of_getElem? (i := 522) (by decide +kernel), List.mem_of_getElem? (i := 523) (by decide +kernel)⟩
theorem lw_p14 : lw_okq (⟨"DotSquares$Mark", "layDots", "(LDotSquares$Way;)V"⟩, 9) := ⟨⟨by decide +kernel, by decide +kernel⟩, List.mem_of_getElem? (i := 134) (by decide +kernel), List.mem_of_getElem? (i := 526) (by decide +kernel), List.mem_of_getElem? (i := 527) (by decide +kernel)⟩
theorem lw_p15 : lw_okq (⟨"DotSquares$Mark", "fixedDots", "(II)I"⟩, 9) := ⟨⟨by decide +kernel, by decide +kernel⟩, List.mem_of_getElem? (i := 134) (by decide +kernel), List.mem_of_getElem? (i := 531) (by decide +kernel), List.mem_of_getElem? (i := 532) (by decide +kernel)⟩
def lw_privs_1 : List (MethodName × Nat) := [(⟨"DotSquares", "typedBy", "(I)LDotSquares$Typed;"⟩, 11), (⟨"DotSquares$Typed", "levelBegunBy", "(I)I"⟩, 3), (⟨"DotSquares", "found", "(I)I"⟩, 11), (⟨"DotSquares", "bring", "(I)V"⟩, 11), (⟨"DotSquares$Mark", "layItems", "(LDotSquares$Typed;)V"⟩, 9), (⟨"DotSquares$Mark", "addChecks", "(LDotSquares$Mender;)V"⟩, 9), (⟨"DotSquares$Mender", "sumUp", "([II)V"⟩, 7), (⟨"DotSquares$Mender", "wantGone", "(II)V"⟩, 7), (⟨"DotSquares$Mender", "strike", "(II)V"⟩, 7), (⟨"DotSquares$Mender", "locate", "(I)I"⟩, 7), (⟨"DotSquares$Mender", "startLocators", "()V"⟩, 7), (⟨"DotSquares$Mender", "wantLocated", "(II)Z"⟩, 7), (⟨"DotSquares$Mender", "isLocated", "(II)Z"⟩, 7), (⟨"DotSquares$Mender", "correct", "([II)V"⟩, 7), (⟨"DotSquares$Mark", "layDots", "(LDotSquares$Way;)V"⟩, 9), (⟨"DotSquares$Mark", "fixedDots", "(II)I"⟩, 9)]
theorem lw_r1 : ∀ q ∈ lw_privs_1, lw_okq q := List.forall_mem_cons.mpr ⟨lw_p0, List.forall_mem_cons.mpr ⟨lw_p1, List.forall_mem_cons.mpr ⟨lw_p2, List.forall_mem_cons.mpr ⟨lw_p3, List.forall_mem_cons.mpr ⟨lw_p4, List.forall_mem_cons.mpr ⟨lw_p5, List.forall_mem_cons.mpr ⟨lw_p6, List.forall_mem_cons.mpr ⟨lw_p7, List.forall_mem_cons.mpr ⟨lw_p8, List.forall_mem_cons.mpr ⟨lw_p9, List.forall_mem_cons.mpr ⟨lw_p10, List.forall_mem_cons.mpr ⟨lw_p11, List.forall_mem_cons.mpr ⟨lw_p12, List.forall_mem_cons.mpr ⟨lw_p13, List.forall_mem_cons.mpr ⟨lw_p14, List.forall_mem_cons.mpr ⟨lw_p15, fun _ h => absurd h List.not_mem_nil⟩⟩⟩⟩⟩⟩⟩⟩⟩⟩⟩⟩⟩⟩⟩⟩
theorem lw_p16 : lw_okq (⟨"DotSquares$Mark", "chooseMask", "()V"⟩, 9) := ⟨⟨by decide +kernel, by decide +kernel⟩, List.mem_of_getElem? (i := 134) (by decide +kernel), List.mem_of_getElem? (i := 541) (by decide +kernel), List.mem_of_getElem? (i := 542) (by decide +kernel)⟩
theorem lw_p17 : lw_okq (⟨"DotSquares$Reading", "vote", "(II)I"⟩, 7) := ⟨⟨by decide +kernel, by decide +kernel⟩, List.mem_of_getElem? (i := 179) (by decide +kernel), List.mem_of_getElem? (i := 580) (by decide +kernel), List.mem_of_getElem? (i := 581) (by decide +kernel)⟩
theorem lw_p18 : lw_okq (⟨"DotSquares$Reading", "takeSymbols", "(LDotSquares$Way;)V"⟩, 7) := ⟨⟨by decide +kernel, by decide +kernel⟩, List.mem_of_getElem? (i := 179) (by decide +kernel), List.mem_of_getElem? (i := 593) (by decide +kernel), List.mem_of_getElem? (i := 594) (by decide +kernel)⟩
theorem lw_p19 : lw_okq (⟨"DotSquares$Straw", "spoilsBlock", "(LDotSquares$Reading;ILDotSquares$Mender;)Z"⟩, 4) := ⟨⟨by decide +kernel, by decide +kernel⟩, List.mem_of_getElem? (i := 242) (by decide +kernel), List.mem_of_getElem? (i := 622) (by decide +kernel), List.mem_of_getElem? (i := 623) (by decide +kernel)⟩
theorem lw_p20 : lw_okq (⟨"DotSquares", "markNow", "(I)I"⟩, 11) := ⟨⟨by decide +kernel, by decide +kernel⟩, List.mem_of_getElem? (i := 21) (by decide +kernel), List.mem_of_getElem? (i := 646) (by decide +kernel), List.mem_of_getElem? (i := 647) (by decide +kernel)⟩
theorem lw_p21 : lw_okq (⟨"DotSquares", "symbolNow", "(II)I"⟩, 11) := ⟨⟨by decide +kernel, by decide +kernel⟩, List.mem_of_getElem? (i := 21) (by decide +kernel), List.mem_of_getElem? (i := 654) (by decide +kernel), List.mem_of_getElem? (i := 655) (by decide +kernel)⟩
theorem lw_p22 : lw_okq (⟨"DotSquares", "dotsNow", "(II)I"⟩, 11) := ⟨⟨by decide +kernel, by decide +kernel⟩, List.mem_of_getElem? (i := 21) (by decide +kernel), List.mem_of_getElem? (i := 662) (by decide +kernel), List.mem_of_getElem? (i := 663) (by decide +kernel)⟩
theorem lw_p23 : lw_okq (⟨"DotSquares", "penaltyNow", "(I)I"⟩, 11) := ⟨⟨by decide +kernel, by decide +kernel⟩, List.mem_of_getElem? (i := 21) (by decide +kernel), List.mem_of_getElem? (i := 670) (by decide +kernel), List.mem_of_getElem? (i := 671) (by decide +kernel)⟩
theorem lw_p24 : lw_okq (⟨"DotSquares$Damage", "change", "(I)V"⟩, 5) := ⟨⟨by decide +kernel, by decide +kernel⟩, List.mem_of_getElem? (i := 51) (by decide +kernel), List.mem_of_getElem? (i := 690) (by decide +kernel), List.mem_of_getElem? (i := 691) (by decide +kernel)⟩
theorem lw_p25 : lw_okq (⟨"DotSquares", "damageChanged", "()V"⟩, 11) := ⟨⟨by decide +kernel, by decide +kernel⟩, List.mem_of_getElem? (i := 21) (by decide +kernel), List.mem_of_getElem? (i := 695) (by decide +kernel), List.mem_of_getElem? (i := 696) (by decide +kernel)⟩
theorem lw_p26 : lw_okq (⟨"DotSquares", "seenNow", "(II)I"⟩, 11) := ⟨⟨by decide +kernel, by decide +kernel⟩, List.mem_of_getElem? (i := 21) (by decide +kernel), List.mem_of_getElem? (i := 730) (by decide +kernel), List.mem_of_getElem? (i := 731) (by decide +kernel)⟩
theorem lw_p27 : lw_okq (⟨"DotSquares", "toldNow", "(I)I"⟩, 11) := ⟨⟨by decide +kernel, by decide +kernel⟩, List.mem_of_getElem? (i := 21) (by decide +kernel), List.mem_of_getElem? (i := 744) (by decide +kernel), List.mem_of_getElem? (i := 745) (by decide +kernel)⟩
theorem lw_p28 : lw_okq (⟨"DotSquares", "formatNow", "(I)I"⟩, 11) := ⟨⟨by decide +kernel, by decide +kernel⟩, List.mem_of_getElem? (i := 21) (by decide +kernel), List.mem_of_getElem? (i := 753) (by decide +kernel), List.mem_of_getElem? (i := 754) (by decide +kernel)⟩
theorem lw_p29 : lw_okq (⟨"DotSquares", "blockNow", "(II)I"⟩, 11) := ⟨⟨by decide +kernel, by decide +kernel⟩, List.mem_of_getElem? (i := 21) (by decide +kernel), List.mem_of_getElem? (i := 764) (by decide +kernel), List.mem_of_getElem? (i := 765) (by decide +kernel)⟩
theorem lw_p30 : lw_okq (⟨"DotSquares", "mendedNow", "(II)I"⟩, 11) := ⟨⟨by decide +kernel, by decide +kernel⟩, List.mem_of_getElem? (i := 21) (by decide +kernel), List.mem_of_getElem? (i := 773) (by decide +kernel), List.mem_of_getElem? (i := 774) (by decide +kernel)⟩
theorem lw_p31 : lw_okq (⟨"DotSquares", "strawNow", "(I)I"⟩, 11) := ⟨⟨by decide +kernel, by decide +kernel⟩, List.mem_of_getElem? (i := 21) (by decide +kernel), List.mem_of_getElem? (i := 781) (by decide +kernel), List.mem_of_getElem? (i := 782) (by decide +kernel)⟩
def lw_privs_2 : List (MethodName × Nat) := [(⟨"DotSquares$Mark", "chooseMask", "()V"⟩, 9), (⟨"DotSquares$Reading", "vote", "(II)I"⟩, 7), (⟨"DotSquares$Reading", "takeSymbols", "(LDotSquares$Way;)V"⟩, 7), (⟨"DotSquares$Straw", "spoilsBlock", "(LDotSquares$Reading;ILDotSquares$Mender;)Z"⟩, 4), (⟨"DotSquares", "markNow", "(I)I"⟩, 11), (⟨"DotSquares", "symbolNow", "(II)I"⟩, 11), (⟨"DotSquares", "dotsNow", "(II)I"⟩, 11), (⟨"DotSquares", "penaltyNow", "(I)I"⟩, 11), (⟨"DotSquares$Damage", "change", "(I)V"⟩, 5), (⟨"DotSquares", "damageChanged", "()V"⟩, 11), (⟨"DotSquares", "seenNow", "(II)I"⟩, 11), (⟨"DotSquares", "toldNow", "(I)I"⟩, 11), (⟨"DotSquares", "formatNow", "(I)I"⟩, 11), (⟨"DotSquares", "blockNow", "(II)I"⟩, 11), (⟨"DotSquares", "mendedNow", "(II)I"⟩, 11), (⟨"DotSquares", "strawNow", "(I)I"⟩, 11)]
theorem lw_r2 : ∀ q ∈ lw_privs_2, lw_okq q := List.forall_mem_cons.mpr ⟨lw_p16, List.forall_mem_cons.mpr ⟨lw_p17, List.forall_mem_cons.mpr ⟨lw_p18, List.forall_mem_cons.mpr ⟨lw_p19, List.forall_mem_cons.mpr ⟨lw_p20, List.forall_mem_cons.mpr ⟨lw_p21, List.forall_mem_cons.mpr ⟨lw_p22, List.forall_mem_cons.mpr ⟨lw_p23, List.forall_mem_cons.mpr ⟨lw_p24, List.forall_mem_cons.mpr ⟨lw_p25, List.forall_mem_cons.mpr ⟨lw_p26, List.forall_mem_cons.mpr ⟨lw_p27, List.forall_mem_cons.mpr ⟨lw_p28, List.forall_mem_cons.mpr ⟨lw_p29, List.forall_mem_cons.mpr ⟨lw_p30, List.forall_mem_cons.mpr ⟨lw_p31, fun _ h => absurd h List.not_mem_nil⟩⟩⟩⟩⟩⟩⟩⟩⟩⟩⟩⟩⟩⟩⟩⟩
theorem lw_p32 : lw_okq (⟨"DotSquares", "countNow", "(I)I"⟩, 11) := ⟨⟨by decide +kernel, by decide +kernel⟩, List.mem_of_getElem? (i := 21) (by decide +kernel), List.mem_of_getElem? (i := 831) (by decide +kernel), List.mem_of_getElem? (i := 832) (by decide +kernel)⟩
theorem lw_p33 : lw_okq (⟨"DotSquares", "withBlocks", "(J)J"⟩, 11) := ⟨⟨by decide +kernel, by decide +kernel⟩, List.mem_of_getElem? (i := 21) (by decide +kernel), List.mem_of_getElem? (i := 841) (by decide +kernel), List.mem_of_getElem? (i := 842) (by decide +kernel)⟩
theorem lw_p34 : lw_okq (⟨"DotSquares", "withSquares", "(J)J"⟩, 11) := ⟨⟨by decide +kernel, by decide +kernel⟩, List.mem_of_getElem? (i := 21) (by decide +kernel), List.mem_of_getElem? (i := 845) (by decide +kernel), List.mem_of_getElem? (i := 846) (by decide +kernel)⟩
theorem lw_p35 : lw_okq (⟨"DotSquares", "withReading", "(J)J"⟩, 11) := ⟨⟨by decide +kernel, by decide +kernel⟩, List.mem_of_getElem? (i := 21) (by decide +kernel), List.mem_of_getElem? (i := 849) (by decide +kernel), List.mem_of_getElem? (i := 850) (by decide +kernel)⟩
theorem lw_p36 : lw_okq (⟨"DotSquaresModel", "finds", "(I)I"⟩, 34) := ⟨⟨by decide +kernel, by decide +kernel⟩, List.mem_of_getElem? (i := 853) (by decide +kernel), List.mem_of_getElem? (i := 974) (by decide +kernel), List.mem_of_getElem? (i := 975) (by decide +kernel)⟩
theorem lw_p37 : lw_okq (⟨"DotSquaresModel", "lacks", "(III)I"⟩, 34) := ⟨⟨by decide +kernel, by decide +kernel⟩, List.mem_of_getElem? (i := 853) (by decide +kernel), List.mem_of_getElem? (i := 986) (by decide +kernel), List.mem_of_getElem? (i := 987) (by decide +kernel)⟩
theorem lw_p38 : lw_okq (⟨"DotSquaresModel", "faultNow", "()I"⟩, 34) := ⟨⟨by decide +kernel, by decide +kernel⟩, List.mem_of_getElem? (i := 853) (by decide +kernel), List.mem_of_getElem? (i := 1047) (by decide +kernel), List.mem_of_getElem? (i := 1048) (by decide +kernel)⟩
theorem lw_p39 : lw_okq (⟨"DotSquaresModel", "along", "(I)I"⟩, 34) := ⟨⟨by decide +kernel, by decide +kernel⟩, List.mem_of_getElem? (i := 853) (by decide +kernel), List.mem_of_getElem? (i := 1051) (by decide +kernel), List.mem_of_getElem? (i := 1052) (by decide +kernel)⟩
theorem lw_p40 : lw_okq (⟨"DotSquaresModel", "makes", "()V"⟩, 34) := ⟨⟨by decide +kernel, by decide +kernel⟩, List.mem_of_getElem? (i := 853) (by decide +kernel), List.mem_of_getElem? (i := 1065) (by decide +kernel), List.mem_of_getElem? (i := 1066) (by decide +kernel)⟩
theorem lw_p41 : lw_okq (⟨"DotSquaresModel", "frees", "()V"⟩, 34) := ⟨⟨by decide +kernel, by decide +kernel⟩, List.mem_of_getElem? (i := 853) (by decide +kernel), List.mem_of_getElem? (i := 1069) (by decide +kernel), List.mem_of_getElem? (i := 1070) (by decide +kernel)⟩
theorem lw_p42 : lw_okq (⟨"DotSquaresModel", "levelNow", "()I"⟩, 34) := ⟨⟨by decide +kernel, by decide +kernel⟩, List.mem_of_getElem? (i := 853) (by decide +kernel), List.mem_of_getElem? (i := 1079) (by decide +kernel), List.mem_of_getElem? (i := 1080) (by decide +kernel)⟩
theorem lw_p43 : lw_okq (⟨"DotSquaresModel", "bases", "(I)V"⟩, 34) := ⟨⟨by decide +kernel, by decide +kernel⟩, List.mem_of_getElem? (i := 853) (by decide +kernel), List.mem_of_getElem? (i := 1089) (by decide +kernel), List.mem_of_getElem? (i := 1090) (by decide +kernel)⟩
theorem lw_p44 : lw_okq (⟨"DotSquaresModel", "power", "(I)I"⟩, 34) := ⟨⟨by decide +kernel, by decide +kernel⟩, List.mem_of_getElem? (i := 853) (by decide +kernel), List.mem_of_getElem? (i := 1093) (by decide +kernel), List.mem_of_getElem? (i := 1094) (by decide +kernel)⟩
theorem lw_p45 : lw_okq (⟨"DotSquaresModel", "product", "(II)I"⟩, 34) := ⟨⟨by decide +kernel, by decide +kernel⟩, List.mem_of_getElem? (i := 853) (by decide +kernel), List.mem_of_getElem? (i := 1097) (by decide +kernel), List.mem_of_getElem? (i := 1098) (by decide +kernel)⟩
theorem lw_p46 : lw_okq (⟨"DotSquaresModel", "itemAt", "(I)I"⟩, 34) := ⟨⟨by decide +kernel, by decide +kernel⟩, List.mem_of_getElem? (i := 853) (by decide +kernel), List.mem_of_getElem? (i := 1101) (by decide +kernel), List.mem_of_getElem? (i := 1102) (by decide +kernel)⟩
theorem lw_p47 : lw_okq (⟨"DotSquaresModel", "checks", "(I)V"⟩, 34) := ⟨⟨by decide +kernel, by decide +kernel⟩, List.mem_of_getElem? (i := 853) (by decide +kernel), List.mem_of_getElem? (i := 1105) (by decide +kernel), List.mem_of_getElem? (i := 1106) (by decide +kernel)⟩
def lw_privs_3 : List (MethodName × Nat) := [(⟨"DotSquares", "countNow", "(I)I"⟩, 11), (⟨"DotSquares", "withBlocks", "(J)J"⟩, 11), (⟨"DotSquares", "withSquares", "(J)J"⟩, 11), (⟨"DotSquares", "withReading", "(J)J"⟩, 11), (⟨"DotSquaresModel", "finds", "(I)I"⟩, 34), (⟨"DotSquaresModel", "lacks", "(III)I"⟩, 34), (⟨"DotSquaresModel", "faultNow", "()I"⟩, 34), (⟨"DotSquaresModel", "along", "(I)I"⟩, 34), (⟨"DotSquaresModel", "makes", "()V"⟩, 34), (⟨"DotSquaresModel", "frees", "()V"⟩, 34), (⟨"DotSquaresModel", "levelNow", "()I"⟩, 34), (⟨"DotSquaresModel", "bases", "(I)V"⟩, 34), (⟨"DotSquaresModel", "power", "(I)I"⟩, 34), (⟨"DotSquaresModel", "product", "(II)I"⟩, 34), (⟨"DotSquaresModel", "itemAt", "(I)I"⟩, 34), (⟨"DotSquaresModel", "checks", "(I)V"⟩, 34)]
theorem lw_r3 : ∀ q ∈ lw_privs_3, lw_okq q := List.forall_mem_cons.mpr ⟨lw_p32, List.forall_mem_cons.mpr ⟨lw_p33, List.forall_mem_cons.mpr ⟨lw_p34, List.forall_mem_cons.mpr ⟨lw_p35, List.forall_mem_cons.mpr ⟨lw_p36, List.forall_mem_cons.mpr ⟨lw_p37, List.forall_mem_cons.mpr ⟨lw_p38, List.forall_mem_cons.mpr ⟨lw_p39, List.forall_mem_cons.mpr ⟨lw_p40, List.forall_mem_cons.mpr ⟨lw_p41, List.forall_mem_cons.mpr ⟨lw_p42, List.forall_mem_cons.mpr ⟨lw_p43, List.forall_mem_cons.mpr ⟨lw_p44, List.forall_mem_cons.mpr ⟨lw_p45, List.forall_mem_cons.mpr ⟨lw_p46, List.forall_mem_cons.mpr ⟨lw_p47, fun _ h => absurd h List.not_mem_nil⟩⟩⟩⟩⟩⟩⟩⟩⟩⟩⟩⟩⟩⟩⟩⟩
theorem lw_p48 : lw_okq (⟨"DotSquaresModel", "penaltyOf", "(I)I"⟩, 34) := ⟨⟨by decide +kernel, by decide +kernel⟩, List.mem_of_getElem? (i := 853) (by decide +kernel), List.mem_of_getElem? (i := 1110) (by decide +kernel), List.mem_of_getElem? (i := 1111) (by decide +kernel)⟩
theorem lw_p49 : lw_okq (⟨"DotSquaresModel", "runs", "(III)I"⟩, 34) := ⟨⟨by decide +kernel, by decide +kernel⟩, List.mem_of_getElem? (i := 853) (by decide +kernel), List.mem_of_getElem? (i := 1114) (by decide +kernel), List.mem_of_getElem? (i := 1115) (by decide +kernel)⟩
theorem lw_p50 : lw_okq (⟨"DotSquaresModel", "dotAt", "(II)I"⟩, 34) := ⟨⟨by decide +kernel, by decide +kernel⟩, List.mem_of_getElem? (i := 853) (by decide +kernel), List.mem_of_getElem? (i := 1118) (by decide +kernel), List.mem_of_getElem? (i := 1119) (by decide +kernel)⟩
theorem lw_p51 : lw_okq (⟨"DotSquaresModel", "darkOf", "(I)I"⟩, 34) := ⟨⟨by decide +kernel, by decide +kernel⟩, List.mem_of_getElem? (i := 853) (by decide +kernel), List.mem_of_getElem? (i := 1128) (by decide +kernel), List.mem_of_getElem? (i := 1129) (by decide +kernel)⟩
theorem lw_p52 : lw_okq (⟨"DotSquaresModel", "markBy", "(I)I"⟩, 34) := ⟨⟨by decide +kernel, by decide +kernel⟩, List.mem_of_getElem? (i := 853) (by decide +kernel), List.mem_of_getElem? (i := 1135) (by decide +kernel), List.mem_of_getElem? (i := 1136) (by decide +kernel)⟩
theorem lw_p53 : lw_okq (⟨"DotSquaresModel", "symbolBy", "(II)I"⟩, 34) := ⟨⟨by decide +kernel, by decide +kernel⟩, List.mem_of_getElem? (i := 853) (by decide +kernel), List.mem_of_getElem? (i := 1144) (by decide +kernel), List.mem_of_getElem? (i := 1145) (by decide +kernel)⟩
theorem lw_p54 : lw_okq (⟨"DotSquaresModel", "dotsBy", "(II)I"⟩, 34) := ⟨⟨by decide +kernel, by decide +kernel⟩, List.mem_of_getElem? (i := 853) (by decide +kernel), List.mem_of_getElem? (i := 1157) (by decide +kernel), List.mem_of_getElem? (i := 1158) (by decide +kernel)⟩
theorem lw_p55 : lw_okq (⟨"DotSquaresModel", "penaltyBy", "(I)I"⟩, 34) := ⟨⟨by decide +kernel, by decide +kernel⟩, List.mem_of_getElem? (i := 853) (by decide +kernel), List.mem_of_getElem? (i := 1165) (by decide +kernel), List.mem_of_getElem? (i := 1166) (by decide +kernel)⟩
theorem lw_p56 : lw_okq (⟨"DotSquaresModel", "placeBy", "(II)I"⟩, 34) := ⟨⟨by decide +kernel, by decide +kernel⟩, List.mem_of_getElem? (i := 853) (by decide +kernel), List.mem_of_getElem? (i := 1173) (by decide +kernel), List.mem_of_getElem? (i := 1174) (by decide +kernel)⟩
theorem lw_p57 : lw_okq (⟨"DotSquaresModel", "notes", "(I)V"⟩, 34) := ⟨⟨by decide +kernel, by decide +kernel⟩, List.mem_of_getElem? (i := 853) (by decide +kernel), List.mem_of_getElem? (i := 1181) (by decide +kernel), List.mem_of_getElem? (i := 1182) (by decide +kernel)⟩
theorem lw_p58 : lw_okq (⟨"DotSquaresModel", "does", "(I)V"⟩, 34) := ⟨⟨by decide +kernel, by decide +kernel⟩, List.mem_of_getElem? (i := 853) (by decide +kernel), List.mem_of_getElem? (i := 1185) (by decide +kernel), List.mem_of_getElem? (i := 1186) (by decide +kernel)⟩
theorem lw_p59 : lw_okq (⟨"DotSquaresModel", "seenAt", "(I)I"⟩, 34) := ⟨⟨by decide +kernel, by decide +kernel⟩, List.mem_of_getElem? (i := 853) (by decide +kernel), List.mem_of_getElem? (i := 1208) (by decide +kernel), List.mem_of_getElem? (i := 1209) (by decide +kernel)⟩
theorem lw_p60 : lw_okq (⟨"DotSquaresModel", "reads", "()V"⟩, 34) := ⟨⟨by decide +kernel, by decide +kernel⟩, List.mem_of_getElem? (i := 853) (by decide +kernel), List.mem_of_getElem? (i := 1216) (by decide +kernel), List.mem_of_getElem? (i := 1217) (by decide +kernel)⟩
theorem lw_p61 : lw_okq (⟨"DotSquaresModel", "reading", "()V"⟩, 34) := ⟨⟨by decide +kernel, by decide +kernel⟩, List.mem_of_getElem? (i := 853) (by decide +kernel), List.mem_of_getElem? (i := 1220) (by decide +kernel), List.mem_of_getElem? (i := 1221) (by decide +kernel)⟩
theorem lw_p62 : lw_okq (⟨"DotSquaresModel", "formatNow", "()I"⟩, 34) := ⟨⟨by decide +kernel, by decide +kernel⟩, List.mem_of_getElem? (i := 853) (by decide +kernel), List.mem_of_getElem? (i := 1224) (by decide +kernel), List.mem_of_getElem? (i := 1225) (by decide +kernel)⟩
theorem lw_p63 : lw_okq (⟨"DotSquaresModel", "mends", "(I)V"⟩, 34) := ⟨⟨by decide +kernel, by decide +kernel⟩, List.mem_of_getElem? (i := 853) (by decide +kernel), List.mem_of_getElem? (i := 1228) (by decide +kernel), List.mem_of_getElem? (i := 1229) (by decide +kernel)⟩
def lw_privs_4 : List (MethodName × Nat) := [(⟨"DotSquaresModel", "penaltyOf", "(I)I"⟩, 34), (⟨"DotSquaresModel", "runs", "(III)I"⟩, 34), (⟨"DotSquaresModel", "dotAt", "(II)I"⟩, 34), (⟨"DotSquaresModel", "darkOf", "(I)I"⟩, 34), (⟨"DotSquaresModel", "markBy", "(I)I"⟩, 34), (⟨"DotSquaresModel", "symbolBy", "(II)I"⟩, 34), (⟨"DotSquaresModel", "dotsBy", "(II)I"⟩, 34), (⟨"DotSquaresModel", "penaltyBy", "(I)I"⟩, 34), (⟨"DotSquaresModel", "placeBy", "(II)I"⟩, 34), (⟨"DotSquaresModel", "notes", "(I)V"⟩, 34), (⟨"DotSquaresModel", "does", "(I)V"⟩, 34), (⟨"DotSquaresModel", "seenAt", "(I)I"⟩, 34), (⟨"DotSquaresModel", "reads", "()V"⟩, 34), (⟨"DotSquaresModel", "reading", "()V"⟩, 34), (⟨"DotSquaresModel", "formatNow", "()I"⟩, 34), (⟨"DotSquaresModel", "mends", "(I)V"⟩, 34)]
theorem lw_r4 : ∀ q ∈ lw_privs_4, lw_okq q := List.forall_mem_cons.mpr ⟨lw_p48, List.forall_mem_cons.mpr ⟨lw_p49, List.forall_mem_cons.mpr ⟨lw_p50, List.forall_mem_cons.mpr ⟨lw_p51, List.forall_mem_cons.mpr ⟨lw_p52, List.forall_mem_cons.mpr ⟨lw_p53, List.forall_mem_cons.mpr ⟨lw_p54, List.forall_mem_cons.mpr ⟨lw_p55, List.forall_mem_cons.mpr ⟨lw_p56, List.forall_mem_cons.mpr ⟨lw_p57, List.forall_mem_cons.mpr ⟨lw_p58, List.forall_mem_cons.mpr ⟨lw_p59, List.forall_mem_cons.mpr ⟨lw_p60, List.forall_mem_cons.mpr ⟨lw_p61, List.forall_mem_cons.mpr ⟨lw_p62, List.forall_mem_cons.mpr ⟨lw_p63, fun _ h => absurd h List.not_mem_nil⟩⟩⟩⟩⟩⟩⟩⟩⟩⟩⟩⟩⟩⟩⟩⟩
theorem lw_p64 : lw_okq (⟨"DotSquaresModel", "symbolSeen", "(I)I"⟩, 34) := ⟨⟨by decide +kernel, by decide +kernel⟩, List.mem_of_getElem? (i := 853) (by decide +kernel), List.mem_of_getElem? (i := 1232) (by decide +kernel), List.mem_of_getElem? (i := 1233) (by decide +kernel)⟩
theorem lw_p65 : lw_okq (⟨"DotSquaresModel", "tries", "(III)Z"⟩, 34) := ⟨⟨by decide +kernel, by decide +kernel⟩, List.mem_of_getElem? (i := 853) (by decide +kernel), List.mem_of_getElem? (i := 1236) (by decide +kernel), List.mem_of_getElem? (i := 1237) (by decide +kernel)⟩
theorem lw_p66 : lw_okq (⟨"DotSquaresModel", "solves", "(II)Z"⟩, 34) := ⟨⟨by decide +kernel, by decide +kernel⟩, List.mem_of_getElem? (i := 853) (by decide +kernel), List.mem_of_getElem? (i := 1240) (by decide +kernel), List.mem_of_getElem? (i := 1241) (by decide +kernel)⟩
theorem lw_p67 : lw_okq (⟨"DotSquaresModel", "equations", "(II)V"⟩, 34) := ⟨⟨by decide +kernel, by decide +kernel⟩, List.mem_of_getElem? (i := 853) (by decide +kernel), List.mem_of_getElem? (i := 1244) (by decide +kernel), List.mem_of_getElem? (i := 1245) (by decide +kernel)⟩
theorem lw_p68 : lw_okq (⟨"DotSquaresModel", "swaps", "(II)V"⟩, 34) := ⟨⟨by decide +kernel, by decide +kernel⟩, List.mem_of_getElem? (i := 853) (by decide +kernel), List.mem_of_getElem? (i := 1248) (by decide +kernel), List.mem_of_getElem? (i := 1249) (by decide +kernel)⟩
theorem lw_p69 : lw_okq (⟨"DotSquaresModel", "triesOne", "(II)Z"⟩, 34) := ⟨⟨by decide +kernel, by decide +kernel⟩, List.mem_of_getElem? (i := 853) (by decide +kernel), List.mem_of_getElem? (i := 1252) (by decide +kernel), List.mem_of_getElem? (i := 1253) (by decide +kernel)⟩
theorem lw_p70 : lw_okq (⟨"DotSquaresModel", "isGone", "(II)Z"⟩, 34) := ⟨⟨by decide +kernel, by decide +kernel⟩, List.mem_of_getElem? (i := 853) (by decide +kernel), List.mem_of_getElem? (i := 1256) (by decide +kernel), List.mem_of_getElem? (i := 1257) (by decide +kernel)⟩
theorem lw_p71 : lw_okq (⟨"DotSquaresModel", "triesTwo", "(II)Z"⟩, 34) := ⟨⟨by decide +kernel, by decide +kernel⟩, List.mem_of_getElem? (i := 853) (by decide +kernel), List.mem_of_getElem? (i := 1260) (by decide +kernel), List.mem_of_getElem? (i := 1261) (by decide +kernel)⟩
theorem lw_p72 : lw_okq (⟨"DotSquaresModel", "triesThree", "(II)Z"⟩, 34) := ⟨⟨by decide +kernel, by decide +kernel⟩, List.mem_of_getElem? (i := 853) (by decide +kernel), List.mem_of_getElem? (i := 1264) (by decide +kernel), List.mem_of_getElem? (i := 1265) (by decide +kernel)⟩
theorem lw_p73 : lw_okq (⟨"DotSquaresModel", "isWrong", "()Z"⟩, 34) := ⟨⟨by decide +kernel, by decide +kernel⟩, List.mem_of_getElem? (i := 853) (by decide +kernel), List.mem_of_getElem? (i := 1268) (by decide +kernel), List.mem_of_getElem? (i := 1269) (by decide +kernel)⟩
theorem lw_p74 : lw_okq (⟨"DotSquaresModel", "toldBy", "(I)I"⟩, 34) := ⟨⟨by decide +kernel, by decide +kernel⟩, List.mem_of_getElem? (i := 853) (by decide +kernel), List.mem_of_getElem? (i := 1276) (by decide +kernel), List.mem_of_getElem? (i := 1277) (by decide +kernel)⟩
theorem lw_p75 : lw_okq (⟨"DotSquaresModel", "itemRead", "(I)I"⟩, 34) := ⟨⟨by decide +kernel, by decide +kernel⟩, List.mem_of_getElem? (i := 853) (by decide +kernel), List.mem_of_getElem? (i := 1280) (by decide +kernel), List.mem_of_getElem? (i := 1281) (by decide +kernel)⟩
theorem lw_p76 : lw_okq (⟨"DotSquaresModel", "formatBy", "(I)I"⟩, 34) := ⟨⟨by decide +kernel, by decide +kernel⟩, List.mem_of_getElem? (i := 853) (by decide +kernel), List.mem_of_getElem? (i := 1288) (by decide +kernel), List.mem_of_getElem? (i := 1289) (by decide +kernel)⟩
theorem lw_p77 : lw_okq (⟨"DotSquaresModel", "blockBy", "(II)I"⟩, 34) := ⟨⟨by decide +kernel, by decide +kernel⟩, List.mem_of_getElem? (i := 853) (by decide +kernel), List.mem_of_getElem? (i := 1296) (by decide +kernel), List.mem_of_getElem? (i := 1297) (by decide +kernel)⟩
theorem lw_p78 : lw_okq (⟨"DotSquaresModel", "isBlind", "()Z"⟩, 34) := ⟨⟨by decide +kernel, by decide +kernel⟩, List.mem_of_getElem? (i := 853) (by decide +kernel), List.mem_of_getElem? (i := 1300) (by decide +kernel), List.mem_of_getElem? (i := 1301) (by decide +kernel)⟩
theorem lw_p79 : lw_okq (⟨"DotSquaresModel", "mendedBy", "(II)I"⟩, 34) := ⟨⟨by decide +kernel, by decide +kernel⟩, List.mem_of_getElem? (i := 853) (by decide +kernel), List.mem_of_getElem? (i := 1308) (by decide +kernel), List.mem_of_getElem? (i := 1309) (by decide +kernel)⟩
def lw_privs_5 : List (MethodName × Nat) := [(⟨"DotSquaresModel", "symbolSeen", "(I)I"⟩, 34), (⟨"DotSquaresModel", "tries", "(III)Z"⟩, 34), (⟨"DotSquaresModel", "solves", "(II)Z"⟩, 34), (⟨"DotSquaresModel", "equations", "(II)V"⟩, 34), (⟨"DotSquaresModel", "swaps", "(II)V"⟩, 34), (⟨"DotSquaresModel", "triesOne", "(II)Z"⟩, 34), (⟨"DotSquaresModel", "isGone", "(II)Z"⟩, 34), (⟨"DotSquaresModel", "triesTwo", "(II)Z"⟩, 34), (⟨"DotSquaresModel", "triesThree", "(II)Z"⟩, 34), (⟨"DotSquaresModel", "isWrong", "()Z"⟩, 34), (⟨"DotSquaresModel", "toldBy", "(I)I"⟩, 34), (⟨"DotSquaresModel", "itemRead", "(I)I"⟩, 34), (⟨"DotSquaresModel", "formatBy", "(I)I"⟩, 34), (⟨"DotSquaresModel", "blockBy", "(II)I"⟩, 34), (⟨"DotSquaresModel", "isBlind", "()Z"⟩, 34), (⟨"DotSquaresModel", "mendedBy", "(II)I"⟩, 34)]
theorem lw_r5 : ∀ q ∈ lw_privs_5, lw_okq q := List.forall_mem_cons.mpr ⟨lw_p64, List.forall_mem_cons.mpr ⟨lw_p65, List.forall_mem_cons.mpr ⟨lw_p66, List.forall_mem_cons.mpr ⟨lw_p67, List.forall_mem_cons.mpr ⟨lw_p68, List.forall_mem_cons.mpr ⟨lw_p69, List.forall_mem_cons.mpr ⟨lw_p70, List.forall_mem_cons.mpr ⟨lw_p71, List.forall_mem_cons.mpr ⟨lw_p72, List.forall_mem_cons.mpr ⟨lw_p73, List.forall_mem_cons.mpr ⟨lw_p74, List.forall_mem_cons.mpr ⟨lw_p75, List.forall_mem_cons.mpr ⟨lw_p76, List.forall_mem_cons.mpr ⟨lw_p77, List.forall_mem_cons.mpr ⟨lw_p78, List.forall_mem_cons.mpr ⟨lw_p79, fun _ h => absurd h List.not_mem_nil⟩⟩⟩⟩⟩⟩⟩⟩⟩⟩⟩⟩⟩⟩⟩⟩
theorem lw_p80 : lw_okq (⟨"DotSquaresModel", "strawNow", "()I"⟩, 34) := ⟨⟨by decide +kernel, by decide +kernel⟩, List.mem_of_getElem? (i := 853) (by decide +kernel), List.mem_of_getElem? (i := 1316) (by decide +kernel), List.mem_of_getElem? (i := 1317) (by decide +kernel)⟩
theorem lw_p81 : lw_okq (⟨"DotSquaresModel", "fails", "(I)Z"⟩, 34) := ⟨⟨by decide +kernel, by decide +kernel⟩, List.mem_of_getElem? (i := 853) (by decide +kernel), List.mem_of_getElem? (i := 1320) (by decide +kernel), List.mem_of_getElem? (i := 1321) (by decide +kernel)⟩
theorem lw_p82 : lw_okq (⟨"DotSquaresModel", "tellsBlock", "(JI)J"⟩, 34) := ⟨⟨by decide +kernel, by decide +kernel⟩, List.mem_of_getElem? (i := 853) (by decide +kernel), List.mem_of_getElem? (i := 1342) (by decide +kernel), List.mem_of_getElem? (i := 1343) (by decide +kernel)⟩
def lw_privs_6 : List (MethodName × Nat) := [(⟨"DotSquaresModel", "strawNow", "()I"⟩, 34), (⟨"DotSquaresModel", "fails", "(I)Z"⟩, 34), (⟨"DotSquaresModel", "tellsBlock", "(JI)J"⟩, 34)]
theorem lw_r6 : ∀ q ∈ lw_privs_6, lw_okq q := List.forall_mem_cons.mpr ⟨lw_p80, List.forall_mem_cons.mpr ⟨lw_p81, List.forall_mem_cons.mpr ⟨lw_p82, fun _ h => absurd h List.not_mem_nil⟩⟩⟩
def lw_privs : List (MethodName × Nat) := lw_privs_1 ++ (lw_privs_2 ++ (lw_privs_3 ++ (lw_privs_4 ++ (lw_privs_5 ++ (lw_privs_6)))))
def lw_tbl : List Cond := k2_sels lw_privs ++ tables_1
theorem lw_privs_ok : ∀ q ∈ lw_privs, lw_okq q := by
  show ∀ q ∈ lw_privs_1 ++ (lw_privs_2 ++ (lw_privs_3 ++ (lw_privs_4 ++ (lw_privs_5 ++ (lw_privs_6))))), lw_okq q
  exact List.forall_mem_append.mpr ⟨lw_r1, List.forall_mem_append.mpr ⟨lw_r2, List.forall_mem_append.mpr ⟨lw_r3, List.forall_mem_append.mpr ⟨lw_r4, List.forall_mem_append.mpr ⟨lw_r5, lw_r6⟩⟩⟩⟩⟩
end
section
def RX0 : String := "DotSquares$Block"
def TX0 : u_T := fun k => match k with
  | 0 => ("DotSquares$Block", "given", "[I", true)
  | 1 => ("DotSquares$Block", "mended", "[I", true)
  | 2 => ("DotSquares$Block", "gone", "I", false)
  | _ => ("DotSquares$Block", "unlike", "I", false)
def tyX0 : Nat → FieldType := fun k => match k with
  | 0 => .array .int
  | 1 => .array .int
  | 2 => .int
  | _ => .int
abbrev wsX00 : List Cond := u_ws RX0 TX0 4
theorem nmX0 : ∀ a, a < 4 → ∀ b, b < 4 → a ≠ b → (TX0 a).2.1 ≠ (TX0 b).2.1 := by decide +kernel
theorem tyX0_ok : ∀ k, k < 4 → parseFieldDescriptor (TX0 k).2.2.1 = some (tyX0 k) := by decide +kernel
abbrev cX0_init : ByteArray := prog_2_method_1_code
def yX0_init : MethodName := ⟨RX0, "<init>", "()V"⟩
abbrev cX0_cost : ByteArray := prog_2_method_2_code
def yX0_cost : MethodName := ⟨RX0, "cost", "(I)I"⟩
def RX1 : String := "DotSquares$Damage"
def TX1 : u_T := fun k => match k with
  | 0 => ("DotSquares$Damage", "turned", "[I", true)
  | 1 => ("DotSquares$Damage", "gone", "[I", true)
  | 2 => ("DotSquares$Damage", "known", "I", false)
  | 3 => ("DotSquares$Damage", "acts", "[I", true)
  | _ => ("DotSquares$Damage", "next", "I", false)
def tyX1 : Nat → FieldType := fun k => match k with
  | 0 => .array .int
  | 1 => .array .int
  | 2 => .int
  | 3 => .array .int
  | _ => .int
abbrev wsX10 : List Cond := u_ws RX1 TX1 5
theorem nmX1 : ∀ a, a < 5 → ∀ b, b < 5 → a ≠ b → (TX1 a).2.1 ≠ (TX1 b).2.1 := by decide +kernel
theorem tyX1_ok : ∀ k, k < 5 → parseFieldDescriptor (TX1 k).2.2.1 = some (tyX1 k) := by decide +kernel
abbrev cX1_init : ByteArray := prog_3_method_1_code
def yX1_init : MethodName := ⟨RX1, "<init>", "()V"⟩
abbrev cX1_add : ByteArray := prog_3_method_2_code
def yX1_add : MethodName := ⟨RX1, "add", "(I)V"⟩
abbrev cX1_takeBack : ByteArray := prog_3_method_3_code
def yX1_takeBack : MethodName := ⟨RX1, "takeBack", "()V"⟩
abbrev cX1_clear : ByteArray := prog_3_method_4_code
def yX1_clear : MethodName := ⟨RX1, "clear", "()V"⟩
abbrev cX1_hurtDots : ByteArray := prog_3_method_5_code
def yX1_hurtDots : MethodName := ⟨RX1, "hurtDots", "()I"⟩
abbrev cX1_change : ByteArray := prog_3_method_6_code
def yX1_change : MethodName := ⟨RX1, "change", "(I)V"⟩
def RX2 : String := "DotSquares$Field"
def TX2 : u_T := fun k => match k with
  | _ => ("", "", "", false)
def tyX2 : Nat → FieldType := fun k => match k with
  | _ => .int
abbrev wsX20 : List Cond := u_ws RX2 TX2 0
theorem nmX2 : ∀ a, a < 0 → ∀ b, b < 0 → a ≠ b → (TX2 a).2.1 ≠ (TX2 b).2.1 := by decide +kernel
theorem tyX2_ok : ∀ k, k < 0 → parseFieldDescriptor (TX2 k).2.2.1 = some (tyX2 k) := by decide +kernel
abbrev cX2_times : ByteArray := prog_4_method_2_code
def yX2_times : MethodName := ⟨RX2, "times", "(II)I"⟩
abbrev cX2_quotient : ByteArray := prog_4_method_3_code
def yX2_quotient : MethodName := ⟨RX2, "quotient", "(II)I"⟩
abbrev cX2_raised : ByteArray := prog_4_method_4_code
def yX2_raised : MethodName := ⟨RX2, "raised", "(II)I"⟩
abbrev cX2_ofPlace : ByteArray := prog_4_method_5_code
def yX2_ofPlace : MethodName := ⟨RX2, "ofPlace", "(I)I"⟩
def RX3 : String := "DotSquares$Mark"
def TX3 : u_T := fun k => match k with
  | 0 => ("DotSquares$Mark", "level", "I", false)
  | 1 => ("DotSquares$Mark", "there", "Z", false)
  | 2 => ("DotSquares$Mark", "mask", "I", false)
  | 3 => ("DotSquares$Mark", "dark", "I", false)
  | 4 => ("DotSquares$Mark", "symbols", "[[I", true)
  | 5 => ("DotSquares$Mark", "bare", "[I", true)
  | 6 => ("DotSquares$Mark", "masked", "[[I", true)
  | 7 => ("DotSquares$Mark", "penalties", "[I", true)
  | _ => ("DotSquares$Mark", "carried", "[I", true)
def tyX3 : Nat → FieldType := fun k => match k with
  | 0 => .int
  | 1 => .boolean
  | 2 => .int
  | 3 => .int
  | 4 => .array (.array .int)
  | 5 => .array .int
  | 6 => .array (.array .int)
  | 7 => .array .int
  | _ => .array .int
abbrev wsX30 : List Cond := u_ws RX3 TX3 9
theorem nmX3 : ∀ a, a < 9 → ∀ b, b < 9 → a ≠ b → (TX3 a).2.1 ≠ (TX3 b).2.1 := by decide +kernel
theorem tyX3_ok : ∀ k, k < 9 → parseFieldDescriptor (TX3 k).2.2.1 = some (tyX3 k) := by decide +kernel
abbrev cX3_init : ByteArray := prog_5_method_1_code
def yX3_init : MethodName := ⟨RX3, "<init>", "()V"⟩
abbrev cX3_make : ByteArray := prog_5_method_2_code
def yX3_make : MethodName := ⟨RX3, "make", "(LDotSquares$Typed;ILDotSquares$Way;LDotSquares$Mender;)V"⟩
abbrev cX3_chosen : ByteArray := prog_5_method_3_code
def yX3_chosen : MethodName := ⟨RX3, "chosen", "(I)I"⟩
abbrev cX3_layItems : ByteArray := prog_5_method_4_code
def yX3_layItems : MethodName := ⟨RX3, "layItems", "(LDotSquares$Typed;)V"⟩
abbrev cX3_addChecks : ByteArray := prog_5_method_5_code
def yX3_addChecks : MethodName := ⟨RX3, "addChecks", "(LDotSquares$Mender;)V"⟩
abbrev cX3_layDots : ByteArray := prog_5_method_6_code
def yX3_layDots : MethodName := ⟨RX3, "layDots", "(LDotSquares$Way;)V"⟩
abbrev cX3_chooseMask : ByteArray := prog_5_method_7_code
def yX3_chooseMask : MethodName := ⟨RX3, "chooseMask", "()V"⟩
abbrev cX3_fixedDots : ByteArray := prog_5_method_8_code
def yX3_fixedDots : MethodName := ⟨RX3, "fixedDots", "(II)I"⟩
abbrev cX3_penaltyOf : ByteArray := prog_5_method_9_code
def yX3_penaltyOf : MethodName := ⟨RX3, "penaltyOf", "([I)I"⟩
abbrev cX3_penaltyOfRuns : ByteArray := prog_5_method_10_code
def yX3_penaltyOfRuns : MethodName := ⟨RX3, "penaltyOfRuns", "(II)I"⟩
abbrev cX3_runStartsAcross : ByteArray := prog_5_method_11_code
def yX3_runStartsAcross : MethodName := ⟨RX3, "runStartsAcross", "(I)I"⟩
abbrev cX3_runStartsDown : ByteArray := prog_5_method_12_code
def yX3_runStartsDown : MethodName := ⟨RX3, "runStartsDown", "([II)I"⟩
abbrev cX3_likeSquares : ByteArray := prog_5_method_13_code
def yX3_likeSquares : MethodName := ⟨RX3, "likeSquares", "(II)I"⟩
def RX4 : String := "DotSquares$Mender"
def TX4 : u_T := fun k => match k with
  | 0 => ("DotSquares$Mender", "sums", "[I", true)
  | 1 => ("DotSquares$Mender", "rest", "[I", true)
  | 2 => ("DotSquares$Mender", "locator", "[I", true)
  | 3 => ("DotSquares$Mender", "former", "[I", true)
  | 4 => ("DotSquares$Mender", "kept", "[I", true)
  | 5 => ("DotSquares$Mender", "wanted", "[I", true)
  | _ => ("DotSquares$Mender", "wantedPlaces", "I", false)
def tyX4 : Nat → FieldType := fun k => match k with
  | 0 => .array .int
  | 1 => .array .int
  | 2 => .array .int
  | 3 => .array .int
  | 4 => .array .int
  | 5 => .array .int
  | _ => .int
abbrev wsX40 : List Cond := u_ws RX4 TX4 7
theorem nmX4 : ∀ a, a < 7 → ∀ b, b < 7 → a ≠ b → (TX4 a).2.1 ≠ (TX4 b).2.1 := by decide +kernel
theorem tyX4_ok : ∀ k, k < 7 → parseFieldDescriptor (TX4 k).2.2.1 = some (tyX4 k) := by decide +kernel
abbrev cX4_init : ByteArray := prog_6_method_1_code
def yX4_init : MethodName := ⟨RX4, "<init>", "()V"⟩
abbrev cX4_mend : ByteArray := prog_6_method_2_code
def yX4_mend : MethodName := ⟨RX4, "mend", "([III[I)I"⟩
abbrev cX4_sumUp : ByteArray := prog_6_method_3_code
def yX4_sumUp : MethodName := ⟨RX4, "sumUp", "([II)V"⟩
abbrev cX4_wantGone : ByteArray := prog_6_method_4_code
def yX4_wantGone : MethodName := ⟨RX4, "wantGone", "(II)V"⟩
abbrev cX4_strike : ByteArray := prog_6_method_5_code
def yX4_strike : MethodName := ⟨RX4, "strike", "(II)V"⟩
abbrev cX4_locate : ByteArray := prog_6_method_6_code
def yX4_locate : MethodName := ⟨RX4, "locate", "(I)I"⟩
abbrev cX4_startLocators : ByteArray := prog_6_method_7_code
def yX4_startLocators : MethodName := ⟨RX4, "startLocators", "()V"⟩
abbrev cX4_wantLocated : ByteArray := prog_6_method_8_code
def yX4_wantLocated : MethodName := ⟨RX4, "wantLocated", "(II)Z"⟩
abbrev cX4_isLocated : ByteArray := prog_6_method_9_code
def yX4_isLocated : MethodName := ⟨RX4, "isLocated", "(II)Z"⟩
abbrev cX4_correct : ByteArray := prog_6_method_10_code
def yX4_correct : MethodName := ⟨RX4, "correct", "([II)V"⟩
def RX5 : String := "DotSquares$Reading"
def TX5 : u_T := fun k => match k with
  | 0 => ("DotSquares$Reading", "outcome", "I", false)
  | 1 => ("DotSquares$Reading", "format", "I", false)
  | 2 => ("DotSquares$Reading", "blocks", "[LDotSquares$Block;", true)
  | 3 => ("DotSquares$Reading", "darkRows", "[I", true)
  | 4 => ("DotSquares$Reading", "lostRows", "[I", true)
  | 5 => ("DotSquares$Reading", "unmasked", "[I", true)
  | _ => ("DotSquares$Reading", "markThere", "Z", false)
def tyX5 : Nat → FieldType := fun k => match k with
  | 0 => .int
  | 1 => .int
  | 2 => .array (.object "DotSquares$Block")
  | 3 => .array .int
  | 4 => .array .int
  | 5 => .array .int
  | _ => .boolean
abbrev wsX50 : List Cond := u_ws RX5 TX5 7
theorem nmX5 : ∀ a, a < 7 → ∀ b, b < 7 → a ≠ b → (TX5 a).2.1 ≠ (TX5 b).2.1 := by decide +kernel
theorem tyX5_ok : ∀ k, k < 7 → parseFieldDescriptor (TX5 k).2.2.1 = some (tyX5 k) := by decide +kernel
abbrev cX5_init : ByteArray := prog_7_method_1_code
def yX5_init : MethodName := ⟨RX5, "<init>", "()V"⟩
abbrev cX5_look : ByteArray := prog_7_method_2_code
def yX5_look : MethodName := ⟨RX5, "look", "(LDotSquares$Mark;LDotSquares$Damage;I)V"⟩
abbrev cX5_readFormat : ByteArray := prog_7_method_3_code
def yX5_readFormat : MethodName := ⟨RX5, "readFormat", "()V"⟩
abbrev cX5_readBlocks : ByteArray := prog_7_method_4_code
def yX5_readBlocks : MethodName := ⟨RX5, "readBlocks", "(LDotSquares$Way;LDotSquares$Mender;)V"⟩
abbrev cX5_formatKnown : ByteArray := prog_7_method_5_code
def yX5_formatKnown : MethodName := ⟨RX5, "formatKnown", "()Z"⟩
abbrev cX5_level : ByteArray := prog_7_method_6_code
def yX5_level : MethodName := ⟨RX5, "level", "()I"⟩
abbrev cX5_mask : ByteArray := prog_7_method_7_code
def yX5_mask : MethodName := ⟨RX5, "mask", "()I"⟩
abbrev cX5_item : ByteArray := prog_7_method_8_code
def yX5_item : MethodName := ⟨RX5, "item", "(I)I"⟩
abbrev cX5_vote : ByteArray := prog_7_method_9_code
def yX5_vote : MethodName := ⟨RX5, "vote", "(II)I"⟩
abbrev cX5_takeSymbols : ByteArray := prog_7_method_10_code
def yX5_takeSymbols : MethodName := ⟨RX5, "takeSymbols", "(LDotSquares$Way;)V"⟩
def RX6 : String := "DotSquares$Sheet"
def TX6 : u_T := fun k => match k with
  | 0 => ("DotSquares$Sheet", "there", "Z", false)
  | 1 => ("DotSquares$Sheet", "form", "I", false)
  | 2 => ("DotSquares$Sheet", "size", "I", false)
  | _ => ("DotSquares$Sheet", "items", "[I", true)
def tyX6 : Nat → FieldType := fun k => match k with
  | 0 => .boolean
  | 1 => .int
  | 2 => .int
  | _ => .array .int
abbrev wsX60 : List Cond := u_ws RX6 TX6 4
theorem nmX6 : ∀ a, a < 4 → ∀ b, b < 4 → a ≠ b → (TX6 a).2.1 ≠ (TX6 b).2.1 := by decide +kernel
theorem tyX6_ok : ∀ k, k < 4 → parseFieldDescriptor (TX6 k).2.2.1 = some (tyX6 k) := by decide +kernel
abbrev cX6_init : ByteArray := prog_8_method_1_code
def yX6_init : MethodName := ⟨RX6, "<init>", "()V"⟩
abbrev cX6_renew : ByteArray := prog_8_method_2_code
def yX6_renew : MethodName := ⟨RX6, "renew", "(II)V"⟩
abbrev cX6_findingAt : ByteArray := prog_8_method_3_code
def yX6_findingAt : MethodName := ⟨RX6, "findingAt", "(II)I"⟩
abbrev cX6_put : ByteArray := prog_8_method_4_code
def yX6_put : MethodName := ⟨RX6, "put", "(II)V"⟩
abbrev cX6_hasPart : ByteArray := prog_8_method_5_code
def yX6_hasPart : MethodName := ⟨RX6, "hasPart", "(II)Z"⟩
def RX7 : String := "DotSquares$Straw"
def TX7 : u_T := fun k => match k with
  | 0 => ("DotSquares$Straw", "dot", "I", false)
  | 1 => ("DotSquares$Straw", "trial", "LDotSquares$Reading;", true)
  | 2 => ("DotSquares$Straw", "given", "[I", true)
  | _ => ("DotSquares$Straw", "mended", "[I", true)
def tyX7 : Nat → FieldType := fun k => match k with
  | 0 => .int
  | 1 => .object "DotSquares$Reading"
  | 2 => .array .int
  | _ => .array .int
abbrev wsX70 : List Cond := u_ws RX7 TX7 4
theorem nmX7 : ∀ a, a < 4 → ∀ b, b < 4 → a ≠ b → (TX7 a).2.1 ≠ (TX7 b).2.1 := by decide +kernel
theorem tyX7_ok : ∀ k, k < 4 → parseFieldDescriptor (TX7 k).2.2.1 = some (tyX7 k) := by decide +kernel
abbrev cX7_init : ByteArray := prog_9_method_1_code
def yX7_init : MethodName := ⟨RX7, "<init>", "()V"⟩
abbrev cX7_find : ByteArray := prog_9_method_2_code
def yX7_find : MethodName := ⟨RX7, "find", "(LDotSquares$Reading;LDotSquares$Mark;LDotSquares$Damage;LDotSquares$Way;LDotSquares$Mender;)V"⟩
abbrev cX7_isFormatDot : ByteArray := prog_9_method_3_code
def yX7_isFormatDot : MethodName := ⟨RX7, "isFormatDot", "(I)Z"⟩
abbrev cX7_spoilsBlock : ByteArray := prog_9_method_4_code
def yX7_spoilsBlock : MethodName := ⟨RX7, "spoilsBlock", "(LDotSquares$Reading;ILDotSquares$Mender;)Z"⟩
abbrev cX7_differs : ByteArray := prog_9_method_5_code
def yX7_differs : MethodName := ⟨RX7, "differs", "(II)I"⟩
def RX8 : String := "DotSquares$Typed"
def TX8 : u_T := fun k => match k with
  | 0 => ("DotSquares$Typed", "bytes", "[I", true)
  | 1 => ("DotSquares$Typed", "room", "I", true)
  | _ => ("DotSquares$Typed", "length", "I", false)
def tyX8 : Nat → FieldType := fun k => match k with
  | 0 => .array .int
  | 1 => .int
  | _ => .int
abbrev wsX80 : List Cond := u_ws RX8 TX8 3
theorem nmX8 : ∀ a, a < 3 → ∀ b, b < 3 → a ≠ b → (TX8 a).2.1 ≠ (TX8 b).2.1 := by decide +kernel
theorem tyX8_ok : ∀ k, k < 3 → parseFieldDescriptor (TX8 k).2.2.1 = some (tyX8 k) := by decide +kernel
abbrev cX8_init : ByteArray := prog_10_method_1_code
def yX8_init : MethodName := ⟨RX8, "<init>", "(I)V"⟩
abbrev cX8_isFull : ByteArray := prog_10_method_2_code
def yX8_isFull : MethodName := ⟨RX8, "isFull", "()Z"⟩
abbrev cX8_append : ByteArray := prog_10_method_3_code
def yX8_append : MethodName := ⟨RX8, "append", "(I)V"⟩
abbrev cX8_byteAt : ByteArray := prog_10_method_4_code
def yX8_byteAt : MethodName := ⟨RX8, "byteAt", "(I)I"⟩
abbrev cX8_faultAsLevel : ByteArray := prog_10_method_5_code
def yX8_faultAsLevel : MethodName := ⟨RX8, "faultAsLevel", "()I"⟩
abbrev cX8_asLevel : ByteArray := prog_10_method_6_code
def yX8_asLevel : MethodName := ⟨RX8, "asLevel", "()I"⟩
abbrev cX8_levelBegunBy : ByteArray := prog_10_method_7_code
def yX8_levelBegunBy : MethodName := ⟨RX8, "levelBegunBy", "(I)I"⟩
def RX9 : String := "DotSquares$Way"
def TX9 : u_T := fun k => match k with
  | 0 => ("DotSquares$Way", "orders", "[I", true)
  | 1 => ("DotSquares$Way", "rows", "[I", true)
  | _ => ("DotSquares$Way", "columns", "[I", true)
def tyX9 : Nat → FieldType := fun k => match k with
  | 0 => .array .int
  | 1 => .array .int
  | _ => .array .int
abbrev wsX90 : List Cond := u_ws RX9 TX9 3
theorem nmX9 : ∀ a, a < 3 → ∀ b, b < 3 → a ≠ b → (TX9 a).2.1 ≠ (TX9 b).2.1 := by decide +kernel
theorem tyX9_ok : ∀ k, k < 3 → parseFieldDescriptor (TX9 k).2.2.1 = some (tyX9 k) := by decide +kernel
abbrev cX9_init : ByteArray := prog_11_method_1_code
def yX9_init : MethodName := ⟨RX9, "<init>", "()V"⟩
abbrev cX9_symbolAt : ByteArray := prog_11_method_2_code
def yX9_symbolAt : MethodName := ⟨RX9, "symbolAt", "(I)I"⟩
def RX10 : String := "DotSquares"
def TX10 : u_T := fun k => match k with
  | 0 => ("DotSquares", "content", "LDotSquares$Typed;", true)
  | 1 => ("DotSquares", "levelName", "LDotSquares$Typed;", true)
  | 2 => ("DotSquares", "damage", "LDotSquares$Damage;", true)
  | 3 => ("DotSquares", "way", "LDotSquares$Way;", true)
  | 4 => ("DotSquares", "mender", "LDotSquares$Mender;", true)
  | 5 => ("DotSquares", "square", "LDotSquares$Mark;", true)
  | 6 => ("DotSquares", "reading", "LDotSquares$Reading;", true)
  | 7 => ("DotSquares", "search", "LDotSquares$Straw;", true)
  | 8 => ("DotSquares", "sheets", "[LDotSquares$Sheet;", true)
  | 9 => ("DotSquares", "latestFinding", "I", false)
  | _ => ("DotSquares", "stale", "I", false)
def tyX10 : Nat → FieldType := fun k => match k with
  | 0 => .object "DotSquares$Typed"
  | 1 => .object "DotSquares$Typed"
  | 2 => .object "DotSquares$Damage"
  | 3 => .object "DotSquares$Way"
  | 4 => .object "DotSquares$Mender"
  | 5 => .object "DotSquares$Mark"
  | 6 => .object "DotSquares$Reading"
  | 7 => .object "DotSquares$Straw"
  | 8 => .array (.object "DotSquares$Sheet")
  | 9 => .int
  | _ => .int
abbrev wsX100 : List Cond := u_ws RX10 TX10 11
theorem nmX10 : ∀ a, a < 11 → ∀ b, b < 11 → a ≠ b → (TX10 a).2.1 ≠ (TX10 b).2.1 := by decide +kernel
theorem tyX10_ok : ∀ k, k < 11 → parseFieldDescriptor (TX10 k).2.2.1 = some (tyX10 k) := by decide +kernel
abbrev cX10_init : ByteArray := prog_1_method_1_code
def yX10_init : MethodName := ⟨RX10, "<init>", "()V"⟩
abbrev cX10_type : ByteArray := prog_1_method_2_code
def yX10_type : MethodName := ⟨RX10, "type", "(II)I"⟩
abbrev cX10_wipe : ByteArray := prog_1_method_3_code
def yX10_wipe : MethodName := ⟨RX10, "wipe", "(I)I"⟩
abbrev cX10_undo : ByteArray := prog_1_method_4_code
def yX10_undo : MethodName := ⟨RX10, "undo", "(I)I"⟩
abbrev cX10_fault : ByteArray := prog_1_method_5_code
def yX10_fault : MethodName := ⟨RX10, "fault", "()I"⟩
abbrev cX10_read : ByteArray := prog_1_method_6_code
def yX10_read : MethodName := ⟨RX10, "read", "(I)I"⟩
abbrev cX10_field : ByteArray := prog_1_method_7_code
def yX10_field : MethodName := ⟨RX10, "field", "(III)I"⟩
abbrev cX10_mark : ByteArray := prog_1_method_8_code
def yX10_mark : MethodName := ⟨RX10, "mark", "(I)I"⟩
abbrev cX10_symbol : ByteArray := prog_1_method_9_code
def yX10_symbol : MethodName := ⟨RX10, "symbol", "(II)I"⟩
abbrev cX10_dots : ByteArray := prog_1_method_10_code
def yX10_dots : MethodName := ⟨RX10, "dots", "(II)I"⟩
abbrev cX10_penalty : ByteArray := prog_1_method_11_code
def yX10_penalty : MethodName := ⟨RX10, "penalty", "(I)I"⟩
abbrev cX10_place : ByteArray := prog_1_method_12_code
def yX10_place : MethodName := ⟨RX10, "place", "(III)I"⟩
abbrev cX10_turn : ByteArray := prog_1_method_13_code
def yX10_turn : MethodName := ⟨RX10, "turn", "(II)I"⟩
abbrev cX10_lost : ByteArray := prog_1_method_14_code
def yX10_lost : MethodName := ⟨RX10, "lost", "(II)I"⟩
abbrev cX10_back : ByteArray := prog_1_method_15_code
def yX10_back : MethodName := ⟨RX10, "back", "()I"⟩
abbrev cX10_heal : ByteArray := prog_1_method_16_code
def yX10_heal : MethodName := ⟨RX10, "heal", "()I"⟩
abbrev cX10_seen : ByteArray := prog_1_method_17_code
def yX10_seen : MethodName := ⟨RX10, "seen", "(II)I"⟩
abbrev cX10_why : ByteArray := prog_1_method_18_code
def yX10_why : MethodName := ⟨RX10, "why", "()I"⟩
abbrev cX10_told : ByteArray := prog_1_method_19_code
def yX10_told : MethodName := ⟨RX10, "told", "(I)I"⟩
abbrev cX10_format : ByteArray := prog_1_method_20_code
def yX10_format : MethodName := ⟨RX10, "format", "(I)I"⟩
abbrev cX10_block : ByteArray := prog_1_method_21_code
def yX10_block : MethodName := ⟨RX10, "block", "(II)I"⟩
abbrev cX10_mended : ByteArray := prog_1_method_22_code
def yX10_mended : MethodName := ⟨RX10, "mended", "(II)I"⟩
abbrev cX10_straw : ByteArray := prog_1_method_23_code
def yX10_straw : MethodName := ⟨RX10, "straw", "(I)I"⟩
abbrev cX10_sheet : ByteArray := prog_1_method_24_code
def yX10_sheet : MethodName := ⟨RX10, "sheet", "(III)I"⟩
abbrev cX10_lose : ByteArray := prog_1_method_25_code
def yX10_lose : MethodName := ⟨RX10, "lose", "(I)I"⟩
abbrev cX10_lay : ByteArray := prog_1_method_26_code
def yX10_lay : MethodName := ⟨RX10, "lay", "(IIII)I"⟩
abbrev cX10_get : ByteArray := prog_1_method_27_code
def yX10_get : MethodName := ⟨RX10, "get", "(III)I"⟩
abbrev cX10_copy : ByteArray := prog_1_method_28_code
def yX10_copy : MethodName := ⟨RX10, "copy", "(IIIII)I"⟩
abbrev cX10_write : ByteArray := prog_1_method_29_code
def yX10_write : MethodName := ⟨RX10, "write", "(II)I"⟩
abbrev cX10_count : ByteArray := prog_1_method_30_code
def yX10_count : MethodName := ⟨RX10, "count", "(I)I"⟩
abbrev cX10_digest : ByteArray := prog_1_method_31_code
def yX10_digest : MethodName := ⟨RX10, "digest", "()J"⟩
abbrev cX10_withBlocks : ByteArray := prog_1_method_32_code
def yX10_withBlocks : MethodName := ⟨RX10, "withBlocks", "(J)J"⟩
abbrev cX10_withSquares : ByteArray := prog_1_method_33_code
def yX10_withSquares : MethodName := ⟨RX10, "withSquares", "(J)J"⟩
abbrev cX10_withReading : ByteArray := prog_1_method_34_code
def yX10_withReading : MethodName := ⟨RX10, "withReading", "(J)J"⟩
abbrev cX10_markNow : ByteArray := prog_1_method_35_code
def yX10_markNow : MethodName := ⟨RX10, "markNow", "(I)I"⟩
abbrev cX10_symbolNow : ByteArray := prog_1_method_36_code
def yX10_symbolNow : MethodName := ⟨RX10, "symbolNow", "(II)I"⟩
abbrev cX10_dotsNow : ByteArray := prog_1_method_37_code
def yX10_dotsNow : MethodName := ⟨RX10, "dotsNow", "(II)I"⟩
abbrev cX10_penaltyNow : ByteArray := prog_1_method_38_code
def yX10_penaltyNow : MethodName := ⟨RX10, "penaltyNow", "(I)I"⟩
abbrev cX10_seenNow : ByteArray := prog_1_method_39_code
def yX10_seenNow : MethodName := ⟨RX10, "seenNow", "(II)I"⟩
abbrev cX10_toldNow : ByteArray := prog_1_method_40_code
def yX10_toldNow : MethodName := ⟨RX10, "toldNow", "(I)I"⟩
abbrev cX10_formatNow : ByteArray := prog_1_method_41_code
def yX10_formatNow : MethodName := ⟨RX10, "formatNow", "(I)I"⟩
abbrev cX10_blockNow : ByteArray := prog_1_method_42_code
def yX10_blockNow : MethodName := ⟨RX10, "blockNow", "(II)I"⟩
abbrev cX10_mendedNow : ByteArray := prog_1_method_43_code
def yX10_mendedNow : MethodName := ⟨RX10, "mendedNow", "(II)I"⟩
abbrev cX10_strawNow : ByteArray := prog_1_method_44_code
def yX10_strawNow : MethodName := ⟨RX10, "strawNow", "(I)I"⟩
abbrev cX10_countNow : ByteArray := prog_1_method_45_code
def yX10_countNow : MethodName := ⟨RX10, "countNow", "(I)I"⟩
abbrev cX10_bring : ByteArray := prog_1_method_46_code
def yX10_bring : MethodName := ⟨RX10, "bring", "(I)V"⟩
abbrev cX10_damageChanged : ByteArray := prog_1_method_47_code
def yX10_damageChanged : MethodName := ⟨RX10, "damageChanged", "()V"⟩
abbrev cX10_typedBy : ByteArray := prog_1_method_48_code
def yX10_typedBy : MethodName := ⟨RX10, "typedBy", "(I)LDotSquares$Typed;"⟩
abbrev cX10_found : ByteArray := prog_1_method_49_code
def yX10_found : MethodName := ⟨RX10, "found", "(I)I"⟩
abbrev cX10_within : ByteArray := prog_1_method_50_code
def yX10_within : MethodName := ⟨RX10, "within", "(II)Z"⟩
abbrev cX10_isDot : ByteArray := prog_1_method_51_code
def yX10_isDot : MethodName := ⟨RX10, "isDot", "(II)Z"⟩
abbrev cX10_bit : ByteArray := prog_1_method_52_code
def yX10_bit : MethodName := ⟨RX10, "bit", "(II)I"⟩
abbrev cX10_dotsIn : ByteArray := prog_1_method_53_code
def yX10_dotsIn : MethodName := ⟨RX10, "dotsIn", "([I)I"⟩
abbrev cX10_checksOf : ByteArray := prog_1_method_54_code
def yX10_checksOf : MethodName := ⟨RX10, "checksOf", "(I)I"⟩
abbrev cX10_itemsOf : ByteArray := prog_1_method_55_code
def yX10_itemsOf : MethodName := ⟨RX10, "itemsOf", "(I)I"⟩
abbrev cX10_hasRoom : ByteArray := prog_1_method_56_code
def yX10_hasRoom : MethodName := ⟨RX10, "hasRoom", "(II)Z"⟩
abbrev cX10_maskedDots : ByteArray := prog_1_method_57_code
def yX10_maskedDots : MethodName := ⟨RX10, "maskedDots", "(II)I"⟩
def RX11 : String := "DotSquaresModel"
def TX11 : u_T := fun k => match k with
  | 0 => ("DotSquaresModel", "forms", "[I", true)
  | 1 => ("DotSquaresModel", "sizes", "[I", true)
  | 2 => ("DotSquaresModel", "items", "[I", true)
  | 3 => ("DotSquaresModel", "moved", "[I", true)
  | 4 => ("DotSquaresModel", "latest", "I", false)
  | 5 => ("DotSquaresModel", "powers", "[I", true)
  | 6 => ("DotSquaresModel", "inverses", "[I", true)
  | 7 => ("DotSquaresModel", "products", "[I", true)
  | 8 => ("DotSquaresModel", "bytes", "[I", true)
  | 9 => ("DotSquaresModel", "name", "[I", true)
  | 10 => ("DotSquaresModel", "typed", "[I", true)
  | 11 => ("DotSquaresModel", "isMark", "Z", false)
  | 12 => ("DotSquaresModel", "level", "I", false)
  | 13 => ("DotSquaresModel", "mask", "I", false)
  | 14 => ("DotSquaresModel", "symbols", "[I", true)
  | 15 => ("DotSquaresModel", "plain", "[I", true)
  | 16 => ("DotSquaresModel", "free", "[I", true)
  | 17 => ("DotSquaresModel", "dotOf", "[I", true)
  | 18 => ("DotSquaresModel", "rest", "[I", true)
  | 19 => ("DotSquaresModel", "base", "[I", true)
  | 20 => ("DotSquaresModel", "turned", "[I", true)
  | 21 => ("DotSquaresModel", "losses", "[I", true)
  | 22 => ("DotSquaresModel", "known", "[I", true)
  | 23 => ("DotSquaresModel", "knows", "I", false)
  | 24 => ("DotSquaresModel", "why", "I", false)
  | 25 => ("DotSquaresModel", "levelRead", "I", false)
  | 26 => ("DotSquaresModel", "maskRead", "I", false)
  | 27 => ("DotSquaresModel", "got", "[I", true)
  | 28 => ("DotSquaresModel", "goneOf", "[I", true)
  | 29 => ("DotSquaresModel", "unlikeOf", "[I", true)
  | 30 => ("DotSquaresModel", "sums", "[I", true)
  | 31 => ("DotSquaresModel", "table", "[I", true)
  | 32 => ("DotSquaresModel", "places", "[I", true)
  | _ => ("DotSquaresModel", "solved", "[I", true)
def tyX11 : Nat → FieldType := fun k => match k with
  | 0 => .array .int
  | 1 => .array .int
  | 2 => .array .int
  | 3 => .array .int
  | 4 => .int
  | 5 => .array .int
  | 6 => .array .int
  | 7 => .array .int
  | 8 => .array .int
  | 9 => .array .int
  | 10 => .array .int
  | 11 => .boolean
  | 12 => .int
  | 13 => .int
  | 14 => .array .int
  | 15 => .array .int
  | 16 => .array .int
  | 17 => .array .int
  | 18 => .array .int
  | 19 => .array .int
  | 20 => .array .int
  | 21 => .array .int
  | 22 => .array .int
  | 23 => .int
  | 24 => .int
  | 25 => .int
  | 26 => .int
  | 27 => .array .int
  | 28 => .array .int
  | 29 => .array .int
  | 30 => .array .int
  | 31 => .array .int
  | 32 => .array .int
  | _ => .array .int
abbrev wsX110 : List Cond := u_ws RX11 TX11 34
theorem nmX11 : ∀ a, a < 34 → ∀ b, b < 34 → a ≠ b → (TX11 a).2.1 ≠ (TX11 b).2.1 := by decide +kernel
theorem tyX11_ok : ∀ k, k < 34 → parseFieldDescriptor (TX11 k).2.2.1 = some (tyX11 k) := by decide +kernel
abbrev cX11_init : ByteArray := prog_13_method_1_code
def yX11_init : MethodName := ⟨RX11, "<init>", "()V"⟩
abbrev cX11_in : ByteArray := prog_13_method_3_code
def yX11_in : MethodName := ⟨RX11, "in", "(JJJ)Z"⟩
abbrev cX11_isTwo : ByteArray := prog_13_method_4_code
def yX11_isTwo : MethodName := ⟨RX11, "isTwo", "(I)Z"⟩
abbrev cX11_lesser : ByteArray := prog_13_method_6_code
def yX11_lesser : MethodName := ⟨RX11, "lesser", "(II)I"⟩
abbrev cX11_greater : ByteArray := prog_13_method_7_code
def yX11_greater : MethodName := ⟨RX11, "greater", "(II)I"⟩
abbrev cX11_finds : ByteArray := prog_13_method_8_code
def yX11_finds : MethodName := ⟨RX11, "finds", "(I)I"⟩
abbrev cX11_isSheet : ByteArray := prog_13_method_9_code
def yX11_isSheet : MethodName := ⟨RX11, "isSheet", "(I)Z"⟩
abbrev cX11_sheet : ByteArray := prog_13_method_10_code
def yX11_sheet : MethodName := ⟨RX11, "sheet", "(III)I"⟩
abbrev cX11_lose : ByteArray := prog_13_method_11_code
def yX11_lose : MethodName := ⟨RX11, "lose", "(I)I"⟩
abbrev cX11_lacks : ByteArray := prog_13_method_12_code
def yX11_lacks : MethodName := ⟨RX11, "lacks", "(III)I"⟩
abbrev cX11_cut : ByteArray := prog_13_method_13_code
def yX11_cut : MethodName := ⟨RX11, "cut", "(II)I"⟩
abbrev cX11_lay : ByteArray := prog_13_method_14_code
def yX11_lay : MethodName := ⟨RX11, "lay", "(IIII)I"⟩
abbrev cX11_get : ByteArray := prog_13_method_15_code
def yX11_get : MethodName := ⟨RX11, "get", "(III)I"⟩
abbrev cX11_copy : ByteArray := prog_13_method_16_code
def yX11_copy : MethodName := ⟨RX11, "copy", "(IIIII)I"⟩
abbrev cX11_twice : ByteArray := prog_13_method_17_code
def yX11_twice : MethodName := ⟨RX11, "twice", "(I)I"⟩
abbrev cX11_multiplied : ByteArray := prog_13_method_18_code
def yX11_multiplied : MethodName := ⟨RX11, "multiplied", "(II)I"⟩
abbrev cX11_often : ByteArray := prog_13_method_19_code
def yX11_often : MethodName := ⟨RX11, "often", "(II)I"⟩
abbrev cX11_inverse : ByteArray := prog_13_method_20_code
def yX11_inverse : MethodName := ⟨RX11, "inverse", "(I)I"⟩
abbrev cX11_product : ByteArray := prog_13_method_21_code
def yX11_product : MethodName := ⟨RX11, "product", "(II)I"⟩
abbrev cX11_power : ByteArray := prog_13_method_22_code
def yX11_power : MethodName := ⟨RX11, "power", "(I)I"⟩
abbrev cX11_fieldBy : ByteArray := prog_13_method_23_code
def yX11_fieldBy : MethodName := ⟨RX11, "fieldBy", "(III)I"⟩
abbrev cX11_field : ByteArray := prog_13_method_24_code
def yX11_field : MethodName := ⟨RX11, "field", "(III)I"⟩
abbrev cX11_type : ByteArray := prog_13_method_25_code
def yX11_type : MethodName := ⟨RX11, "type", "(II)I"⟩
abbrev cX11_wipe : ByteArray := prog_13_method_26_code
def yX11_wipe : MethodName := ⟨RX11, "wipe", "(I)I"⟩
abbrev cX11_undo : ByteArray := prog_13_method_27_code
def yX11_undo : MethodName := ⟨RX11, "undo", "(I)I"⟩
abbrev cX11_read : ByteArray := prog_13_method_28_code
def yX11_read : MethodName := ⟨RX11, "read", "(I)I"⟩
abbrev cX11_letterOf : ByteArray := prog_13_method_29_code
def yX11_letterOf : MethodName := ⟨RX11, "letterOf", "(II)I"⟩
abbrev cX11_along : ByteArray := prog_13_method_30_code
def yX11_along : MethodName := ⟨RX11, "along", "(I)I"⟩
abbrev cX11_faultNow : ByteArray := prog_13_method_31_code
def yX11_faultNow : MethodName := ⟨RX11, "faultNow", "()I"⟩
abbrev cX11_fault : ByteArray := prog_13_method_32_code
def yX11_fault : MethodName := ⟨RX11, "fault", "()I"⟩
abbrev cX11_levelNow : ByteArray := prog_13_method_33_code
def yX11_levelNow : MethodName := ⟨RX11, "levelNow", "()I"⟩
abbrev cX11_checksOf : ByteArray := prog_13_method_34_code
def yX11_checksOf : MethodName := ⟨RX11, "checksOf", "(I)I"⟩
abbrev cX11_roomOf : ByteArray := prog_13_method_35_code
def yX11_roomOf : MethodName := ⟨RX11, "roomOf", "(I)I"⟩
abbrev cX11_isEye : ByteArray := prog_13_method_36_code
def yX11_isEye : MethodName := ⟨RX11, "isEye", "(II)Z"⟩
abbrev cX11_eye : ByteArray := prog_13_method_37_code
def yX11_eye : MethodName := ⟨RX11, "eye", "(II)I"⟩
abbrev cX11_formatBit : ByteArray := prog_13_method_38_code
def yX11_formatBit : MethodName := ⟨RX11, "formatBit", "(II)I"⟩
abbrev cX11_frees : ByteArray := prog_13_method_39_code
def yX11_frees : MethodName := ⟨RX11, "frees", "()V"⟩
abbrev cX11_itemAt : ByteArray := prog_13_method_40_code
def yX11_itemAt : MethodName := ⟨RX11, "itemAt", "(I)I"⟩
abbrev cX11_bases : ByteArray := prog_13_method_41_code
def yX11_bases : MethodName := ⟨RX11, "bases", "(I)V"⟩
abbrev cX11_checks : ByteArray := prog_13_method_42_code
def yX11_checks : MethodName := ⟨RX11, "checks", "(I)V"⟩
abbrev cX11_maskBit : ByteArray := prog_13_method_43_code
def yX11_maskBit : MethodName := ⟨RX11, "maskBit", "(III)I"⟩
abbrev cX11_dotAt : ByteArray := prog_13_method_44_code
def yX11_dotAt : MethodName := ⟨RX11, "dotAt", "(II)I"⟩
abbrev cX11_runs : ByteArray := prog_13_method_45_code
def yX11_runs : MethodName := ⟨RX11, "runs", "(III)I"⟩
abbrev cX11_darkOf : ByteArray := prog_13_method_46_code
def yX11_darkOf : MethodName := ⟨RX11, "darkOf", "(I)I"⟩
abbrev cX11_penaltyOf : ByteArray := prog_13_method_47_code
def yX11_penaltyOf : MethodName := ⟨RX11, "penaltyOf", "(I)I"⟩
abbrev cX11_makes : ByteArray := prog_13_method_48_code
def yX11_makes : MethodName := ⟨RX11, "makes", "()V"⟩
abbrev cX11_markBy : ByteArray := prog_13_method_49_code
def yX11_markBy : MethodName := ⟨RX11, "markBy", "(I)I"⟩
abbrev cX11_mark : ByteArray := prog_13_method_50_code
def yX11_mark : MethodName := ⟨RX11, "mark", "(I)I"⟩
abbrev cX11_symbolBy : ByteArray := prog_13_method_51_code
def yX11_symbolBy : MethodName := ⟨RX11, "symbolBy", "(II)I"⟩
abbrev cX11_symbol : ByteArray := prog_13_method_52_code
def yX11_symbol : MethodName := ⟨RX11, "symbol", "(II)I"⟩
abbrev cX11_dotsBy : ByteArray := prog_13_method_53_code
def yX11_dotsBy : MethodName := ⟨RX11, "dotsBy", "(II)I"⟩
abbrev cX11_isPlace : ByteArray := prog_13_method_54_code
def yX11_isPlace : MethodName := ⟨RX11, "isPlace", "(I)Z"⟩
abbrev cX11_dots : ByteArray := prog_13_method_55_code
def yX11_dots : MethodName := ⟨RX11, "dots", "(II)I"⟩
abbrev cX11_penaltyBy : ByteArray := prog_13_method_56_code
def yX11_penaltyBy : MethodName := ⟨RX11, "penaltyBy", "(I)I"⟩
abbrev cX11_penalty : ByteArray := prog_13_method_57_code
def yX11_penalty : MethodName := ⟨RX11, "penalty", "(I)I"⟩
abbrev cX11_placeBy : ByteArray := prog_13_method_58_code
def yX11_placeBy : MethodName := ⟨RX11, "placeBy", "(II)I"⟩
abbrev cX11_place : ByteArray := prog_13_method_59_code
def yX11_place : MethodName := ⟨RX11, "place", "(III)I"⟩
abbrev cX11_sumOf : ByteArray := prog_13_method_60_code
def yX11_sumOf : MethodName := ⟨RX11, "sumOf", "([I)I"⟩
abbrev cX11_does : ByteArray := prog_13_method_61_code
def yX11_does : MethodName := ⟨RX11, "does", "(I)V"⟩
abbrev cX11_notes : ByteArray := prog_13_method_62_code
def yX11_notes : MethodName := ⟨RX11, "notes", "(I)V"⟩
abbrev cX11_turn : ByteArray := prog_13_method_63_code
def yX11_turn : MethodName := ⟨RX11, "turn", "(II)I"⟩
abbrev cX11_lost : ByteArray := prog_13_method_64_code
def yX11_lost : MethodName := ⟨RX11, "lost", "(II)I"⟩
abbrev cX11_back : ByteArray := prog_13_method_65_code
def yX11_back : MethodName := ⟨RX11, "back", "()I"⟩
abbrev cX11_heal : ByteArray := prog_13_method_66_code
def yX11_heal : MethodName := ⟨RX11, "heal", "()I"⟩
abbrev cX11_seenAt : ByteArray := prog_13_method_67_code
def yX11_seenAt : MethodName := ⟨RX11, "seenAt", "(I)I"⟩
abbrev cX11_seen : ByteArray := prog_13_method_68_code
def yX11_seen : MethodName := ⟨RX11, "seen", "(II)I"⟩
abbrev cX11_formatNow : ByteArray := prog_13_method_69_code
def yX11_formatNow : MethodName := ⟨RX11, "formatNow", "()I"⟩
abbrev cX11_symbolSeen : ByteArray := prog_13_method_70_code
def yX11_symbolSeen : MethodName := ⟨RX11, "symbolSeen", "(I)I"⟩
abbrev cX11_equations : ByteArray := prog_13_method_71_code
def yX11_equations : MethodName := ⟨RX11, "equations", "(II)V"⟩
abbrev cX11_swaps : ByteArray := prog_13_method_72_code
def yX11_swaps : MethodName := ⟨RX11, "swaps", "(II)V"⟩
abbrev cX11_solves : ByteArray := prog_13_method_73_code
def yX11_solves : MethodName := ⟨RX11, "solves", "(II)Z"⟩
abbrev cX11_isGone : ByteArray := prog_13_method_74_code
def yX11_isGone : MethodName := ⟨RX11, "isGone", "(II)Z"⟩
abbrev cX11_triesOne : ByteArray := prog_13_method_75_code
def yX11_triesOne : MethodName := ⟨RX11, "triesOne", "(II)Z"⟩
abbrev cX11_triesTwo : ByteArray := prog_13_method_76_code
def yX11_triesTwo : MethodName := ⟨RX11, "triesTwo", "(II)Z"⟩
abbrev cX11_triesThree : ByteArray := prog_13_method_77_code
def yX11_triesThree : MethodName := ⟨RX11, "triesThree", "(II)Z"⟩
abbrev cX11_tries : ByteArray := prog_13_method_78_code
def yX11_tries : MethodName := ⟨RX11, "tries", "(III)Z"⟩
abbrev cX11_mends : ByteArray := prog_13_method_79_code
def yX11_mends : MethodName := ⟨RX11, "mends", "(I)V"⟩
abbrev cX11_reading : ByteArray := prog_13_method_80_code
def yX11_reading : MethodName := ⟨RX11, "reading", "()V"⟩
abbrev cX11_reads : ByteArray := prog_13_method_81_code
def yX11_reads : MethodName := ⟨RX11, "reads", "()V"⟩
abbrev cX11_why : ByteArray := prog_13_method_82_code
def yX11_why : MethodName := ⟨RX11, "why", "()I"⟩
abbrev cX11_itemRead : ByteArray := prog_13_method_83_code
def yX11_itemRead : MethodName := ⟨RX11, "itemRead", "(I)I"⟩
abbrev cX11_toldBy : ByteArray := prog_13_method_84_code
def yX11_toldBy : MethodName := ⟨RX11, "toldBy", "(I)I"⟩
abbrev cX11_told : ByteArray := prog_13_method_85_code
def yX11_told : MethodName := ⟨RX11, "told", "(I)I"⟩
abbrev cX11_formatBy : ByteArray := prog_13_method_86_code
def yX11_formatBy : MethodName := ⟨RX11, "formatBy", "(I)I"⟩
abbrev cX11_format : ByteArray := prog_13_method_87_code
def yX11_format : MethodName := ⟨RX11, "format", "(I)I"⟩
abbrev cX11_isBlind : ByteArray := prog_13_method_88_code
def yX11_isBlind : MethodName := ⟨RX11, "isBlind", "()Z"⟩
abbrev cX11_blockBy : ByteArray := prog_13_method_89_code
def yX11_blockBy : MethodName := ⟨RX11, "blockBy", "(II)I"⟩
abbrev cX11_block : ByteArray := prog_13_method_90_code
def yX11_block : MethodName := ⟨RX11, "block", "(II)I"⟩
abbrev cX11_mendedBy : ByteArray := prog_13_method_91_code
def yX11_mendedBy : MethodName := ⟨RX11, "mendedBy", "(II)I"⟩
abbrev cX11_mended : ByteArray := prog_13_method_92_code
def yX11_mended : MethodName := ⟨RX11, "mended", "(II)I"⟩
abbrev cX11_isWrong : ByteArray := prog_13_method_93_code
def yX11_isWrong : MethodName := ⟨RX11, "isWrong", "()Z"⟩
abbrev cX11_fails : ByteArray := prog_13_method_94_code
def yX11_fails : MethodName := ⟨RX11, "fails", "(I)Z"⟩
abbrev cX11_strawNow : ByteArray := prog_13_method_95_code
def yX11_strawNow : MethodName := ⟨RX11, "strawNow", "()I"⟩
abbrev cX11_lineOf : ByteArray := prog_13_method_96_code
def yX11_lineOf : MethodName := ⟨RX11, "lineOf", "(II)I"⟩
abbrev cX11_straw : ByteArray := prog_13_method_97_code
def yX11_straw : MethodName := ⟨RX11, "straw", "(I)I"⟩
abbrev cX11_write : ByteArray := prog_13_method_98_code
def yX11_write : MethodName := ⟨RX11, "write", "(II)I"⟩
abbrev cX11_count : ByteArray := prog_13_method_99_code
def yX11_count : MethodName := ⟨RX11, "count", "(I)I"⟩
abbrev cX11_tellsBlock : ByteArray := prog_13_method_100_code
def yX11_tellsBlock : MethodName := ⟨RX11, "tellsBlock", "(JI)J"⟩
abbrev cX11_digest : ByteArray := prog_13_method_101_code
def yX11_digest : MethodName := ⟨RX11, "digest", "()J"⟩
def RJ6 : String := "java/lang/Integer"
def TJ6 : u_T := fun k => match k with
  | _ => ("", "", "", false)
def tyJ6 : Nat → FieldType := fun k => match k with
  | _ => .int
abbrev wsJ60 : List Cond := u_ws RJ6 TJ6 0
theorem nmJ6 : ∀ a, a < 0 → ∀ b, b < 0 → a ≠ b → (TJ6 a).2.1 ≠ (TJ6 b).2.1 := by decide +kernel
theorem tyJ6_ok : ∀ k, k < 0 → parseFieldDescriptor (TJ6 k).2.2.1 = some (tyJ6 k) := by decide +kernel
abbrev cJ6_bitCount_0f7a4 : ByteArray := prog_14_method_49_code
def yJ6_bitCount_0f7a4 : MethodName := ⟨RJ6, "bitCount", "(I)I"⟩
def RJ9 : String := "java/lang/Math"
def TJ9 : u_T := fun k => match k with
  | _ => ("", "", "", false)
def tyJ9 : Nat → FieldType := fun k => match k with
  | _ => .int
abbrev wsJ90 : List Cond := u_ws RJ9 TJ9 0
theorem nmJ9 : ∀ a, a < 0 → ∀ b, b < 0 → a ≠ b → (TJ9 a).2.1 ≠ (TJ9 b).2.1 := by decide +kernel
theorem tyJ9_ok : ∀ k, k < 0 → parseFieldDescriptor (TJ9 k).2.2.1 = some (tyJ9 k) := by decide +kernel
abbrev cJ9_floorMod_7cf53 : ByteArray := prog_15_method_50_code
def yJ9_floorMod_7cf53 : MethodName := ⟨RJ9, "floorMod", "(II)I"⟩
abbrev cJ9_abs_0f7a4 : ByteArray := prog_15_method_59_code
def yJ9_abs_0f7a4 : MethodName := ⟨RJ9, "abs", "(I)I"⟩
abbrev cJ9_max_7cf53 : ByteArray := prog_15_method_65_code
def yJ9_max_7cf53 : MethodName := ⟨RJ9, "max", "(II)I"⟩
abbrev cJ9_min_7cf53 : ByteArray := prog_15_method_69_code
def yJ9_min_7cf53 : MethodName := ⟨RJ9, "min", "(II)I"⟩
def RJ0 : String := "java/lang/String"
def TJ0 : u_T := fun k => match k with
  | _ => ("", "", "", false)
def tyJ0 : Nat → FieldType := fun k => match k with
  | _ => .int
abbrev wsJ00 : List Cond := u_ws RJ0 TJ0 0
theorem nmJ0 : ∀ a, a < 0 → ∀ b, b < 0 → a ≠ b → (TJ0 a).2.1 ≠ (TJ0 b).2.1 := by decide +kernel
theorem tyJ0_ok : ∀ k, k < 0 → parseFieldDescriptor (TJ0 k).2.2.1 = some (tyJ0 k) := by decide +kernel
abbrev cJ0_charAt_5068e : ByteArray := prog_16_method_56_code
def yJ0_charAt_5068e : MethodName := ⟨RJ0, "charAt", "(I)C"⟩
abbrev cJ0_isLatin1_aae02 : ByteArray := prog_16_method_154_code
def yJ0_isLatin1_aae02 : MethodName := ⟨RJ0, "isLatin1", "()Z"⟩
abbrev cJ0_checkIndex_df160 : ByteArray := prog_16_method_155_code
def yJ0_checkIndex_df160 : MethodName := ⟨RJ0, "checkIndex", "(II)V"⟩
def RJ1 : String := "java/lang/StringLatin1"
def TJ1 : u_T := fun k => match k with
  | _ => ("", "", "", false)
def tyJ1 : Nat → FieldType := fun k => match k with
  | _ => .int
abbrev wsJ10 : List Cond := u_ws RJ1 TJ1 0
theorem nmJ1 : ∀ a, a < 0 → ∀ b, b < 0 → a ≠ b → (TJ1 a).2.1 ≠ (TJ1 b).2.1 := by decide +kernel
theorem tyJ1_ok : ∀ k, k < 0 → parseFieldDescriptor (TJ1 k).2.2.1 = some (tyJ1 k) := by decide +kernel
abbrev cJ1_charAt_3b067 : ByteArray := prog_17_method_2_code
def yJ1_charAt_3b067 : MethodName := ⟨RJ1, "charAt", "([BI)C"⟩
def RJ2 : String := "java/lang/StringUTF16"
def TJ2 : u_T := fun k => match k with
  | _ => ("", "", "", false)
def tyJ2 : Nat → FieldType := fun k => match k with
  | _ => .int
abbrev wsJ20 : List Cond := u_ws RJ2 TJ2 0
theorem nmJ2 : ∀ a, a < 0 → ∀ b, b < 0 → a ≠ b → (TJ2 a).2.1 ≠ (TJ2 b).2.1 := by decide +kernel
theorem tyJ2_ok : ∀ k, k < 0 → parseFieldDescriptor (TJ2 k).2.2.1 = some (tyJ2 k) := by decide +kernel
abbrev cJ2_getChar_3b067 : ByteArray := prog_18_method_5_code
def yJ2_getChar_3b067 : MethodName := ⟨RJ2, "getChar", "([BI)C"⟩
abbrev cJ2_length_9d52b : ByteArray := prog_18_method_6_code
def yJ2_length_9d52b : MethodName := ⟨RJ2, "length", "([B)I"⟩
abbrev cJ2_charAt_3b067 : ByteArray := prog_18_method_83_code
def yJ2_charAt_3b067 : MethodName := ⟨RJ2, "charAt", "([BI)C"⟩
abbrev cJ2_checkIndex_2214a : ByteArray := prog_18_method_91_code
def yJ2_checkIndex_2214a : MethodName := ⟨RJ2, "checkIndex", "(I[B)V"⟩
def RJ10 : String := "java/lang/System"
def TJ10 : u_T := fun k => match k with
  | _ => ("", "", "", false)
def tyJ10 : Nat → FieldType := fun k => match k with
  | _ => .int
abbrev wsJ100 : List Cond := u_ws RJ10 TJ10 0
theorem nmJ10 : ∀ a, a < 0 → ∀ b, b < 0 → a ≠ b → (TJ10 a).2.1 ≠ (TJ10 b).2.1 := by decide +kernel
theorem tyJ10_ok : ∀ k, k < 0 → parseFieldDescriptor (TJ10 k).2.2.1 = some (tyJ10 k) := by decide +kernel
def RJ3 : String := "jdk/internal/util/Preconditions"
def TJ3 : u_T := fun k => match k with
  | _ => ("", "", "", false)
def tyJ3 : Nat → FieldType := fun k => match k with
  | _ => .int
abbrev wsJ30 : List Cond := u_ws RJ3 TJ3 0
theorem nmJ3 : ∀ a, a < 0 → ∀ b, b < 0 → a ≠ b → (TJ3 a).2.1 ≠ (TJ3 b).2.1 := by decide +kernel
theorem tyJ3_ok : ∀ k, k < 0 → parseFieldDescriptor (TJ3 k).2.2.1 = some (tyJ3 k) := by decide +kernel
abbrev cJ3_checkIndex_8e157 : ByteArray := prog_20_method_11_code
def yJ3_checkIndex_8e157 : MethodName := ⟨RJ3, "checkIndex", "(IILjava/util/function/BiFunction;)I"⟩
def RL : String := "DotSquaresLaw"
abbrev cL_law : ByteArray := code
def yL_law : MethodName := ⟨RL, "law", "([I)Z"⟩
abbrev vwCl : List vw_C := [(RX0, TX0, 4), (RX1, TX1, 5), (RX3, TX3, 9), (RX4, TX4, 7), (RX5, TX5, 7), (RX6, TX6, 4), (RX7, TX7, 4), (RX8, TX8, 3), (RX9, TX9, 3), (RX10, TX10, 11), (RX11, TX11, 34)]
end
section
/-! THE SMALL MACHINE: its memory, its rows of code, what an instruction does. Addresses here are small numbers: 0 is null, from 1 on the cells in the order in which they were made, from 1000000 on the tables that nobody writes (and the script, and the text). -/
abbrev mm_M : Type := Nat × (Nat → Nat × Nat) × (Nat → Nat → Nat) × (Nat → Nat → Int32)
abbrev mm_Lo : Type := List (Option Value)
/-- a row of code: kind, place, instruction, length, three numbers -/
abbrev mm_e : Type := Nat × Nat × Instr × Nat × Nat × Nat × Nat
/-- a method: name, code, locals, answer, rows, numbers (kind, args, class, frames, locals, cells, slots, words) -/
abbrev mm_m : Type := MethodName × ByteArray × Nat × Option FieldType × List mm_e × List Nat
def mm_nu (m : mm_m) (i : Nat) : Nat := m.2.2.2.2.2.getD i 0
/-- how many fields a class has -/
def mm_N (c : Nat) : Nat := [4, 5, 9, 7, 7, 4, 4, 3, 3, 11, 34].getD c 0
/-- the kind of a field: 0 int, 1 boolean, 2 a reference -/
def mm_fk (c k : Nat) : Nat := (([[2, 2, 0, 0], [2, 2, 0, 2, 0], [0, 1, 0, 0, 2, 2, 2, 2, 2], [2, 2, 2, 2, 2, 2, 0], [0, 0, 2, 2, 2, 2, 1], [1, 0, 0, 2], [0, 2, 2, 2], [2, 0, 0], [2, 2, 2], [2, 2, 2, 2, 2, 2, 2, 2, 2, 0, 0], [2, 2, 2, 2, 0, 2, 2, 2, 2, 2, 2, 1, 0, 0, 2, 2, 2, 2, 2, 2, 2, 2, 2, 0, 0, 0, 0, 2, 2, 2, 2, 2, 2, 2]] : List (List Nat)).getD c []).getD k 9
def mm_up2 {α : Type} (f : Nat → Nat → α) (a k : Nat) (v : α) : Nat → Nat → α := fun q j => if q = a then (if j = k then v else f q j) else f q j
def mm_up1 {α : Type} (f : Nat → α) (a : Nat) (v : α) : Nat → α := fun q => if q = a then v else f q
/-- a whole row -/
def mm_row {α : Type} (f : Nat → Nat → α) (a : Nat) (g : Nat → α) : Nat → Nat → α := fun q j => if q = a then g j else f q j
def mm_t0 : List Nat := [4088, 4088, 4088, 2032, 32767, 32767, 32767, 0, 32767, 32767, 32767, 32752, 32760, 32760, 32760]
def mm_t1 : List Nat := [28679, 20485, 28679, 0, 0, 0, 0, 21845, 0, 0, 0, 0, 7, 5, 7]
def mm_t2 : List Nat := [1, 2, 4, 8, 3, 6, 12, 11, 5, 10, 7, 14, 15, 13, 9, 1, 2, 4, 8, 3, 6, 12, 11, 5, 10, 7, 14, 15, 13, 9]
def mm_t3 : List Nat := [0, 0, 1, 4, 2, 8, 5, 10, 3, 14, 9, 7, 6, 13, 11, 12]
/-- the tables: how long, what they hold -/
def mm_S (X : Nat × (Nat → Int32)) (i : Nat) : Nat × (Nat → Int32) :=
  match i with
  | 0 => (15, fun j => nI (mm_t0.getD j 0))
  | 1 => (15, fun j => nI (mm_t1.getD j 0))
  | 2 => (30, fun j => nI (mm_t2.getD j 0))
  | 3 => (16, fun j => nI (mm_t3.getD j 0))
  | _ => X
def mm_tx : List Nat := [108, 111, 119, 109, 105, 100, 116, 111, 112]
def mm_lg : Option (Option Value) → Bool
  | some (some (.long _)) => true
  | some (some (.double _)) => true
  | _ => false
/-- may a place of the locals be written: the one ahead of it holds no long -/
def mm_ok1 (L : mm_Lo) (k : Nat) : Bool := decide (k < L.length) && (match k with | 0 => true | q + 1 => !(mm_lg L[q]?))
/-- constants, locals -/
def mm_p1 (ins : Instr) (y : Nat) (L : mm_Lo) (st : List Value) : Option (mm_Lo × List Value) :=
  match ins with
  | .iconst _ | .bipush _ | .sipush _ | .ldc _ | .ldc_w _ => some (L, .int (nI y) :: st)
  | .lconst _ | .ldc2_w _ => some (L, .long (lN y) :: st)
  | .iload_n k => match L[k.val]? with
    | some (some (.int x)) => some (L, .int x :: st)
    | _ => none
  | .iload k => match L[k]? with
    | some (some (.int x)) => some (L, .int x :: st)
    | _ => none
  | .lload_n k => match L[k.val]? with
    | some (some (.long x)) => some (L, .long x :: st)
    | _ => none
  | .lload k => match L[k]? with
    | some (some (.long x)) => some (L, .long x :: st)
    | _ => none
  | .aload_n k => match L[k.val]? with
    | some (some (.ref x)) => some (L, .ref x :: st)
    | _ => none
  | .aload k => match L[k]? with
    | some (some (.ref x)) => some (L, .ref x :: st)
    | _ => none
  | .iinc k _ => match L[k]? with
    | some (some (.int x)) => match mm_ok1 L k with
      | true => some (L.set k (some (.int (x + nI y))), st)
      | false => none
    | _ => none
  | _ => none
def mm_st1 (L : mm_Lo) (k : Nat) (v : Value) (st : List Value) : Option (mm_Lo × List Value) :=
  match mm_ok1 L k with
  | true => some (L.set k (some v), st)
  | false => none
def mm_st2 (L : mm_Lo) (k : Nat) (v : Value) (st : List Value) : Option (mm_Lo × List Value) :=
  match mm_ok1 L k && decide (k + 1 < L.length) with
  | true => some ((L.set k (some v)).set (k + 1) none, st)
  | false => none
/-- stores into locals, the stack -/
def mm_p2 (ins : Instr) (L : mm_Lo) (st : List Value) : Option (mm_Lo × List Value) :=
  match ins with
  | .istore_n k => match st with
    | .int x :: st => mm_st1 L k.val (.int x) st
    | _ => none
  | .istore k => match st with
    | .int x :: st => mm_st1 L k (.int x) st
    | _ => none
  | .astore_n k => match st with
    | .ref x :: st => mm_st1 L k.val (.ref x) st
    | _ => none
  | .astore k => match st with
    | .ref x :: st => mm_st1 L k (.ref x) st
    | _ => none
  | .lstore_n k => match st with
    | .long x :: st => mm_st2 L k.val (.long x) st
    | _ => none
  | .lstore k => match st with
    | .long x :: st => mm_st2 L k (.long x) st
    | _ => none
  | .dup => match st with
    | .int x :: st => some (L, .int x :: .int x :: st)
    | .ref x :: st => some (L, .ref x :: .ref x :: st)
    | _ => none
  | .dup2 => match st with
    | .int x :: .ref a :: st => some (L, .int x :: .ref a :: .int x :: .ref a :: st)
    | _ => none
  | .pop => match st with
    | .int _ :: st => some (L, st)
    | _ => none
  | _ => none
/-- numbers -/
def mm_p3 (ins : Instr) (st : List Value) : Option (List Value) :=
  match ins with
  | .iadd => match st with
    | .int y :: .int x :: st => some (.int (x + y) :: st)
    | _ => none
  | .isub => match st with
    | .int y :: .int x :: st => some (.int (x - y) :: st)
    | _ => none
  | .imul => match st with
    | .int y :: .int x :: st => some (.int (x * y) :: st)
    | _ => none
  | .idiv => match st with
    | .int y :: .int x :: st => match decide (y = 0) with
      | true => none
      | false => some (.int (x / y) :: st)
    | _ => none
  | .irem => match st with
    | .int y :: .int x :: st => match decide (y = 0) with
      | true => none
      | false => some (.int (x - x / y * y) :: st)
    | _ => none
  | .ineg => match st with
    | .int x :: st => some (.int (-x) :: st)
    | _ => none
  | .iand => match st with
    | .int y :: .int x :: st => some (.int (x &&& y) :: st)
    | _ => none
  | .ior => match st with
    | .int y :: .int x :: st => some (.int (x ||| y) :: st)
    | _ => none
  | .ixor => match st with
    | .int y :: .int x :: st => some (.int (x ^^^ y) :: st)
    | _ => none
  | .ishl => match st with
    | .int y :: .int x :: st => some (.int (x <<< (y &&& 31)) :: st)
    | _ => none
  | .ishr => match st with
    | .int y :: .int x :: st => some (.int (x >>> (y &&& 31)) :: st)
    | _ => none
  | .iushr => match st with
    | .int y :: .int x :: st => some (.int ((x.toUInt32 >>> (y.toUInt32 &&& Int32.toUInt32 31)).toInt32) :: st)
    | _ => none
  | .ladd => match st with
    | .long y :: .long x :: st => some (.long (x + y) :: st)
    | _ => none
  | .lmul => match st with
    | .long y :: .long x :: st => some (.long (x * y) :: st)
    | _ => none
  | .lcmp => match st with
    | .long y :: .long x :: st => some (.int (lg_cmp x y) :: st)
    | _ => none
  | .i2l => match st with
    | .int x :: st => some (.long x.toInt64 :: st)
    | _ => none
  | .i2b => match st with
    | .int x :: st => some (.int x.toInt8.toInt32 :: st)
    | _ => none
  | .i2s => match st with
    | .int x :: st => some (.int x.toInt16.toInt32 :: st)
    | _ => none
  | _ => none
end
section
/-! THE CODE, row by row, printed by program (wip/gen/mktables.py) out of claim/NAMES.whole.lean.txt and the Statement's tables. -/
def mt_X0_init : List mm_e := [(0, 0, .aload_n 0, 1, 0, 0, 0), (3, 1, .invokespecial 3, 3, 0, 0, 273), (0, 4, .aload_n 0, 1, 0, 0, 0), (0, 5, .bipush 14, 2, 0, 14, 0), (3, 7, .newarray .int, 2, 0, 0, 0), (3, 9, .putfield 9, 3, 0, 0, 274), (0, 12, .aload_n 0, 1, 0, 0, 0), (0, 13, .bipush 14, 2, 0, 14, 0), (3, 15, .newarray .int, 2, 0, 0, 0), (3, 17, .putfield 15, 3, 0, 1, 277), (5, 20, .return_, 1, 0, 0, 0)]
def mt_X0_cost : List mm_e := [(0, 0, .aload_n 0, 1, 0, 0, 0), (3, 1, .getfield 18, 3, 0, 2, 281), (4, 4, .invokestatic 22, 3, 220, 717, 0), (0, 7, .iconst 2, 1, 0, 2, 0), (0, 8, .iload_n 1, 1, 0, 0, 0), (0, 9, .imul, 1, 0, 0, 0), (0, 10, .iadd, 1, 0, 0, 0), (5, 11, .ireturn, 1, 0, 0, 0)]
def mt_X1_init : List mm_e := [(0, 0, .aload_n 0, 1, 0, 0, 0), (3, 1, .invokespecial 3, 3, 0, 0, 138), (0, 4, .aload_n 0, 1, 0, 0, 0), (0, 5, .bipush 15, 2, 0, 15, 0), (3, 7, .newarray .int, 2, 0, 0, 0), (3, 9, .putfield 9, 3, 1, 0, 139), (0, 12, .aload_n 0, 1, 0, 0, 0), (0, 13, .bipush 15, 2, 0, 15, 0), (3, 15, .newarray .int, 2, 0, 0, 0), (3, 17, .putfield 15, 3, 1, 1, 142), (0, 20, .aload_n 0, 1, 0, 0, 0), (0, 21, .bipush 60, 2, 0, 60, 0), (3, 23, .newarray .int, 2, 0, 0, 0), (3, 25, .putfield 18, 3, 1, 3, 148), (5, 28, .return_, 1, 0, 0, 0)]
def mt_X1_add : List mm_e := [(0, 0, .aload_n 0, 1, 0, 0, 0), (0, 1, .iload_n 1, 1, 0, 0, 0), (4, 2, .invokevirtual 21, 3, 7, 772, 0), (0, 5, .aload_n 0, 1, 0, 0, 0), (3, 6, .getfield 18, 3, 1, 3, 148), (0, 9, .aload_n 0, 1, 0, 0, 0), (3, 10, .getfield 25, 3, 1, 4, 149), (0, 13, .iload_n 1, 1, 0, 0, 0), (3, 14, .iastore, 1, 0, 0, 0), (0, 15, .aload_n 0, 1, 0, 0, 0), (0, 16, .aload_n 0, 1, 0, 0, 0), (3, 17, .getfield 25, 3, 1, 4, 149), (0, 20, .iconst 1, 1, 0, 1, 0), (0, 21, .iadd, 1, 0, 0, 0), (0, 22, .bipush 60, 2, 0, 60, 0), (1, 24, .if_icmp .ge 12, 3, 21, 0, 0), (0, 27, .aload_n 0, 1, 0, 0, 0), (3, 28, .getfield 25, 3, 1, 4, 149), (0, 31, .iconst 1, 1, 0, 1, 0), (0, 32, .iadd, 1, 0, 0, 0), (2, 33, .goto 4, 3, 22, 0, 0), (0, 36, .iconst 0, 1, 0, 0, 0), (3, 37, .putfield 25, 3, 1, 4, 149), (0, 40, .aload_n 0, 1, 0, 0, 0), (0, 41, .aload_n 0, 1, 0, 0, 0), (3, 42, .getfield 29, 3, 1, 2, 146), (0, 45, .iconst 1, 1, 0, 1, 0), (0, 46, .iadd, 1, 0, 0, 0), (0, 47, .bipush 60, 2, 0, 60, 0), (4, 49, .invokestatic 32, 3, 224, 776, 0), (3, 52, .putfield 29, 3, 1, 2, 146), (5, 55, .return_, 1, 0, 0, 0)]
def mt_X1_takeBack : List mm_e := [(0, 0, .aload_n 0, 1, 0, 0, 0), (3, 1, .getfield 29, 3, 1, 2, 146), (1, 4, .ifCond .le 48, 3, 27, 0, 0), (0, 7, .aload_n 0, 1, 0, 0, 0), (0, 8, .aload_n 0, 1, 0, 0, 0), (3, 9, .getfield 25, 3, 1, 4, 149), (1, 12, .ifCond .le 12, 3, 12, 0, 0), (0, 15, .aload_n 0, 1, 0, 0, 0), (3, 16, .getfield 25, 3, 1, 4, 149), (0, 19, .iconst 1, 1, 0, 1, 0), (0, 20, .isub, 1, 0, 0, 0), (2, 21, .goto 5, 3, 13, 0, 0), (0, 24, .bipush 59, 2, 0, 59, 0), (3, 26, .putfield 25, 3, 1, 4, 149), (0, 29, .aload_n 0, 1, 0, 0, 0), (0, 30, .aload_n 0, 1, 0, 0, 0), (3, 31, .getfield 18, 3, 1, 3, 148), (0, 34, .aload_n 0, 1, 0, 0, 0), (3, 35, .getfield 25, 3, 1, 4, 149), (3, 38, .iaload, 1, 0, 0, 0), (4, 39, .invokevirtual 21, 3, 7, 772, 0), (0, 42, .aload_n 0, 1, 0, 0, 0), (0, 43, .dup, 1, 0, 0, 0), (3, 44, .getfield 29, 3, 1, 2, 146), (0, 47, .iconst 1, 1, 0, 1, 0), (0, 48, .isub, 1, 0, 0, 0), (3, 49, .putfield 29, 3, 1, 2, 146), (5, 52, .return_, 1, 0, 0, 0)]
def mt_X1_clear : List mm_e := [(0, 0, .iconst 0, 1, 0, 0, 0), (0, 1, .istore_n 1, 1, 0, 0, 0), (0, 2, .iload_n 1, 1, 0, 0, 0), (0, 3, .bipush 15, 2, 0, 15, 0), (1, 5, .if_icmp .ge 23, 3, 17, 0, 0), (0, 8, .aload_n 0, 1, 0, 0, 0), (3, 9, .getfield 9, 3, 1, 0, 139), (0, 12, .iload_n 1, 1, 0, 0, 0), (0, 13, .iconst 0, 1, 0, 0, 0), (3, 14, .iastore, 1, 0, 0, 0), (0, 15, .aload_n 0, 1, 0, 0, 0), (3, 16, .getfield 15, 3, 1, 1, 142), (0, 19, .iload_n 1, 1, 0, 0, 0), (0, 20, .iconst 0, 1, 0, 0, 0), (3, 21, .iastore, 1, 0, 0, 0), (0, 22, .iinc 1 1, 3, 0, 1, 0), (2, 25, .goto (-23), 3, 2, 0, 0), (0, 28, .aload_n 0, 1, 0, 0, 0), (0, 29, .iconst 0, 1, 0, 0, 0), (3, 30, .putfield 29, 3, 1, 2, 146), (5, 33, .return_, 1, 0, 0, 0)]
def mt_X1_hurtDots : List mm_e := [(0, 0, .iconst 0, 1, 0, 0, 0), (0, 1, .istore_n 1, 1, 0, 0, 0), (0, 2, .iconst 0, 1, 0, 0, 0), (0, 3, .istore_n 2, 1, 0, 0, 0), (0, 4, .iload_n 2, 1, 0, 0, 0), (0, 5, .bipush 15, 2, 0, 15, 0), (1, 7, .if_icmp .ge 28, 3, 22, 0, 0), (0, 10, .iload_n 1, 1, 0, 0, 0), (0, 11, .aload_n 0, 1, 0, 0, 0), (3, 12, .getfield 9, 3, 1, 0, 139), (0, 15, .iload_n 2, 1, 0, 0, 0), (3, 16, .iaload, 1, 0, 0, 0), (0, 17, .aload_n 0, 1, 0, 0, 0), (3, 18, .getfield 15, 3, 1, 1, 142), (0, 21, .iload_n 2, 1, 0, 0, 0), (3, 22, .iaload, 1, 0, 0, 0), (0, 23, .ior, 1, 0, 0, 0), (4, 24, .invokestatic 38, 3, 220, 803, 0), (0, 27, .iadd, 1, 0, 0, 0), (0, 28, .istore_n 1, 1, 0, 0, 0), (0, 29, .iinc 2 1, 3, 0, 1, 0), (2, 32, .goto (-28), 3, 4, 0, 0), (0, 35, .iload_n 1, 1, 0, 0, 0), (5, 36, .ireturn, 1, 0, 0, 0)]
def mt_X1_change : List mm_e := [(0, 0, .iload_n 1, 1, 0, 0, 0), (0, 1, .sipush 225, 3, 0, 225, 0), (1, 4, .if_icmp .ge 10, 3, 6, 0, 0), (0, 7, .aload_n 0, 1, 0, 0, 0), (3, 8, .getfield 9, 3, 1, 0, 139), (2, 11, .goto 7, 3, 8, 0, 0), (0, 14, .aload_n 0, 1, 0, 0, 0), (3, 15, .getfield 15, 3, 1, 1, 142), (0, 18, .astore_n 2, 1, 0, 0, 0), (0, 19, .iload_n 1, 1, 0, 0, 0), (0, 20, .sipush 225, 3, 0, 225, 0), (0, 23, .irem, 1, 0, 0, 0), (0, 24, .istore_n 3, 1, 0, 0, 0), (0, 25, .aload_n 2, 1, 0, 0, 0), (0, 26, .iload_n 3, 1, 0, 0, 0), (0, 27, .bipush 15, 2, 0, 15, 0), (0, 29, .idiv, 1, 0, 0, 0), (0, 30, .dup2, 1, 0, 0, 0), (3, 31, .iaload, 1, 0, 0, 0), (0, 32, .iconst 1, 1, 0, 1, 0), (0, 33, .iload_n 3, 1, 0, 0, 0), (0, 34, .bipush 15, 2, 0, 15, 0), (0, 36, .irem, 1, 0, 0, 0), (0, 37, .ishl, 1, 0, 0, 0), (0, 38, .ixor, 1, 0, 0, 0), (3, 39, .iastore, 1, 0, 0, 0), (5, 40, .return_, 1, 0, 0, 0)]
def mt_X2_times : List mm_e := [(0, 0, .iload_n 0, 1, 0, 0, 0), (1, 1, .ifCond .eq 7, 3, 4, 0, 0), (0, 4, .iload_n 1, 1, 0, 0, 0), (1, 5, .ifCond .ne 7, 3, 6, 0, 0), (0, 8, .iconst 0, 1, 0, 0, 0), (2, 9, .goto 24, 3, 19, 0, 0), (3, 12, .getstatic 9, 3, 2, 0, 504), (3, 15, .getstatic 15, 3, 3, 0, 506), (0, 18, .iload_n 0, 1, 0, 0, 0), (0, 19, .bipush 15, 2, 0, 15, 0), (0, 21, .iand, 1, 0, 0, 0), (3, 22, .iaload, 1, 0, 0, 0), (3, 23, .getstatic 15, 3, 3, 0, 506), (0, 26, .iload_n 1, 1, 0, 0, 0), (0, 27, .bipush 15, 2, 0, 15, 0), (0, 29, .iand, 1, 0, 0, 0), (3, 30, .iaload, 1, 0, 0, 0), (0, 31, .iadd, 1, 0, 0, 0), (3, 32, .iaload, 1, 0, 0, 0), (5, 33, .ireturn, 1, 0, 0, 0)]
def mt_X2_quotient : List mm_e := [(0, 0, .iload_n 1, 1, 0, 0, 0), (1, 1, .ifCond .ne 5, 3, 4, 0, 0), (0, 4, .iconst (-1), 1, 0, 4294967295, 0), (5, 5, .ireturn, 1, 0, 0, 0), (0, 6, .iload_n 0, 1, 0, 0, 0), (1, 7, .ifCond .ne 7, 3, 8, 0, 0), (0, 10, .iconst 0, 1, 0, 0, 0), (2, 11, .goto 27, 3, 23, 0, 0), (3, 14, .getstatic 9, 3, 2, 0, 504), (3, 17, .getstatic 15, 3, 3, 0, 506), (0, 20, .iload_n 0, 1, 0, 0, 0), (0, 21, .bipush 15, 2, 0, 15, 0), (0, 23, .iand, 1, 0, 0, 0), (3, 24, .iaload, 1, 0, 0, 0), (0, 25, .bipush 15, 2, 0, 15, 0), (0, 27, .iadd, 1, 0, 0, 0), (3, 28, .getstatic 15, 3, 3, 0, 506), (0, 31, .iload_n 1, 1, 0, 0, 0), (0, 32, .bipush 15, 2, 0, 15, 0), (0, 34, .iand, 1, 0, 0, 0), (3, 35, .iaload, 1, 0, 0, 0), (0, 36, .isub, 1, 0, 0, 0), (3, 37, .iaload, 1, 0, 0, 0), (5, 38, .ireturn, 1, 0, 0, 0)]
def mt_X2_raised : List mm_e := [(0, 0, .iload_n 1, 1, 0, 0, 0), (1, 1, .ifCond .ne 5, 3, 4, 0, 0), (0, 4, .iconst 1, 1, 0, 1, 0), (5, 5, .ireturn, 1, 0, 0, 0), (0, 6, .iload_n 0, 1, 0, 0, 0), (1, 7, .ifCond .ne 7, 3, 8, 0, 0), (0, 10, .iconst 0, 1, 0, 0, 0), (2, 11, .goto 22, 3, 19, 0, 0), (3, 14, .getstatic 9, 3, 2, 0, 504), (3, 17, .getstatic 15, 3, 3, 0, 506), (0, 20, .iload_n 0, 1, 0, 0, 0), (0, 21, .bipush 15, 2, 0, 15, 0), (0, 23, .iand, 1, 0, 0, 0), (3, 24, .iaload, 1, 0, 0, 0), (0, 25, .iload_n 1, 1, 0, 0, 0), (0, 26, .imul, 1, 0, 0, 0), (0, 27, .bipush 15, 2, 0, 15, 0), (4, 29, .invokestatic 18, 3, 221, 514, 0), (3, 32, .iaload, 1, 0, 0, 0), (5, 33, .ireturn, 1, 0, 0, 0)]
def mt_X2_ofPlace : List mm_e := [(3, 0, .getstatic 9, 3, 2, 0, 504), (0, 3, .bipush 13, 2, 0, 13, 0), (0, 5, .iload_n 0, 1, 0, 0, 0), (0, 6, .isub, 1, 0, 0, 0), (0, 7, .bipush 15, 2, 0, 15, 0), (4, 9, .invokestatic 18, 3, 221, 514, 0), (3, 12, .iaload, 1, 0, 0, 0), (5, 13, .ireturn, 1, 0, 0, 0)]
def mt_X3_init : List mm_e := [(0, 0, .aload_n 0, 1, 0, 0, 0), (3, 1, .invokespecial 3, 3, 0, 0, 221), (0, 4, .aload_n 0, 1, 0, 0, 0), (0, 5, .iconst 3, 1, 0, 3, 0), (0, 6, .bipush 14, 2, 0, 14, 0), (3, 8, .multianewarray 9 2, 4, 4, 0, 222), (3, 12, .putfield 11, 3, 2, 4, 233), (0, 15, .aload_n 0, 1, 0, 0, 0), (0, 16, .bipush 15, 2, 0, 15, 0), (3, 18, .newarray .int, 2, 0, 0, 0), (3, 20, .putfield 16, 3, 2, 5, 235), (0, 23, .aload_n 0, 1, 0, 0, 0), (0, 24, .iconst 4, 1, 0, 4, 0), (0, 25, .bipush 15, 2, 0, 15, 0), (3, 27, .multianewarray 9 2, 4, 4, 0, 222), (3, 31, .putfield 20, 3, 2, 6, 237), (0, 34, .aload_n 0, 1, 0, 0, 0), (0, 35, .iconst 4, 1, 0, 4, 0), (3, 36, .newarray .int, 2, 0, 0, 0), (3, 38, .putfield 23, 3, 2, 7, 239), (0, 41, .aload_n 0, 1, 0, 0, 0), (0, 42, .bipush 15, 2, 0, 15, 0), (3, 44, .newarray .int, 2, 0, 0, 0), (3, 46, .putfield 26, 3, 2, 8, 241), (5, 49, .return_, 1, 0, 0, 0)]
def mt_X3_make : List mm_e := [(0, 0, .aload_n 0, 1, 0, 0, 0), (0, 1, .iload_n 2, 1, 0, 0, 0), (3, 2, .putfield 29, 3, 2, 0, 224), (0, 5, .aload_n 0, 1, 0, 0, 0), (0, 6, .iload_n 2, 1, 0, 0, 0), (0, 7, .aload_n 1, 1, 0, 0, 0), (3, 8, .getfield 33, 3, 7, 2, 123), (4, 11, .invokestatic 38, 3, 119, 8, 1), (3, 14, .putfield 42, 3, 2, 1, 227), (0, 17, .aload_n 0, 1, 0, 0, 0), (0, 18, .iconst (-1), 1, 0, 4294967295, 0), (3, 19, .putfield 46, 3, 2, 2, 229), (0, 22, .aload_n 0, 1, 0, 0, 0), (0, 23, .iconst 0, 1, 0, 0, 0), (3, 24, .putfield 49, 3, 2, 3, 231), (0, 27, .aload_n 0, 1, 0, 0, 0), (3, 28, .getfield 42, 3, 2, 1, 227), (1, 31, .ifCond .eq 23, 3, 29, 0, 0), (0, 34, .aload_n 0, 1, 0, 0, 0), (0, 35, .aload_n 1, 1, 0, 0, 0), (4, 36, .invokevirtual 52, 3, 15, 545, 0), (0, 39, .aload_n 0, 1, 0, 0, 0), (0, 40, .aload 4, 2, 0, 0, 0), (4, 42, .invokevirtual 56, 3, 16, 551, 0), (0, 45, .aload_n 0, 1, 0, 0, 0), (0, 46, .aload_n 3, 1, 0, 0, 0), (4, 47, .invokevirtual 60, 3, 17, 608, 0), (0, 50, .aload_n 0, 1, 0, 0, 0), (4, 51, .invokevirtual 64, 3, 18, 623, 0), (5, 54, .return_, 1, 0, 0, 0)]
def mt_X3_chosen : List mm_e := [(0, 0, .aload_n 0, 1, 0, 0, 0), (3, 1, .getfield 46, 3, 2, 2, 229), (0, 4, .iconst (-1), 1, 0, 4294967295, 0), (1, 5, .if_icmp .ne 7, 3, 6, 0, 0), (0, 8, .iconst 0, 1, 0, 0, 0), (2, 9, .goto 14, 3, 13, 0, 0), (0, 12, .aload_n 0, 1, 0, 0, 0), (3, 13, .getfield 20, 3, 2, 6, 237), (0, 16, .aload_n 0, 1, 0, 0, 0), (3, 17, .getfield 46, 3, 2, 2, 229), (3, 20, .aaload, 1, 0, 0, 0), (0, 21, .iload_n 1, 1, 0, 0, 0), (3, 22, .iaload, 1, 0, 0, 0), (5, 23, .ireturn, 1, 0, 0, 0)]
def mt_X3_layItems : List mm_e := [(0, 0, .iconst 3, 1, 0, 3, 0), (0, 1, .aload_n 0, 1, 0, 0, 0), (3, 2, .getfield 29, 3, 2, 0, 224), (4, 5, .invokestatic 67, 3, 118, 9, 1), (0, 8, .imul, 1, 0, 0, 0), (0, 9, .istore_n 2, 1, 0, 0, 0), (0, 10, .aload_n 0, 1, 0, 0, 0), (3, 11, .getfield 11, 3, 2, 4, 233), (0, 14, .iconst 0, 1, 0, 0, 0), (3, 15, .aaload, 1, 0, 0, 0), (0, 16, .iconst 0, 1, 0, 0, 0), (0, 17, .aload_n 1, 1, 0, 0, 0), (3, 18, .getfield 33, 3, 7, 2, 123), (3, 21, .iastore, 1, 0, 0, 0), (0, 22, .iconst 1, 1, 0, 1, 0), (0, 23, .istore_n 3, 1, 0, 0, 0), (0, 24, .iload_n 3, 1, 0, 0, 0), (0, 25, .iload_n 2, 1, 0, 0, 0), (1, 26, .if_icmp .ge 51, 3, 51, 0, 0), (0, 29, .aload_n 1, 1, 0, 0, 0), (0, 30, .iload_n 3, 1, 0, 0, 0), (0, 31, .iconst 1, 1, 0, 1, 0), (0, 32, .isub, 1, 0, 0, 0), (0, 33, .iconst 2, 1, 0, 2, 0), (0, 34, .idiv, 1, 0, 0, 0), (4, 35, .invokevirtual 71, 3, 58, 550, 0), (0, 38, .istore 4, 2, 0, 0, 0), (0, 40, .aload_n 0, 1, 0, 0, 0), (3, 41, .getfield 11, 3, 2, 4, 233), (0, 44, .iload_n 3, 1, 0, 0, 0), (0, 45, .iconst 3, 1, 0, 3, 0), (0, 46, .irem, 1, 0, 0, 0), (3, 47, .aaload, 1, 0, 0, 0), (0, 48, .iload_n 3, 1, 0, 0, 0), (0, 49, .iconst 3, 1, 0, 3, 0), (0, 50, .idiv, 1, 0, 0, 0), (0, 51, .iload_n 3, 1, 0, 0, 0), (0, 52, .iconst 2, 1, 0, 2, 0), (0, 53, .irem, 1, 0, 0, 0), (0, 54, .iconst 1, 1, 0, 1, 0), (1, 55, .if_icmp .ne 10, 3, 45, 0, 0), (0, 58, .iload 4, 2, 0, 0, 0), (0, 60, .iconst 4, 1, 0, 4, 0), (0, 61, .ishr, 1, 0, 0, 0), (2, 62, .goto 8, 3, 48, 0, 0), (0, 65, .iload 4, 2, 0, 0, 0), (0, 67, .bipush 15, 2, 0, 15, 0), (0, 69, .iand, 1, 0, 0, 0), (3, 70, .iastore, 1, 0, 0, 0), (0, 71, .iinc 3 1, 3, 0, 1, 0), (2, 74, .goto (-50), 3, 16, 0, 0), (5, 77, .return_, 1, 0, 0, 0)]
def mt_X3_addChecks : List mm_e := [(0, 0, .aload_n 0, 1, 0, 0, 0), (3, 1, .getfield 29, 3, 2, 0, 224), (4, 4, .invokestatic 67, 3, 118, 9, 1), (0, 7, .istore_n 2, 1, 0, 0, 0), (0, 8, .sipush 16384, 3, 0, 16384, 0), (0, 11, .iconst 1, 1, 0, 1, 0), (0, 12, .iload_n 2, 1, 0, 0, 0), (0, 13, .ishl, 1, 0, 0, 0), (0, 14, .isub, 1, 0, 0, 0), (0, 15, .istore_n 3, 1, 0, 0, 0), (0, 16, .iconst 0, 1, 0, 0, 0), (0, 17, .istore 4, 2, 0, 0, 0), (0, 19, .iload 4, 2, 0, 0, 0), (0, 21, .iconst 3, 1, 0, 3, 0), (1, 22, .if_icmp .ge 36, 3, 32, 0, 0), (0, 25, .aload_n 1, 1, 0, 0, 0), (0, 26, .aload_n 0, 1, 0, 0, 0), (3, 27, .getfield 11, 3, 2, 4, 233), (0, 30, .iload 4, 2, 0, 0, 0), (3, 32, .aaload, 1, 0, 0, 0), (0, 33, .iload_n 3, 1, 0, 0, 0), (0, 34, .aload_n 0, 1, 0, 0, 0), (3, 35, .getfield 29, 3, 2, 0, 224), (4, 38, .invokestatic 74, 3, 117, 10, 1), (0, 41, .aload_n 0, 1, 0, 0, 0), (3, 42, .getfield 11, 3, 2, 4, 233), (0, 45, .iload 4, 2, 0, 0, 0), (3, 47, .aaload, 1, 0, 0, 0), (4, 48, .invokevirtual 77, 3, 26, 556, 0), (0, 51, .pop, 1, 0, 0, 0), (0, 52, .iinc 4 1, 3, 0, 1, 0), (2, 55, .goto (-36), 3, 12, 0, 0), (5, 58, .return_, 1, 0, 0, 0)]
def mt_X3_layDots : List mm_e := [(0, 0, .iconst 0, 1, 0, 0, 0), (0, 1, .istore_n 2, 1, 0, 0, 0), (0, 2, .iload_n 2, 1, 0, 0, 0), (0, 3, .bipush 15, 2, 0, 15, 0), (1, 5, .if_icmp .ge 16, 3, 12, 0, 0), (0, 8, .aload_n 0, 1, 0, 0, 0), (3, 9, .getfield 26, 3, 2, 8, 241), (0, 12, .iload_n 2, 1, 0, 0, 0), (0, 13, .iconst 0, 1, 0, 0, 0), (3, 14, .iastore, 1, 0, 0, 0), (0, 15, .iinc 2 1, 3, 0, 1, 0), (2, 18, .goto (-16), 3, 2, 0, 0), (0, 21, .iconst 0, 1, 0, 0, 0), (0, 22, .istore_n 2, 1, 0, 0, 0), (0, 23, .iload_n 2, 1, 0, 0, 0), (0, 24, .sipush 168, 3, 0, 168, 0), (1, 27, .if_icmp .ge 62, 3, 58, 0, 0), (0, 30, .iload_n 2, 1, 0, 0, 0), (0, 31, .iconst 4, 1, 0, 4, 0), (0, 32, .idiv, 1, 0, 0, 0), (0, 33, .istore_n 3, 1, 0, 0, 0), (0, 34, .aload_n 0, 1, 0, 0, 0), (3, 35, .getfield 11, 3, 2, 4, 233), (0, 38, .iload_n 3, 1, 0, 0, 0), (0, 39, .iconst 3, 1, 0, 3, 0), (0, 40, .irem, 1, 0, 0, 0), (3, 41, .aaload, 1, 0, 0, 0), (0, 42, .iload_n 3, 1, 0, 0, 0), (0, 43, .iconst 3, 1, 0, 3, 0), (0, 44, .idiv, 1, 0, 0, 0), (3, 45, .iaload, 1, 0, 0, 0), (0, 46, .istore 4, 2, 0, 0, 0), (0, 48, .iload 4, 2, 0, 0, 0), (0, 50, .iconst 3, 1, 0, 3, 0), (0, 51, .iload_n 2, 1, 0, 0, 0), (0, 52, .iconst 4, 1, 0, 4, 0), (0, 53, .irem, 1, 0, 0, 0), (0, 54, .isub, 1, 0, 0, 0), (4, 55, .invokestatic 83, 3, 115, 12, 1), (0, 58, .istore 5, 2, 0, 0, 0), (0, 60, .aload_n 0, 1, 0, 0, 0), (3, 61, .getfield 26, 3, 2, 8, 241), (0, 64, .aload_n 1, 1, 0, 0, 0), (3, 65, .getfield 87, 3, 8, 1, 176), (0, 68, .iload_n 2, 1, 0, 0, 0), (3, 69, .iaload, 1, 0, 0, 0), (0, 70, .dup2, 1, 0, 0, 0), (3, 71, .iaload, 1, 0, 0, 0), (0, 72, .iload 5, 2, 0, 0, 0), (0, 74, .aload_n 1, 1, 0, 0, 0), (3, 75, .getfield 92, 3, 8, 2, 179), (0, 78, .iload_n 2, 1, 0, 0, 0), (3, 79, .iaload, 1, 0, 0, 0), (0, 80, .ishl, 1, 0, 0, 0), (0, 81, .ior, 1, 0, 0, 0), (3, 82, .iastore, 1, 0, 0, 0), (0, 83, .iinc 2 1, 3, 0, 1, 0), (2, 86, .goto (-63), 3, 14, 0, 0), (0, 89, .iconst 0, 1, 0, 0, 0), (0, 90, .istore_n 2, 1, 0, 0, 0), (0, 91, .iload_n 2, 1, 0, 0, 0), (0, 92, .bipush 15, 2, 0, 15, 0), (1, 94, .if_icmp .ge 68, 3, 104, 0, 0), (0, 97, .aload_n 0, 1, 0, 0, 0), (3, 98, .getfield 16, 3, 2, 5, 235), (0, 101, .iload_n 2, 1, 0, 0, 0), (0, 102, .aload_n 0, 1, 0, 0, 0), (0, 103, .iload_n 2, 1, 0, 0, 0), (0, 104, .iconst 0, 1, 0, 0, 0), (4, 105, .invokevirtual 95, 3, 19, 613, 0), (0, 108, .aload_n 0, 1, 0, 0, 0), (3, 109, .getfield 26, 3, 2, 8, 241), (0, 112, .iload_n 2, 1, 0, 0, 0), (3, 113, .iaload, 1, 0, 0, 0), (0, 114, .ior, 1, 0, 0, 0), (3, 115, .iastore, 1, 0, 0, 0), (0, 116, .iconst 0, 1, 0, 0, 0), (0, 117, .istore_n 3, 1, 0, 0, 0), (0, 118, .iload_n 3, 1, 0, 0, 0), (0, 119, .iconst 4, 1, 0, 4, 0), (1, 120, .if_icmp .ge 36, 3, 102, 0, 0), (0, 123, .aload_n 0, 1, 0, 0, 0), (3, 124, .getfield 20, 3, 2, 6, 237), (0, 127, .iload_n 3, 1, 0, 0, 0), (3, 128, .aaload, 1, 0, 0, 0), (0, 129, .iload_n 2, 1, 0, 0, 0), (0, 130, .aload_n 0, 1, 0, 0, 0), (0, 131, .iload_n 2, 1, 0, 0, 0), (0, 132, .iload_n 3, 1, 0, 0, 0), (4, 133, .invokevirtual 95, 3, 19, 613, 0), (0, 136, .aload_n 0, 1, 0, 0, 0), (3, 137, .getfield 26, 3, 2, 8, 241), (0, 140, .iload_n 2, 1, 0, 0, 0), (3, 141, .iaload, 1, 0, 0, 0), (0, 142, .iload_n 3, 1, 0, 0, 0), (0, 143, .iload_n 2, 1, 0, 0, 0), (4, 144, .invokestatic 98, 3, 120, 14, 1), (0, 147, .ixor, 1, 0, 0, 0), (0, 148, .ior, 1, 0, 0, 0), (3, 149, .iastore, 1, 0, 0, 0), (0, 150, .iinc 3 1, 3, 0, 1, 0), (2, 153, .goto (-35), 3, 78, 0, 0), (0, 156, .iinc 2 1, 3, 0, 1, 0), (2, 159, .goto (-68), 3, 60, 0, 0), (5, 162, .return_, 1, 0, 0, 0)]
def mt_X3_chooseMask : List mm_e := [(0, 0, .aload_n 0, 1, 0, 0, 0), (0, 1, .iconst 0, 1, 0, 0, 0), (3, 2, .putfield 46, 3, 2, 2, 229), (0, 5, .iconst 0, 1, 0, 0, 0), (0, 6, .istore_n 1, 1, 0, 0, 0), (0, 7, .iload_n 1, 1, 0, 0, 0), (0, 8, .iconst 4, 1, 0, 4, 0), (1, 9, .if_icmp .ge 47, 3, 32, 0, 0), (0, 12, .aload_n 0, 1, 0, 0, 0), (3, 13, .getfield 23, 3, 2, 7, 239), (0, 16, .iload_n 1, 1, 0, 0, 0), (0, 17, .aload_n 0, 1, 0, 0, 0), (3, 18, .getfield 20, 3, 2, 6, 237), (0, 21, .iload_n 1, 1, 0, 0, 0), (3, 22, .aaload, 1, 0, 0, 0), (4, 23, .invokestatic 101, 3, 20, 627, 0), (3, 26, .iastore, 1, 0, 0, 0), (0, 27, .aload_n 0, 1, 0, 0, 0), (3, 28, .getfield 23, 3, 2, 7, 239), (0, 31, .iload_n 1, 1, 0, 0, 0), (3, 32, .iaload, 1, 0, 0, 0), (0, 33, .aload_n 0, 1, 0, 0, 0), (3, 34, .getfield 23, 3, 2, 7, 239), (0, 37, .aload_n 0, 1, 0, 0, 0), (3, 38, .getfield 46, 3, 2, 2, 229), (3, 41, .iaload, 1, 0, 0, 0), (1, 42, .if_icmp .ge 8, 3, 30, 0, 0), (0, 45, .aload_n 0, 1, 0, 0, 0), (0, 46, .iload_n 1, 1, 0, 0, 0), (3, 47, .putfield 46, 3, 2, 2, 229), (0, 50, .iinc 1 1, 3, 0, 1, 0), (2, 53, .goto (-46), 3, 5, 0, 0), (0, 56, .aload_n 0, 1, 0, 0, 0), (0, 57, .aload_n 0, 1, 0, 0, 0), (3, 58, .getfield 20, 3, 2, 6, 237), (0, 61, .aload_n 0, 1, 0, 0, 0), (3, 62, .getfield 46, 3, 2, 2, 229), (3, 65, .aaload, 1, 0, 0, 0), (4, 66, .invokestatic 105, 3, 116, 15, 1), (3, 69, .putfield 49, 3, 2, 3, 231), (5, 72, .return_, 1, 0, 0, 0)]
def mt_X3_fixedDots : List mm_e := [(0, 0, .iload_n 1, 1, 0, 0, 0), (0, 1, .iconst 3, 1, 0, 3, 0), (1, 2, .if_icmp .eq 15, 3, 10, 0, 0), (0, 5, .iload_n 1, 1, 0, 0, 0), (0, 6, .bipush 11, 2, 0, 11, 0), (1, 8, .if_icmp .eq 9, 3, 10, 0, 0), (3, 11, .getstatic 108, 3, 1, 1, 13), (0, 14, .iload_n 1, 1, 0, 0, 0), (3, 15, .iaload, 1, 0, 0, 0), (5, 16, .ireturn, 1, 0, 0, 0), (0, 17, .iconst 4, 1, 0, 4, 0), (0, 18, .aload_n 0, 1, 0, 0, 0), (3, 19, .getfield 29, 3, 2, 0, 224), (0, 22, .imul, 1, 0, 0, 0), (0, 23, .iload_n 2, 1, 0, 0, 0), (0, 24, .iadd, 1, 0, 0, 0), (0, 25, .istore_n 3, 1, 0, 0, 0), (0, 26, .iconst 0, 1, 0, 0, 0), (0, 27, .istore 4, 2, 0, 0, 0), (0, 29, .iconst 0, 1, 0, 0, 0), (0, 30, .istore 5, 2, 0, 0, 0), (0, 32, .iload 5, 2, 0, 0, 0), (0, 34, .iconst 4, 1, 0, 4, 0), (1, 35, .if_icmp .ge 25, 3, 36, 0, 0), (0, 38, .iload 4, 2, 0, 0, 0), (0, 40, .iload_n 3, 1, 0, 0, 0), (0, 41, .iconst 3, 1, 0, 3, 0), (0, 42, .iload 5, 2, 0, 0, 0), (0, 44, .isub, 1, 0, 0, 0), (4, 45, .invokestatic 83, 3, 115, 12, 1), (0, 48, .iload 5, 2, 0, 0, 0), (0, 50, .ishl, 1, 0, 0, 0), (0, 51, .ior, 1, 0, 0, 0), (0, 52, .istore 4, 2, 0, 0, 0), (0, 54, .iinc 5 1, 3, 0, 1, 0), (2, 57, .goto (-25), 3, 21, 0, 0), (0, 60, .iload_n 1, 1, 0, 0, 0), (0, 61, .bipush 11, 2, 0, 11, 0), (1, 63, .if_icmp .ne 8, 3, 41, 0, 0), (0, 66, .iload 4, 2, 0, 0, 0), (2, 68, .goto 11, 3, 46, 0, 0), (0, 71, .iload 4, 2, 0, 0, 0), (0, 73, .iload 4, 2, 0, 0, 0), (0, 75, .bipush 11, 2, 0, 11, 0), (0, 77, .ishl, 1, 0, 0, 0), (0, 78, .ior, 1, 0, 0, 0), (5, 79, .ireturn, 1, 0, 0, 0)]
def mt_X3_penaltyOf : List mm_e := [(0, 0, .aload_n 0, 1, 0, 0, 0), (4, 1, .invokestatic 105, 3, 116, 15, 1), (0, 4, .bipush 112, 2, 0, 112, 0), (0, 6, .isub, 1, 0, 0, 0), (4, 7, .invokestatic 111, 3, 222, 634, 0), (0, 10, .iconst 5, 1, 0, 5, 0), (0, 11, .idiv, 1, 0, 0, 0), (0, 12, .istore_n 1, 1, 0, 0, 0), (0, 13, .iconst 0, 1, 0, 0, 0), (0, 14, .istore_n 2, 1, 0, 0, 0), (0, 15, .iconst 0, 1, 0, 0, 0), (0, 16, .istore_n 3, 1, 0, 0, 0), (0, 17, .iload_n 3, 1, 0, 0, 0), (0, 18, .bipush 15, 2, 0, 15, 0), (1, 20, .if_icmp .ge 70, 3, 59, 0, 0), (0, 23, .aload_n 0, 1, 0, 0, 0), (0, 24, .iload_n 3, 1, 0, 0, 0), (3, 25, .iaload, 1, 0, 0, 0), (4, 26, .invokestatic 116, 3, 22, 637, 0), (0, 29, .istore 4, 2, 0, 0, 0), (0, 31, .aload_n 0, 1, 0, 0, 0), (0, 32, .iload_n 3, 1, 0, 0, 0), (4, 33, .invokestatic 119, 3, 23, 640, 0), (0, 36, .istore 5, 2, 0, 0, 0), (0, 38, .iload_n 1, 1, 0, 0, 0), (0, 39, .iload 4, 2, 0, 0, 0), (0, 41, .iload 4, 2, 0, 0, 0), (0, 43, .iconst 1, 1, 0, 1, 0), (0, 44, .ishl, 1, 0, 0, 0), (4, 45, .invokestatic 123, 3, 21, 643, 0), (0, 48, .iload 5, 2, 0, 0, 0), (0, 50, .iload_n 2, 1, 0, 0, 0), (4, 51, .invokestatic 123, 3, 21, 643, 0), (0, 54, .iadd, 1, 0, 0, 0), (0, 55, .iadd, 1, 0, 0, 0), (0, 56, .istore_n 1, 1, 0, 0, 0), (0, 57, .iload 5, 2, 0, 0, 0), (0, 59, .istore_n 2, 1, 0, 0, 0), (0, 60, .iload_n 3, 1, 0, 0, 0), (0, 61, .iconst 1, 1, 0, 1, 0), (0, 62, .iadd, 1, 0, 0, 0), (0, 63, .bipush 15, 2, 0, 15, 0), (1, 65, .if_icmp .ge 19, 3, 57, 0, 0), (0, 68, .iload_n 1, 1, 0, 0, 0), (0, 69, .iconst 3, 1, 0, 3, 0), (0, 70, .aload_n 0, 1, 0, 0, 0), (0, 71, .iload_n 3, 1, 0, 0, 0), (3, 72, .iaload, 1, 0, 0, 0), (0, 73, .aload_n 0, 1, 0, 0, 0), (0, 74, .iload_n 3, 1, 0, 0, 0), (0, 75, .iconst 1, 1, 0, 1, 0), (0, 76, .iadd, 1, 0, 0, 0), (3, 77, .iaload, 1, 0, 0, 0), (4, 78, .invokestatic 126, 3, 24, 647, 0), (0, 81, .imul, 1, 0, 0, 0), (0, 82, .iadd, 1, 0, 0, 0), (0, 83, .istore_n 1, 1, 0, 0, 0), (0, 84, .iinc 3 1, 3, 0, 1, 0), (2, 87, .goto (-70), 3, 12, 0, 0), (0, 90, .iload_n 1, 1, 0, 0, 0), (5, 91, .ireturn, 1, 0, 0, 0)]
def mt_X3_penaltyOfRuns : List mm_e := [(0, 0, .iload_n 0, 1, 0, 0, 0), (4, 1, .invokestatic 129, 3, 220, 646, 0), (0, 4, .iconst 2, 1, 0, 2, 0), (0, 5, .iload_n 0, 1, 0, 0, 0), (0, 6, .iload_n 1, 1, 0, 0, 0), (0, 7, .iconst (-1), 1, 0, 4294967295, 0), (0, 8, .ixor, 1, 0, 0, 0), (0, 9, .iand, 1, 0, 0, 0), (4, 10, .invokestatic 129, 3, 220, 646, 0), (0, 13, .imul, 1, 0, 0, 0), (0, 14, .iadd, 1, 0, 0, 0), (5, 15, .ireturn, 1, 0, 0, 0)]
def mt_X3_runStartsAcross : List mm_e := [(0, 0, .iload_n 0, 1, 0, 0, 0), (0, 1, .iload_n 0, 1, 0, 0, 0), (0, 2, .iconst 1, 1, 0, 1, 0), (0, 3, .ishr, 1, 0, 0, 0), (0, 4, .ixor, 1, 0, 0, 0), (0, 5, .iconst (-1), 1, 0, 4294967295, 0), (0, 6, .ixor, 1, 0, 0, 0), (0, 7, .sipush 16383, 3, 0, 16383, 0), (0, 10, .iand, 1, 0, 0, 0), (0, 11, .istore_n 1, 1, 0, 0, 0), (0, 12, .iload_n 1, 1, 0, 0, 0), (0, 13, .iload_n 1, 1, 0, 0, 0), (0, 14, .iconst 1, 1, 0, 1, 0), (0, 15, .ishr, 1, 0, 0, 0), (0, 16, .iand, 1, 0, 0, 0), (0, 17, .iload_n 1, 1, 0, 0, 0), (0, 18, .iconst 2, 1, 0, 2, 0), (0, 19, .ishr, 1, 0, 0, 0), (0, 20, .iand, 1, 0, 0, 0), (0, 21, .iload_n 1, 1, 0, 0, 0), (0, 22, .iconst 3, 1, 0, 3, 0), (0, 23, .ishr, 1, 0, 0, 0), (0, 24, .iand, 1, 0, 0, 0), (5, 25, .ireturn, 1, 0, 0, 0)]
def mt_X3_runStartsDown : List mm_e := [(0, 0, .iload_n 1, 1, 0, 0, 0), (0, 1, .iconst 4, 1, 0, 4, 0), (0, 2, .iadd, 1, 0, 0, 0), (0, 3, .bipush 15, 2, 0, 15, 0), (1, 5, .if_icmp .lt 5, 3, 7, 0, 0), (0, 8, .iconst 0, 1, 0, 0, 0), (5, 9, .ireturn, 1, 0, 0, 0), (0, 10, .iconst 0, 1, 0, 0, 0), (0, 11, .istore_n 2, 1, 0, 0, 0), (0, 12, .sipush 32767, 3, 0, 32767, 0), (0, 15, .istore_n 3, 1, 0, 0, 0), (0, 16, .iload_n 1, 1, 0, 0, 0), (0, 17, .istore 4, 2, 0, 0, 0), (0, 19, .iload 4, 2, 0, 0, 0), (0, 21, .iload_n 1, 1, 0, 0, 0), (0, 22, .iconst 5, 1, 0, 5, 0), (0, 23, .iadd, 1, 0, 0, 0), (1, 24, .if_icmp .ge 23, 3, 32, 0, 0), (0, 27, .iload_n 2, 1, 0, 0, 0), (0, 28, .aload_n 0, 1, 0, 0, 0), (0, 29, .iload 4, 2, 0, 0, 0), (3, 31, .iaload, 1, 0, 0, 0), (0, 32, .ior, 1, 0, 0, 0), (0, 33, .istore_n 2, 1, 0, 0, 0), (0, 34, .iload_n 3, 1, 0, 0, 0), (0, 35, .aload_n 0, 1, 0, 0, 0), (0, 36, .iload 4, 2, 0, 0, 0), (3, 38, .iaload, 1, 0, 0, 0), (0, 39, .iand, 1, 0, 0, 0), (0, 40, .istore_n 3, 1, 0, 0, 0), (0, 41, .iinc 4 1, 3, 0, 1, 0), (2, 44, .goto (-25), 3, 13, 0, 0), (0, 47, .iload_n 3, 1, 0, 0, 0), (0, 48, .iload_n 2, 1, 0, 0, 0), (0, 49, .iconst (-1), 1, 0, 4294967295, 0), (0, 50, .ixor, 1, 0, 0, 0), (0, 51, .sipush 32767, 3, 0, 32767, 0), (0, 54, .iand, 1, 0, 0, 0), (0, 55, .ior, 1, 0, 0, 0), (5, 56, .ireturn, 1, 0, 0, 0)]
def mt_X3_likeSquares : List mm_e := [(0, 0, .iload_n 0, 1, 0, 0, 0), (0, 1, .iload_n 0, 1, 0, 0, 0), (0, 2, .iconst 1, 1, 0, 1, 0), (0, 3, .ishr, 1, 0, 0, 0), (0, 4, .ixor, 1, 0, 0, 0), (0, 5, .iload_n 1, 1, 0, 0, 0), (0, 6, .iload_n 1, 1, 0, 0, 0), (0, 7, .iconst 1, 1, 0, 1, 0), (0, 8, .ishr, 1, 0, 0, 0), (0, 9, .ixor, 1, 0, 0, 0), (0, 10, .ior, 1, 0, 0, 0), (0, 11, .iload_n 0, 1, 0, 0, 0), (0, 12, .iload_n 1, 1, 0, 0, 0), (0, 13, .ixor, 1, 0, 0, 0), (0, 14, .ior, 1, 0, 0, 0), (0, 15, .istore_n 2, 1, 0, 0, 0), (0, 16, .iload_n 2, 1, 0, 0, 0), (0, 17, .iconst (-1), 1, 0, 4294967295, 0), (0, 18, .ixor, 1, 0, 0, 0), (0, 19, .sipush 16383, 3, 0, 16383, 0), (0, 22, .iand, 1, 0, 0, 0), (4, 23, .invokestatic 129, 3, 220, 646, 0), (5, 26, .ireturn, 1, 0, 0, 0)]
def mt_X4_init : List mm_e := [(0, 0, .aload_n 0, 1, 0, 0, 0), (3, 1, .invokespecial 3, 3, 0, 0, 193), (0, 4, .aload_n 0, 1, 0, 0, 0), (0, 5, .bipush 6, 2, 0, 6, 0), (3, 7, .newarray .int, 2, 0, 0, 0), (3, 9, .putfield 9, 3, 3, 0, 194), (0, 12, .aload_n 0, 1, 0, 0, 0), (0, 13, .bipush 6, 2, 0, 6, 0), (3, 15, .newarray .int, 2, 0, 0, 0), (3, 17, .putfield 15, 3, 3, 1, 195), (0, 20, .aload_n 0, 1, 0, 0, 0), (0, 21, .bipush 7, 2, 0, 7, 0), (3, 23, .newarray .int, 2, 0, 0, 0), (3, 25, .putfield 18, 3, 3, 2, 196), (0, 28, .aload_n 0, 1, 0, 0, 0), (0, 29, .bipush 7, 2, 0, 7, 0), (3, 31, .newarray .int, 2, 0, 0, 0), (3, 33, .putfield 21, 3, 3, 3, 197), (0, 36, .aload_n 0, 1, 0, 0, 0), (0, 37, .bipush 7, 2, 0, 7, 0), (3, 39, .newarray .int, 2, 0, 0, 0), (3, 41, .putfield 24, 3, 3, 4, 198), (0, 44, .aload_n 0, 1, 0, 0, 0), (0, 45, .bipush 14, 2, 0, 14, 0), (3, 47, .newarray .int, 2, 0, 0, 0), (3, 49, .putfield 27, 3, 3, 5, 199), (5, 52, .return_, 1, 0, 0, 0)]
def mt_X4_mend : List mm_e := [(0, 0, .iload_n 3, 1, 0, 0, 0), (0, 1, .iload_n 2, 1, 0, 0, 0), (4, 2, .invokestatic 30, 3, 220, 560, 0), (0, 5, .isub, 1, 0, 0, 0), (0, 6, .istore 5, 2, 0, 0, 0), (0, 8, .iload 5, 2, 0, 0, 0), (1, 10, .ifCond .ge 5, 3, 9, 0, 0), (0, 13, .iconst (-1), 1, 0, 4294967295, 0), (5, 14, .ireturn, 1, 0, 0, 0), (0, 15, .aload_n 1, 1, 0, 0, 0), (0, 16, .iconst 0, 1, 0, 0, 0), (0, 17, .aload 4, 2, 0, 0, 0), (0, 19, .iconst 0, 1, 0, 0, 0), (0, 20, .bipush 14, 2, 0, 14, 0), (3, 22, .invokestatic 36, 3, 0, 566, 566), (0, 25, .aload_n 0, 1, 0, 0, 0), (0, 26, .aload_n 1, 1, 0, 0, 0), (0, 27, .iload_n 3, 1, 0, 0, 0), (4, 28, .invokevirtual 42, 3, 27, 569, 0), (0, 31, .aload_n 0, 1, 0, 0, 0), (0, 32, .iload_n 2, 1, 0, 0, 0), (0, 33, .iload_n 3, 1, 0, 0, 0), (4, 34, .invokevirtual 46, 3, 28, 575, 0), (0, 37, .aload_n 0, 1, 0, 0, 0), (0, 38, .iload 5, 2, 0, 0, 0), (4, 40, .invokevirtual 50, 3, 30, 587, 0), (0, 43, .istore 6, 2, 0, 0, 0), (0, 45, .iconst 2, 1, 0, 2, 0), (0, 46, .iload 6, 2, 0, 0, 0), (0, 48, .imul, 1, 0, 0, 0), (0, 49, .iload 5, 2, 0, 0, 0), (1, 51, .if_icmp .gt 13, 3, 37, 0, 0), (0, 54, .aload_n 0, 1, 0, 0, 0), (0, 55, .iload 6, 2, 0, 0, 0), (0, 57, .iload_n 2, 1, 0, 0, 0), (4, 58, .invokevirtual 53, 3, 32, 596, 0), (1, 61, .ifCond .ne 5, 3, 39, 0, 0), (0, 64, .iconst (-1), 1, 0, 4294967295, 0), (5, 65, .ireturn, 1, 0, 0, 0), (0, 66, .aload_n 0, 1, 0, 0, 0), (0, 67, .aload 4, 2, 0, 0, 0), (0, 69, .iload_n 3, 1, 0, 0, 0), (4, 70, .invokevirtual 57, 3, 34, 604, 0), (0, 73, .iload 6, 2, 0, 0, 0), (5, 75, .ireturn, 1, 0, 0, 0)]
def mt_X4_sumUp : List mm_e := [(0, 0, .iconst 0, 1, 0, 0, 0), (0, 1, .istore_n 3, 1, 0, 0, 0), (0, 2, .iload_n 3, 1, 0, 0, 0), (0, 3, .iload_n 2, 1, 0, 0, 0), (1, 4, .if_icmp .ge 57, 3, 33, 0, 0), (0, 7, .iconst 2, 1, 0, 2, 0), (0, 8, .iload_n 3, 1, 0, 0, 0), (4, 9, .invokestatic 60, 3, 10, 573, 0), (0, 12, .istore 4, 2, 0, 0, 0), (0, 14, .iconst 0, 1, 0, 0, 0), (0, 15, .istore 5, 2, 0, 0, 0), (0, 17, .iconst 0, 1, 0, 0, 0), (0, 18, .istore 6, 2, 0, 0, 0), (0, 20, .iload 6, 2, 0, 0, 0), (0, 22, .bipush 14, 2, 0, 14, 0), (1, 24, .if_icmp .ge 23, 3, 26, 0, 0), (0, 27, .iload 5, 2, 0, 0, 0), (0, 29, .iload 4, 2, 0, 0, 0), (4, 31, .invokestatic 66, 3, 8, 574, 0), (0, 34, .aload_n 1, 1, 0, 0, 0), (0, 35, .iload 6, 2, 0, 0, 0), (3, 37, .iaload, 1, 0, 0, 0), (0, 38, .ixor, 1, 0, 0, 0), (0, 39, .istore 5, 2, 0, 0, 0), (0, 41, .iinc 6 1, 3, 0, 1, 0), (2, 44, .goto (-24), 3, 13, 0, 0), (0, 47, .aload_n 0, 1, 0, 0, 0), (3, 48, .getfield 9, 3, 3, 0, 194), (0, 51, .iload_n 3, 1, 0, 0, 0), (0, 52, .iload 5, 2, 0, 0, 0), (3, 54, .iastore, 1, 0, 0, 0), (0, 55, .iinc 3 1, 3, 0, 1, 0), (2, 58, .goto (-56), 3, 2, 0, 0), (5, 61, .return_, 1, 0, 0, 0)]
def mt_X4_wantGone : List mm_e := [(0, 0, .aload_n 0, 1, 0, 0, 0), (3, 1, .getfield 9, 3, 3, 0, 194), (0, 4, .iconst 0, 1, 0, 0, 0), (0, 5, .aload_n 0, 1, 0, 0, 0), (3, 6, .getfield 15, 3, 3, 1, 195), (0, 9, .iconst 0, 1, 0, 0, 0), (0, 10, .bipush 6, 2, 0, 6, 0), (3, 12, .invokestatic 36, 3, 0, 566, 566), (0, 15, .aload_n 0, 1, 0, 0, 0), (0, 16, .iconst 0, 1, 0, 0, 0), (3, 17, .putfield 69, 3, 3, 6, 200), (0, 20, .iconst 0, 1, 0, 0, 0), (0, 21, .istore_n 3, 1, 0, 0, 0), (0, 22, .iload_n 3, 1, 0, 0, 0), (0, 23, .bipush 14, 2, 0, 14, 0), (1, 25, .if_icmp .ge 52, 3, 43, 0, 0), (0, 28, .iload_n 1, 1, 0, 0, 0), (0, 29, .iload_n 3, 1, 0, 0, 0), (4, 30, .invokestatic 73, 3, 115, 11, 1), (0, 33, .iconst 1, 1, 0, 1, 0), (1, 34, .if_icmp .ne 37, 3, 41, 0, 0), (0, 37, .aload_n 0, 1, 0, 0, 0), (0, 38, .iload_n 2, 1, 0, 0, 0), (0, 39, .aload_n 0, 1, 0, 0, 0), (3, 40, .getfield 69, 3, 3, 6, 200), (0, 43, .isub, 1, 0, 0, 0), (0, 44, .iload_n 3, 1, 0, 0, 0), (4, 45, .invokestatic 76, 3, 11, 580, 0), (4, 48, .invokevirtual 79, 3, 29, 583, 0), (0, 51, .aload_n 0, 1, 0, 0, 0), (3, 52, .getfield 27, 3, 3, 5, 199), (0, 55, .aload_n 0, 1, 0, 0, 0), (3, 56, .getfield 69, 3, 3, 6, 200), (0, 59, .iload_n 3, 1, 0, 0, 0), (3, 60, .iastore, 1, 0, 0, 0), (0, 61, .aload_n 0, 1, 0, 0, 0), (0, 62, .dup, 1, 0, 0, 0), (3, 63, .getfield 69, 3, 3, 6, 200), (0, 66, .iconst 1, 1, 0, 1, 0), (0, 67, .iadd, 1, 0, 0, 0), (3, 68, .putfield 69, 3, 3, 6, 200), (0, 71, .iinc 3 1, 3, 0, 1, 0), (2, 74, .goto (-52), 3, 13, 0, 0), (5, 77, .return_, 1, 0, 0, 0)]
def mt_X4_strike : List mm_e := [(0, 0, .iconst 0, 1, 0, 0, 0), (0, 1, .istore_n 3, 1, 0, 0, 0), (0, 2, .iload_n 3, 1, 0, 0, 0), (0, 3, .iconst 1, 1, 0, 1, 0), (0, 4, .iadd, 1, 0, 0, 0), (0, 5, .iload_n 1, 1, 0, 0, 0), (1, 6, .if_icmp .ge 34, 3, 26, 0, 0), (0, 9, .aload_n 0, 1, 0, 0, 0), (3, 10, .getfield 15, 3, 3, 1, 195), (0, 13, .iload_n 3, 1, 0, 0, 0), (0, 14, .aload_n 0, 1, 0, 0, 0), (3, 15, .getfield 15, 3, 3, 1, 195), (0, 18, .iload_n 3, 1, 0, 0, 0), (0, 19, .iconst 1, 1, 0, 1, 0), (0, 20, .iadd, 1, 0, 0, 0), (3, 21, .iaload, 1, 0, 0, 0), (0, 22, .iload_n 2, 1, 0, 0, 0), (0, 23, .aload_n 0, 1, 0, 0, 0), (3, 24, .getfield 15, 3, 3, 1, 195), (0, 27, .iload_n 3, 1, 0, 0, 0), (3, 28, .iaload, 1, 0, 0, 0), (4, 29, .invokestatic 66, 3, 8, 574, 0), (0, 32, .ixor, 1, 0, 0, 0), (3, 33, .iastore, 1, 0, 0, 0), (0, 34, .iinc 3 1, 3, 0, 1, 0), (2, 37, .goto (-35), 3, 2, 0, 0), (5, 40, .return_, 1, 0, 0, 0)]
def mt_X4_locate : List mm_e := [(0, 0, .aload_n 0, 1, 0, 0, 0), (4, 1, .invokevirtual 82, 3, 31, 591, 0), (0, 4, .iconst 0, 1, 0, 0, 0), (0, 5, .istore_n 2, 1, 0, 0, 0), (0, 6, .iconst 1, 1, 0, 1, 0), (0, 7, .istore_n 3, 1, 0, 0, 0), (0, 8, .iconst 1, 1, 0, 1, 0), (0, 9, .istore 4, 2, 0, 0, 0), (0, 11, .iconst 0, 1, 0, 0, 0), (0, 12, .istore 5, 2, 0, 0, 0), (0, 14, .iload 5, 2, 0, 0, 0), (0, 16, .iload_n 1, 1, 0, 0, 0), (1, 17, .if_icmp .ge 190, 3, 114, 0, 0), (0, 20, .aload_n 0, 1, 0, 0, 0), (3, 21, .getfield 15, 3, 3, 1, 195), (0, 24, .iload 5, 2, 0, 0, 0), (3, 26, .iaload, 1, 0, 0, 0), (0, 27, .istore 6, 2, 0, 0, 0), (0, 29, .iconst 1, 1, 0, 1, 0), (0, 30, .istore 7, 2, 0, 0, 0), (0, 32, .iload 7, 2, 0, 0, 0), (0, 34, .iload_n 2, 1, 0, 0, 0), (1, 35, .if_icmp .gt 41, 3, 42, 0, 0), (0, 38, .iload 7, 2, 0, 0, 0), (0, 40, .iload 5, 2, 0, 0, 0), (1, 42, .if_icmp .gt 34, 3, 42, 0, 0), (0, 45, .iload 6, 2, 0, 0, 0), (0, 47, .aload_n 0, 1, 0, 0, 0), (3, 48, .getfield 18, 3, 3, 2, 196), (0, 51, .iload 7, 2, 0, 0, 0), (3, 53, .iaload, 1, 0, 0, 0), (0, 54, .aload_n 0, 1, 0, 0, 0), (3, 55, .getfield 15, 3, 3, 1, 195), (0, 58, .iload 5, 2, 0, 0, 0), (0, 60, .iload 7, 2, 0, 0, 0), (0, 62, .isub, 1, 0, 0, 0), (3, 63, .iaload, 1, 0, 0, 0), (4, 64, .invokestatic 66, 3, 8, 574, 0), (0, 67, .ixor, 1, 0, 0, 0), (0, 68, .istore 6, 2, 0, 0, 0), (0, 70, .iinc 7 1, 3, 0, 1, 0), (2, 73, .goto (-41), 3, 20, 0, 0), (0, 76, .iload 6, 2, 0, 0, 0), (1, 78, .ifCond .ne 9, 3, 46, 0, 0), (0, 81, .iinc 3 1, 3, 0, 1, 0), (2, 84, .goto 117, 3, 112, 0, 0), (0, 87, .aload_n 0, 1, 0, 0, 0), (3, 88, .getfield 18, 3, 3, 2, 196), (0, 91, .iconst 0, 1, 0, 0, 0), (0, 92, .aload_n 0, 1, 0, 0, 0), (3, 93, .getfield 24, 3, 3, 4, 198), (0, 96, .iconst 0, 1, 0, 0, 0), (0, 97, .aload_n 0, 1, 0, 0, 0), (3, 98, .getfield 24, 3, 3, 4, 198), (3, 101, .arraylength, 1, 0, 0, 0), (3, 102, .invokestatic 36, 3, 0, 566, 566), (0, 105, .iload 6, 2, 0, 0, 0), (0, 107, .iload 4, 2, 0, 0, 0), (4, 109, .invokestatic 85, 3, 9, 595, 0), (0, 112, .istore 7, 2, 0, 0, 0), (0, 114, .iconst 0, 1, 0, 0, 0), (0, 115, .istore 8, 2, 0, 0, 0), (0, 117, .iload 8, 2, 0, 0, 0), (0, 119, .iload_n 3, 1, 0, 0, 0), (0, 120, .iadd, 1, 0, 0, 0), (0, 121, .aload_n 0, 1, 0, 0, 0), (3, 122, .getfield 18, 3, 3, 2, 196), (3, 125, .arraylength, 1, 0, 0, 0), (1, 126, .if_icmp .ge 33, 3, 86, 0, 0), (0, 129, .aload_n 0, 1, 0, 0, 0), (3, 130, .getfield 18, 3, 3, 2, 196), (0, 133, .iload 8, 2, 0, 0, 0), (0, 135, .iload_n 3, 1, 0, 0, 0), (0, 136, .iadd, 1, 0, 0, 0), (0, 137, .dup2, 1, 0, 0, 0), (3, 138, .iaload, 1, 0, 0, 0), (0, 139, .iload 7, 2, 0, 0, 0), (0, 141, .aload_n 0, 1, 0, 0, 0), (3, 142, .getfield 21, 3, 3, 3, 197), (0, 145, .iload 8, 2, 0, 0, 0), (3, 147, .iaload, 1, 0, 0, 0), (4, 148, .invokestatic 66, 3, 8, 574, 0), (0, 151, .ixor, 1, 0, 0, 0), (3, 152, .iastore, 1, 0, 0, 0), (0, 153, .iinc 8 1, 3, 0, 1, 0), (2, 156, .goto (-39), 3, 62, 0, 0), (0, 159, .iinc 3 1, 3, 0, 1, 0), (0, 162, .iconst 2, 1, 0, 2, 0), (0, 163, .iload_n 2, 1, 0, 0, 0), (0, 164, .imul, 1, 0, 0, 0), (0, 165, .iload 5, 2, 0, 0, 0), (1, 167, .if_icmp .gt 34, 3, 112, 0, 0), (0, 170, .aload_n 0, 1, 0, 0, 0), (3, 171, .getfield 24, 3, 3, 4, 198), (0, 174, .iconst 0, 1, 0, 0, 0), (0, 175, .aload_n 0, 1, 0, 0, 0), (3, 176, .getfield 21, 3, 3, 3, 197), (0, 179, .iconst 0, 1, 0, 0, 0), (0, 180, .aload_n 0, 1, 0, 0, 0), (3, 181, .getfield 21, 3, 3, 3, 197), (3, 184, .arraylength, 1, 0, 0, 0), (3, 185, .invokestatic 36, 3, 0, 566, 566), (0, 188, .iload 5, 2, 0, 0, 0), (0, 190, .iconst 1, 1, 0, 1, 0), (0, 191, .iadd, 1, 0, 0, 0), (0, 192, .iload_n 2, 1, 0, 0, 0), (0, 193, .isub, 1, 0, 0, 0), (0, 194, .istore_n 2, 1, 0, 0, 0), (0, 195, .iload 6, 2, 0, 0, 0), (0, 197, .istore 4, 2, 0, 0, 0), (0, 199, .iconst 1, 1, 0, 1, 0), (0, 200, .istore_n 3, 1, 0, 0, 0), (0, 201, .iinc 5 1, 3, 0, 1, 0), (2, 204, .goto (-190), 3, 10, 0, 0), (0, 207, .iload_n 2, 1, 0, 0, 0), (5, 208, .ireturn, 1, 0, 0, 0)]
def mt_X4_startLocators : List mm_e := [(0, 0, .iconst 0, 1, 0, 0, 0), (0, 1, .istore_n 1, 1, 0, 0, 0), (0, 2, .iload_n 1, 1, 0, 0, 0), (0, 3, .aload_n 0, 1, 0, 0, 0), (3, 4, .getfield 18, 3, 3, 2, 196), (3, 7, .arraylength, 1, 0, 0, 0), (1, 8, .if_icmp .ge 36, 3, 26, 0, 0), (0, 11, .aload_n 0, 1, 0, 0, 0), (3, 12, .getfield 18, 3, 3, 2, 196), (0, 15, .iload_n 1, 1, 0, 0, 0), (0, 16, .iload_n 1, 1, 0, 0, 0), (1, 17, .ifCond .ne 7, 3, 14, 0, 0), (0, 20, .iconst 1, 1, 0, 1, 0), (2, 21, .goto 4, 3, 15, 0, 0), (0, 24, .iconst 0, 1, 0, 0, 0), (3, 25, .iastore, 1, 0, 0, 0), (0, 26, .aload_n 0, 1, 0, 0, 0), (3, 27, .getfield 21, 3, 3, 3, 197), (0, 30, .iload_n 1, 1, 0, 0, 0), (0, 31, .aload_n 0, 1, 0, 0, 0), (3, 32, .getfield 18, 3, 3, 2, 196), (0, 35, .iload_n 1, 1, 0, 0, 0), (3, 36, .iaload, 1, 0, 0, 0), (3, 37, .iastore, 1, 0, 0, 0), (0, 38, .iinc 1 1, 3, 0, 1, 0), (2, 41, .goto (-39), 3, 2, 0, 0), (5, 44, .return_, 1, 0, 0, 0)]
def mt_X4_wantLocated : List mm_e := [(0, 0, .iconst 0, 1, 0, 0, 0), (0, 1, .istore_n 3, 1, 0, 0, 0), (0, 2, .iconst 0, 1, 0, 0, 0), (0, 3, .istore 4, 2, 0, 0, 0), (0, 5, .iload 4, 2, 0, 0, 0), (0, 7, .bipush 14, 2, 0, 14, 0), (1, 9, .if_icmp .ge 57, 3, 34, 0, 0), (0, 12, .iload_n 3, 1, 0, 0, 0), (0, 13, .iload_n 1, 1, 0, 0, 0), (1, 14, .if_icmp .ge 52, 3, 34, 0, 0), (0, 17, .iload_n 2, 1, 0, 0, 0), (0, 18, .iload 4, 2, 0, 0, 0), (4, 20, .invokestatic 73, 3, 115, 11, 1), (1, 23, .ifCond .ne 37, 3, 32, 0, 0), (0, 26, .aload_n 0, 1, 0, 0, 0), (0, 27, .iload 4, 2, 0, 0, 0), (0, 29, .iload_n 1, 1, 0, 0, 0), (4, 30, .invokevirtual 88, 3, 33, 600, 0), (1, 33, .ifCond .eq 27, 3, 32, 0, 0), (0, 36, .aload_n 0, 1, 0, 0, 0), (3, 37, .getfield 27, 3, 3, 5, 199), (0, 40, .aload_n 0, 1, 0, 0, 0), (3, 41, .getfield 69, 3, 3, 6, 200), (0, 44, .iload 4, 2, 0, 0, 0), (3, 46, .iastore, 1, 0, 0, 0), (0, 47, .aload_n 0, 1, 0, 0, 0), (0, 48, .dup, 1, 0, 0, 0), (3, 49, .getfield 69, 3, 3, 6, 200), (0, 52, .iconst 1, 1, 0, 1, 0), (0, 53, .iadd, 1, 0, 0, 0), (3, 54, .putfield 69, 3, 3, 6, 200), (0, 57, .iinc 3 1, 3, 0, 1, 0), (0, 60, .iinc 4 1, 3, 0, 1, 0), (2, 63, .goto (-58), 3, 4, 0, 0), (0, 66, .iload_n 3, 1, 0, 0, 0), (0, 67, .iload_n 1, 1, 0, 0, 0), (1, 68, .if_icmp .ne 7, 3, 39, 0, 0), (0, 71, .iconst 1, 1, 0, 1, 0), (2, 72, .goto 4, 3, 40, 0, 0), (0, 75, .iconst 0, 1, 0, 0, 0), (5, 76, .ireturn, 1, 0, 0, 0)]
def mt_X4_isLocated : List mm_e := [(0, 0, .iconst 1, 1, 0, 1, 0), (0, 1, .iload_n 1, 1, 0, 0, 0), (4, 2, .invokestatic 76, 3, 11, 580, 0), (4, 5, .invokestatic 85, 3, 9, 595, 0), (0, 8, .istore_n 3, 1, 0, 0, 0), (0, 9, .iconst 0, 1, 0, 0, 0), (0, 10, .istore 4, 2, 0, 0, 0), (0, 12, .iload_n 2, 1, 0, 0, 0), (0, 13, .istore 5, 2, 0, 0, 0), (0, 15, .iload 5, 2, 0, 0, 0), (1, 17, .ifCond .lt 25, 3, 22, 0, 0), (0, 20, .iload 4, 2, 0, 0, 0), (0, 22, .iload_n 3, 1, 0, 0, 0), (4, 23, .invokestatic 66, 3, 8, 574, 0), (0, 26, .aload_n 0, 1, 0, 0, 0), (3, 27, .getfield 18, 3, 3, 2, 196), (0, 30, .iload 5, 2, 0, 0, 0), (3, 32, .iaload, 1, 0, 0, 0), (0, 33, .ixor, 1, 0, 0, 0), (0, 34, .istore 4, 2, 0, 0, 0), (0, 36, .iinc 5 (-1), 3, 0, 4294967295, 0), (2, 39, .goto (-24), 3, 9, 0, 0), (0, 42, .iload 4, 2, 0, 0, 0), (1, 44, .ifCond .ne 7, 3, 26, 0, 0), (0, 47, .iconst 1, 1, 0, 1, 0), (2, 48, .goto 4, 3, 27, 0, 0), (0, 51, .iconst 0, 1, 0, 0, 0), (5, 52, .ireturn, 1, 0, 0, 0)]
def mt_X4_correct : List mm_e := [(0, 0, .iconst 0, 1, 0, 0, 0), (0, 1, .istore_n 3, 1, 0, 0, 0), (0, 2, .iload_n 3, 1, 0, 0, 0), (0, 3, .aload_n 0, 1, 0, 0, 0), (3, 4, .getfield 69, 3, 3, 6, 200), (1, 7, .if_icmp .ge 122, 3, 69, 0, 0), (0, 10, .aload_n 0, 1, 0, 0, 0), (3, 11, .getfield 9, 3, 3, 0, 194), (0, 14, .iconst 0, 1, 0, 0, 0), (0, 15, .aload_n 0, 1, 0, 0, 0), (3, 16, .getfield 15, 3, 3, 1, 195), (0, 19, .iconst 0, 1, 0, 0, 0), (0, 20, .bipush 6, 2, 0, 6, 0), (3, 22, .invokestatic 36, 3, 0, 566, 566), (0, 25, .aload_n 0, 1, 0, 0, 0), (3, 26, .getfield 27, 3, 3, 5, 199), (0, 29, .iload_n 3, 1, 0, 0, 0), (3, 30, .iaload, 1, 0, 0, 0), (4, 31, .invokestatic 76, 3, 11, 580, 0), (0, 34, .istore 4, 2, 0, 0, 0), (0, 36, .iload_n 2, 1, 0, 0, 0), (0, 37, .istore 5, 2, 0, 0, 0), (0, 39, .iconst 1, 1, 0, 1, 0), (0, 40, .istore 6, 2, 0, 0, 0), (0, 42, .iconst 0, 1, 0, 0, 0), (0, 43, .istore 7, 2, 0, 0, 0), (0, 45, .iload 7, 2, 0, 0, 0), (0, 47, .aload_n 0, 1, 0, 0, 0), (3, 48, .getfield 69, 3, 3, 6, 200), (1, 51, .if_icmp .ge 50, 3, 52, 0, 0), (0, 54, .iload 7, 2, 0, 0, 0), (0, 56, .iload_n 3, 1, 0, 0, 0), (1, 57, .if_icmp .eq 38, 3, 50, 0, 0), (0, 60, .aload_n 0, 1, 0, 0, 0), (3, 61, .getfield 27, 3, 3, 5, 199), (0, 64, .iload 7, 2, 0, 0, 0), (3, 66, .iaload, 1, 0, 0, 0), (4, 67, .invokestatic 76, 3, 11, 580, 0), (0, 70, .istore 8, 2, 0, 0, 0), (0, 72, .aload_n 0, 1, 0, 0, 0), (0, 73, .iload 5, 2, 0, 0, 0), (0, 75, .iload 8, 2, 0, 0, 0), (4, 77, .invokevirtual 79, 3, 29, 583, 0), (0, 80, .iinc 5 (-1), 3, 0, 4294967295, 0), (0, 83, .iload 6, 2, 0, 0, 0), (0, 85, .iload 4, 2, 0, 0, 0), (0, 87, .iload 8, 2, 0, 0, 0), (0, 89, .ixor, 1, 0, 0, 0), (4, 90, .invokestatic 66, 3, 8, 574, 0), (0, 93, .istore 6, 2, 0, 0, 0), (0, 95, .iinc 7 1, 3, 0, 1, 0), (2, 98, .goto (-53), 3, 26, 0, 0), (0, 101, .aload_n 1, 1, 0, 0, 0), (0, 102, .aload_n 0, 1, 0, 0, 0), (3, 103, .getfield 27, 3, 3, 5, 199), (0, 106, .iload_n 3, 1, 0, 0, 0), (3, 107, .iaload, 1, 0, 0, 0), (0, 108, .dup2, 1, 0, 0, 0), (3, 109, .iaload, 1, 0, 0, 0), (0, 110, .aload_n 0, 1, 0, 0, 0), (3, 111, .getfield 15, 3, 3, 1, 195), (0, 114, .iconst 0, 1, 0, 0, 0), (3, 115, .iaload, 1, 0, 0, 0), (0, 116, .iload 6, 2, 0, 0, 0), (4, 118, .invokestatic 85, 3, 9, 595, 0), (0, 121, .ixor, 1, 0, 0, 0), (3, 122, .iastore, 1, 0, 0, 0), (0, 123, .iinc 3 1, 3, 0, 1, 0), (2, 126, .goto (-124), 3, 2, 0, 0), (5, 129, .return_, 1, 0, 0, 0)]
def mt_X5_init : List mm_e := [(0, 0, .aload_n 0, 1, 0, 0, 0), (3, 1, .invokespecial 3, 3, 0, 0, 266), (0, 4, .aload_n 0, 1, 0, 0, 0), (0, 5, .iconst 3, 1, 0, 3, 0), (3, 6, .anewarray 9, 3, 3, 0, 267), (3, 9, .putfield 11, 3, 4, 2, 302), (0, 12, .aload_n 0, 1, 0, 0, 0), (0, 13, .bipush 15, 2, 0, 15, 0), (3, 15, .newarray .int, 2, 0, 0, 0), (3, 17, .putfield 17, 3, 4, 3, 305), (0, 20, .aload_n 0, 1, 0, 0, 0), (0, 21, .bipush 15, 2, 0, 15, 0), (3, 23, .newarray .int, 2, 0, 0, 0), (3, 25, .putfield 21, 3, 4, 4, 306), (0, 28, .aload_n 0, 1, 0, 0, 0), (0, 29, .bipush 15, 2, 0, 15, 0), (3, 31, .newarray .int, 2, 0, 0, 0), (3, 33, .putfield 24, 3, 4, 5, 307), (0, 36, .iconst 0, 1, 0, 0, 0), (0, 37, .istore_n 1, 1, 0, 0, 0), (0, 38, .iload_n 1, 1, 0, 0, 0), (0, 39, .iconst 3, 1, 0, 3, 0), (1, 40, .if_icmp .ge 22, 3, 32, 0, 0), (0, 43, .aload_n 0, 1, 0, 0, 0), (3, 44, .getfield 11, 3, 4, 2, 302), (0, 47, .iload_n 1, 1, 0, 0, 0), (3, 48, .new 9, 3, 0, 0, 267), (0, 51, .dup, 1, 0, 0, 0), (4, 52, .invokespecial 27, 3, 0, 5, 1), (3, 55, .aastore, 1, 0, 0, 0), (0, 56, .iinc 1 1, 3, 0, 1, 0), (2, 59, .goto (-21), 3, 20, 0, 0), (5, 62, .return_, 1, 0, 0, 0)]
def mt_X5_look : List mm_e := [(0, 0, .aload_n 0, 1, 0, 0, 0), (0, 1, .aload_n 1, 1, 0, 0, 0), (3, 2, .getfield 28, 3, 2, 1, 226), (3, 5, .putfield 34, 3, 4, 6, 308), (0, 8, .iconst 0, 1, 0, 0, 0), (0, 9, .istore 4, 2, 0, 0, 0), (0, 11, .iload 4, 2, 0, 0, 0), (0, 13, .bipush 15, 2, 0, 15, 0), (1, 15, .if_icmp .ge 44, 3, 31, 0, 0), (0, 18, .aload_n 0, 1, 0, 0, 0), (3, 19, .getfield 17, 3, 4, 3, 305), (0, 22, .iload 4, 2, 0, 0, 0), (0, 24, .aload_n 1, 1, 0, 0, 0), (0, 25, .iload 4, 2, 0, 0, 0), (4, 27, .invokevirtual 37, 3, 14, 654, 0), (0, 30, .aload_n 2, 1, 0, 0, 0), (3, 31, .getfield 41, 3, 1, 0, 140), (0, 34, .iload 4, 2, 0, 0, 0), (3, 36, .iaload, 1, 0, 0, 0), (0, 37, .ixor, 1, 0, 0, 0), (3, 38, .iastore, 1, 0, 0, 0), (0, 39, .aload_n 0, 1, 0, 0, 0), (3, 40, .getfield 21, 3, 4, 4, 306), (0, 43, .iload 4, 2, 0, 0, 0), (0, 45, .aload_n 2, 1, 0, 0, 0), (3, 46, .getfield 46, 3, 1, 1, 144), (0, 49, .iload 4, 2, 0, 0, 0), (3, 51, .iaload, 1, 0, 0, 0), (3, 52, .iastore, 1, 0, 0, 0), (0, 53, .iinc 4 1, 3, 0, 1, 0), (2, 56, .goto (-45), 3, 6, 0, 0), (0, 59, .iload_n 3, 1, 0, 0, 0), (0, 60, .iconst (-1), 1, 0, 4294967295, 0), (1, 61, .if_icmp .eq 21, 3, 48, 0, 0), (0, 64, .aload_n 0, 1, 0, 0, 0), (3, 65, .getfield 17, 3, 4, 3, 305), (0, 68, .iload_n 3, 1, 0, 0, 0), (0, 69, .bipush 15, 2, 0, 15, 0), (0, 71, .idiv, 1, 0, 0, 0), (0, 72, .dup2, 1, 0, 0, 0), (3, 73, .iaload, 1, 0, 0, 0), (0, 74, .iconst 1, 1, 0, 1, 0), (0, 75, .iload_n 3, 1, 0, 0, 0), (0, 76, .bipush 15, 2, 0, 15, 0), (0, 78, .irem, 1, 0, 0, 0), (0, 79, .ishl, 1, 0, 0, 0), (0, 80, .ixor, 1, 0, 0, 0), (3, 81, .iastore, 1, 0, 0, 0), (5, 82, .return_, 1, 0, 0, 0)]
def mt_X5_readFormat : List mm_e := [(0, 0, .aload_n 0, 1, 0, 0, 0), (0, 1, .aload_n 0, 1, 0, 0, 0), (3, 2, .getfield 34, 3, 4, 6, 308), (1, 5, .ifCond .eq 7, 3, 6, 0, 0), (0, 8, .iconst 0, 1, 0, 0, 0), (2, 9, .goto 4, 3, 7, 0, 0), (0, 12, .iconst (-1), 1, 0, 4294967295, 0), (3, 13, .putfield 49, 3, 4, 1, 301), (0, 16, .iconst 0, 1, 0, 0, 0), (0, 17, .istore_n 1, 1, 0, 0, 0), (0, 18, .iload_n 1, 1, 0, 0, 0), (0, 19, .iconst 4, 1, 0, 4, 0), (1, 20, .if_icmp .ge 70, 3, 52, 0, 0), (0, 23, .aload_n 0, 1, 0, 0, 0), (3, 24, .getfield 49, 3, 4, 1, 301), (0, 27, .iconst (-1), 1, 0, 4294967295, 0), (1, 28, .if_icmp .eq 62, 3, 52, 0, 0), (0, 31, .aload_n 0, 1, 0, 0, 0), (0, 32, .iconst 3, 1, 0, 3, 0), (0, 33, .iload_n 1, 1, 0, 0, 0), (4, 34, .invokevirtual 53, 3, 43, 662, 0), (0, 37, .aload_n 0, 1, 0, 0, 0), (0, 38, .iconst 3, 1, 0, 3, 0), (0, 39, .bipush 11, 2, 0, 11, 0), (0, 41, .iload_n 1, 1, 0, 0, 0), (0, 42, .iadd, 1, 0, 0, 0), (4, 43, .invokevirtual 53, 3, 43, 662, 0), (0, 46, .iadd, 1, 0, 0, 0), (0, 47, .aload_n 0, 1, 0, 0, 0), (0, 48, .bipush 11, 2, 0, 11, 0), (0, 50, .iload_n 1, 1, 0, 0, 0), (4, 51, .invokevirtual 53, 3, 43, 662, 0), (0, 54, .iadd, 1, 0, 0, 0), (0, 55, .istore_n 2, 1, 0, 0, 0), (0, 56, .aload_n 0, 1, 0, 0, 0), (0, 57, .iload_n 2, 1, 0, 0, 0), (1, 58, .ifCond .ne 7, 3, 39, 0, 0), (0, 61, .iconst (-1), 1, 0, 4294967295, 0), (2, 62, .goto 19, 3, 49, 0, 0), (0, 65, .iconst 2, 1, 0, 2, 0), (0, 66, .aload_n 0, 1, 0, 0, 0), (3, 67, .getfield 49, 3, 4, 1, 301), (0, 70, .imul, 1, 0, 0, 0), (0, 71, .iload_n 2, 1, 0, 0, 0), (1, 72, .ifCond .le 7, 3, 47, 0, 0), (0, 75, .iconst 1, 1, 0, 1, 0), (2, 76, .goto 4, 3, 48, 0, 0), (0, 79, .iconst 0, 1, 0, 0, 0), (0, 80, .iadd, 1, 0, 0, 0), (3, 81, .putfield 49, 3, 4, 1, 301), (0, 84, .iinc 1 1, 3, 0, 1, 0), (2, 87, .goto (-69), 3, 10, 0, 0), (0, 90, .aload_n 0, 1, 0, 0, 0), (3, 91, .getfield 49, 3, 4, 1, 301), (0, 94, .bipush 12, 2, 0, 12, 0), (1, 96, .if_icmp .lt 8, 3, 59, 0, 0), (0, 99, .aload_n 0, 1, 0, 0, 0), (0, 100, .iconst (-1), 1, 0, 4294967295, 0), (3, 101, .putfield 49, 3, 4, 1, 301), (5, 104, .return_, 1, 0, 0, 0)]
def mt_X5_readBlocks : List mm_e := [(0, 0, .aload_n 0, 1, 0, 0, 0), (0, 1, .aload_n 0, 1, 0, 0, 0), (3, 2, .getfield 34, 3, 4, 6, 308), (1, 5, .ifCond .eq 7, 3, 6, 0, 0), (0, 8, .iconst 1, 1, 0, 1, 0), (2, 9, .goto 4, 3, 7, 0, 0), (0, 12, .iconst 4, 1, 0, 4, 0), (3, 13, .putfield 57, 3, 4, 0, 298), (0, 16, .aload_n 0, 1, 0, 0, 0), (4, 17, .invokevirtual 60, 3, 39, 671, 0), (1, 20, .ifCond .ne 4, 3, 12, 0, 0), (5, 23, .return_, 1, 0, 0, 0), (0, 24, .aload_n 0, 1, 0, 0, 0), (0, 25, .aload_n 1, 1, 0, 0, 0), (4, 26, .invokevirtual 64, 3, 44, 675, 0), (0, 29, .iconst 0, 1, 0, 0, 0), (0, 30, .istore_n 3, 1, 0, 0, 0), (0, 31, .aload_n 0, 1, 0, 0, 0), (3, 32, .getfield 11, 3, 4, 2, 302), (0, 35, .astore 4, 2, 0, 0, 0), (0, 37, .aload 4, 2, 0, 0, 0), (3, 39, .arraylength, 1, 0, 0, 0), (0, 40, .istore 5, 2, 0, 0, 0), (0, 42, .iconst 0, 1, 0, 0, 0), (0, 43, .istore 6, 2, 0, 0, 0), (0, 45, .iload 6, 2, 0, 0, 0), (0, 47, .iload 5, 2, 0, 0, 0), (1, 49, .if_icmp .ge 66, 3, 57, 0, 0), (0, 52, .aload 4, 2, 0, 0, 0), (0, 54, .iload 6, 2, 0, 0, 0), (3, 56, .aaload, 1, 0, 0, 0), (0, 57, .astore 7, 2, 0, 0, 0), (0, 59, .aload 7, 2, 0, 0, 0), (0, 61, .aload_n 2, 1, 0, 0, 0), (0, 62, .aload 7, 2, 0, 0, 0), (3, 64, .getfield 68, 3, 0, 0, 276), (0, 67, .aload 7, 2, 0, 0, 0), (3, 69, .getfield 71, 3, 0, 2, 283), (0, 72, .aload_n 0, 1, 0, 0, 0), (4, 73, .invokevirtual 73, 3, 40, 684, 0), (4, 76, .invokestatic 77, 3, 117, 18, 1), (0, 79, .aload 7, 2, 0, 0, 0), (3, 81, .getfield 80, 3, 0, 1, 279), (4, 84, .invokevirtual 83, 3, 26, 689, 0), (3, 87, .putfield 89, 3, 0, 3, 286), (0, 90, .iload_n 3, 1, 0, 0, 0), (1, 91, .ifCond .ne 12, 3, 51, 0, 0), (0, 94, .aload 7, 2, 0, 0, 0), (3, 96, .getfield 89, 3, 0, 3, 286), (0, 99, .iconst (-1), 1, 0, 4294967295, 0), (1, 100, .if_icmp .ne 7, 3, 53, 0, 0), (0, 103, .iconst 1, 1, 0, 1, 0), (2, 104, .goto 4, 3, 54, 0, 0), (0, 107, .iconst 0, 1, 0, 0, 0), (0, 108, .istore_n 3, 1, 0, 0, 0), (0, 109, .iinc 6 1, 3, 0, 1, 0), (2, 112, .goto (-67), 3, 25, 0, 0), (0, 115, .aload_n 0, 1, 0, 0, 0), (0, 116, .iconst 0, 1, 0, 0, 0), (3, 117, .putfield 57, 3, 4, 0, 298), (0, 120, .iload_n 3, 1, 0, 0, 0), (1, 121, .ifCond .eq 11, 3, 66, 0, 0), (0, 124, .aload_n 0, 1, 0, 0, 0), (0, 125, .iconst 2, 1, 0, 2, 0), (3, 126, .putfield 57, 3, 4, 0, 298), (2, 129, .goto 23, 3, 76, 0, 0), (0, 132, .aload_n 0, 1, 0, 0, 0), (4, 133, .invokevirtual 73, 3, 40, 684, 0), (0, 136, .aload_n 0, 1, 0, 0, 0), (0, 137, .iconst 0, 1, 0, 0, 0), (4, 138, .invokevirtual 92, 3, 42, 690, 0), (4, 141, .invokestatic 95, 3, 119, 19, 1), (1, 144, .ifCond .ne 8, 3, 76, 0, 0), (0, 147, .aload_n 0, 1, 0, 0, 0), (0, 148, .iconst 3, 1, 0, 3, 0), (3, 149, .putfield 57, 3, 4, 0, 298), (5, 152, .return_, 1, 0, 0, 0)]
def mt_X5_formatKnown : List mm_e := [(0, 0, .aload_n 0, 1, 0, 0, 0), (3, 1, .getfield 49, 3, 4, 1, 301), (0, 4, .iconst (-1), 1, 0, 4294967295, 0), (1, 5, .if_icmp .eq 7, 3, 6, 0, 0), (0, 8, .iconst 1, 1, 0, 1, 0), (2, 9, .goto 4, 3, 7, 0, 0), (0, 12, .iconst 0, 1, 0, 0, 0), (5, 13, .ireturn, 1, 0, 0, 0)]
def mt_X5_level : List mm_e := [(0, 0, .aload_n 0, 1, 0, 0, 0), (3, 1, .getfield 49, 3, 4, 1, 301), (0, 4, .iconst 4, 1, 0, 4, 0), (0, 5, .idiv, 1, 0, 0, 0), (5, 6, .ireturn, 1, 0, 0, 0)]
def mt_X5_mask : List mm_e := [(0, 0, .aload_n 0, 1, 0, 0, 0), (3, 1, .getfield 49, 3, 4, 1, 301), (0, 4, .iconst 4, 1, 0, 4, 0), (0, 5, .irem, 1, 0, 0, 0), (5, 6, .ireturn, 1, 0, 0, 0)]
def mt_X5_item : List mm_e := [(0, 0, .aload_n 0, 1, 0, 0, 0), (3, 1, .getfield 11, 3, 4, 2, 302), (0, 4, .iload_n 1, 1, 0, 0, 0), (0, 5, .iconst 3, 1, 0, 3, 0), (0, 6, .irem, 1, 0, 0, 0), (3, 7, .aaload, 1, 0, 0, 0), (3, 8, .getfield 80, 3, 0, 1, 279), (0, 11, .iload_n 1, 1, 0, 0, 0), (0, 12, .iconst 3, 1, 0, 3, 0), (0, 13, .idiv, 1, 0, 0, 0), (3, 14, .iaload, 1, 0, 0, 0), (5, 15, .ireturn, 1, 0, 0, 0)]
def mt_X5_vote : List mm_e := [(0, 0, .aload_n 0, 1, 0, 0, 0), (3, 1, .getfield 21, 3, 4, 4, 306), (0, 4, .iload_n 1, 1, 0, 0, 0), (3, 5, .iaload, 1, 0, 0, 0), (0, 6, .iload_n 2, 1, 0, 0, 0), (4, 7, .invokestatic 99, 3, 115, 16, 1), (0, 10, .iconst 1, 1, 0, 1, 0), (1, 11, .if_icmp .ne 7, 3, 10, 0, 0), (0, 14, .iconst 0, 1, 0, 0, 0), (2, 15, .goto 17, 3, 20, 0, 0), (0, 18, .iconst 2, 1, 0, 2, 0), (0, 19, .aload_n 0, 1, 0, 0, 0), (3, 20, .getfield 17, 3, 4, 3, 305), (0, 23, .iload_n 1, 1, 0, 0, 0), (3, 24, .iaload, 1, 0, 0, 0), (0, 25, .iload_n 2, 1, 0, 0, 0), (4, 26, .invokestatic 99, 3, 115, 16, 1), (0, 29, .imul, 1, 0, 0, 0), (0, 30, .iconst 1, 1, 0, 1, 0), (0, 31, .isub, 1, 0, 0, 0), (5, 32, .ireturn, 1, 0, 0, 0)]
def mt_X5_takeSymbols : List mm_e := [(0, 0, .iconst 0, 1, 0, 0, 0), (0, 1, .istore_n 2, 1, 0, 0, 0), (0, 2, .iload_n 2, 1, 0, 0, 0), (0, 3, .bipush 15, 2, 0, 15, 0), (1, 5, .if_icmp .ge 30, 3, 20, 0, 0), (0, 8, .aload_n 0, 1, 0, 0, 0), (3, 9, .getfield 24, 3, 4, 5, 307), (0, 12, .iload_n 2, 1, 0, 0, 0), (0, 13, .aload_n 0, 1, 0, 0, 0), (3, 14, .getfield 17, 3, 4, 3, 305), (0, 17, .iload_n 2, 1, 0, 0, 0), (3, 18, .iaload, 1, 0, 0, 0), (0, 19, .aload_n 0, 1, 0, 0, 0), (4, 20, .invokevirtual 102, 3, 41, 679, 0), (0, 23, .iload_n 2, 1, 0, 0, 0), (4, 24, .invokestatic 105, 3, 120, 17, 1), (0, 27, .ixor, 1, 0, 0, 0), (3, 28, .iastore, 1, 0, 0, 0), (0, 29, .iinc 2 1, 3, 0, 1, 0), (2, 32, .goto (-30), 3, 2, 0, 0), (0, 35, .iconst 0, 1, 0, 0, 0), (0, 36, .istore_n 2, 1, 0, 0, 0), (0, 37, .iload_n 2, 1, 0, 0, 0), (0, 38, .bipush 42, 2, 0, 42, 0), (1, 40, .if_icmp .ge 138, 3, 104, 0, 0), (0, 43, .iconst 0, 1, 0, 0, 0), (0, 44, .istore_n 3, 1, 0, 0, 0), (0, 45, .iconst 0, 1, 0, 0, 0), (0, 46, .istore 4, 2, 0, 0, 0), (0, 48, .iconst 4, 1, 0, 4, 0), (0, 49, .iload_n 2, 1, 0, 0, 0), (0, 50, .imul, 1, 0, 0, 0), (0, 51, .istore 5, 2, 0, 0, 0), (0, 53, .iload 5, 2, 0, 0, 0), (0, 55, .iconst 4, 1, 0, 4, 0), (0, 56, .iload_n 2, 1, 0, 0, 0), (0, 57, .iconst 1, 1, 0, 1, 0), (0, 58, .iadd, 1, 0, 0, 0), (0, 59, .imul, 1, 0, 0, 0), (1, 60, .if_icmp .ge 63, 3, 74, 0, 0), (0, 63, .iconst 2, 1, 0, 2, 0), (0, 64, .iload_n 3, 1, 0, 0, 0), (0, 65, .imul, 1, 0, 0, 0), (0, 66, .aload_n 0, 1, 0, 0, 0), (3, 67, .getfield 24, 3, 4, 5, 307), (0, 70, .aload_n 1, 1, 0, 0, 0), (3, 71, .getfield 108, 3, 8, 1, 177), (0, 74, .iload 5, 2, 0, 0, 0), (3, 76, .iaload, 1, 0, 0, 0), (3, 77, .iaload, 1, 0, 0, 0), (0, 78, .aload_n 1, 1, 0, 0, 0), (3, 79, .getfield 113, 3, 8, 2, 180), (0, 82, .iload 5, 2, 0, 0, 0), (3, 84, .iaload, 1, 0, 0, 0), (4, 85, .invokestatic 99, 3, 115, 16, 1), (0, 88, .iadd, 1, 0, 0, 0), (0, 89, .istore_n 3, 1, 0, 0, 0), (0, 90, .iload 4, 2, 0, 0, 0), (0, 92, .aload_n 0, 1, 0, 0, 0), (3, 93, .getfield 21, 3, 4, 4, 306), (0, 96, .aload_n 1, 1, 0, 0, 0), (3, 97, .getfield 108, 3, 8, 1, 177), (0, 100, .iload 5, 2, 0, 0, 0), (3, 102, .iaload, 1, 0, 0, 0), (3, 103, .iaload, 1, 0, 0, 0), (0, 104, .aload_n 1, 1, 0, 0, 0), (3, 105, .getfield 113, 3, 8, 2, 180), (0, 108, .iload 5, 2, 0, 0, 0), (3, 110, .iaload, 1, 0, 0, 0), (4, 111, .invokestatic 99, 3, 115, 16, 1), (0, 114, .ior, 1, 0, 0, 0), (0, 115, .istore 4, 2, 0, 0, 0), (0, 117, .iinc 5 1, 3, 0, 1, 0), (2, 120, .goto (-67), 3, 33, 0, 0), (0, 123, .aload_n 0, 1, 0, 0, 0), (3, 124, .getfield 11, 3, 4, 2, 302), (0, 127, .iload_n 2, 1, 0, 0, 0), (0, 128, .iconst 3, 1, 0, 3, 0), (0, 129, .irem, 1, 0, 0, 0), (3, 130, .aaload, 1, 0, 0, 0), (0, 131, .astore 5, 2, 0, 0, 0), (0, 133, .iload_n 2, 1, 0, 0, 0), (0, 134, .iconst 3, 1, 0, 3, 0), (0, 135, .idiv, 1, 0, 0, 0), (0, 136, .istore 6, 2, 0, 0, 0), (0, 138, .aload 5, 2, 0, 0, 0), (3, 140, .getfield 68, 3, 0, 0, 276), (0, 143, .iload 6, 2, 0, 0, 0), (0, 145, .iload_n 3, 1, 0, 0, 0), (3, 146, .iastore, 1, 0, 0, 0), (0, 147, .aload 5, 2, 0, 0, 0), (0, 149, .iload 6, 2, 0, 0, 0), (1, 151, .ifCond .ne 7, 3, 95, 0, 0), (0, 154, .iconst 0, 1, 0, 0, 0), (2, 155, .goto 8, 3, 97, 0, 0), (0, 158, .aload 5, 2, 0, 0, 0), (3, 160, .getfield 71, 3, 0, 2, 283), (0, 163, .iload 4, 2, 0, 0, 0), (0, 165, .iload 6, 2, 0, 0, 0), (0, 167, .ishl, 1, 0, 0, 0), (0, 168, .ior, 1, 0, 0, 0), (3, 169, .putfield 71, 3, 0, 2, 283), (0, 172, .iinc 2 1, 3, 0, 1, 0), (2, 175, .goto (-138), 3, 22, 0, 0), (5, 178, .return_, 1, 0, 0, 0)]
def mt_X6_init : List mm_e := [(0, 0, .aload_n 0, 1, 0, 0, 0), (3, 1, .invokespecial 3, 3, 0, 0, 352), (0, 4, .aload_n 0, 1, 0, 0, 0), (0, 5, .bipush 60, 2, 0, 60, 0), (3, 7, .newarray .int, 2, 0, 0, 0), (3, 9, .putfield 9, 3, 5, 3, 359), (5, 12, .return_, 1, 0, 0, 0)]
def mt_X6_renew : List mm_e := [(0, 0, .aload_n 0, 1, 0, 0, 0), (0, 1, .iconst 1, 1, 0, 1, 0), (3, 2, .putfield 15, 3, 5, 0, 353), (0, 5, .aload_n 0, 1, 0, 0, 0), (0, 6, .iload_n 1, 1, 0, 0, 0), (3, 7, .putfield 19, 3, 5, 1, 355), (0, 10, .aload_n 0, 1, 0, 0, 0), (0, 11, .iload_n 2, 1, 0, 0, 0), (3, 12, .putfield 23, 3, 5, 2, 357), (0, 15, .iconst 0, 1, 0, 0, 0), (0, 16, .istore_n 3, 1, 0, 0, 0), (0, 17, .iload_n 3, 1, 0, 0, 0), (0, 18, .bipush 60, 2, 0, 60, 0), (1, 20, .if_icmp .ge 16, 3, 21, 0, 0), (0, 23, .aload_n 0, 1, 0, 0, 0), (3, 24, .getfield 9, 3, 5, 3, 359), (0, 27, .iload_n 3, 1, 0, 0, 0), (0, 28, .iconst 0, 1, 0, 0, 0), (3, 29, .iastore, 1, 0, 0, 0), (0, 30, .iinc 3 1, 3, 0, 1, 0), (2, 33, .goto (-16), 3, 11, 0, 0), (5, 36, .return_, 1, 0, 0, 0)]
def mt_X6_findingAt : List mm_e := [(0, 0, .aload_n 0, 1, 0, 0, 0), (3, 1, .getfield 15, 3, 5, 0, 353), (1, 4, .ifCond .ne 5, 3, 5, 0, 0), (0, 7, .iconst 1, 1, 0, 1, 0), (5, 8, .ireturn, 1, 0, 0, 0), (0, 9, .iload_n 1, 1, 0, 0, 0), (0, 10, .aload_n 0, 1, 0, 0, 0), (3, 11, .getfield 19, 3, 5, 1, 355), (1, 14, .if_icmp .eq 5, 3, 11, 0, 0), (0, 17, .iconst 3, 1, 0, 3, 0), (5, 18, .ireturn, 1, 0, 0, 0), (0, 19, .iload_n 2, 1, 0, 0, 0), (1, 20, .ifCond .lt 11, 3, 17, 0, 0), (0, 23, .iload_n 2, 1, 0, 0, 0), (0, 24, .aload_n 0, 1, 0, 0, 0), (3, 25, .getfield 23, 3, 5, 2, 357), (1, 28, .if_icmp .lt 7, 3, 19, 0, 0), (0, 31, .iconst 2, 1, 0, 2, 0), (2, 32, .goto 4, 3, 20, 0, 0), (0, 35, .iconst 0, 1, 0, 0, 0), (5, 36, .ireturn, 1, 0, 0, 0)]
def mt_X6_put : List mm_e := [(0, 0, .aload_n 0, 1, 0, 0, 0), (3, 1, .getfield 19, 3, 5, 1, 355), (1, 4, .ifCond .ne 14, 3, 10, 0, 0), (0, 7, .aload_n 0, 1, 0, 0, 0), (3, 8, .getfield 9, 3, 5, 3, 359), (0, 11, .iload_n 1, 1, 0, 0, 0), (0, 12, .iload_n 2, 1, 0, 0, 0), (0, 13, .i2b, 1, 0, 0, 0), (3, 14, .iastore, 1, 0, 0, 0), (2, 15, .goto 29, 3, 26, 0, 0), (0, 18, .aload_n 0, 1, 0, 0, 0), (3, 19, .getfield 19, 3, 5, 1, 355), (0, 22, .iconst 1, 1, 0, 1, 0), (1, 23, .if_icmp .ne 14, 3, 21, 0, 0), (0, 26, .aload_n 0, 1, 0, 0, 0), (3, 27, .getfield 9, 3, 5, 3, 359), (0, 30, .iload_n 1, 1, 0, 0, 0), (0, 31, .iload_n 2, 1, 0, 0, 0), (0, 32, .i2s, 1, 0, 0, 0), (3, 33, .iastore, 1, 0, 0, 0), (2, 34, .goto 10, 3, 26, 0, 0), (0, 37, .aload_n 0, 1, 0, 0, 0), (3, 38, .getfield 9, 3, 5, 3, 359), (0, 41, .iload_n 1, 1, 0, 0, 0), (0, 42, .iload_n 2, 1, 0, 0, 0), (3, 43, .iastore, 1, 0, 0, 0), (5, 44, .return_, 1, 0, 0, 0)]
def mt_X6_hasPart : List mm_e := [(0, 0, .iload_n 1, 1, 0, 0, 0), (1, 1, .ifCond .lt 21, 3, 12, 0, 0), (0, 4, .iload_n 2, 1, 0, 0, 0), (1, 5, .ifCond .lt 17, 3, 12, 0, 0), (0, 8, .iload_n 2, 1, 0, 0, 0), (0, 9, .aload_n 0, 1, 0, 0, 0), (3, 10, .getfield 23, 3, 5, 2, 357), (0, 13, .iload_n 1, 1, 0, 0, 0), (0, 14, .isub, 1, 0, 0, 0), (1, 15, .if_icmp .gt 7, 3, 12, 0, 0), (0, 18, .iconst 1, 1, 0, 1, 0), (2, 19, .goto 4, 3, 13, 0, 0), (0, 22, .iconst 0, 1, 0, 0, 0), (5, 23, .ireturn, 1, 0, 0, 0)]
def mt_X7_init : List mm_e := [(0, 0, .aload_n 0, 1, 0, 0, 0), (3, 1, .invokespecial 3, 3, 0, 0, 329), (0, 4, .aload_n 0, 1, 0, 0, 0), (3, 5, .new 9, 3, 4, 0, 330), (0, 8, .dup, 1, 0, 0, 0), (4, 9, .invokespecial 11, 3, 35, 331, 0), (3, 12, .putfield 12, 3, 6, 1, 334), (0, 15, .aload_n 0, 1, 0, 0, 0), (0, 16, .bipush 14, 2, 0, 14, 0), (3, 18, .newarray .int, 2, 0, 0, 0), (3, 20, .putfield 18, 3, 6, 2, 335), (0, 23, .aload_n 0, 1, 0, 0, 0), (0, 24, .bipush 14, 2, 0, 14, 0), (3, 26, .newarray .int, 2, 0, 0, 0), (3, 28, .putfield 22, 3, 6, 3, 336), (5, 31, .return_, 1, 0, 0, 0)]
def mt_X7_find : List mm_e := [(0, 0, .aload_n 0, 1, 0, 0, 0), (0, 1, .iconst (-1), 1, 0, 4294967295, 0), (3, 2, .putfield 25, 3, 6, 0, 332), (0, 5, .aload_n 1, 1, 0, 0, 0), (3, 6, .getfield 29, 3, 4, 0, 297), (1, 9, .ifCond .eq 4, 3, 7, 0, 0), (5, 12, .return_, 1, 0, 0, 0), (0, 13, .iconst 0, 1, 0, 0, 0), (0, 14, .istore 6, 2, 0, 0, 0), (0, 16, .iload 6, 2, 0, 0, 0), (0, 18, .sipush 225, 3, 0, 225, 0), (1, 21, .if_icmp .ge 159, 3, 86, 0, 0), (0, 24, .aload_n 0, 1, 0, 0, 0), (3, 25, .getfield 25, 3, 6, 0, 332), (0, 28, .iconst (-1), 1, 0, 4294967295, 0), (1, 29, .if_icmp .ne 151, 3, 86, 0, 0), (0, 32, .aload_n 3, 1, 0, 0, 0), (3, 33, .getfield 32, 3, 1, 1, 143), (0, 36, .iload 6, 2, 0, 0, 0), (0, 38, .bipush 15, 2, 0, 15, 0), (0, 40, .idiv, 1, 0, 0, 0), (3, 41, .iaload, 1, 0, 0, 0), (0, 42, .iload 6, 2, 0, 0, 0), (0, 44, .bipush 15, 2, 0, 15, 0), (0, 46, .irem, 1, 0, 0, 0), (4, 47, .invokestatic 37, 3, 115, 20, 1), (0, 50, .iconst 1, 1, 0, 1, 0), (1, 51, .if_icmp .ne 6, 3, 29, 0, 0), (2, 54, .goto 120, 3, 84, 0, 0), (0, 57, .iconst 0, 1, 0, 0, 0), (0, 58, .istore 7, 2, 0, 0, 0), (0, 60, .aload 4, 2, 0, 0, 0), (0, 62, .iload 6, 2, 0, 0, 0), (4, 64, .invokevirtual 41, 3, 63, 700, 0), (0, 67, .iconst (-1), 1, 0, 4294967295, 0), (1, 68, .if_icmp .eq 23, 3, 46, 0, 0), (0, 71, .aload_n 0, 1, 0, 0, 0), (0, 72, .aload_n 1, 1, 0, 0, 0), (0, 73, .aload 4, 2, 0, 0, 0), (3, 75, .getfield 47, 3, 8, 0, 173), (0, 78, .iload 6, 2, 0, 0, 0), (3, 80, .iaload, 1, 0, 0, 0), (0, 81, .aload 5, 2, 0, 0, 0), (4, 83, .invokevirtual 50, 3, 53, 704, 0), (0, 86, .istore 7, 2, 0, 0, 0), (2, 88, .goto 71, 3, 77, 0, 0), (0, 91, .iload 6, 2, 0, 0, 0), (4, 93, .invokestatic 54, 3, 52, 721, 0), (1, 96, .ifCond .eq 63, 3, 77, 0, 0), (0, 99, .aload_n 0, 1, 0, 0, 0), (3, 100, .getfield 12, 3, 6, 1, 334), (0, 103, .aload_n 2, 1, 0, 0, 0), (0, 104, .aload_n 3, 1, 0, 0, 0), (0, 105, .iload 6, 2, 0, 0, 0), (4, 107, .invokevirtual 58, 3, 36, 725, 0), (0, 110, .aload_n 0, 1, 0, 0, 0), (3, 111, .getfield 12, 3, 6, 1, 334), (4, 114, .invokevirtual 62, 3, 37, 726, 0), (0, 117, .aload_n 0, 1, 0, 0, 0), (3, 118, .getfield 12, 3, 6, 1, 334), (3, 121, .getfield 65, 3, 4, 1, 300), (0, 124, .aload_n 1, 1, 0, 0, 0), (3, 125, .getfield 65, 3, 4, 1, 300), (1, 128, .if_icmp .eq 31, 3, 77, 0, 0), (0, 131, .aload_n 0, 1, 0, 0, 0), (3, 132, .getfield 12, 3, 6, 1, 334), (0, 135, .aload 4, 2, 0, 0, 0), (0, 137, .aload 5, 2, 0, 0, 0), (4, 139, .invokevirtual 68, 3, 38, 727, 0), (0, 142, .aload_n 0, 1, 0, 0, 0), (3, 143, .getfield 12, 3, 6, 1, 334), (3, 146, .getfield 29, 3, 4, 0, 297), (1, 149, .ifCond .eq 7, 3, 75, 0, 0), (0, 152, .iconst 1, 1, 0, 1, 0), (2, 153, .goto 4, 3, 76, 0, 0), (0, 156, .iconst 0, 1, 0, 0, 0), (0, 157, .istore 7, 2, 0, 0, 0), (0, 159, .aload_n 0, 1, 0, 0, 0), (0, 160, .iload 7, 2, 0, 0, 0), (1, 162, .ifCond .eq 8, 3, 82, 0, 0), (0, 165, .iload 6, 2, 0, 0, 0), (2, 167, .goto 4, 3, 83, 0, 0), (0, 170, .iconst (-1), 1, 0, 4294967295, 0), (3, 171, .putfield 25, 3, 6, 0, 332), (0, 174, .iinc 6 1, 3, 0, 1, 0), (2, 177, .goto (-161), 3, 9, 0, 0), (5, 180, .return_, 1, 0, 0, 0)]
def mt_X7_isFormatDot : List mm_e := [(0, 0, .iload_n 0, 1, 0, 0, 0), (0, 1, .bipush 15, 2, 0, 15, 0), (0, 3, .idiv, 1, 0, 0, 0), (0, 4, .istore_n 1, 1, 0, 0, 0), (0, 5, .iload_n 1, 1, 0, 0, 0), (0, 6, .iconst 3, 1, 0, 3, 0), (1, 7, .if_icmp .eq 9, 3, 10, 0, 0), (0, 10, .iload_n 1, 1, 0, 0, 0), (0, 11, .bipush 11, 2, 0, 11, 0), (1, 13, .if_icmp .ne 22, 3, 20, 0, 0), (3, 16, .getstatic 72, 3, 0, 1, 23), (0, 19, .iload_n 1, 1, 0, 0, 0), (3, 20, .iaload, 1, 0, 0, 0), (0, 21, .iload_n 0, 1, 0, 0, 0), (0, 22, .bipush 15, 2, 0, 15, 0), (0, 24, .irem, 1, 0, 0, 0), (4, 25, .invokestatic 37, 3, 115, 20, 1), (1, 28, .ifCond .ne 7, 3, 20, 0, 0), (0, 31, .iconst 1, 1, 0, 1, 0), (2, 32, .goto 4, 3, 21, 0, 0), (0, 35, .iconst 0, 1, 0, 0, 0), (5, 36, .ireturn, 1, 0, 0, 0)]
def mt_X7_spoilsBlock : List mm_e := [(0, 0, .iload_n 2, 1, 0, 0, 0), (0, 1, .iconst 4, 1, 0, 4, 0), (0, 2, .idiv, 1, 0, 0, 0), (0, 3, .istore 4, 2, 0, 0, 0), (0, 5, .aload_n 1, 1, 0, 0, 0), (3, 6, .getfield 75, 3, 4, 2, 303), (0, 9, .iload 4, 2, 0, 0, 0), (0, 11, .iconst 3, 1, 0, 3, 0), (0, 12, .irem, 1, 0, 0, 0), (3, 13, .aaload, 1, 0, 0, 0), (0, 14, .astore 5, 2, 0, 0, 0), (0, 16, .iload 4, 2, 0, 0, 0), (0, 18, .iconst 3, 1, 0, 3, 0), (0, 19, .idiv, 1, 0, 0, 0), (0, 20, .istore 6, 2, 0, 0, 0), (0, 22, .aload 5, 2, 0, 0, 0), (3, 24, .getfield 79, 3, 0, 2, 282), (0, 27, .iload 6, 2, 0, 0, 0), (4, 29, .invokestatic 37, 3, 115, 20, 1), (0, 32, .iconst 1, 1, 0, 1, 0), (1, 33, .if_icmp .ne 5, 3, 23, 0, 0), (0, 36, .iconst 0, 1, 0, 0, 0), (5, 37, .ireturn, 1, 0, 0, 0), (0, 38, .aload_n 1, 1, 0, 0, 0), (4, 39, .invokevirtual 83, 3, 40, 708, 0), (4, 42, .invokestatic 87, 3, 117, 21, 1), (0, 45, .istore 7, 2, 0, 0, 0), (0, 47, .aload 5, 2, 0, 0, 0), (3, 49, .getfield 90, 3, 0, 0, 275), (0, 52, .iload 6, 2, 0, 0, 0), (3, 54, .iaload, 1, 0, 0, 0), (0, 55, .bipush 8, 2, 0, 8, 0), (0, 57, .iload_n 2, 1, 0, 0, 0), (0, 58, .iconst 4, 1, 0, 4, 0), (0, 59, .irem, 1, 0, 0, 0), (0, 60, .ishr, 1, 0, 0, 0), (0, 61, .ixor, 1, 0, 0, 0), (0, 62, .istore 8, 2, 0, 0, 0), (0, 64, .aload 5, 2, 0, 0, 0), (3, 66, .getfield 91, 3, 0, 3, 285), (0, 69, .iload 8, 2, 0, 0, 0), (0, 71, .aload 5, 2, 0, 0, 0), (3, 73, .getfield 94, 3, 0, 1, 278), (0, 76, .iload 6, 2, 0, 0, 0), (3, 78, .iaload, 1, 0, 0, 0), (4, 79, .invokestatic 95, 3, 54, 710, 0), (0, 82, .iadd, 1, 0, 0, 0), (0, 83, .aload 5, 2, 0, 0, 0), (3, 85, .getfield 90, 3, 0, 0, 275), (0, 88, .iload 6, 2, 0, 0, 0), (3, 90, .iaload, 1, 0, 0, 0), (0, 91, .aload 5, 2, 0, 0, 0), (3, 93, .getfield 94, 3, 0, 1, 278), (0, 96, .iload 6, 2, 0, 0, 0), (3, 98, .iaload, 1, 0, 0, 0), (4, 99, .invokestatic 95, 3, 54, 710, 0), (0, 102, .isub, 1, 0, 0, 0), (0, 103, .istore 9, 2, 0, 0, 0), (0, 105, .aload 5, 2, 0, 0, 0), (0, 107, .iload 9, 2, 0, 0, 0), (4, 109, .invokevirtual 98, 3, 1, 713, 0), (0, 112, .iload 7, 2, 0, 0, 0), (1, 114, .if_icmp .gt 5, 3, 65, 0, 0), (0, 117, .iconst 0, 1, 0, 0, 0), (5, 118, .ireturn, 1, 0, 0, 0), (0, 119, .aload 5, 2, 0, 0, 0), (3, 121, .getfield 90, 3, 0, 0, 275), (0, 124, .iconst 0, 1, 0, 0, 0), (0, 125, .aload_n 0, 1, 0, 0, 0), (3, 126, .getfield 18, 3, 6, 2, 335), (0, 129, .iconst 0, 1, 0, 0, 0), (0, 130, .bipush 14, 2, 0, 14, 0), (3, 132, .invokestatic 101, 3, 0, 718, 718), (0, 135, .aload_n 0, 1, 0, 0, 0), (3, 136, .getfield 18, 3, 6, 2, 335), (0, 139, .iload 6, 2, 0, 0, 0), (0, 141, .iload 8, 2, 0, 0, 0), (3, 143, .iastore, 1, 0, 0, 0), (0, 144, .aload_n 3, 1, 0, 0, 0), (0, 145, .aload_n 0, 1, 0, 0, 0), (3, 146, .getfield 18, 3, 6, 2, 335), (0, 149, .aload 5, 2, 0, 0, 0), (3, 151, .getfield 79, 3, 0, 2, 282), (0, 154, .iload 7, 2, 0, 0, 0), (0, 156, .aload_n 0, 1, 0, 0, 0), (3, 157, .getfield 22, 3, 6, 3, 336), (4, 160, .invokevirtual 107, 3, 26, 719, 0), (0, 163, .iconst (-1), 1, 0, 4294967295, 0), (1, 164, .if_icmp .ne 5, 3, 91, 0, 0), (0, 167, .iconst 1, 1, 0, 1, 0), (5, 168, .ireturn, 1, 0, 0, 0), (0, 169, .iload 4, 2, 0, 0, 0), (0, 171, .iconst 3, 1, 0, 3, 0), (0, 172, .irem, 1, 0, 0, 0), (1, 173, .ifCond .ne 23, 3, 105, 0, 0), (0, 176, .aload_n 1, 1, 0, 0, 0), (4, 177, .invokevirtual 83, 3, 40, 708, 0), (0, 180, .aload_n 0, 1, 0, 0, 0), (3, 181, .getfield 22, 3, 6, 3, 336), (0, 184, .iconst 0, 1, 0, 0, 0), (3, 185, .iaload, 1, 0, 0, 0), (4, 186, .invokestatic 113, 3, 119, 22, 1), (1, 189, .ifCond .ne 7, 3, 105, 0, 0), (0, 192, .iconst 1, 1, 0, 1, 0), (2, 193, .goto 4, 3, 106, 0, 0), (0, 196, .iconst 0, 1, 0, 0, 0), (5, 197, .ireturn, 1, 0, 0, 0)]
def mt_X7_differs : List mm_e := [(0, 0, .iload_n 0, 1, 0, 0, 0), (0, 1, .iload_n 1, 1, 0, 0, 0), (1, 2, .if_icmp .ne 7, 3, 5, 0, 0), (0, 5, .iconst 0, 1, 0, 0, 0), (2, 6, .goto 4, 3, 6, 0, 0), (0, 9, .iconst 1, 1, 0, 1, 0), (5, 10, .ireturn, 1, 0, 0, 0)]
def mt_X8_init : List mm_e := [(0, 0, .aload_n 0, 1, 0, 0, 0), (3, 1, .invokespecial 3, 3, 0, 0, 116), (0, 4, .aload_n 0, 1, 0, 0, 0), (0, 5, .bipush 14, 2, 0, 14, 0), (3, 7, .newarray .int, 2, 0, 0, 0), (3, 9, .putfield 9, 3, 7, 0, 120), (0, 12, .aload_n 0, 1, 0, 0, 0), (0, 13, .iload_n 1, 1, 0, 0, 0), (0, 14, .bipush 14, 2, 0, 14, 0), (4, 16, .invokestatic 15, 3, 224, 117, 0), (3, 19, .putfield 21, 3, 7, 1, 121), (5, 22, .return_, 1, 0, 0, 0)]
def mt_X8_isFull : List mm_e := [(0, 0, .aload_n 0, 1, 0, 0, 0), (3, 1, .getfield 25, 3, 7, 2, 122), (0, 4, .aload_n 0, 1, 0, 0, 0), (3, 5, .getfield 21, 3, 7, 1, 121), (1, 8, .if_icmp .lt 7, 3, 7, 0, 0), (0, 11, .iconst 1, 1, 0, 1, 0), (2, 12, .goto 4, 3, 8, 0, 0), (0, 15, .iconst 0, 1, 0, 0, 0), (5, 16, .ireturn, 1, 0, 0, 0)]
def mt_X8_append : List mm_e := [(0, 0, .aload_n 0, 1, 0, 0, 0), (3, 1, .getfield 25, 3, 7, 2, 122), (0, 4, .aload_n 0, 1, 0, 0, 0), (3, 5, .getfield 21, 3, 7, 1, 121), (1, 8, .if_icmp .ge 23, 3, 17, 0, 0), (0, 11, .aload_n 0, 1, 0, 0, 0), (3, 12, .getfield 9, 3, 7, 0, 120), (0, 15, .aload_n 0, 1, 0, 0, 0), (3, 16, .getfield 25, 3, 7, 2, 122), (0, 19, .iload_n 1, 1, 0, 0, 0), (3, 20, .iastore, 1, 0, 0, 0), (0, 21, .aload_n 0, 1, 0, 0, 0), (0, 22, .dup, 1, 0, 0, 0), (3, 23, .getfield 25, 3, 7, 2, 122), (0, 26, .iconst 1, 1, 0, 1, 0), (0, 27, .iadd, 1, 0, 0, 0), (3, 28, .putfield 25, 3, 7, 2, 122), (5, 31, .return_, 1, 0, 0, 0)]
def mt_X8_byteAt : List mm_e := [(0, 0, .iload_n 1, 1, 0, 0, 0), (1, 1, .ifCond .lt 20, 3, 11, 0, 0), (0, 4, .iload_n 1, 1, 0, 0, 0), (0, 5, .aload_n 0, 1, 0, 0, 0), (3, 6, .getfield 25, 3, 7, 2, 122), (1, 9, .if_icmp .ge 12, 3, 11, 0, 0), (0, 12, .aload_n 0, 1, 0, 0, 0), (3, 13, .getfield 9, 3, 7, 0, 120), (0, 16, .iload_n 1, 1, 0, 0, 0), (3, 17, .iaload, 1, 0, 0, 0), (2, 18, .goto 4, 3, 12, 0, 0), (0, 21, .iconst 0, 1, 0, 0, 0), (5, 22, .ireturn, 1, 0, 0, 0)]
def mt_X8_faultAsLevel : List mm_e := [(0, 0, .iconst 0, 1, 0, 0, 0), (0, 1, .istore_n 1, 1, 0, 0, 0), (0, 2, .iload_n 1, 1, 0, 0, 0), (0, 3, .aload_n 0, 1, 0, 0, 0), (3, 4, .getfield 25, 3, 7, 2, 122), (1, 7, .if_icmp .ge 22, 3, 17, 0, 0), (0, 10, .aload_n 0, 1, 0, 0, 0), (0, 11, .iload_n 1, 1, 0, 0, 0), (0, 12, .iconst 1, 1, 0, 1, 0), (0, 13, .iadd, 1, 0, 0, 0), (4, 14, .invokevirtual 28, 3, 61, 439, 0), (0, 17, .iconst (-1), 1, 0, 4294967295, 0), (1, 18, .if_icmp .ne 5, 3, 15, 0, 0), (0, 21, .iload_n 1, 1, 0, 0, 0), (5, 22, .ireturn, 1, 0, 0, 0), (0, 23, .iinc 1 1, 3, 0, 1, 0), (2, 26, .goto (-24), 3, 2, 0, 0), (0, 29, .aload_n 0, 1, 0, 0, 0), (3, 30, .getfield 25, 3, 7, 2, 122), (1, 33, .ifCond .le 18, 3, 27, 0, 0), (0, 36, .aload_n 0, 1, 0, 0, 0), (3, 37, .getfield 25, 3, 7, 2, 122), (0, 40, .iconst 3, 1, 0, 3, 0), (1, 41, .if_icmp .ge 10, 3, 27, 0, 0), (0, 44, .aload_n 0, 1, 0, 0, 0), (3, 45, .getfield 25, 3, 7, 2, 122), (2, 48, .goto 4, 3, 28, 0, 0), (0, 51, .iconst (-1), 1, 0, 4294967295, 0), (5, 52, .ireturn, 1, 0, 0, 0)]
def mt_X8_asLevel : List mm_e := [(0, 0, .aload_n 0, 1, 0, 0, 0), (3, 1, .getfield 25, 3, 7, 2, 122), (0, 4, .iconst 3, 1, 0, 3, 0), (1, 5, .if_icmp .ne 11, 3, 8, 0, 0), (0, 8, .aload_n 0, 1, 0, 0, 0), (0, 9, .iconst 3, 1, 0, 3, 0), (4, 10, .invokevirtual 28, 3, 61, 439, 0), (2, 13, .goto 4, 3, 9, 0, 0), (0, 16, .iconst (-1), 1, 0, 4294967295, 0), (0, 17, .istore_n 1, 1, 0, 0, 0), (0, 18, .iload_n 1, 1, 0, 0, 0), (0, 19, .iconst 0, 1, 0, 0, 0), (4, 20, .invokestatic 32, 3, 223, 529, 0), (5, 23, .ireturn, 1, 0, 0, 0)]
def mt_X8_levelBegunBy : List mm_e := [(0, 0, .iconst 0, 1, 0, 0, 0), (0, 1, .istore_n 2, 1, 0, 0, 0), (0, 2, .iload_n 2, 1, 0, 0, 0), (0, 3, .iconst 3, 1, 0, 3, 0), (1, 4, .if_icmp .ge 52, 3, 33, 0, 0), (0, 7, .iconst 0, 1, 0, 0, 0), (0, 8, .istore_n 3, 1, 0, 0, 0), (0, 9, .iload_n 3, 1, 0, 0, 0), (0, 10, .iload_n 1, 1, 0, 0, 0), (1, 11, .if_icmp .ge 32, 3, 26, 0, 0), (0, 14, .iload_n 3, 1, 0, 0, 0), (0, 15, .iconst 3, 1, 0, 3, 0), (1, 16, .if_icmp .ge 27, 3, 26, 0, 0), (3, 19, .ldc 35, 2, 0, 0, 443), (0, 21, .iconst 3, 1, 0, 3, 0), (0, 22, .iload_n 2, 1, 0, 0, 0), (0, 23, .imul, 1, 0, 0, 0), (0, 24, .iload_n 3, 1, 0, 0, 0), (0, 25, .iadd, 1, 0, 0, 0), (3, 26, .invokevirtual 37, 3, 0, 444, 444), (0, 29, .aload_n 0, 1, 0, 0, 0), (0, 30, .iload_n 3, 1, 0, 0, 0), (4, 31, .invokevirtual 43, 3, 58, 484, 0), (1, 34, .if_icmp .ne 9, 3, 26, 0, 0), (0, 37, .iinc 3 1, 3, 0, 1, 0), (2, 40, .goto (-31), 3, 7, 0, 0), (0, 43, .iload_n 3, 1, 0, 0, 0), (0, 44, .iload_n 1, 1, 0, 0, 0), (1, 45, .if_icmp .ne 5, 3, 31, 0, 0), (0, 48, .iload_n 2, 1, 0, 0, 0), (5, 49, .ireturn, 1, 0, 0, 0), (0, 50, .iinc 2 1, 3, 0, 1, 0), (2, 53, .goto (-51), 3, 2, 0, 0), (0, 56, .iconst (-1), 1, 0, 4294967295, 0), (5, 57, .ireturn, 1, 0, 0, 0)]
def mt_X9_init : List mm_e := [(0, 0, .aload_n 0, 1, 0, 0, 0), (3, 1, .invokespecial 3, 3, 0, 0, 166), (0, 4, .aload_n 0, 1, 0, 0, 0), (0, 5, .sipush 225, 3, 0, 225, 0), (3, 8, .newarray .int, 2, 0, 0, 0), (3, 10, .putfield 9, 3, 8, 0, 172), (0, 13, .aload_n 0, 1, 0, 0, 0), (0, 14, .sipush 171, 3, 0, 171, 0), (3, 17, .newarray .int, 2, 0, 0, 0), (3, 19, .putfield 15, 3, 8, 1, 175), (0, 22, .aload_n 0, 1, 0, 0, 0), (0, 23, .sipush 171, 3, 0, 171, 0), (3, 26, .newarray .int, 2, 0, 0, 0), (3, 28, .putfield 18, 3, 8, 2, 178), (0, 31, .iconst 0, 1, 0, 0, 0), (0, 32, .istore_n 1, 1, 0, 0, 0), (0, 33, .iconst 0, 1, 0, 0, 0), (0, 34, .istore_n 2, 1, 0, 0, 0), (0, 35, .iload_n 2, 1, 0, 0, 0), (0, 36, .bipush 15, 2, 0, 15, 0), (1, 38, .if_icmp .ge 104, 3, 79, 0, 0), (0, 41, .iconst 0, 1, 0, 0, 0), (0, 42, .istore_n 3, 1, 0, 0, 0), (0, 43, .iload_n 3, 1, 0, 0, 0), (0, 44, .bipush 15, 2, 0, 15, 0), (1, 46, .if_icmp .ge 90, 3, 77, 0, 0), (0, 49, .iload_n 2, 1, 0, 0, 0), (0, 50, .iconst 2, 1, 0, 2, 0), (0, 51, .irem, 1, 0, 0, 0), (1, 52, .ifCond .ne 7, 3, 32, 0, 0), (0, 55, .iload_n 3, 1, 0, 0, 0), (2, 56, .goto 7, 3, 35, 0, 0), (0, 59, .bipush 14, 2, 0, 14, 0), (0, 61, .iload_n 3, 1, 0, 0, 0), (0, 62, .isub, 1, 0, 0, 0), (0, 63, .istore 4, 2, 0, 0, 0), (0, 65, .aload_n 0, 1, 0, 0, 0), (3, 66, .getfield 9, 3, 8, 0, 172), (0, 69, .bipush 15, 2, 0, 15, 0), (0, 71, .iload_n 2, 1, 0, 0, 0), (0, 72, .imul, 1, 0, 0, 0), (0, 73, .iload 4, 2, 0, 0, 0), (0, 75, .iadd, 1, 0, 0, 0), (0, 76, .iconst (-1), 1, 0, 4294967295, 0), (3, 77, .iastore, 1, 0, 0, 0), (3, 78, .getstatic 21, 3, 0, 1, 1), (0, 81, .iload_n 2, 1, 0, 0, 0), (3, 82, .iaload, 1, 0, 0, 0), (0, 83, .iload 4, 2, 0, 0, 0), (4, 85, .invokestatic 24, 3, 115, 2, 1), (0, 88, .iconst 1, 1, 0, 1, 0), (1, 89, .if_icmp .ne 41, 3, 75, 0, 0), (0, 92, .iload_n 1, 1, 0, 0, 0), (0, 93, .sipush 171, 3, 0, 171, 0), (1, 96, .if_icmp .ge 34, 3, 75, 0, 0), (0, 99, .aload_n 0, 1, 0, 0, 0), (3, 100, .getfield 9, 3, 8, 0, 172), (0, 103, .bipush 15, 2, 0, 15, 0), (0, 105, .iload_n 2, 1, 0, 0, 0), (0, 106, .imul, 1, 0, 0, 0), (0, 107, .iload 4, 2, 0, 0, 0), (0, 109, .iadd, 1, 0, 0, 0), (0, 110, .iload_n 1, 1, 0, 0, 0), (3, 111, .iastore, 1, 0, 0, 0), (0, 112, .aload_n 0, 1, 0, 0, 0), (3, 113, .getfield 15, 3, 8, 1, 175), (0, 116, .iload_n 1, 1, 0, 0, 0), (0, 117, .iload_n 2, 1, 0, 0, 0), (3, 118, .iastore, 1, 0, 0, 0), (0, 119, .aload_n 0, 1, 0, 0, 0), (3, 120, .getfield 18, 3, 8, 2, 178), (0, 123, .iload_n 1, 1, 0, 0, 0), (0, 124, .iload 4, 2, 0, 0, 0), (3, 126, .iastore, 1, 0, 0, 0), (0, 127, .iinc 1 1, 3, 0, 1, 0), (0, 130, .iinc 3 1, 3, 0, 1, 0), (2, 133, .goto (-90), 3, 23, 0, 0), (0, 136, .iinc 2 1, 3, 0, 1, 0), (2, 139, .goto (-104), 3, 18, 0, 0), (5, 142, .return_, 1, 0, 0, 0)]
def mt_X9_symbolAt : List mm_e := [(0, 0, .aload_n 0, 1, 0, 0, 0), (3, 1, .getfield 9, 3, 8, 0, 172), (0, 4, .iload_n 1, 1, 0, 0, 0), (3, 5, .iaload, 1, 0, 0, 0), (0, 6, .istore_n 2, 1, 0, 0, 0), (0, 7, .iload_n 2, 1, 0, 0, 0), (0, 8, .iconst (-1), 1, 0, 4294967295, 0), (1, 9, .if_icmp .eq 16, 3, 15, 0, 0), (0, 12, .iload_n 2, 1, 0, 0, 0), (0, 13, .sipush 168, 3, 0, 168, 0), (1, 16, .if_icmp .ge 9, 3, 15, 0, 0), (0, 19, .iload_n 2, 1, 0, 0, 0), (0, 20, .iconst 4, 1, 0, 4, 0), (0, 21, .idiv, 1, 0, 0, 0), (2, 22, .goto 4, 3, 16, 0, 0), (0, 25, .iconst (-1), 1, 0, 4294967295, 0), (5, 26, .ireturn, 1, 0, 0, 0)]
def mt_X10_init : List mm_e := [(0, 0, .aload_n 0, 1, 0, 0, 0), (3, 1, .invokespecial 3, 3, 0, 0, 108), (0, 4, .aload_n 0, 1, 0, 0, 0), (3, 5, .new 9, 3, 7, 0, 111), (0, 8, .dup, 1, 0, 0, 0), (0, 9, .bipush 14, 2, 0, 14, 0), (4, 11, .invokespecial 11, 3, 55, 113, 0), (3, 14, .putfield 14, 3, 9, 0, 370), (0, 17, .aload_n 0, 1, 0, 0, 0), (3, 18, .new 9, 3, 7, 0, 111), (0, 21, .dup, 1, 0, 0, 0), (0, 22, .iconst 3, 1, 0, 3, 0), (4, 23, .invokespecial 11, 3, 55, 113, 0), (3, 26, .putfield 18, 3, 9, 1, 371), (0, 29, .aload_n 0, 1, 0, 0, 0), (3, 30, .new 21, 3, 1, 0, 133), (0, 33, .dup, 1, 0, 0, 0), (4, 34, .invokespecial 23, 3, 2, 0, 1), (3, 37, .putfield 24, 3, 9, 2, 372), (0, 40, .aload_n 0, 1, 0, 0, 0), (3, 41, .new 28, 3, 8, 0, 161), (0, 44, .dup, 1, 0, 0, 0), (4, 45, .invokespecial 30, 3, 62, 163, 0), (3, 48, .putfield 31, 3, 9, 3, 373), (0, 51, .aload_n 0, 1, 0, 0, 0), (3, 52, .new 35, 3, 3, 0, 188), (0, 55, .dup, 1, 0, 0, 0), (4, 56, .invokespecial 37, 3, 25, 3, 1), (3, 59, .putfield 38, 3, 9, 4, 374), (0, 62, .aload_n 0, 1, 0, 0, 0), (3, 63, .new 42, 3, 2, 0, 216), (0, 66, .dup, 1, 0, 0, 0), (4, 67, .invokespecial 44, 3, 12, 4, 1), (3, 70, .putfield 45, 3, 9, 5, 375), (0, 73, .aload_n 0, 1, 0, 0, 0), (3, 74, .new 49, 3, 4, 0, 261), (0, 77, .dup, 1, 0, 0, 0), (4, 78, .invokespecial 51, 3, 35, 263, 0), (3, 81, .putfield 52, 3, 9, 6, 376), (0, 84, .aload_n 0, 1, 0, 0, 0), (3, 85, .new 56, 3, 6, 0, 324), (0, 88, .dup, 1, 0, 0, 0), (4, 89, .invokespecial 58, 3, 50, 6, 1), (3, 92, .putfield 59, 3, 9, 7, 377), (0, 95, .aload_n 0, 1, 0, 0, 0), (0, 96, .iconst 4, 1, 0, 4, 0), (3, 97, .anewarray 63, 3, 2, 0, 346), (3, 100, .putfield 65, 3, 9, 8, 378), (0, 103, .aload_n 0, 1, 0, 0, 0), (0, 104, .iconst 0, 1, 0, 0, 0), (3, 105, .putfield 69, 3, 9, 10, 380), (0, 108, .iconst 0, 1, 0, 0, 0), (0, 109, .istore_n 1, 1, 0, 0, 0), (0, 110, .iload_n 1, 1, 0, 0, 0), (0, 111, .iconst 4, 1, 0, 4, 0), (1, 112, .if_icmp .ge 22, 3, 65, 0, 0), (0, 115, .aload_n 0, 1, 0, 0, 0), (3, 116, .getfield 65, 3, 9, 8, 378), (0, 119, .iload_n 1, 1, 0, 0, 0), (3, 120, .new 63, 3, 5, 0, 346), (0, 123, .dup, 1, 0, 0, 0), (4, 124, .invokespecial 73, 3, 45, 7, 1), (3, 127, .aastore, 1, 0, 0, 0), (0, 128, .iinc 1 1, 3, 0, 1, 0), (2, 131, .goto (-21), 3, 53, 0, 0), (5, 134, .return_, 1, 0, 0, 0)]
def mt_X10_type : List mm_e := [(0, 0, .iload_n 1, 1, 0, 0, 0), (0, 1, .iconst 2, 1, 0, 2, 0), (4, 2, .invokestatic 74, 3, 113, 408, 0), (1, 5, .ifCond .eq 13, 3, 8, 0, 0), (0, 8, .iload_n 2, 1, 0, 0, 0), (0, 9, .sipush 256, 3, 0, 256, 0), (4, 12, .invokestatic 74, 3, 113, 408, 0), (1, 15, .ifCond .ne 6, 3, 10, 0, 0), (0, 18, .bipush (-2), 2, 0, 4294967294, 0), (5, 20, .ireturn, 1, 0, 0, 0), (0, 21, .aload_n 0, 1, 0, 0, 0), (0, 22, .iload_n 1, 1, 0, 0, 0), (4, 23, .invokevirtual 78, 3, 111, 411, 0), (0, 26, .astore_n 3, 1, 0, 0, 0), (0, 27, .aload_n 3, 1, 0, 0, 0), (4, 28, .invokevirtual 82, 3, 56, 415, 0), (1, 31, .ifCond .eq 6, 3, 19, 0, 0), (0, 34, .bipush (-4), 2, 0, 4294967292, 0), (5, 36, .ireturn, 1, 0, 0, 0), (0, 37, .aload_n 3, 1, 0, 0, 0), (0, 38, .iload_n 2, 1, 0, 0, 0), (4, 39, .invokevirtual 86, 3, 57, 419, 0), (0, 42, .aload_n 0, 1, 0, 0, 0), (0, 43, .iconst 0, 1, 0, 0, 0), (3, 44, .putfield 69, 3, 9, 10, 380), (0, 47, .aload_n 3, 1, 0, 0, 0), (3, 48, .getfield 89, 3, 7, 2, 124), (5, 51, .ireturn, 1, 0, 0, 0)]
def mt_X10_wipe : List mm_e := [(0, 0, .iload_n 1, 1, 0, 0, 0), (0, 1, .iconst 2, 1, 0, 2, 0), (4, 2, .invokestatic 74, 3, 113, 408, 0), (1, 5, .ifCond .ne 6, 3, 6, 0, 0), (0, 8, .bipush (-2), 2, 0, 4294967294, 0), (5, 10, .ireturn, 1, 0, 0, 0), (0, 11, .aload_n 0, 1, 0, 0, 0), (0, 12, .iload_n 1, 1, 0, 0, 0), (4, 13, .invokevirtual 78, 3, 111, 411, 0), (0, 16, .astore_n 2, 1, 0, 0, 0), (0, 17, .aload_n 2, 1, 0, 0, 0), (3, 18, .getfield 89, 3, 7, 2, 124), (0, 21, .istore_n 3, 1, 0, 0, 0), (0, 22, .aload_n 2, 1, 0, 0, 0), (0, 23, .iconst 0, 1, 0, 0, 0), (3, 24, .putfield 89, 3, 7, 2, 124), (0, 27, .aload_n 0, 1, 0, 0, 0), (0, 28, .iconst 0, 1, 0, 0, 0), (3, 29, .putfield 69, 3, 9, 10, 380), (0, 32, .iload_n 3, 1, 0, 0, 0), (5, 33, .ireturn, 1, 0, 0, 0)]
def mt_X10_undo : List mm_e := [(0, 0, .iload_n 1, 1, 0, 0, 0), (0, 1, .iconst 2, 1, 0, 2, 0), (4, 2, .invokestatic 74, 3, 113, 408, 0), (1, 5, .ifCond .ne 6, 3, 6, 0, 0), (0, 8, .bipush (-2), 2, 0, 4294967294, 0), (5, 10, .ireturn, 1, 0, 0, 0), (0, 11, .aload_n 0, 1, 0, 0, 0), (0, 12, .iload_n 1, 1, 0, 0, 0), (4, 13, .invokevirtual 78, 3, 111, 411, 0), (0, 16, .astore_n 2, 1, 0, 0, 0), (0, 17, .aload_n 2, 1, 0, 0, 0), (3, 18, .getfield 89, 3, 7, 2, 124), (1, 21, .ifCond .ne 6, 3, 15, 0, 0), (0, 24, .bipush (-3), 2, 0, 4294967293, 0), (5, 26, .ireturn, 1, 0, 0, 0), (0, 27, .aload_n 2, 1, 0, 0, 0), (0, 28, .dup, 1, 0, 0, 0), (3, 29, .getfield 89, 3, 7, 2, 124), (0, 32, .iconst 1, 1, 0, 1, 0), (0, 33, .isub, 1, 0, 0, 0), (3, 34, .putfield 89, 3, 7, 2, 124), (0, 37, .aload_n 0, 1, 0, 0, 0), (0, 38, .iconst 0, 1, 0, 0, 0), (3, 39, .putfield 69, 3, 9, 10, 380), (0, 42, .aload_n 2, 1, 0, 0, 0), (3, 43, .getfield 89, 3, 7, 2, 124), (5, 46, .ireturn, 1, 0, 0, 0)]
def mt_X10_fault : List mm_e := [(0, 0, .aload_n 0, 1, 0, 0, 0), (3, 1, .getfield 18, 3, 9, 1, 371), (4, 4, .invokevirtual 92, 3, 59, 435, 0), (5, 7, .ireturn, 1, 0, 0, 0)]
def mt_X10_read : List mm_e := [(0, 0, .iload_n 1, 1, 0, 0, 0), (0, 1, .iconst 4, 1, 0, 4, 0), (4, 2, .invokestatic 74, 3, 113, 408, 0), (1, 5, .ifCond .ne 6, 3, 6, 0, 0), (0, 8, .bipush (-2), 2, 0, 4294967294, 0), (5, 10, .ireturn, 1, 0, 0, 0), (0, 11, .aload_n 0, 1, 0, 0, 0), (3, 12, .getfield 65, 3, 9, 8, 378), (0, 15, .iload_n 1, 1, 0, 0, 0), (3, 16, .aaload, 1, 0, 0, 0), (0, 17, .astore_n 2, 1, 0, 0, 0), (0, 18, .aload_n 2, 1, 0, 0, 0), (3, 19, .getfield 96, 3, 5, 0, 354), (1, 22, .ifCond .ne 9, 3, 18, 0, 0), (0, 25, .aload_n 0, 1, 0, 0, 0), (0, 26, .iconst 1, 1, 0, 1, 0), (4, 27, .invokevirtual 100, 3, 112, 493, 0), (5, 30, .ireturn, 1, 0, 0, 0), (0, 31, .iconst 0, 1, 0, 0, 0), (0, 32, .istore_n 3, 1, 0, 0, 0), (0, 33, .iload_n 3, 1, 0, 0, 0), (0, 34, .aload_n 2, 1, 0, 0, 0), (3, 35, .getfield 104, 3, 5, 2, 358), (1, 38, .if_icmp .ge 47, 3, 44, 0, 0), (0, 41, .aload_n 2, 1, 0, 0, 0), (3, 42, .getfield 107, 3, 5, 3, 360), (0, 45, .iload_n 3, 1, 0, 0, 0), (3, 46, .iaload, 1, 0, 0, 0), (0, 47, .sipush 256, 3, 0, 256, 0), (4, 50, .invokestatic 74, 3, 113, 408, 0), (1, 53, .ifCond .eq 32, 3, 44, 0, 0), (0, 56, .aload_n 0, 1, 0, 0, 0), (3, 57, .getfield 14, 3, 9, 0, 370), (4, 60, .invokevirtual 82, 3, 56, 415, 0), (1, 63, .ifCond .ne 22, 3, 44, 0, 0), (0, 66, .aload_n 0, 1, 0, 0, 0), (3, 67, .getfield 14, 3, 9, 0, 370), (0, 70, .aload_n 2, 1, 0, 0, 0), (3, 71, .getfield 107, 3, 5, 3, 360), (0, 74, .iload_n 3, 1, 0, 0, 0), (3, 75, .iaload, 1, 0, 0, 0), (4, 76, .invokevirtual 86, 3, 57, 419, 0), (0, 79, .iinc 3 1, 3, 0, 1, 0), (2, 82, .goto (-49), 3, 20, 0, 0), (0, 85, .aload_n 0, 1, 0, 0, 0), (0, 86, .iconst 0, 1, 0, 0, 0), (3, 87, .putfield 69, 3, 9, 10, 380), (0, 90, .iload_n 3, 1, 0, 0, 0), (5, 91, .ireturn, 1, 0, 0, 0)]
def mt_X10_field : List mm_e := [(0, 0, .iload_n 1, 1, 0, 0, 0), (0, 1, .bipush 16, 2, 0, 16, 0), (4, 3, .invokestatic 74, 3, 113, 408, 0), (1, 6, .ifCond .eq 20, 3, 12, 0, 0), (0, 9, .iload_n 2, 1, 0, 0, 0), (0, 10, .bipush 16, 2, 0, 16, 0), (4, 12, .invokestatic 74, 3, 113, 408, 0), (1, 15, .ifCond .eq 11, 3, 12, 0, 0), (0, 18, .iload_n 3, 1, 0, 0, 0), (0, 19, .iconst 3, 1, 0, 3, 0), (4, 20, .invokestatic 74, 3, 113, 408, 0), (1, 23, .ifCond .ne 6, 3, 14, 0, 0), (0, 26, .bipush (-2), 2, 0, 4294967294, 0), (5, 28, .ireturn, 1, 0, 0, 0), (0, 29, .iload_n 3, 1, 0, 0, 0), (1, 30, .ifCond .ne 9, 3, 20, 0, 0), (0, 33, .iload_n 1, 1, 0, 0, 0), (0, 34, .iload_n 2, 1, 0, 0, 0), (4, 35, .invokestatic 111, 3, 8, 501, 0), (5, 38, .ireturn, 1, 0, 0, 0), (0, 39, .iload_n 3, 1, 0, 0, 0), (0, 40, .iconst 1, 1, 0, 1, 0), (1, 41, .if_icmp .ne 11, 3, 27, 0, 0), (0, 44, .iload_n 1, 1, 0, 0, 0), (0, 45, .iload_n 2, 1, 0, 0, 0), (4, 46, .invokestatic 117, 3, 9, 508, 0), (2, 49, .goto 8, 3, 30, 0, 0), (0, 52, .iload_n 1, 1, 0, 0, 0), (0, 53, .iload_n 2, 1, 0, 0, 0), (4, 54, .invokestatic 120, 3, 10, 511, 0), (5, 57, .ireturn, 1, 0, 0, 0)]
def mt_X10_mark : List mm_e := [(0, 0, .iload_n 1, 1, 0, 0, 0), (0, 1, .iconst 4, 1, 0, 4, 0), (4, 2, .invokestatic 74, 3, 113, 408, 0), (1, 5, .ifCond .ne 6, 3, 6, 0, 0), (0, 8, .bipush (-2), 2, 0, 4294967294, 0), (5, 10, .ireturn, 1, 0, 0, 0), (0, 11, .aload_n 0, 1, 0, 0, 0), (0, 12, .iconst 0, 1, 0, 0, 0), (4, 13, .invokevirtual 123, 3, 109, 521, 0), (0, 16, .aload_n 0, 1, 0, 0, 0), (0, 17, .iload_n 1, 1, 0, 0, 0), (4, 18, .invokevirtual 126, 3, 98, 728, 0), (5, 21, .ireturn, 1, 0, 0, 0)]
def mt_X10_symbol : List mm_e := [(0, 0, .iload_n 1, 1, 0, 0, 0), (0, 1, .iconst 3, 1, 0, 3, 0), (4, 2, .invokestatic 74, 3, 113, 408, 0), (1, 5, .ifCond .eq 12, 3, 8, 0, 0), (0, 8, .iload_n 2, 1, 0, 0, 0), (0, 9, .bipush 14, 2, 0, 14, 0), (4, 11, .invokestatic 74, 3, 113, 408, 0), (1, 14, .ifCond .ne 6, 3, 10, 0, 0), (0, 17, .bipush (-2), 2, 0, 4294967294, 0), (5, 19, .ireturn, 1, 0, 0, 0), (0, 20, .aload_n 0, 1, 0, 0, 0), (0, 21, .iconst 0, 1, 0, 0, 0), (4, 22, .invokevirtual 123, 3, 109, 521, 0), (0, 25, .aload_n 0, 1, 0, 0, 0), (0, 26, .iload_n 1, 1, 0, 0, 0), (0, 27, .iload_n 2, 1, 0, 0, 0), (4, 28, .invokevirtual 129, 3, 99, 736, 0), (5, 31, .ireturn, 1, 0, 0, 0)]
def mt_X10_dots : List mm_e := [(0, 0, .iload_n 1, 1, 0, 0, 0), (0, 1, .iconst (-1), 1, 0, 4294967295, 0), (1, 2, .if_icmp .eq 11, 3, 7, 0, 0), (0, 5, .iload_n 1, 1, 0, 0, 0), (0, 6, .iconst 4, 1, 0, 4, 0), (4, 7, .invokestatic 74, 3, 113, 408, 0), (1, 10, .ifCond .eq 12, 3, 11, 0, 0), (0, 13, .iload_n 2, 1, 0, 0, 0), (0, 14, .bipush 15, 2, 0, 15, 0), (4, 16, .invokestatic 74, 3, 113, 408, 0), (1, 19, .ifCond .ne 6, 3, 13, 0, 0), (0, 22, .bipush (-2), 2, 0, 4294967294, 0), (5, 24, .ireturn, 1, 0, 0, 0), (0, 25, .aload_n 0, 1, 0, 0, 0), (0, 26, .iconst 0, 1, 0, 0, 0), (4, 27, .invokevirtual 123, 3, 109, 521, 0), (0, 30, .aload_n 0, 1, 0, 0, 0), (0, 31, .iload_n 1, 1, 0, 0, 0), (0, 32, .iload_n 2, 1, 0, 0, 0), (4, 33, .invokevirtual 132, 3, 100, 744, 0), (5, 36, .ireturn, 1, 0, 0, 0)]
def mt_X10_penalty : List mm_e := [(0, 0, .iload_n 1, 1, 0, 0, 0), (0, 1, .iconst 4, 1, 0, 4, 0), (4, 2, .invokestatic 74, 3, 113, 408, 0), (1, 5, .ifCond .ne 6, 3, 6, 0, 0), (0, 8, .bipush (-2), 2, 0, 4294967294, 0), (5, 10, .ireturn, 1, 0, 0, 0), (0, 11, .aload_n 0, 1, 0, 0, 0), (0, 12, .iconst 0, 1, 0, 0, 0), (4, 13, .invokevirtual 123, 3, 109, 521, 0), (0, 16, .aload_n 0, 1, 0, 0, 0), (0, 17, .iload_n 1, 1, 0, 0, 0), (4, 18, .invokevirtual 135, 3, 101, 752, 0), (5, 21, .ireturn, 1, 0, 0, 0)]
def mt_X10_place : List mm_e := [(0, 0, .iload_n 1, 1, 0, 0, 0), (0, 1, .iload_n 2, 1, 0, 0, 0), (4, 2, .invokestatic 138, 3, 114, 760, 0), (1, 5, .ifCond .eq 11, 3, 8, 0, 0), (0, 8, .iload_n 3, 1, 0, 0, 0), (0, 9, .iconst 2, 1, 0, 2, 0), (4, 10, .invokestatic 74, 3, 113, 408, 0), (1, 13, .ifCond .ne 6, 3, 10, 0, 0), (0, 16, .bipush (-2), 2, 0, 4294967294, 0), (5, 18, .ireturn, 1, 0, 0, 0), (0, 19, .bipush 15, 2, 0, 15, 0), (0, 21, .iload_n 1, 1, 0, 0, 0), (0, 22, .imul, 1, 0, 0, 0), (0, 23, .iload_n 2, 1, 0, 0, 0), (0, 24, .iadd, 1, 0, 0, 0), (0, 25, .istore 4, 2, 0, 0, 0), (0, 27, .iload_n 3, 1, 0, 0, 0), (1, 28, .ifCond .ne 16, 3, 24, 0, 0), (0, 31, .aload_n 0, 1, 0, 0, 0), (3, 32, .getfield 31, 3, 9, 3, 373), (3, 35, .getfield 141, 3, 8, 0, 174), (0, 38, .iload 4, 2, 0, 0, 0), (3, 40, .iaload, 1, 0, 0, 0), (2, 41, .goto 12, 3, 28, 0, 0), (0, 44, .aload_n 0, 1, 0, 0, 0), (3, 45, .getfield 31, 3, 9, 3, 373), (0, 48, .iload 4, 2, 0, 0, 0), (4, 50, .invokevirtual 144, 3, 63, 763, 0), (5, 53, .ireturn, 1, 0, 0, 0)]
def mt_X10_turn : List mm_e := [(0, 0, .iload_n 1, 1, 0, 0, 0), (0, 1, .iload_n 2, 1, 0, 0, 0), (4, 2, .invokestatic 138, 3, 114, 760, 0), (1, 5, .ifCond .ne 6, 3, 6, 0, 0), (0, 8, .bipush (-2), 2, 0, 4294967294, 0), (5, 10, .ireturn, 1, 0, 0, 0), (0, 11, .aload_n 0, 1, 0, 0, 0), (3, 12, .getfield 24, 3, 9, 2, 372), (0, 15, .bipush 15, 2, 0, 15, 0), (0, 17, .iload_n 1, 1, 0, 0, 0), (0, 18, .imul, 1, 0, 0, 0), (0, 19, .iload_n 2, 1, 0, 0, 0), (0, 20, .iadd, 1, 0, 0, 0), (4, 21, .invokevirtual 147, 3, 3, 768, 0), (0, 24, .aload_n 0, 1, 0, 0, 0), (4, 25, .invokevirtual 150, 3, 110, 777, 0), (0, 28, .aload_n 0, 1, 0, 0, 0), (3, 29, .getfield 24, 3, 9, 2, 372), (3, 32, .getfield 153, 3, 1, 0, 141), (4, 35, .invokestatic 156, 3, 116, 782, 0), (5, 38, .ireturn, 1, 0, 0, 0)]
def mt_X10_lost : List mm_e := [(0, 0, .iload_n 1, 1, 0, 0, 0), (0, 1, .iload_n 2, 1, 0, 0, 0), (4, 2, .invokestatic 138, 3, 114, 760, 0), (1, 5, .ifCond .ne 6, 3, 6, 0, 0), (0, 8, .bipush (-2), 2, 0, 4294967294, 0), (5, 10, .ireturn, 1, 0, 0, 0), (0, 11, .aload_n 0, 1, 0, 0, 0), (3, 12, .getfield 24, 3, 9, 2, 372), (0, 15, .sipush 225, 3, 0, 225, 0), (0, 18, .bipush 15, 2, 0, 15, 0), (0, 20, .iload_n 1, 1, 0, 0, 0), (0, 21, .imul, 1, 0, 0, 0), (0, 22, .iadd, 1, 0, 0, 0), (0, 23, .iload_n 2, 1, 0, 0, 0), (0, 24, .iadd, 1, 0, 0, 0), (4, 25, .invokevirtual 147, 3, 3, 768, 0), (0, 28, .aload_n 0, 1, 0, 0, 0), (4, 29, .invokevirtual 150, 3, 110, 777, 0), (0, 32, .aload_n 0, 1, 0, 0, 0), (3, 33, .getfield 24, 3, 9, 2, 372), (3, 36, .getfield 160, 3, 1, 1, 145), (4, 39, .invokestatic 156, 3, 116, 782, 0), (5, 42, .ireturn, 1, 0, 0, 0)]
def mt_X10_back : List mm_e := [(0, 0, .aload_n 0, 1, 0, 0, 0), (3, 1, .getfield 24, 3, 9, 2, 372), (3, 4, .getfield 163, 3, 1, 2, 147), (1, 7, .ifCond .ne 6, 3, 6, 0, 0), (0, 10, .bipush (-3), 2, 0, 4294967293, 0), (5, 12, .ireturn, 1, 0, 0, 0), (0, 13, .aload_n 0, 1, 0, 0, 0), (3, 14, .getfield 24, 3, 9, 2, 372), (4, 17, .invokevirtual 166, 3, 4, 791, 0), (0, 20, .aload_n 0, 1, 0, 0, 0), (4, 21, .invokevirtual 150, 3, 110, 777, 0), (0, 24, .aload_n 0, 1, 0, 0, 0), (3, 25, .getfield 24, 3, 9, 2, 372), (3, 28, .getfield 163, 3, 1, 2, 147), (5, 31, .ireturn, 1, 0, 0, 0)]
def mt_X10_heal : List mm_e := [(0, 0, .aload_n 0, 1, 0, 0, 0), (3, 1, .getfield 24, 3, 9, 2, 372), (4, 4, .invokevirtual 169, 3, 6, 799, 0), (0, 7, .istore_n 1, 1, 0, 0, 0), (0, 8, .aload_n 0, 1, 0, 0, 0), (3, 9, .getfield 24, 3, 9, 2, 372), (4, 12, .invokevirtual 172, 3, 5, 804, 0), (0, 15, .aload_n 0, 1, 0, 0, 0), (4, 16, .invokevirtual 150, 3, 110, 777, 0), (0, 19, .iload_n 1, 1, 0, 0, 0), (5, 20, .ireturn, 1, 0, 0, 0)]
def mt_X10_seen : List mm_e := [(0, 0, .iload_n 1, 1, 0, 0, 0), (0, 1, .iload_n 2, 1, 0, 0, 0), (4, 2, .invokestatic 138, 3, 114, 760, 0), (1, 5, .ifCond .ne 6, 3, 6, 0, 0), (0, 8, .bipush (-2), 2, 0, 4294967294, 0), (5, 10, .ireturn, 1, 0, 0, 0), (0, 11, .aload_n 0, 1, 0, 0, 0), (0, 12, .iconst 0, 1, 0, 0, 0), (4, 13, .invokevirtual 123, 3, 109, 521, 0), (0, 16, .aload_n 0, 1, 0, 0, 0), (0, 17, .iload_n 1, 1, 0, 0, 0), (0, 18, .iload_n 2, 1, 0, 0, 0), (4, 19, .invokevirtual 175, 3, 102, 812, 0), (5, 22, .ireturn, 1, 0, 0, 0)]
def mt_X10_why : List mm_e := [(0, 0, .aload_n 0, 1, 0, 0, 0), (0, 1, .iconst 1, 1, 0, 1, 0), (4, 2, .invokevirtual 123, 3, 109, 521, 0), (0, 5, .aload_n 0, 1, 0, 0, 0), (3, 6, .getfield 52, 3, 9, 6, 376), (3, 9, .getfield 178, 3, 4, 0, 299), (5, 12, .ireturn, 1, 0, 0, 0)]
def mt_X10_told : List mm_e := [(0, 0, .iload_n 1, 1, 0, 0, 0), (0, 1, .iconst (-1), 1, 0, 4294967295, 0), (1, 2, .if_icmp .eq 15, 3, 9, 0, 0), (0, 5, .iload_n 1, 1, 0, 0, 0), (0, 6, .bipush 14, 2, 0, 14, 0), (4, 8, .invokestatic 74, 3, 113, 408, 0), (1, 11, .ifCond .ne 6, 3, 9, 0, 0), (0, 14, .bipush (-2), 2, 0, 4294967294, 0), (5, 16, .ireturn, 1, 0, 0, 0), (0, 17, .aload_n 0, 1, 0, 0, 0), (0, 18, .iconst 1, 1, 0, 1, 0), (4, 19, .invokevirtual 123, 3, 109, 521, 0), (0, 22, .aload_n 0, 1, 0, 0, 0), (0, 23, .iload_n 1, 1, 0, 0, 0), (4, 24, .invokevirtual 181, 3, 103, 826, 0), (5, 27, .ireturn, 1, 0, 0, 0)]
def mt_X10_format : List mm_e := [(0, 0, .iload_n 1, 1, 0, 0, 0), (0, 1, .iconst 2, 1, 0, 2, 0), (4, 2, .invokestatic 74, 3, 113, 408, 0), (1, 5, .ifCond .ne 6, 3, 6, 0, 0), (0, 8, .bipush (-2), 2, 0, 4294967294, 0), (5, 10, .ireturn, 1, 0, 0, 0), (0, 11, .aload_n 0, 1, 0, 0, 0), (0, 12, .iconst 1, 1, 0, 1, 0), (4, 13, .invokevirtual 123, 3, 109, 521, 0), (0, 16, .aload_n 0, 1, 0, 0, 0), (0, 17, .iload_n 1, 1, 0, 0, 0), (4, 18, .invokevirtual 184, 3, 104, 835, 0), (5, 21, .ireturn, 1, 0, 0, 0)]
def mt_X10_block : List mm_e := [(0, 0, .iload_n 1, 1, 0, 0, 0), (0, 1, .iconst 3, 1, 0, 3, 0), (4, 2, .invokestatic 74, 3, 113, 408, 0), (1, 5, .ifCond .eq 11, 3, 8, 0, 0), (0, 8, .iload_n 2, 1, 0, 0, 0), (0, 9, .iconst 3, 1, 0, 3, 0), (4, 10, .invokestatic 74, 3, 113, 408, 0), (1, 13, .ifCond .ne 6, 3, 10, 0, 0), (0, 16, .bipush (-2), 2, 0, 4294967294, 0), (5, 18, .ireturn, 1, 0, 0, 0), (0, 19, .aload_n 0, 1, 0, 0, 0), (0, 20, .iconst 1, 1, 0, 1, 0), (4, 21, .invokevirtual 123, 3, 109, 521, 0), (0, 24, .aload_n 0, 1, 0, 0, 0), (0, 25, .iload_n 1, 1, 0, 0, 0), (0, 26, .iload_n 2, 1, 0, 0, 0), (4, 27, .invokevirtual 187, 3, 105, 846, 0), (5, 30, .ireturn, 1, 0, 0, 0)]
def mt_X10_mended : List mm_e := [(0, 0, .iload_n 1, 1, 0, 0, 0), (0, 1, .iconst 3, 1, 0, 3, 0), (4, 2, .invokestatic 74, 3, 113, 408, 0), (1, 5, .ifCond .eq 12, 3, 8, 0, 0), (0, 8, .iload_n 2, 1, 0, 0, 0), (0, 9, .bipush 14, 2, 0, 14, 0), (4, 11, .invokestatic 74, 3, 113, 408, 0), (1, 14, .ifCond .ne 6, 3, 10, 0, 0), (0, 17, .bipush (-2), 2, 0, 4294967294, 0), (5, 19, .ireturn, 1, 0, 0, 0), (0, 20, .aload_n 0, 1, 0, 0, 0), (0, 21, .iconst 1, 1, 0, 1, 0), (4, 22, .invokevirtual 123, 3, 109, 521, 0), (0, 25, .aload_n 0, 1, 0, 0, 0), (0, 26, .iload_n 1, 1, 0, 0, 0), (0, 27, .iload_n 2, 1, 0, 0, 0), (4, 28, .invokevirtual 190, 3, 106, 855, 0), (5, 31, .ireturn, 1, 0, 0, 0)]
def mt_X10_straw : List mm_e := [(0, 0, .iload_n 1, 1, 0, 0, 0), (0, 1, .iconst 2, 1, 0, 2, 0), (4, 2, .invokestatic 74, 3, 113, 408, 0), (1, 5, .ifCond .ne 6, 3, 6, 0, 0), (0, 8, .bipush (-2), 2, 0, 4294967294, 0), (5, 10, .ireturn, 1, 0, 0, 0), (0, 11, .aload_n 0, 1, 0, 0, 0), (0, 12, .iconst 2, 1, 0, 2, 0), (4, 13, .invokevirtual 123, 3, 109, 521, 0), (0, 16, .aload_n 0, 1, 0, 0, 0), (0, 17, .iload_n 1, 1, 0, 0, 0), (4, 18, .invokevirtual 193, 3, 107, 863, 0), (5, 21, .ireturn, 1, 0, 0, 0)]
def mt_X10_sheet : List mm_e := [(0, 0, .iload_n 1, 1, 0, 0, 0), (0, 1, .iconst 4, 1, 0, 4, 0), (4, 2, .invokestatic 74, 3, 113, 408, 0), (1, 5, .ifCond .eq 17, 3, 11, 0, 0), (0, 8, .iload_n 2, 1, 0, 0, 0), (0, 9, .iconst 3, 1, 0, 3, 0), (4, 10, .invokestatic 74, 3, 113, 408, 0), (1, 13, .ifCond .eq 9, 3, 11, 0, 0), (0, 16, .iload_n 3, 1, 0, 0, 0), (0, 17, .bipush 60, 2, 0, 60, 0), (1, 19, .if_icmp .le 6, 3, 13, 0, 0), (0, 22, .bipush (-2), 2, 0, 4294967294, 0), (5, 24, .ireturn, 1, 0, 0, 0), (0, 25, .iload_n 3, 1, 0, 0, 0), (1, 26, .ifCond .ge 9, 3, 19, 0, 0), (0, 29, .aload_n 0, 1, 0, 0, 0), (0, 30, .iconst 5, 1, 0, 5, 0), (4, 31, .invokevirtual 100, 3, 112, 493, 0), (5, 34, .ireturn, 1, 0, 0, 0), (0, 35, .aload_n 0, 1, 0, 0, 0), (3, 36, .getfield 65, 3, 9, 8, 378), (0, 39, .iload_n 1, 1, 0, 0, 0), (3, 40, .aaload, 1, 0, 0, 0), (0, 41, .iload_n 2, 1, 0, 0, 0), (0, 42, .iload_n 3, 1, 0, 0, 0), (4, 43, .invokevirtual 196, 3, 46, 871, 0), (0, 46, .iload_n 3, 1, 0, 0, 0), (5, 47, .ireturn, 1, 0, 0, 0)]
def mt_X10_lose : List mm_e := [(0, 0, .iload_n 1, 1, 0, 0, 0), (0, 1, .iconst 4, 1, 0, 4, 0), (4, 2, .invokestatic 74, 3, 113, 408, 0), (1, 5, .ifCond .ne 6, 3, 6, 0, 0), (0, 8, .bipush (-2), 2, 0, 4294967294, 0), (5, 10, .ireturn, 1, 0, 0, 0), (0, 11, .aload_n 0, 1, 0, 0, 0), (3, 12, .getfield 65, 3, 9, 8, 378), (0, 15, .iload_n 1, 1, 0, 0, 0), (3, 16, .aaload, 1, 0, 0, 0), (3, 17, .getfield 96, 3, 5, 0, 354), (1, 20, .ifCond .ne 9, 3, 16, 0, 0), (0, 23, .aload_n 0, 1, 0, 0, 0), (0, 24, .iconst 1, 1, 0, 1, 0), (4, 25, .invokevirtual 100, 3, 112, 493, 0), (5, 28, .ireturn, 1, 0, 0, 0), (0, 29, .aload_n 0, 1, 0, 0, 0), (3, 30, .getfield 65, 3, 9, 8, 378), (0, 33, .iload_n 1, 1, 0, 0, 0), (3, 34, .aaload, 1, 0, 0, 0), (0, 35, .iconst 0, 1, 0, 0, 0), (3, 36, .putfield 96, 3, 5, 0, 354), (0, 39, .aload_n 0, 1, 0, 0, 0), (3, 40, .getfield 65, 3, 9, 8, 378), (0, 43, .iload_n 1, 1, 0, 0, 0), (3, 44, .aaload, 1, 0, 0, 0), (3, 45, .getfield 104, 3, 5, 2, 358), (5, 48, .ireturn, 1, 0, 0, 0)]
def mt_X10_lay : List mm_e := [(0, 0, .iload_n 1, 1, 0, 0, 0), (0, 1, .iconst 4, 1, 0, 4, 0), (4, 2, .invokestatic 74, 3, 113, 408, 0), (1, 5, .ifCond .eq 11, 3, 8, 0, 0), (0, 8, .iload_n 2, 1, 0, 0, 0), (0, 9, .iconst 3, 1, 0, 3, 0), (4, 10, .invokestatic 74, 3, 113, 408, 0), (1, 13, .ifCond .ne 6, 3, 10, 0, 0), (0, 16, .bipush (-2), 2, 0, 4294967294, 0), (5, 18, .ireturn, 1, 0, 0, 0), (0, 19, .aload_n 0, 1, 0, 0, 0), (3, 20, .getfield 65, 3, 9, 8, 378), (0, 23, .iload_n 1, 1, 0, 0, 0), (3, 24, .aaload, 1, 0, 0, 0), (0, 25, .iload_n 2, 1, 0, 0, 0), (0, 26, .iload_n 3, 1, 0, 0, 0), (4, 27, .invokevirtual 200, 3, 47, 883, 0), (0, 30, .istore 5, 2, 0, 0, 0), (0, 32, .iload 5, 2, 0, 0, 0), (1, 34, .ifCond .eq 10, 3, 24, 0, 0), (0, 37, .aload_n 0, 1, 0, 0, 0), (0, 38, .iload 5, 2, 0, 0, 0), (4, 40, .invokevirtual 100, 3, 112, 493, 0), (5, 43, .ireturn, 1, 0, 0, 0), (0, 44, .aload_n 0, 1, 0, 0, 0), (3, 45, .getfield 65, 3, 9, 8, 378), (0, 48, .iload_n 1, 1, 0, 0, 0), (3, 49, .aaload, 1, 0, 0, 0), (0, 50, .iload_n 3, 1, 0, 0, 0), (0, 51, .iload 4, 2, 0, 0, 0), (4, 53, .invokevirtual 203, 3, 48, 887, 0), (0, 56, .iconst 1, 1, 0, 1, 0), (5, 57, .ireturn, 1, 0, 0, 0)]
def mt_X10_get : List mm_e := [(0, 0, .iload_n 1, 1, 0, 0, 0), (0, 1, .iconst 4, 1, 0, 4, 0), (4, 2, .invokestatic 74, 3, 113, 408, 0), (1, 5, .ifCond .eq 11, 3, 8, 0, 0), (0, 8, .iload_n 2, 1, 0, 0, 0), (0, 9, .iconst 3, 1, 0, 3, 0), (4, 10, .invokestatic 74, 3, 113, 408, 0), (1, 13, .ifCond .ne 6, 3, 10, 0, 0), (0, 16, .ldc 208, 2, 0, 2147483648, 895), (5, 18, .ireturn, 1, 0, 0, 0), (0, 19, .aload_n 0, 1, 0, 0, 0), (3, 20, .getfield 65, 3, 9, 8, 378), (0, 23, .iload_n 1, 1, 0, 0, 0), (3, 24, .aaload, 1, 0, 0, 0), (0, 25, .iload_n 2, 1, 0, 0, 0), (0, 26, .iload_n 3, 1, 0, 0, 0), (4, 27, .invokevirtual 200, 3, 47, 883, 0), (0, 30, .istore 4, 2, 0, 0, 0), (0, 32, .iload 4, 2, 0, 0, 0), (1, 34, .ifCond .eq 13, 3, 26, 0, 0), (0, 37, .aload_n 0, 1, 0, 0, 0), (0, 38, .iload 4, 2, 0, 0, 0), (4, 40, .invokevirtual 100, 3, 112, 493, 0), (0, 43, .pop, 1, 0, 0, 0), (0, 44, .ldc 208, 2, 0, 2147483648, 895), (5, 46, .ireturn, 1, 0, 0, 0), (0, 47, .aload_n 0, 1, 0, 0, 0), (3, 48, .getfield 65, 3, 9, 8, 378), (0, 51, .iload_n 1, 1, 0, 0, 0), (3, 52, .aaload, 1, 0, 0, 0), (3, 53, .getfield 107, 3, 5, 3, 360), (0, 56, .iload_n 3, 1, 0, 0, 0), (3, 57, .iaload, 1, 0, 0, 0), (5, 58, .ireturn, 1, 0, 0, 0)]
def mt_X10_copy : List mm_e := [(0, 0, .iload_n 1, 1, 0, 0, 0), (0, 1, .iconst 4, 1, 0, 4, 0), (4, 2, .invokestatic 74, 3, 113, 408, 0), (1, 5, .ifCond .eq 11, 3, 8, 0, 0), (0, 8, .iload_n 3, 1, 0, 0, 0), (0, 9, .iconst 4, 1, 0, 4, 0), (4, 10, .invokestatic 74, 3, 113, 408, 0), (1, 13, .ifCond .ne 6, 3, 10, 0, 0), (0, 16, .bipush (-2), 2, 0, 4294967294, 0), (5, 18, .ireturn, 1, 0, 0, 0), (0, 19, .aload_n 0, 1, 0, 0, 0), (3, 20, .getfield 65, 3, 9, 8, 378), (0, 23, .iload_n 1, 1, 0, 0, 0), (3, 24, .aaload, 1, 0, 0, 0), (0, 25, .astore 6, 2, 0, 0, 0), (0, 27, .aload_n 0, 1, 0, 0, 0), (3, 28, .getfield 65, 3, 9, 8, 378), (0, 31, .iload_n 3, 1, 0, 0, 0), (3, 32, .aaload, 1, 0, 0, 0), (0, 33, .astore 7, 2, 0, 0, 0), (0, 35, .aload 6, 2, 0, 0, 0), (3, 37, .getfield 96, 3, 5, 0, 354), (1, 40, .ifCond .eq 11, 3, 26, 0, 0), (0, 43, .aload 7, 2, 0, 0, 0), (3, 45, .getfield 96, 3, 5, 0, 354), (1, 48, .ifCond .ne 9, 3, 30, 0, 0), (0, 51, .aload_n 0, 1, 0, 0, 0), (0, 52, .iconst 1, 1, 0, 1, 0), (4, 53, .invokevirtual 100, 3, 112, 493, 0), (5, 56, .ireturn, 1, 0, 0, 0), (0, 57, .aload 6, 2, 0, 0, 0), (3, 59, .getfield 209, 3, 5, 1, 356), (0, 62, .aload 7, 2, 0, 0, 0), (3, 64, .getfield 209, 3, 5, 1, 356), (1, 67, .if_icmp .eq 9, 3, 39, 0, 0), (0, 70, .aload_n 0, 1, 0, 0, 0), (0, 71, .iconst 4, 1, 0, 4, 0), (4, 72, .invokevirtual 100, 3, 112, 493, 0), (5, 75, .ireturn, 1, 0, 0, 0), (0, 76, .aload 6, 2, 0, 0, 0), (0, 78, .iload_n 2, 1, 0, 0, 0), (0, 79, .iload 5, 2, 0, 0, 0), (4, 81, .invokevirtual 212, 3, 49, 900, 0), (1, 84, .ifCond .eq 15, 3, 49, 0, 0), (0, 87, .aload 7, 2, 0, 0, 0), (0, 89, .iload 4, 2, 0, 0, 0), (0, 91, .iload 5, 2, 0, 0, 0), (4, 93, .invokevirtual 212, 3, 49, 900, 0), (1, 96, .ifCond .ne 9, 3, 53, 0, 0), (0, 99, .aload_n 0, 1, 0, 0, 0), (0, 100, .iconst 2, 1, 0, 2, 0), (4, 101, .invokevirtual 100, 3, 112, 493, 0), (5, 104, .ireturn, 1, 0, 0, 0), (0, 105, .aload 6, 2, 0, 0, 0), (3, 107, .getfield 107, 3, 5, 3, 360), (0, 110, .iload_n 2, 1, 0, 0, 0), (0, 111, .aload 7, 2, 0, 0, 0), (3, 113, .getfield 107, 3, 5, 3, 360), (0, 116, .iload 4, 2, 0, 0, 0), (0, 118, .iload 5, 2, 0, 0, 0), (3, 120, .invokestatic 215, 3, 0, 904, 904), (0, 123, .iconst 1, 1, 0, 1, 0), (5, 124, .ireturn, 1, 0, 0, 0)]
def mt_X10_write : List mm_e := [(0, 0, .iload_n 1, 1, 0, 0, 0), (0, 1, .bipush 15, 2, 0, 15, 0), (4, 3, .invokestatic 74, 3, 113, 408, 0), (1, 6, .ifCond .eq 11, 3, 8, 0, 0), (0, 9, .iload_n 2, 1, 0, 0, 0), (0, 10, .iconst 4, 1, 0, 4, 0), (4, 11, .invokestatic 74, 3, 113, 408, 0), (1, 14, .ifCond .ne 6, 3, 10, 0, 0), (0, 17, .bipush (-2), 2, 0, 4294967294, 0), (5, 19, .ireturn, 1, 0, 0, 0), (0, 20, .aload_n 0, 1, 0, 0, 0), (3, 21, .getfield 65, 3, 9, 8, 378), (0, 24, .iload_n 2, 1, 0, 0, 0), (3, 25, .aaload, 1, 0, 0, 0), (0, 26, .astore_n 3, 1, 0, 0, 0), (0, 27, .aload_n 3, 1, 0, 0, 0), (3, 28, .getfield 96, 3, 5, 0, 354), (1, 31, .ifCond .ne 9, 3, 22, 0, 0), (0, 34, .aload_n 0, 1, 0, 0, 0), (0, 35, .iconst 1, 1, 0, 1, 0), (4, 36, .invokevirtual 100, 3, 112, 493, 0), (5, 39, .ireturn, 1, 0, 0, 0), (0, 40, .aload_n 0, 1, 0, 0, 0), (0, 41, .iconst 0, 1, 0, 0, 0), (4, 42, .invokevirtual 123, 3, 109, 521, 0), (0, 45, .aload_n 0, 1, 0, 0, 0), (3, 46, .getfield 45, 3, 9, 5, 375), (3, 49, .getfield 221, 3, 2, 1, 228), (1, 52, .ifCond .ne 6, 3, 31, 0, 0), (0, 55, .bipush (-3), 2, 0, 4294967293, 0), (5, 57, .ireturn, 1, 0, 0, 0), (0, 58, .aload_n 3, 1, 0, 0, 0), (3, 59, .getfield 104, 3, 5, 2, 358), (0, 62, .bipush 15, 2, 0, 15, 0), (4, 64, .invokestatic 222, 3, 224, 781, 0), (0, 67, .istore 4, 2, 0, 0, 0), (0, 69, .iconst 0, 1, 0, 0, 0), (0, 70, .istore 5, 2, 0, 0, 0), (0, 72, .iload 5, 2, 0, 0, 0), (0, 74, .iload 4, 2, 0, 0, 0), (1, 76, .if_icmp .ge 22, 3, 50, 0, 0), (0, 79, .aload_n 3, 1, 0, 0, 0), (0, 80, .iload 5, 2, 0, 0, 0), (0, 82, .aload_n 0, 1, 0, 0, 0), (0, 83, .iload_n 1, 1, 0, 0, 0), (0, 84, .iload 5, 2, 0, 0, 0), (4, 86, .invokevirtual 175, 3, 102, 812, 0), (4, 89, .invokevirtual 203, 3, 48, 887, 0), (0, 92, .iinc 5 1, 3, 0, 1, 0), (2, 95, .goto (-23), 3, 38, 0, 0), (0, 98, .iload 4, 2, 0, 0, 0), (5, 100, .ireturn, 1, 0, 0, 0)]
def mt_X10_count : List mm_e := [(0, 0, .iload_n 1, 1, 0, 0, 0), (0, 1, .bipush 9, 2, 0, 9, 0), (4, 3, .invokestatic 74, 3, 113, 408, 0), (1, 6, .ifCond .ne 6, 3, 6, 0, 0), (0, 9, .bipush (-2), 2, 0, 4294967294, 0), (5, 11, .ireturn, 1, 0, 0, 0), (0, 12, .aload_n 0, 1, 0, 0, 0), (0, 13, .iload_n 1, 1, 0, 0, 0), (0, 14, .iconst 3, 1, 0, 3, 0), (1, 15, .if_icmp .ne 7, 3, 12, 0, 0), (0, 18, .iconst 1, 1, 0, 1, 0), (2, 19, .goto 4, 3, 13, 0, 0), (0, 22, .iconst 0, 1, 0, 0, 0), (4, 23, .invokevirtual 123, 3, 109, 521, 0), (0, 26, .aload_n 0, 1, 0, 0, 0), (0, 27, .iload_n 1, 1, 0, 0, 0), (4, 28, .invokevirtual 227, 3, 108, 913, 0), (5, 31, .ireturn, 1, 0, 0, 0)]
def mt_X10_digest : List mm_e := [(0, 0, .aload_n 0, 1, 0, 0, 0), (0, 1, .iconst 2, 1, 0, 2, 0), (4, 2, .invokevirtual 123, 3, 109, 521, 0), (0, 5, .ldc2_w 230, 3, 0, 17, 921), (0, 8, .lstore_n 1, 1, 0, 0, 0), (0, 9, .iconst 0, 1, 0, 0, 0), (0, 10, .istore_n 3, 1, 0, 0, 0), (0, 11, .iload_n 3, 1, 0, 0, 0), (0, 12, .bipush 8, 2, 0, 8, 0), (1, 14, .if_icmp .ge 22, 3, 21, 0, 0), (0, 17, .ldc2_w 232, 3, 0, 31, 922), (0, 20, .lload_n 1, 1, 0, 0, 0), (0, 21, .lmul, 1, 0, 0, 0), (0, 22, .aload_n 0, 1, 0, 0, 0), (0, 23, .iload_n 3, 1, 0, 0, 0), (4, 24, .invokevirtual 227, 3, 108, 913, 0), (0, 27, .i2l, 1, 0, 0, 0), (0, 28, .ladd, 1, 0, 0, 0), (0, 29, .lstore_n 1, 1, 0, 0, 0), (0, 30, .iinc 3 1, 3, 0, 1, 0), (2, 33, .goto (-22), 3, 7, 0, 0), (0, 36, .ldc2_w 232, 3, 0, 31, 922), (0, 39, .lload_n 1, 1, 0, 0, 0), (0, 40, .lmul, 1, 0, 0, 0), (0, 41, .aload_n 0, 1, 0, 0, 0), (3, 42, .getfield 18, 3, 9, 1, 371), (4, 45, .invokevirtual 92, 3, 59, 435, 0), (0, 48, .i2l, 1, 0, 0, 0), (0, 49, .ladd, 1, 0, 0, 0), (0, 50, .lstore_n 1, 1, 0, 0, 0), (0, 51, .iconst 0, 1, 0, 0, 0), (0, 52, .istore_n 3, 1, 0, 0, 0), (0, 53, .iload_n 3, 1, 0, 0, 0), (0, 54, .iconst 4, 1, 0, 4, 0), (1, 55, .if_icmp .ge 22, 3, 46, 0, 0), (0, 58, .ldc2_w 232, 3, 0, 31, 922), (0, 61, .lload_n 1, 1, 0, 0, 0), (0, 62, .lmul, 1, 0, 0, 0), (0, 63, .aload_n 0, 1, 0, 0, 0), (0, 64, .iload_n 3, 1, 0, 0, 0), (4, 65, .invokevirtual 126, 3, 98, 728, 0), (0, 68, .i2l, 1, 0, 0, 0), (0, 69, .ladd, 1, 0, 0, 0), (0, 70, .lstore_n 1, 1, 0, 0, 0), (0, 71, .iinc 3 1, 3, 0, 1, 0), (2, 74, .goto (-21), 3, 32, 0, 0), (0, 77, .aload_n 0, 1, 0, 0, 0), (0, 78, .lload_n 1, 1, 0, 0, 0), (4, 79, .invokevirtual 234, 3, 95, 923, 0), (0, 82, .lstore_n 1, 1, 0, 0, 0), (0, 83, .aload_n 0, 1, 0, 0, 0), (0, 84, .lload_n 1, 1, 0, 0, 0), (4, 85, .invokevirtual 238, 3, 96, 927, 0), (0, 88, .lstore_n 1, 1, 0, 0, 0), (0, 89, .aload_n 0, 1, 0, 0, 0), (0, 90, .lload_n 1, 1, 0, 0, 0), (4, 91, .invokevirtual 241, 3, 97, 931, 0), (5, 94, .lreturn, 1, 0, 0, 0)]
def mt_X10_withBlocks : List mm_e := [(0, 0, .lload_n 1, 1, 0, 0, 0), (0, 1, .lstore_n 3, 1, 0, 0, 0), (0, 2, .iconst 0, 1, 0, 0, 0), (0, 3, .istore 5, 2, 0, 0, 0), (0, 5, .iload 5, 2, 0, 0, 0), (0, 7, .iconst 3, 1, 0, 3, 0), (1, 8, .if_icmp .ge 88, 3, 53, 0, 0), (0, 11, .iconst 0, 1, 0, 0, 0), (0, 12, .istore 6, 2, 0, 0, 0), (0, 14, .iload 6, 2, 0, 0, 0), (0, 16, .bipush 14, 2, 0, 14, 0), (1, 18, .if_icmp .ge 41, 3, 34, 0, 0), (0, 21, .ldc2_w 232, 3, 0, 31, 922), (0, 24, .lload_n 3, 1, 0, 0, 0), (0, 25, .lmul, 1, 0, 0, 0), (0, 26, .aload_n 0, 1, 0, 0, 0), (0, 27, .iload 5, 2, 0, 0, 0), (0, 29, .iload 6, 2, 0, 0, 0), (4, 31, .invokevirtual 129, 3, 99, 736, 0), (0, 34, .i2l, 1, 0, 0, 0), (0, 35, .ladd, 1, 0, 0, 0), (0, 36, .lstore_n 3, 1, 0, 0, 0), (0, 37, .ldc2_w 232, 3, 0, 31, 922), (0, 40, .lload_n 3, 1, 0, 0, 0), (0, 41, .lmul, 1, 0, 0, 0), (0, 42, .aload_n 0, 1, 0, 0, 0), (0, 43, .iload 5, 2, 0, 0, 0), (0, 45, .iload 6, 2, 0, 0, 0), (4, 47, .invokevirtual 190, 3, 106, 855, 0), (0, 50, .i2l, 1, 0, 0, 0), (0, 51, .ladd, 1, 0, 0, 0), (0, 52, .lstore_n 3, 1, 0, 0, 0), (0, 53, .iinc 6 1, 3, 0, 1, 0), (2, 56, .goto (-42), 3, 9, 0, 0), (0, 59, .iconst 0, 1, 0, 0, 0), (0, 60, .istore 6, 2, 0, 0, 0), (0, 62, .iload 6, 2, 0, 0, 0), (0, 64, .iconst 3, 1, 0, 3, 0), (1, 65, .if_icmp .ge 25, 3, 51, 0, 0), (0, 68, .ldc2_w 232, 3, 0, 31, 922), (0, 71, .lload_n 3, 1, 0, 0, 0), (0, 72, .lmul, 1, 0, 0, 0), (0, 73, .aload_n 0, 1, 0, 0, 0), (0, 74, .iload 5, 2, 0, 0, 0), (0, 76, .iload 6, 2, 0, 0, 0), (4, 78, .invokevirtual 187, 3, 105, 846, 0), (0, 81, .i2l, 1, 0, 0, 0), (0, 82, .ladd, 1, 0, 0, 0), (0, 83, .lstore_n 3, 1, 0, 0, 0), (0, 84, .iinc 6 1, 3, 0, 1, 0), (2, 87, .goto (-25), 3, 36, 0, 0), (0, 90, .iinc 5 1, 3, 0, 1, 0), (2, 93, .goto (-88), 3, 4, 0, 0), (0, 96, .lload_n 3, 1, 0, 0, 0), (5, 97, .lreturn, 1, 0, 0, 0)]
def mt_X10_withSquares : List mm_e := [(0, 0, .lload_n 1, 1, 0, 0, 0), (0, 1, .lstore_n 3, 1, 0, 0, 0), (0, 2, .iconst (-1), 1, 0, 4294967295, 0), (0, 3, .istore 5, 2, 0, 0, 0), (0, 5, .iload 5, 2, 0, 0, 0), (0, 7, .iconst 4, 1, 0, 4, 0), (1, 8, .if_icmp .ge 41, 3, 26, 0, 0), (0, 11, .iconst 0, 1, 0, 0, 0), (0, 12, .istore 6, 2, 0, 0, 0), (0, 14, .iload 6, 2, 0, 0, 0), (0, 16, .bipush 15, 2, 0, 15, 0), (1, 18, .if_icmp .ge 25, 3, 24, 0, 0), (0, 21, .ldc2_w 232, 3, 0, 31, 922), (0, 24, .lload_n 3, 1, 0, 0, 0), (0, 25, .lmul, 1, 0, 0, 0), (0, 26, .aload_n 0, 1, 0, 0, 0), (0, 27, .iload 5, 2, 0, 0, 0), (0, 29, .iload 6, 2, 0, 0, 0), (4, 31, .invokevirtual 132, 3, 100, 744, 0), (0, 34, .i2l, 1, 0, 0, 0), (0, 35, .ladd, 1, 0, 0, 0), (0, 36, .lstore_n 3, 1, 0, 0, 0), (0, 37, .iinc 6 1, 3, 0, 1, 0), (2, 40, .goto (-26), 3, 9, 0, 0), (0, 43, .iinc 5 1, 3, 0, 1, 0), (2, 46, .goto (-41), 3, 4, 0, 0), (0, 49, .iconst 0, 1, 0, 0, 0), (0, 50, .istore 5, 2, 0, 0, 0), (0, 52, .iload 5, 2, 0, 0, 0), (0, 54, .iconst 4, 1, 0, 4, 0), (1, 55, .if_icmp .ge 23, 3, 42, 0, 0), (0, 58, .ldc2_w 232, 3, 0, 31, 922), (0, 61, .lload_n 3, 1, 0, 0, 0), (0, 62, .lmul, 1, 0, 0, 0), (0, 63, .aload_n 0, 1, 0, 0, 0), (0, 64, .iload 5, 2, 0, 0, 0), (4, 66, .invokevirtual 135, 3, 101, 752, 0), (0, 69, .i2l, 1, 0, 0, 0), (0, 70, .ladd, 1, 0, 0, 0), (0, 71, .lstore_n 3, 1, 0, 0, 0), (0, 72, .iinc 5 1, 3, 0, 1, 0), (2, 75, .goto (-23), 3, 28, 0, 0), (0, 78, .iconst 0, 1, 0, 0, 0), (0, 79, .istore 5, 2, 0, 0, 0), (0, 81, .iload 5, 2, 0, 0, 0), (0, 83, .bipush 15, 2, 0, 15, 0), (1, 85, .if_icmp .ge 41, 3, 66, 0, 0), (0, 88, .iconst 0, 1, 0, 0, 0), (0, 89, .istore 6, 2, 0, 0, 0), (0, 91, .iload 6, 2, 0, 0, 0), (0, 93, .bipush 15, 2, 0, 15, 0), (1, 95, .if_icmp .ge 25, 3, 64, 0, 0), (0, 98, .ldc2_w 232, 3, 0, 31, 922), (0, 101, .lload_n 3, 1, 0, 0, 0), (0, 102, .lmul, 1, 0, 0, 0), (0, 103, .aload_n 0, 1, 0, 0, 0), (0, 104, .iload 5, 2, 0, 0, 0), (0, 106, .iload 6, 2, 0, 0, 0), (4, 108, .invokevirtual 175, 3, 102, 812, 0), (0, 111, .i2l, 1, 0, 0, 0), (0, 112, .ladd, 1, 0, 0, 0), (0, 113, .lstore_n 3, 1, 0, 0, 0), (0, 114, .iinc 6 1, 3, 0, 1, 0), (2, 117, .goto (-26), 3, 49, 0, 0), (0, 120, .iinc 5 1, 3, 0, 1, 0), (2, 123, .goto (-42), 3, 44, 0, 0), (0, 126, .lload_n 3, 1, 0, 0, 0), (5, 127, .lreturn, 1, 0, 0, 0)]
def mt_X10_withReading : List mm_e := [(0, 0, .ldc2_w 232, 3, 0, 31, 922), (0, 3, .lload_n 1, 1, 0, 0, 0), (0, 4, .lmul, 1, 0, 0, 0), (0, 5, .aload_n 0, 1, 0, 0, 0), (3, 6, .getfield 52, 3, 9, 6, 376), (3, 9, .getfield 178, 3, 4, 0, 299), (0, 12, .i2l, 1, 0, 0, 0), (0, 13, .ladd, 1, 0, 0, 0), (0, 14, .lstore_n 3, 1, 0, 0, 0), (0, 15, .iconst (-1), 1, 0, 4294967295, 0), (0, 16, .istore 5, 2, 0, 0, 0), (0, 18, .iload 5, 2, 0, 0, 0), (0, 20, .bipush 14, 2, 0, 14, 0), (1, 22, .if_icmp .ge 23, 3, 25, 0, 0), (0, 25, .ldc2_w 232, 3, 0, 31, 922), (0, 28, .lload_n 3, 1, 0, 0, 0), (0, 29, .lmul, 1, 0, 0, 0), (0, 30, .aload_n 0, 1, 0, 0, 0), (0, 31, .iload 5, 2, 0, 0, 0), (4, 33, .invokevirtual 181, 3, 103, 826, 0), (0, 36, .i2l, 1, 0, 0, 0), (0, 37, .ladd, 1, 0, 0, 0), (0, 38, .lstore_n 3, 1, 0, 0, 0), (0, 39, .iinc 5 1, 3, 0, 1, 0), (2, 42, .goto (-24), 3, 11, 0, 0), (0, 45, .iconst 0, 1, 0, 0, 0), (0, 46, .istore 5, 2, 0, 0, 0), (0, 48, .iload 5, 2, 0, 0, 0), (0, 50, .iconst 2, 1, 0, 2, 0), (1, 51, .if_icmp .ge 23, 3, 41, 0, 0), (0, 54, .ldc2_w 232, 3, 0, 31, 922), (0, 57, .lload_n 3, 1, 0, 0, 0), (0, 58, .lmul, 1, 0, 0, 0), (0, 59, .aload_n 0, 1, 0, 0, 0), (0, 60, .iload 5, 2, 0, 0, 0), (4, 62, .invokevirtual 184, 3, 104, 835, 0), (0, 65, .i2l, 1, 0, 0, 0), (0, 66, .ladd, 1, 0, 0, 0), (0, 67, .lstore_n 3, 1, 0, 0, 0), (0, 68, .iinc 5 1, 3, 0, 1, 0), (2, 71, .goto (-23), 3, 27, 0, 0), (0, 74, .iconst 0, 1, 0, 0, 0), (0, 75, .istore 5, 2, 0, 0, 0), (0, 77, .iload 5, 2, 0, 0, 0), (0, 79, .iconst 2, 1, 0, 2, 0), (1, 80, .if_icmp .ge 23, 3, 57, 0, 0), (0, 83, .ldc2_w 232, 3, 0, 31, 922), (0, 86, .lload_n 3, 1, 0, 0, 0), (0, 87, .lmul, 1, 0, 0, 0), (0, 88, .aload_n 0, 1, 0, 0, 0), (0, 89, .iload 5, 2, 0, 0, 0), (4, 91, .invokevirtual 193, 3, 107, 863, 0), (0, 94, .i2l, 1, 0, 0, 0), (0, 95, .ladd, 1, 0, 0, 0), (0, 96, .lstore_n 3, 1, 0, 0, 0), (0, 97, .iinc 5 1, 3, 0, 1, 0), (2, 100, .goto (-23), 3, 43, 0, 0), (0, 103, .lload_n 3, 1, 0, 0, 0), (5, 104, .lreturn, 1, 0, 0, 0)]
def mt_X10_markNow : List mm_e := [(0, 0, .iload_n 1, 1, 0, 0, 0), (1, 1, .ifCond .ne 11, 3, 6, 0, 0), (0, 4, .aload_n 0, 1, 0, 0, 0), (3, 5, .getfield 45, 3, 9, 5, 375), (3, 8, .getfield 244, 3, 2, 0, 225), (5, 11, .ireturn, 1, 0, 0, 0), (0, 12, .iload_n 1, 1, 0, 0, 0), (0, 13, .iconst 1, 1, 0, 1, 0), (1, 14, .if_icmp .ne 11, 3, 13, 0, 0), (0, 17, .aload_n 0, 1, 0, 0, 0), (3, 18, .getfield 45, 3, 9, 5, 375), (3, 21, .getfield 247, 3, 2, 2, 230), (5, 24, .ireturn, 1, 0, 0, 0), (0, 25, .iload_n 1, 1, 0, 0, 0), (0, 26, .iconst 2, 1, 0, 2, 0), (1, 27, .if_icmp .ne 14, 3, 21, 0, 0), (0, 30, .aload_n 0, 1, 0, 0, 0), (3, 31, .getfield 45, 3, 9, 5, 375), (3, 34, .getfield 244, 3, 2, 0, 225), (4, 37, .invokestatic 250, 3, 118, 539, 0), (5, 40, .ireturn, 1, 0, 0, 0), (0, 41, .aload_n 0, 1, 0, 0, 0), (3, 42, .getfield 45, 3, 9, 5, 375), (3, 45, .getfield 221, 3, 2, 1, 228), (1, 48, .ifCond .eq 7, 3, 27, 0, 0), (0, 51, .iconst 0, 1, 0, 0, 0), (2, 52, .goto 4, 3, 28, 0, 0), (0, 55, .iconst 1, 1, 0, 1, 0), (5, 56, .ireturn, 1, 0, 0, 0)]
def mt_X10_symbolNow : List mm_e := [(0, 0, .aload_n 0, 1, 0, 0, 0), (3, 1, .getfield 45, 3, 9, 5, 375), (3, 4, .getfield 221, 3, 2, 1, 228), (1, 7, .ifCond .eq 17, 3, 12, 0, 0), (0, 10, .aload_n 0, 1, 0, 0, 0), (3, 11, .getfield 45, 3, 9, 5, 375), (3, 14, .getfield 253, 3, 2, 4, 234), (0, 17, .iload_n 1, 1, 0, 0, 0), (3, 18, .aaload, 1, 0, 0, 0), (0, 19, .iload_n 2, 1, 0, 0, 0), (3, 20, .iaload, 1, 0, 0, 0), (2, 21, .goto 4, 3, 13, 0, 0), (0, 24, .iconst (-1), 1, 0, 4294967295, 0), (5, 25, .ireturn, 1, 0, 0, 0)]
def mt_X10_dotsNow : List mm_e := [(0, 0, .aload_n 0, 1, 0, 0, 0), (3, 1, .getfield 45, 3, 9, 5, 375), (3, 4, .getfield 221, 3, 2, 1, 228), (1, 7, .ifCond .ne 6, 3, 6, 0, 0), (0, 10, .bipush (-3), 2, 0, 4294967293, 0), (5, 12, .ireturn, 1, 0, 0, 0), (0, 13, .iload_n 1, 1, 0, 0, 0), (0, 14, .iconst (-1), 1, 0, 4294967295, 0), (1, 15, .if_icmp .ne 15, 3, 15, 0, 0), (0, 18, .aload_n 0, 1, 0, 0, 0), (3, 19, .getfield 45, 3, 9, 5, 375), (3, 22, .getfield 257, 3, 2, 5, 236), (0, 25, .iload_n 2, 1, 0, 0, 0), (3, 26, .iaload, 1, 0, 0, 0), (2, 27, .goto 14, 3, 22, 0, 0), (0, 30, .aload_n 0, 1, 0, 0, 0), (3, 31, .getfield 45, 3, 9, 5, 375), (3, 34, .getfield 260, 3, 2, 6, 238), (0, 37, .iload_n 1, 1, 0, 0, 0), (3, 38, .aaload, 1, 0, 0, 0), (0, 39, .iload_n 2, 1, 0, 0, 0), (3, 40, .iaload, 1, 0, 0, 0), (5, 41, .ireturn, 1, 0, 0, 0)]
def mt_X10_penaltyNow : List mm_e := [(0, 0, .aload_n 0, 1, 0, 0, 0), (3, 1, .getfield 45, 3, 9, 5, 375), (3, 4, .getfield 221, 3, 2, 1, 228), (1, 7, .ifCond .eq 15, 3, 10, 0, 0), (0, 10, .aload_n 0, 1, 0, 0, 0), (3, 11, .getfield 45, 3, 9, 5, 375), (3, 14, .getfield 263, 3, 2, 7, 240), (0, 17, .iload_n 1, 1, 0, 0, 0), (3, 18, .iaload, 1, 0, 0, 0), (2, 19, .goto 5, 3, 11, 0, 0), (0, 22, .bipush (-3), 2, 0, 4294967293, 0), (5, 24, .ireturn, 1, 0, 0, 0)]
def mt_X10_seenNow : List mm_e := [(0, 0, .aload_n 0, 1, 0, 0, 0), (3, 1, .getfield 45, 3, 9, 5, 375), (3, 4, .getfield 221, 3, 2, 1, 228), (1, 7, .ifCond .ne 6, 3, 6, 0, 0), (0, 10, .bipush (-3), 2, 0, 4294967293, 0), (5, 12, .ireturn, 1, 0, 0, 0), (0, 13, .aload_n 0, 1, 0, 0, 0), (3, 14, .getfield 24, 3, 9, 2, 372), (3, 17, .getfield 160, 3, 1, 1, 145), (0, 20, .iload_n 1, 1, 0, 0, 0), (3, 21, .iaload, 1, 0, 0, 0), (0, 22, .iload_n 2, 1, 0, 0, 0), (4, 23, .invokestatic 266, 3, 115, 816, 0), (0, 26, .iconst 1, 1, 0, 1, 0), (1, 27, .if_icmp .ne 5, 3, 17, 0, 0), (0, 30, .iconst 2, 1, 0, 2, 0), (5, 31, .ireturn, 1, 0, 0, 0), (0, 32, .aload_n 0, 1, 0, 0, 0), (3, 33, .getfield 45, 3, 9, 5, 375), (0, 36, .iload_n 1, 1, 0, 0, 0), (4, 37, .invokevirtual 269, 3, 14, 817, 0), (0, 40, .aload_n 0, 1, 0, 0, 0), (3, 41, .getfield 24, 3, 9, 2, 372), (3, 44, .getfield 153, 3, 1, 0, 141), (0, 47, .iload_n 1, 1, 0, 0, 0), (3, 48, .iaload, 1, 0, 0, 0), (0, 49, .ixor, 1, 0, 0, 0), (0, 50, .iload_n 2, 1, 0, 0, 0), (4, 51, .invokestatic 266, 3, 115, 816, 0), (5, 54, .ireturn, 1, 0, 0, 0)]
def mt_X10_toldNow : List mm_e := [(0, 0, .aload_n 0, 1, 0, 0, 0), (3, 1, .getfield 52, 3, 9, 6, 376), (3, 4, .getfield 178, 3, 4, 0, 299), (1, 7, .ifCond .eq 6, 3, 6, 0, 0), (0, 10, .bipush (-3), 2, 0, 4294967293, 0), (5, 12, .ireturn, 1, 0, 0, 0), (0, 13, .aload_n 0, 1, 0, 0, 0), (3, 14, .getfield 52, 3, 9, 6, 376), (0, 17, .iconst 0, 1, 0, 0, 0), (4, 18, .invokevirtual 272, 3, 42, 830, 0), (0, 21, .istore_n 2, 1, 0, 0, 0), (0, 22, .iload_n 1, 1, 0, 0, 0), (0, 23, .iconst (-1), 1, 0, 4294967295, 0), (1, 24, .if_icmp .ne 5, 3, 16, 0, 0), (0, 27, .iload_n 2, 1, 0, 0, 0), (5, 28, .ireturn, 1, 0, 0, 0), (0, 29, .iload_n 1, 1, 0, 0, 0), (0, 30, .iload_n 2, 1, 0, 0, 0), (1, 31, .if_icmp .ge 34, 3, 39, 0, 0), (0, 34, .bipush 16, 2, 0, 16, 0), (0, 36, .aload_n 0, 1, 0, 0, 0), (3, 37, .getfield 52, 3, 9, 6, 376), (0, 40, .iconst 1, 1, 0, 1, 0), (0, 41, .iconst 2, 1, 0, 2, 0), (0, 42, .iload_n 1, 1, 0, 0, 0), (0, 43, .imul, 1, 0, 0, 0), (0, 44, .iadd, 1, 0, 0, 0), (4, 45, .invokevirtual 272, 3, 42, 830, 0), (0, 48, .imul, 1, 0, 0, 0), (0, 49, .aload_n 0, 1, 0, 0, 0), (3, 50, .getfield 52, 3, 9, 6, 376), (0, 53, .iconst 2, 1, 0, 2, 0), (0, 54, .iconst 2, 1, 0, 2, 0), (0, 55, .iload_n 1, 1, 0, 0, 0), (0, 56, .imul, 1, 0, 0, 0), (0, 57, .iadd, 1, 0, 0, 0), (4, 58, .invokevirtual 272, 3, 42, 830, 0), (0, 61, .iadd, 1, 0, 0, 0), (2, 62, .goto 4, 3, 40, 0, 0), (0, 65, .iconst (-1), 1, 0, 4294967295, 0), (5, 66, .ireturn, 1, 0, 0, 0)]
def mt_X10_formatNow : List mm_e := [(0, 0, .aload_n 0, 1, 0, 0, 0), (3, 1, .getfield 52, 3, 9, 6, 376), (4, 4, .invokevirtual 275, 3, 39, 839, 0), (1, 7, .ifCond .ne 5, 3, 6, 0, 0), (0, 10, .iconst (-1), 1, 0, 4294967295, 0), (5, 11, .ireturn, 1, 0, 0, 0), (0, 12, .iload_n 1, 1, 0, 0, 0), (1, 13, .ifCond .ne 13, 3, 12, 0, 0), (0, 16, .aload_n 0, 1, 0, 0, 0), (3, 17, .getfield 52, 3, 9, 6, 376), (4, 20, .invokevirtual 278, 3, 40, 840, 0), (2, 23, .goto 10, 3, 15, 0, 0), (0, 26, .aload_n 0, 1, 0, 0, 0), (3, 27, .getfield 52, 3, 9, 6, 376), (4, 30, .invokevirtual 280, 3, 41, 841, 0), (5, 33, .ireturn, 1, 0, 0, 0)]
def mt_X10_blockNow : List mm_e := [(0, 0, .aload_n 0, 1, 0, 0, 0), (3, 1, .getfield 52, 3, 9, 6, 376), (4, 4, .invokevirtual 275, 3, 39, 839, 0), (1, 7, .ifCond .ne 6, 3, 6, 0, 0), (0, 10, .bipush (-3), 2, 0, 4294967293, 0), (5, 12, .ireturn, 1, 0, 0, 0), (0, 13, .aload_n 0, 1, 0, 0, 0), (3, 14, .getfield 52, 3, 9, 6, 376), (3, 17, .getfield 282, 3, 4, 2, 304), (0, 20, .iload_n 1, 1, 0, 0, 0), (3, 21, .aaload, 1, 0, 0, 0), (0, 22, .astore_n 3, 1, 0, 0, 0), (0, 23, .iload_n 2, 1, 0, 0, 0), (1, 24, .ifCond .ne 11, 3, 18, 0, 0), (0, 27, .aload_n 3, 1, 0, 0, 0), (3, 28, .getfield 286, 3, 0, 2, 284), (4, 31, .invokestatic 290, 3, 220, 633, 0), (5, 34, .ireturn, 1, 0, 0, 0), (0, 35, .aload_n 3, 1, 0, 0, 0), (3, 36, .getfield 293, 3, 0, 3, 287), (0, 39, .iconst (-1), 1, 0, 4294967295, 0), (1, 40, .if_icmp .ne 5, 3, 24, 0, 0), (0, 43, .iconst (-1), 1, 0, 4294967295, 0), (5, 44, .ireturn, 1, 0, 0, 0), (0, 45, .iload_n 2, 1, 0, 0, 0), (0, 46, .iconst 1, 1, 0, 1, 0), (1, 47, .if_icmp .ne 10, 3, 30, 0, 0), (0, 50, .aload_n 3, 1, 0, 0, 0), (3, 51, .getfield 293, 3, 0, 3, 287), (2, 54, .goto 22, 3, 39, 0, 0), (0, 57, .aload_n 0, 1, 0, 0, 0), (3, 58, .getfield 52, 3, 9, 6, 376), (4, 61, .invokevirtual 278, 3, 40, 840, 0), (4, 64, .invokestatic 296, 3, 117, 542, 0), (0, 67, .aload_n 3, 1, 0, 0, 0), (0, 68, .aload_n 3, 1, 0, 0, 0), (3, 69, .getfield 293, 3, 0, 3, 287), (4, 72, .invokevirtual 299, 3, 1, 850, 0), (0, 75, .isub, 1, 0, 0, 0), (5, 76, .ireturn, 1, 0, 0, 0)]
def mt_X10_mendedNow : List mm_e := [(0, 0, .aload_n 0, 1, 0, 0, 0), (3, 1, .getfield 52, 3, 9, 6, 376), (4, 4, .invokevirtual 275, 3, 39, 839, 0), (1, 7, .ifCond .ne 6, 3, 6, 0, 0), (0, 10, .bipush (-3), 2, 0, 4294967293, 0), (5, 12, .ireturn, 1, 0, 0, 0), (0, 13, .aload_n 0, 1, 0, 0, 0), (3, 14, .getfield 52, 3, 9, 6, 376), (3, 17, .getfield 282, 3, 4, 2, 304), (0, 20, .iload_n 1, 1, 0, 0, 0), (3, 21, .aaload, 1, 0, 0, 0), (0, 22, .astore_n 3, 1, 0, 0, 0), (0, 23, .aload_n 3, 1, 0, 0, 0), (3, 24, .getfield 293, 3, 0, 3, 287), (0, 27, .iconst (-1), 1, 0, 4294967295, 0), (1, 28, .if_icmp .ne 7, 3, 18, 0, 0), (0, 31, .iconst (-1), 1, 0, 4294967295, 0), (2, 32, .goto 9, 3, 22, 0, 0), (0, 35, .aload_n 3, 1, 0, 0, 0), (3, 36, .getfield 302, 3, 0, 1, 280), (0, 39, .iload_n 2, 1, 0, 0, 0), (3, 40, .iaload, 1, 0, 0, 0), (5, 41, .ireturn, 1, 0, 0, 0)]
def mt_X10_strawNow : List mm_e := [(0, 0, .aload_n 0, 1, 0, 0, 0), (3, 1, .getfield 59, 3, 9, 7, 377), (3, 4, .getfield 305, 3, 6, 0, 333), (0, 7, .iconst (-1), 1, 0, 4294967295, 0), (1, 8, .if_icmp .ne 5, 3, 7, 0, 0), (0, 11, .iconst (-1), 1, 0, 4294967295, 0), (5, 12, .ireturn, 1, 0, 0, 0), (0, 13, .iload_n 1, 1, 0, 0, 0), (1, 14, .ifCond .ne 16, 3, 15, 0, 0), (0, 17, .aload_n 0, 1, 0, 0, 0), (3, 18, .getfield 59, 3, 9, 7, 377), (3, 21, .getfield 305, 3, 6, 0, 333), (0, 24, .bipush 15, 2, 0, 15, 0), (0, 26, .idiv, 1, 0, 0, 0), (2, 27, .goto 13, 3, 20, 0, 0), (0, 30, .aload_n 0, 1, 0, 0, 0), (3, 31, .getfield 59, 3, 9, 7, 377), (3, 34, .getfield 305, 3, 6, 0, 333), (0, 37, .bipush 15, 2, 0, 15, 0), (0, 39, .irem, 1, 0, 0, 0), (5, 40, .ireturn, 1, 0, 0, 0)]
def mt_X10_countNow : List mm_e := [(0, 0, .iload_n 1, 1, 0, 0, 0), (6, 1, .tableswitch 117 0 7 #[47, 55, 63, 71, 79, 90, 101, 109], 47, 0, 0, 0), (0, 48, .aload_n 0, 1, 0, 0, 0), (3, 49, .getfield 14, 3, 9, 0, 370), (3, 52, .getfield 89, 3, 7, 2, 124), (5, 55, .ireturn, 1, 0, 0, 0), (0, 56, .aload_n 0, 1, 0, 0, 0), (3, 57, .getfield 45, 3, 9, 5, 375), (3, 60, .getfield 244, 3, 2, 0, 225), (5, 63, .ireturn, 1, 0, 0, 0), (0, 64, .aload_n 0, 1, 0, 0, 0), (3, 65, .getfield 45, 3, 9, 5, 375), (3, 68, .getfield 247, 3, 2, 2, 230), (5, 71, .ireturn, 1, 0, 0, 0), (0, 72, .aload_n 0, 1, 0, 0, 0), (3, 73, .getfield 52, 3, 9, 6, 376), (3, 76, .getfield 178, 3, 4, 0, 299), (5, 79, .ireturn, 1, 0, 0, 0), (0, 80, .aload_n 0, 1, 0, 0, 0), (3, 81, .getfield 24, 3, 9, 2, 372), (3, 84, .getfield 153, 3, 1, 0, 141), (4, 87, .invokestatic 156, 3, 116, 782, 0), (5, 90, .ireturn, 1, 0, 0, 0), (0, 91, .aload_n 0, 1, 0, 0, 0), (3, 92, .getfield 24, 3, 9, 2, 372), (3, 95, .getfield 160, 3, 1, 1, 145), (4, 98, .invokestatic 156, 3, 116, 782, 0), (5, 101, .ireturn, 1, 0, 0, 0), (0, 102, .aload_n 0, 1, 0, 0, 0), (3, 103, .getfield 24, 3, 9, 2, 372), (3, 106, .getfield 163, 3, 1, 2, 147), (5, 109, .ireturn, 1, 0, 0, 0), (0, 110, .aload_n 0, 1, 0, 0, 0), (3, 111, .getfield 45, 3, 9, 5, 375), (3, 114, .getfield 308, 3, 2, 3, 232), (5, 117, .ireturn, 1, 0, 0, 0), (0, 118, .aload_n 0, 1, 0, 0, 0), (3, 119, .getfield 311, 3, 9, 9, 379), (5, 122, .ireturn, 1, 0, 0, 0)]
def mt_X10_bring : List mm_e := [(0, 0, .aload_n 0, 1, 0, 0, 0), (3, 1, .getfield 69, 3, 9, 10, 380), (1, 4, .ifCond .ne 34, 3, 18, 0, 0), (0, 7, .aload_n 0, 1, 0, 0, 0), (3, 8, .getfield 45, 3, 9, 5, 375), (0, 11, .aload_n 0, 1, 0, 0, 0), (3, 12, .getfield 14, 3, 9, 0, 370), (0, 15, .aload_n 0, 1, 0, 0, 0), (3, 16, .getfield 18, 3, 9, 1, 371), (4, 19, .invokevirtual 314, 3, 60, 525, 0), (0, 22, .aload_n 0, 1, 0, 0, 0), (3, 23, .getfield 31, 3, 9, 3, 373), (0, 26, .aload_n 0, 1, 0, 0, 0), (3, 27, .getfield 38, 3, 9, 4, 374), (4, 30, .invokevirtual 317, 3, 13, 532, 0), (0, 33, .aload_n 0, 1, 0, 0, 0), (0, 34, .iconst 1, 1, 0, 1, 0), (3, 35, .putfield 69, 3, 9, 10, 380), (0, 38, .iload_n 1, 1, 0, 0, 0), (0, 39, .iconst 1, 1, 0, 1, 0), (1, 40, .if_icmp .lt 54, 3, 46, 0, 0), (0, 43, .aload_n 0, 1, 0, 0, 0), (3, 44, .getfield 69, 3, 9, 10, 380), (0, 47, .iconst 1, 1, 0, 1, 0), (1, 48, .if_icmp .ne 46, 3, 46, 0, 0), (0, 51, .aload_n 0, 1, 0, 0, 0), (3, 52, .getfield 52, 3, 9, 6, 376), (0, 55, .aload_n 0, 1, 0, 0, 0), (3, 56, .getfield 45, 3, 9, 5, 375), (0, 59, .aload_n 0, 1, 0, 0, 0), (3, 60, .getfield 24, 3, 9, 2, 372), (0, 63, .iconst (-1), 1, 0, 4294967295, 0), (4, 64, .invokevirtual 321, 3, 36, 650, 0), (0, 67, .aload_n 0, 1, 0, 0, 0), (3, 68, .getfield 52, 3, 9, 6, 376), (4, 71, .invokevirtual 325, 3, 37, 658, 0), (0, 74, .aload_n 0, 1, 0, 0, 0), (3, 75, .getfield 52, 3, 9, 6, 376), (0, 78, .aload_n 0, 1, 0, 0, 0), (3, 79, .getfield 31, 3, 9, 3, 373), (0, 82, .aload_n 0, 1, 0, 0, 0), (3, 83, .getfield 38, 3, 9, 4, 374), (4, 86, .invokevirtual 328, 3, 38, 667, 0), (0, 89, .aload_n 0, 1, 0, 0, 0), (0, 90, .iconst 2, 1, 0, 2, 0), (3, 91, .putfield 69, 3, 9, 10, 380), (0, 94, .iload_n 1, 1, 0, 0, 0), (0, 95, .iconst 2, 1, 0, 2, 0), (1, 96, .if_icmp .lt 43, 3, 69, 0, 0), (0, 99, .aload_n 0, 1, 0, 0, 0), (3, 100, .getfield 69, 3, 9, 10, 380), (0, 103, .iconst 2, 1, 0, 2, 0), (1, 104, .if_icmp .ne 35, 3, 69, 0, 0), (0, 107, .aload_n 0, 1, 0, 0, 0), (3, 108, .getfield 59, 3, 9, 7, 377), (0, 111, .aload_n 0, 1, 0, 0, 0), (3, 112, .getfield 52, 3, 9, 6, 376), (0, 115, .aload_n 0, 1, 0, 0, 0), (3, 116, .getfield 45, 3, 9, 5, 375), (0, 119, .aload_n 0, 1, 0, 0, 0), (3, 120, .getfield 24, 3, 9, 2, 372), (0, 123, .aload_n 0, 1, 0, 0, 0), (3, 124, .getfield 31, 3, 9, 3, 373), (0, 127, .aload_n 0, 1, 0, 0, 0), (3, 128, .getfield 38, 3, 9, 4, 374), (4, 131, .invokevirtual 332, 3, 51, 695, 0), (0, 134, .aload_n 0, 1, 0, 0, 0), (0, 135, .iconst 3, 1, 0, 3, 0), (3, 136, .putfield 69, 3, 9, 10, 380), (5, 139, .return_, 1, 0, 0, 0)]
def mt_X10_damageChanged : List mm_e := [(0, 0, .aload_n 0, 1, 0, 0, 0), (0, 1, .aload_n 0, 1, 0, 0, 0), (3, 2, .getfield 69, 3, 9, 10, 380), (0, 5, .iconst 1, 1, 0, 1, 0), (4, 6, .invokestatic 222, 3, 224, 781, 0), (3, 9, .putfield 69, 3, 9, 10, 380), (5, 12, .return_, 1, 0, 0, 0)]
def mt_X10_typedBy : List mm_e := [(0, 0, .iload_n 1, 1, 0, 0, 0), (1, 1, .ifCond .ne 10, 3, 5, 0, 0), (0, 4, .aload_n 0, 1, 0, 0, 0), (3, 5, .getfield 14, 3, 9, 0, 370), (2, 8, .goto 7, 3, 7, 0, 0), (0, 11, .aload_n 0, 1, 0, 0, 0), (3, 12, .getfield 18, 3, 9, 1, 371), (5, 15, .areturn, 1, 0, 0, 0)]
def mt_X10_found : List mm_e := [(0, 0, .aload_n 0, 1, 0, 0, 0), (0, 1, .iload_n 1, 1, 0, 0, 0), (3, 2, .putfield 311, 3, 9, 9, 379), (0, 5, .bipush (-10), 2, 0, 4294967286, 0), (0, 7, .iload_n 1, 1, 0, 0, 0), (0, 8, .isub, 1, 0, 0, 0), (5, 9, .ireturn, 1, 0, 0, 0)]
def mt_X10_within : List mm_e := [(0, 0, .iload_n 0, 1, 0, 0, 0), (1, 1, .ifCond .lt 12, 3, 7, 0, 0), (0, 4, .iload_n 0, 1, 0, 0, 0), (0, 5, .iload_n 1, 1, 0, 0, 0), (1, 6, .if_icmp .ge 7, 3, 7, 0, 0), (0, 9, .iconst 1, 1, 0, 1, 0), (2, 10, .goto 4, 3, 8, 0, 0), (0, 13, .iconst 0, 1, 0, 0, 0), (5, 14, .ireturn, 1, 0, 0, 0)]
def mt_X10_isDot : List mm_e := [(0, 0, .iload_n 0, 1, 0, 0, 0), (0, 1, .bipush 15, 2, 0, 15, 0), (4, 3, .invokestatic 74, 3, 113, 408, 0), (1, 6, .ifCond .eq 16, 3, 10, 0, 0), (0, 9, .iload_n 1, 1, 0, 0, 0), (0, 10, .bipush 15, 2, 0, 15, 0), (4, 12, .invokestatic 74, 3, 113, 408, 0), (1, 15, .ifCond .eq 7, 3, 10, 0, 0), (0, 18, .iconst 1, 1, 0, 1, 0), (2, 19, .goto 4, 3, 11, 0, 0), (0, 22, .iconst 0, 1, 0, 0, 0), (5, 23, .ireturn, 1, 0, 0, 0)]
def mt_X10_bit : List mm_e := [(0, 0, .iload_n 0, 1, 0, 0, 0), (0, 1, .iload_n 1, 1, 0, 0, 0), (0, 2, .ishr, 1, 0, 0, 0), (0, 3, .iconst 1, 1, 0, 1, 0), (0, 4, .iand, 1, 0, 0, 0), (5, 5, .ireturn, 1, 0, 0, 0)]
def mt_X10_dotsIn : List mm_e := [(0, 0, .iconst 0, 1, 0, 0, 0), (0, 1, .istore_n 1, 1, 0, 0, 0), (0, 2, .aload_n 0, 1, 0, 0, 0), (0, 3, .astore_n 2, 1, 0, 0, 0), (0, 4, .aload_n 2, 1, 0, 0, 0), (3, 5, .arraylength, 1, 0, 0, 0), (0, 6, .istore_n 3, 1, 0, 0, 0), (0, 7, .iconst 0, 1, 0, 0, 0), (0, 8, .istore 4, 2, 0, 0, 0), (0, 10, .iload 4, 2, 0, 0, 0), (0, 12, .iload_n 3, 1, 0, 0, 0), (1, 13, .if_icmp .ge 23, 3, 23, 0, 0), (0, 16, .aload_n 2, 1, 0, 0, 0), (0, 17, .iload 4, 2, 0, 0, 0), (3, 19, .iaload, 1, 0, 0, 0), (0, 20, .istore 5, 2, 0, 0, 0), (0, 22, .iload_n 1, 1, 0, 0, 0), (0, 23, .iload 5, 2, 0, 0, 0), (4, 25, .invokestatic 290, 3, 220, 633, 0), (0, 28, .iadd, 1, 0, 0, 0), (0, 29, .istore_n 1, 1, 0, 0, 0), (0, 30, .iinc 4 1, 3, 0, 1, 0), (2, 33, .goto (-23), 3, 9, 0, 0), (0, 36, .iload_n 1, 1, 0, 0, 0), (5, 37, .ireturn, 1, 0, 0, 0)]
def mt_X10_checksOf : List mm_e := [(0, 0, .iconst 2, 1, 0, 2, 0), (0, 1, .iconst 2, 1, 0, 2, 0), (0, 2, .iload_n 0, 1, 0, 0, 0), (0, 3, .imul, 1, 0, 0, 0), (0, 4, .iadd, 1, 0, 0, 0), (5, 5, .ireturn, 1, 0, 0, 0)]
def mt_X10_itemsOf : List mm_e := [(0, 0, .bipush 14, 2, 0, 14, 0), (0, 2, .iload_n 0, 1, 0, 0, 0), (4, 3, .invokestatic 296, 3, 117, 542, 0), (0, 6, .isub, 1, 0, 0, 0), (5, 7, .ireturn, 1, 0, 0, 0)]
def mt_X10_hasRoom : List mm_e := [(0, 0, .iload_n 1, 1, 0, 0, 0), (0, 1, .bipush 14, 2, 0, 14, 0), (1, 3, .if_icmp .gt 21, 3, 15, 0, 0), (0, 6, .iconst 1, 1, 0, 1, 0), (0, 7, .iconst 2, 1, 0, 2, 0), (0, 8, .iload_n 1, 1, 0, 0, 0), (0, 9, .imul, 1, 0, 0, 0), (0, 10, .iadd, 1, 0, 0, 0), (0, 11, .iconst 3, 1, 0, 3, 0), (0, 12, .iload_n 0, 1, 0, 0, 0), (4, 13, .invokestatic 250, 3, 118, 539, 0), (0, 16, .imul, 1, 0, 0, 0), (1, 17, .if_icmp .gt 7, 3, 15, 0, 0), (0, 20, .iconst 1, 1, 0, 1, 0), (2, 21, .goto 4, 3, 16, 0, 0), (0, 24, .iconst 0, 1, 0, 0, 0), (5, 25, .ireturn, 1, 0, 0, 0)]
def mt_X10_maskedDots : List mm_e := [(0, 0, .iload_n 1, 1, 0, 0, 0), (0, 1, .iconst 2, 1, 0, 2, 0), (0, 2, .irem, 1, 0, 0, 0), (1, 3, .ifCond .ne 7, 3, 6, 0, 0), (0, 6, .iconst 1, 1, 0, 1, 0), (2, 7, .goto 4, 3, 7, 0, 0), (0, 10, .iconst 0, 1, 0, 0, 0), (0, 11, .istore_n 2, 1, 0, 0, 0), (0, 12, .sipush 21845, 3, 0, 21845, 0), (0, 15, .istore_n 3, 1, 0, 0, 0), (0, 16, .iload_n 0, 1, 0, 0, 0), (6, 17, .tableswitch 69 0 2 #[27, 45, 59], 27, 0, 0, 0), (3, 44, .getstatic 336, 3, 0, 0, 622), (0, 47, .iload_n 1, 1, 0, 0, 0), (3, 48, .iaload, 1, 0, 0, 0), (0, 49, .iload_n 2, 1, 0, 0, 0), (1, 50, .ifCond .eq 7, 3, 19, 0, 0), (0, 53, .iload_n 3, 1, 0, 0, 0), (2, 54, .goto 6, 3, 22, 0, 0), (0, 57, .iload_n 3, 1, 0, 0, 0), (0, 58, .iconst (-1), 1, 0, 4294967295, 0), (0, 59, .ixor, 1, 0, 0, 0), (0, 60, .iand, 1, 0, 0, 0), (5, 61, .ireturn, 1, 0, 0, 0), (0, 62, .iload_n 2, 1, 0, 0, 0), (1, 63, .ifCond .eq 11, 3, 30, 0, 0), (3, 66, .getstatic 336, 3, 0, 0, 622), (0, 69, .iload_n 1, 1, 0, 0, 0), (3, 70, .iaload, 1, 0, 0, 0), (2, 71, .goto 4, 3, 31, 0, 0), (0, 74, .iconst 0, 1, 0, 0, 0), (5, 75, .ireturn, 1, 0, 0, 0), (3, 76, .getstatic 336, 3, 0, 0, 622), (0, 79, .iload_n 1, 1, 0, 0, 0), (3, 80, .iaload, 1, 0, 0, 0), (0, 81, .sipush 4681, 3, 0, 4681, 0), (0, 84, .iand, 1, 0, 0, 0), (5, 85, .ireturn, 1, 0, 0, 0), (0, 86, .iload_n 2, 1, 0, 0, 0), (1, 87, .ifCond .eq 13, 3, 46, 0, 0), (3, 90, .getstatic 336, 3, 0, 0, 622), (0, 93, .iload_n 1, 1, 0, 0, 0), (3, 94, .iaload, 1, 0, 0, 0), (0, 95, .iload_n 3, 1, 0, 0, 0), (0, 96, .iand, 1, 0, 0, 0), (2, 97, .goto 4, 3, 47, 0, 0), (0, 100, .iconst 0, 1, 0, 0, 0), (5, 101, .ireturn, 1, 0, 0, 0)]
def mt_X11_init : List mm_e := [(0, 0, .aload_n 0, 1, 0, 0, 0), (3, 1, .invokespecial 1, 3, 0, 0, 940), (0, 4, .aload_n 0, 1, 0, 0, 0), (0, 5, .iconst 4, 1, 0, 4, 0), (3, 6, .newarray .int, 2, 0, 0, 0), (3, 8, .putfield 7, 3, 10, 0, 941), (0, 11, .aload_n 0, 1, 0, 0, 0), (0, 12, .iconst 4, 1, 0, 4, 0), (3, 13, .newarray .int, 2, 0, 0, 0), (3, 15, .putfield 13, 3, 10, 1, 942), (0, 18, .aload_n 0, 1, 0, 0, 0), (0, 19, .sipush 240, 3, 0, 240, 0), (3, 22, .newarray .int, 2, 0, 0, 0), (3, 24, .putfield 16, 3, 10, 2, 943), (0, 27, .aload_n 0, 1, 0, 0, 0), (0, 28, .bipush 60, 2, 0, 60, 0), (3, 30, .newarray .int, 2, 0, 0, 0), (3, 32, .putfield 19, 3, 10, 3, 944), (0, 35, .aload_n 0, 1, 0, 0, 0), (0, 36, .bipush 15, 2, 0, 15, 0), (3, 38, .newarray .int, 2, 0, 0, 0), (3, 40, .putfield 22, 3, 10, 5, 946), (0, 43, .aload_n 0, 1, 0, 0, 0), (0, 44, .bipush 16, 2, 0, 16, 0), (3, 46, .newarray .int, 2, 0, 0, 0), (3, 48, .putfield 25, 3, 10, 6, 947), (0, 51, .aload_n 0, 1, 0, 0, 0), (0, 52, .sipush 256, 3, 0, 256, 0), (3, 55, .newarray .int, 2, 0, 0, 0), (3, 57, .putfield 28, 3, 10, 7, 948), (0, 60, .aload_n 0, 1, 0, 0, 0), (0, 61, .bipush 14, 2, 0, 14, 0), (3, 63, .newarray .int, 2, 0, 0, 0), (3, 65, .putfield 31, 3, 10, 8, 949), (0, 68, .aload_n 0, 1, 0, 0, 0), (0, 69, .iconst 3, 1, 0, 3, 0), (3, 70, .newarray .int, 2, 0, 0, 0), (3, 72, .putfield 34, 3, 10, 9, 950), (0, 75, .aload_n 0, 1, 0, 0, 0), (0, 76, .iconst 2, 1, 0, 2, 0), (3, 77, .newarray .int, 2, 0, 0, 0), (3, 79, .putfield 37, 3, 10, 10, 951), (0, 82, .aload_n 0, 1, 0, 0, 0), (0, 83, .bipush 42, 2, 0, 42, 0), (3, 85, .newarray .int, 2, 0, 0, 0), (3, 87, .putfield 40, 3, 10, 14, 955), (0, 90, .aload_n 0, 1, 0, 0, 0), (0, 91, .sipush 225, 3, 0, 225, 0), (3, 94, .newarray .int, 2, 0, 0, 0), (3, 96, .putfield 43, 3, 10, 15, 956), (0, 99, .aload_n 0, 1, 0, 0, 0), (0, 100, .sipush 225, 3, 0, 225, 0), (3, 103, .newarray .int, 2, 0, 0, 0), (3, 105, .putfield 46, 3, 10, 16, 957), (0, 108, .aload_n 0, 1, 0, 0, 0), (0, 109, .sipush 171, 3, 0, 171, 0), (3, 112, .newarray .int, 2, 0, 0, 0), (3, 114, .putfield 49, 3, 10, 17, 958), (0, 117, .aload_n 0, 1, 0, 0, 0), (0, 118, .bipush 7, 2, 0, 7, 0), (3, 120, .newarray .int, 2, 0, 0, 0), (3, 122, .putfield 52, 3, 10, 18, 959), (0, 125, .aload_n 0, 1, 0, 0, 0), (0, 126, .bipush 7, 2, 0, 7, 0), (3, 128, .newarray .int, 2, 0, 0, 0), (3, 130, .putfield 55, 3, 10, 19, 960), (0, 133, .aload_n 0, 1, 0, 0, 0), (0, 134, .sipush 225, 3, 0, 225, 0), (3, 137, .newarray .int, 2, 0, 0, 0), (3, 139, .putfield 58, 3, 10, 20, 961), (0, 142, .aload_n 0, 1, 0, 0, 0), (0, 143, .sipush 225, 3, 0, 225, 0), (3, 146, .newarray .int, 2, 0, 0, 0), (3, 148, .putfield 61, 3, 10, 21, 962), (0, 151, .aload_n 0, 1, 0, 0, 0), (0, 152, .bipush 60, 2, 0, 60, 0), (3, 154, .newarray .int, 2, 0, 0, 0), (3, 156, .putfield 64, 3, 10, 22, 963), (0, 159, .aload_n 0, 1, 0, 0, 0), (0, 160, .bipush 42, 2, 0, 42, 0), (3, 162, .newarray .int, 2, 0, 0, 0), (3, 164, .putfield 67, 3, 10, 27, 968), (0, 167, .aload_n 0, 1, 0, 0, 0), (0, 168, .iconst 3, 1, 0, 3, 0), (3, 169, .newarray .int, 2, 0, 0, 0), (3, 171, .putfield 70, 3, 10, 28, 969), (0, 174, .aload_n 0, 1, 0, 0, 0), (0, 175, .iconst 3, 1, 0, 3, 0), (3, 176, .newarray .int, 2, 0, 0, 0), (3, 178, .putfield 73, 3, 10, 29, 970), (0, 181, .aload_n 0, 1, 0, 0, 0), (0, 182, .bipush 6, 2, 0, 6, 0), (3, 184, .newarray .int, 2, 0, 0, 0), (3, 186, .putfield 76, 3, 10, 30, 971), (0, 189, .aload_n 0, 1, 0, 0, 0), (0, 190, .bipush 42, 2, 0, 42, 0), (3, 192, .newarray .int, 2, 0, 0, 0), (3, 194, .putfield 79, 3, 10, 31, 972), (0, 197, .aload_n 0, 1, 0, 0, 0), (0, 198, .bipush 14, 2, 0, 14, 0), (3, 200, .newarray .int, 2, 0, 0, 0), (3, 202, .putfield 82, 3, 10, 32, 973), (0, 205, .aload_n 0, 1, 0, 0, 0), (0, 206, .bipush 7, 2, 0, 7, 0), (3, 208, .newarray .int, 2, 0, 0, 0), (3, 210, .putfield 85, 3, 10, 33, 974), (0, 213, .iconst 0, 1, 0, 0, 0), (0, 214, .istore_n 1, 1, 0, 0, 0), (0, 215, .iload_n 1, 1, 0, 0, 0), (0, 216, .iconst 4, 1, 0, 4, 0), (1, 217, .if_icmp .ge 16, 3, 118, 0, 0), (0, 220, .aload_n 0, 1, 0, 0, 0), (3, 221, .getfield 7, 3, 10, 0, 941), (0, 224, .iload_n 1, 1, 0, 0, 0), (0, 225, .iconst (-1), 1, 0, 4294967295, 0), (3, 226, .iastore, 1, 0, 0, 0), (0, 227, .iinc 1 1, 3, 0, 1, 0), (2, 230, .goto (-15), 3, 108, 0, 0), (5, 233, .return_, 1, 0, 0, 0)]
def mt_X11_in : List mm_e := [(0, 0, .lload_n 0, 1, 0, 0, 0), (0, 1, .lload_n 2, 1, 0, 0, 0), (0, 2, .lcmp, 1, 0, 0, 0), (1, 3, .ifCond .lt 14, 3, 10, 0, 0), (0, 6, .lload_n 0, 1, 0, 0, 0), (0, 7, .lload 4, 2, 0, 0, 0), (0, 9, .lcmp, 1, 0, 0, 0), (1, 10, .ifCond .gt 7, 3, 10, 0, 0), (0, 13, .iconst 1, 1, 0, 1, 0), (2, 14, .goto 4, 3, 11, 0, 0), (0, 17, .iconst 0, 1, 0, 0, 0), (5, 18, .ireturn, 1, 0, 0, 0)]
def mt_X11_isTwo : List mm_e := [(0, 0, .iload_n 0, 1, 0, 0, 0), (0, 1, .i2l, 1, 0, 0, 0), (0, 2, .lconst 0, 1, 0, 0, 0), (0, 3, .lconst 1, 1, 0, 1, 0), (4, 4, .invokestatic 88, 3, 122, 1052, 0), (5, 7, .ireturn, 1, 0, 0, 0)]
def mt_X11_lesser : List mm_e := [(0, 0, .iload_n 0, 1, 0, 0, 0), (0, 1, .iload_n 1, 1, 0, 0, 0), (1, 2, .if_icmp .ge 7, 3, 5, 0, 0), (0, 5, .iload_n 0, 1, 0, 0, 0), (2, 6, .goto 4, 3, 6, 0, 0), (0, 9, .iload_n 1, 1, 0, 0, 0), (5, 10, .ireturn, 1, 0, 0, 0)]
def mt_X11_greater : List mm_e := [(0, 0, .iload_n 0, 1, 0, 0, 0), (0, 1, .iload_n 1, 1, 0, 0, 0), (1, 2, .if_icmp .le 7, 3, 5, 0, 0), (0, 5, .iload_n 0, 1, 0, 0, 0), (2, 6, .goto 4, 3, 6, 0, 0), (0, 9, .iload_n 1, 1, 0, 0, 0), (5, 10, .ireturn, 1, 0, 0, 0)]
def mt_X11_finds : List mm_e := [(0, 0, .aload_n 0, 1, 0, 0, 0), (0, 1, .iload_n 1, 1, 0, 0, 0), (3, 2, .putfield 92, 3, 10, 4, 945), (0, 5, .bipush (-10), 2, 0, 4294967286, 0), (0, 7, .iload_n 1, 1, 0, 0, 0), (0, 8, .isub, 1, 0, 0, 0), (5, 9, .ireturn, 1, 0, 0, 0)]
def mt_X11_isSheet : List mm_e := [(0, 0, .iload_n 0, 1, 0, 0, 0), (0, 1, .i2l, 1, 0, 0, 0), (0, 2, .lconst 0, 1, 0, 0, 0), (0, 3, .ldc2_w 96, 3, 0, 3, 1051), (4, 6, .invokestatic 88, 3, 122, 1052, 0), (5, 9, .ireturn, 1, 0, 0, 0)]
def mt_X11_sheet : List mm_e := [(0, 0, .iload_n 1, 1, 0, 0, 0), (4, 1, .invokestatic 98, 3, 127, 1048, 0), (1, 4, .ifCond .eq 21, 3, 12, 0, 0), (0, 7, .iload_n 2, 1, 0, 0, 0), (0, 8, .i2l, 1, 0, 0, 0), (0, 9, .lconst 0, 1, 0, 0, 0), (0, 10, .ldc2_w 102, 3, 0, 2, 1055), (4, 13, .invokestatic 88, 3, 122, 1052, 0), (1, 16, .ifCond .eq 9, 3, 12, 0, 0), (0, 19, .iload_n 3, 1, 0, 0, 0), (0, 20, .bipush 60, 2, 0, 60, 0), (1, 22, .if_icmp .le 6, 3, 14, 0, 0), (0, 25, .bipush (-2), 2, 0, 4294967294, 0), (5, 27, .ireturn, 1, 0, 0, 0), (0, 28, .iload_n 3, 1, 0, 0, 0), (1, 29, .ifCond .ge 9, 3, 20, 0, 0), (0, 32, .aload_n 0, 1, 0, 0, 0), (0, 33, .iconst 5, 1, 0, 5, 0), (4, 34, .invokevirtual 104, 3, 126, 1056, 0), (5, 37, .ireturn, 1, 0, 0, 0), (0, 38, .aload_n 0, 1, 0, 0, 0), (3, 39, .getfield 7, 3, 10, 0, 941), (0, 42, .iload_n 1, 1, 0, 0, 0), (0, 43, .iload_n 2, 1, 0, 0, 0), (3, 44, .iastore, 1, 0, 0, 0), (0, 45, .aload_n 0, 1, 0, 0, 0), (3, 46, .getfield 13, 3, 10, 1, 942), (0, 49, .iload_n 1, 1, 0, 0, 0), (0, 50, .iload_n 3, 1, 0, 0, 0), (3, 51, .iastore, 1, 0, 0, 0), (0, 52, .iconst 0, 1, 0, 0, 0), (0, 53, .istore 4, 2, 0, 0, 0), (0, 55, .iload 4, 2, 0, 0, 0), (0, 57, .iload_n 3, 1, 0, 0, 0), (1, 58, .if_icmp .ge 22, 3, 46, 0, 0), (0, 61, .aload_n 0, 1, 0, 0, 0), (3, 62, .getfield 16, 3, 10, 2, 943), (0, 65, .bipush 60, 2, 0, 60, 0), (0, 67, .iload_n 1, 1, 0, 0, 0), (0, 68, .imul, 1, 0, 0, 0), (0, 69, .iload 4, 2, 0, 0, 0), (0, 71, .iadd, 1, 0, 0, 0), (0, 72, .iconst 0, 1, 0, 0, 0), (3, 73, .iastore, 1, 0, 0, 0), (0, 74, .iinc 4 1, 3, 0, 1, 0), (2, 77, .goto (-22), 3, 32, 0, 0), (0, 80, .iload_n 3, 1, 0, 0, 0), (5, 81, .ireturn, 1, 0, 0, 0)]
def mt_X11_lose : List mm_e := [(0, 0, .iload_n 1, 1, 0, 0, 0), (4, 1, .invokestatic 98, 3, 127, 1048, 0), (1, 4, .ifCond .ne 6, 3, 5, 0, 0), (0, 7, .bipush (-2), 2, 0, 4294967294, 0), (5, 9, .ireturn, 1, 0, 0, 0), (0, 10, .aload_n 0, 1, 0, 0, 0), (3, 11, .getfield 7, 3, 10, 0, 941), (0, 14, .iload_n 1, 1, 0, 0, 0), (3, 15, .iaload, 1, 0, 0, 0), (1, 16, .ifCond .ge 9, 3, 14, 0, 0), (0, 19, .aload_n 0, 1, 0, 0, 0), (0, 20, .iconst 1, 1, 0, 1, 0), (4, 21, .invokevirtual 104, 3, 126, 1056, 0), (5, 24, .ireturn, 1, 0, 0, 0), (0, 25, .aload_n 0, 1, 0, 0, 0), (3, 26, .getfield 7, 3, 10, 0, 941), (0, 29, .iload_n 1, 1, 0, 0, 0), (0, 30, .iconst (-1), 1, 0, 4294967295, 0), (3, 31, .iastore, 1, 0, 0, 0), (0, 32, .aload_n 0, 1, 0, 0, 0), (3, 33, .getfield 13, 3, 10, 1, 942), (0, 36, .iload_n 1, 1, 0, 0, 0), (3, 37, .iaload, 1, 0, 0, 0), (5, 38, .ireturn, 1, 0, 0, 0)]
def mt_X11_lacks : List mm_e := [(0, 0, .aload_n 0, 1, 0, 0, 0), (3, 1, .getfield 7, 3, 10, 0, 941), (0, 4, .iload_n 1, 1, 0, 0, 0), (3, 5, .iaload, 1, 0, 0, 0), (1, 6, .ifCond .ge 9, 3, 9, 0, 0), (0, 9, .aload_n 0, 1, 0, 0, 0), (0, 10, .iconst 1, 1, 0, 1, 0), (4, 11, .invokevirtual 104, 3, 126, 1056, 0), (5, 14, .ireturn, 1, 0, 0, 0), (0, 15, .aload_n 0, 1, 0, 0, 0), (3, 16, .getfield 7, 3, 10, 0, 941), (0, 19, .iload_n 1, 1, 0, 0, 0), (3, 20, .iaload, 1, 0, 0, 0), (0, 21, .iload_n 2, 1, 0, 0, 0), (1, 22, .if_icmp .eq 9, 3, 19, 0, 0), (0, 25, .aload_n 0, 1, 0, 0, 0), (0, 26, .iconst 3, 1, 0, 3, 0), (4, 27, .invokevirtual 104, 3, 126, 1056, 0), (5, 30, .ireturn, 1, 0, 0, 0), (0, 31, .iload_n 3, 1, 0, 0, 0), (0, 32, .i2l, 1, 0, 0, 0), (0, 33, .lconst 0, 1, 0, 0, 0), (0, 34, .aload_n 0, 1, 0, 0, 0), (3, 35, .getfield 13, 3, 10, 1, 942), (0, 38, .iload_n 1, 1, 0, 0, 0), (3, 39, .iaload, 1, 0, 0, 0), (0, 40, .iconst 1, 1, 0, 1, 0), (0, 41, .isub, 1, 0, 0, 0), (0, 42, .i2l, 1, 0, 0, 0), (4, 43, .invokestatic 88, 3, 122, 1052, 0), (1, 46, .ifCond .eq 7, 3, 33, 0, 0), (0, 49, .iconst 0, 1, 0, 0, 0), (2, 50, .goto 8, 3, 36, 0, 0), (0, 53, .aload_n 0, 1, 0, 0, 0), (0, 54, .iconst 2, 1, 0, 2, 0), (4, 55, .invokevirtual 104, 3, 126, 1056, 0), (5, 58, .ireturn, 1, 0, 0, 0)]
def mt_X11_cut : List mm_e := [(0, 0, .iload_n 0, 1, 0, 0, 0), (1, 1, .ifCond .ne 8, 3, 5, 0, 0), (0, 4, .iload_n 1, 1, 0, 0, 0), (0, 5, .i2b, 1, 0, 0, 0), (2, 6, .goto 14, 3, 12, 0, 0), (0, 9, .iload_n 0, 1, 0, 0, 0), (0, 10, .iconst 1, 1, 0, 1, 0), (1, 11, .if_icmp .ne 8, 3, 11, 0, 0), (0, 14, .iload_n 1, 1, 0, 0, 0), (0, 15, .i2s, 1, 0, 0, 0), (2, 16, .goto 4, 3, 12, 0, 0), (0, 19, .iload_n 1, 1, 0, 0, 0), (5, 20, .ireturn, 1, 0, 0, 0)]
def mt_X11_lay : List mm_e := [(0, 0, .iload_n 1, 1, 0, 0, 0), (4, 1, .invokestatic 98, 3, 127, 1048, 0), (1, 4, .ifCond .eq 15, 3, 9, 0, 0), (0, 7, .iload_n 2, 1, 0, 0, 0), (0, 8, .i2l, 1, 0, 0, 0), (0, 9, .lconst 0, 1, 0, 0, 0), (0, 10, .ldc2_w 102, 3, 0, 2, 1055), (4, 13, .invokestatic 88, 3, 122, 1052, 0), (1, 16, .ifCond .ne 6, 3, 11, 0, 0), (0, 19, .bipush (-2), 2, 0, 4294967294, 0), (5, 21, .ireturn, 1, 0, 0, 0), (0, 22, .aload_n 0, 1, 0, 0, 0), (0, 23, .iload_n 1, 1, 0, 0, 0), (0, 24, .iload_n 2, 1, 0, 0, 0), (0, 25, .iload_n 3, 1, 0, 0, 0), (4, 26, .invokevirtual 108, 3, 130, 1068, 0), (0, 29, .istore 5, 2, 0, 0, 0), (0, 31, .iload 5, 2, 0, 0, 0), (1, 33, .ifCond .eq 6, 3, 21, 0, 0), (0, 36, .iload 5, 2, 0, 0, 0), (5, 38, .ireturn, 1, 0, 0, 0), (0, 39, .aload_n 0, 1, 0, 0, 0), (3, 40, .getfield 16, 3, 10, 2, 943), (0, 43, .bipush 60, 2, 0, 60, 0), (0, 45, .iload_n 1, 1, 0, 0, 0), (0, 46, .imul, 1, 0, 0, 0), (0, 47, .iload_n 3, 1, 0, 0, 0), (0, 48, .iadd, 1, 0, 0, 0), (0, 49, .iload_n 2, 1, 0, 0, 0), (0, 50, .iload 4, 2, 0, 0, 0), (4, 52, .invokestatic 112, 3, 131, 1072, 0), (3, 55, .iastore, 1, 0, 0, 0), (0, 56, .iconst 1, 1, 0, 1, 0), (5, 57, .ireturn, 1, 0, 0, 0)]
def mt_X11_get : List mm_e := [(0, 0, .iload_n 1, 1, 0, 0, 0), (4, 1, .invokestatic 98, 3, 127, 1048, 0), (1, 4, .ifCond .eq 25, 3, 15, 0, 0), (0, 7, .iload_n 2, 1, 0, 0, 0), (0, 8, .i2l, 1, 0, 0, 0), (0, 9, .lconst 0, 1, 0, 0, 0), (0, 10, .ldc2_w 102, 3, 0, 2, 1055), (4, 13, .invokestatic 88, 3, 122, 1052, 0), (1, 16, .ifCond .eq 13, 3, 15, 0, 0), (0, 19, .aload_n 0, 1, 0, 0, 0), (0, 20, .iload_n 1, 1, 0, 0, 0), (0, 21, .iload_n 2, 1, 0, 0, 0), (0, 22, .iload_n 3, 1, 0, 0, 0), (4, 23, .invokevirtual 108, 3, 130, 1068, 0), (1, 26, .ifCond .eq 6, 3, 17, 0, 0), (0, 29, .ldc 116, 2, 0, 2147483648, 1079), (5, 31, .ireturn, 1, 0, 0, 0), (0, 32, .aload_n 0, 1, 0, 0, 0), (3, 33, .getfield 16, 3, 10, 2, 943), (0, 36, .bipush 60, 2, 0, 60, 0), (0, 38, .iload_n 1, 1, 0, 0, 0), (0, 39, .imul, 1, 0, 0, 0), (0, 40, .iload_n 3, 1, 0, 0, 0), (0, 41, .iadd, 1, 0, 0, 0), (3, 42, .iaload, 1, 0, 0, 0), (5, 43, .ireturn, 1, 0, 0, 0)]
def mt_X11_copy : List mm_e := [(0, 0, .iload_n 1, 1, 0, 0, 0), (4, 1, .invokestatic 98, 3, 127, 1048, 0), (1, 4, .ifCond .eq 10, 3, 6, 0, 0), (0, 7, .iload_n 3, 1, 0, 0, 0), (4, 8, .invokestatic 98, 3, 127, 1048, 0), (1, 11, .ifCond .ne 6, 3, 8, 0, 0), (0, 14, .bipush (-2), 2, 0, 4294967294, 0), (5, 16, .ireturn, 1, 0, 0, 0), (0, 17, .aload_n 0, 1, 0, 0, 0), (3, 18, .getfield 7, 3, 10, 0, 941), (0, 21, .iload_n 1, 1, 0, 0, 0), (3, 22, .iaload, 1, 0, 0, 0), (1, 23, .ifCond .lt 12, 3, 18, 0, 0), (0, 26, .aload_n 0, 1, 0, 0, 0), (3, 27, .getfield 7, 3, 10, 0, 941), (0, 30, .iload_n 3, 1, 0, 0, 0), (3, 31, .iaload, 1, 0, 0, 0), (1, 32, .ifCond .ge 9, 3, 22, 0, 0), (0, 35, .aload_n 0, 1, 0, 0, 0), (0, 36, .iconst 1, 1, 0, 1, 0), (4, 37, .invokevirtual 104, 3, 126, 1056, 0), (5, 40, .ireturn, 1, 0, 0, 0), (0, 41, .aload_n 0, 1, 0, 0, 0), (3, 42, .getfield 7, 3, 10, 0, 941), (0, 45, .iload_n 1, 1, 0, 0, 0), (3, 46, .iaload, 1, 0, 0, 0), (0, 47, .aload_n 0, 1, 0, 0, 0), (3, 48, .getfield 7, 3, 10, 0, 941), (0, 51, .iload_n 3, 1, 0, 0, 0), (3, 52, .iaload, 1, 0, 0, 0), (1, 53, .if_icmp .eq 9, 3, 35, 0, 0), (0, 56, .aload_n 0, 1, 0, 0, 0), (0, 57, .iconst 4, 1, 0, 4, 0), (4, 58, .invokevirtual 104, 3, 126, 1056, 0), (5, 61, .ireturn, 1, 0, 0, 0), (0, 62, .iload_n 2, 1, 0, 0, 0), (1, 63, .ifCond .lt 48, 3, 65, 0, 0), (0, 66, .iload 4, 2, 0, 0, 0), (1, 68, .ifCond .lt 43, 3, 65, 0, 0), (0, 71, .iload 5, 2, 0, 0, 0), (1, 73, .ifCond .lt 38, 3, 65, 0, 0), (0, 76, .iload_n 2, 1, 0, 0, 0), (0, 77, .i2l, 1, 0, 0, 0), (0, 78, .iload 5, 2, 0, 0, 0), (0, 80, .i2l, 1, 0, 0, 0), (0, 81, .ladd, 1, 0, 0, 0), (0, 82, .aload_n 0, 1, 0, 0, 0), (3, 83, .getfield 13, 3, 10, 1, 942), (0, 86, .iload_n 1, 1, 0, 0, 0), (3, 87, .iaload, 1, 0, 0, 0), (0, 88, .i2l, 1, 0, 0, 0), (0, 89, .lcmp, 1, 0, 0, 0), (1, 90, .ifCond .gt 21, 3, 65, 0, 0), (0, 93, .iload 4, 2, 0, 0, 0), (0, 95, .i2l, 1, 0, 0, 0), (0, 96, .iload 5, 2, 0, 0, 0), (0, 98, .i2l, 1, 0, 0, 0), (0, 99, .ladd, 1, 0, 0, 0), (0, 100, .aload_n 0, 1, 0, 0, 0), (3, 101, .getfield 13, 3, 10, 1, 942), (0, 104, .iload_n 3, 1, 0, 0, 0), (3, 105, .iaload, 1, 0, 0, 0), (0, 106, .i2l, 1, 0, 0, 0), (0, 107, .lcmp, 1, 0, 0, 0), (1, 108, .ifCond .le 9, 3, 69, 0, 0), (0, 111, .aload_n 0, 1, 0, 0, 0), (0, 112, .iconst 2, 1, 0, 2, 0), (4, 113, .invokevirtual 104, 3, 126, 1056, 0), (5, 116, .ireturn, 1, 0, 0, 0), (0, 117, .iconst 0, 1, 0, 0, 0), (0, 118, .istore 6, 2, 0, 0, 0), (0, 120, .iload 6, 2, 0, 0, 0), (0, 122, .iload 5, 2, 0, 0, 0), (1, 124, .if_icmp .ge 30, 3, 90, 0, 0), (0, 127, .aload_n 0, 1, 0, 0, 0), (3, 128, .getfield 19, 3, 10, 3, 944), (0, 131, .iload 6, 2, 0, 0, 0), (0, 133, .aload_n 0, 1, 0, 0, 0), (3, 134, .getfield 16, 3, 10, 2, 943), (0, 137, .bipush 60, 2, 0, 60, 0), (0, 139, .iload_n 1, 1, 0, 0, 0), (0, 140, .imul, 1, 0, 0, 0), (0, 141, .iload_n 2, 1, 0, 0, 0), (0, 142, .iadd, 1, 0, 0, 0), (0, 143, .iload 6, 2, 0, 0, 0), (0, 145, .iadd, 1, 0, 0, 0), (3, 146, .iaload, 1, 0, 0, 0), (3, 147, .iastore, 1, 0, 0, 0), (0, 148, .iinc 6 1, 3, 0, 1, 0), (2, 151, .goto (-31), 3, 71, 0, 0), (0, 154, .iconst 0, 1, 0, 0, 0), (0, 155, .istore 6, 2, 0, 0, 0), (0, 157, .iload 6, 2, 0, 0, 0), (0, 159, .iload 5, 2, 0, 0, 0), (1, 161, .if_icmp .ge 31, 3, 111, 0, 0), (0, 164, .aload_n 0, 1, 0, 0, 0), (3, 165, .getfield 16, 3, 10, 2, 943), (0, 168, .bipush 60, 2, 0, 60, 0), (0, 170, .iload_n 3, 1, 0, 0, 0), (0, 171, .imul, 1, 0, 0, 0), (0, 172, .iload 4, 2, 0, 0, 0), (0, 174, .iadd, 1, 0, 0, 0), (0, 175, .iload 6, 2, 0, 0, 0), (0, 177, .iadd, 1, 0, 0, 0), (0, 178, .aload_n 0, 1, 0, 0, 0), (3, 179, .getfield 19, 3, 10, 3, 944), (0, 182, .iload 6, 2, 0, 0, 0), (3, 184, .iaload, 1, 0, 0, 0), (3, 185, .iastore, 1, 0, 0, 0), (0, 186, .iinc 6 1, 3, 0, 1, 0), (2, 189, .goto (-32), 3, 92, 0, 0), (0, 192, .iconst 1, 1, 0, 1, 0), (5, 193, .ireturn, 1, 0, 0, 0)]
def mt_X11_twice : List mm_e := [(0, 0, .iload_n 0, 1, 0, 0, 0), (0, 1, .iconst 2, 1, 0, 2, 0), (0, 2, .imul, 1, 0, 0, 0), (0, 3, .istore_n 1, 1, 0, 0, 0), (0, 4, .iload_n 1, 1, 0, 0, 0), (0, 5, .bipush 15, 2, 0, 15, 0), (1, 7, .if_icmp .le 10, 3, 11, 0, 0), (0, 10, .iload_n 1, 1, 0, 0, 0), (0, 11, .bipush 19, 2, 0, 19, 0), (0, 13, .ixor, 1, 0, 0, 0), (2, 14, .goto 4, 3, 12, 0, 0), (0, 17, .iload_n 1, 1, 0, 0, 0), (5, 18, .ireturn, 1, 0, 0, 0)]
def mt_X11_multiplied : List mm_e := [(0, 0, .iload_n 1, 1, 0, 0, 0), (0, 1, .istore_n 2, 1, 0, 0, 0), (0, 2, .iload_n 0, 1, 0, 0, 0), (0, 3, .istore_n 3, 1, 0, 0, 0), (0, 4, .iconst 0, 1, 0, 0, 0), (0, 5, .istore 4, 2, 0, 0, 0), (0, 7, .iload_n 2, 1, 0, 0, 0), (1, 8, .ifCond .le 32, 3, 27, 0, 0), (0, 11, .iload 4, 2, 0, 0, 0), (0, 13, .iload_n 2, 1, 0, 0, 0), (0, 14, .iconst 1, 1, 0, 1, 0), (0, 15, .iand, 1, 0, 0, 0), (0, 16, .iconst 1, 1, 0, 1, 0), (1, 17, .if_icmp .ne 7, 3, 16, 0, 0), (0, 20, .iload_n 3, 1, 0, 0, 0), (2, 21, .goto 4, 3, 17, 0, 0), (0, 24, .iconst 0, 1, 0, 0, 0), (0, 25, .ixor, 1, 0, 0, 0), (0, 26, .istore 4, 2, 0, 0, 0), (0, 28, .iload_n 3, 1, 0, 0, 0), (4, 29, .invokestatic 117, 3, 135, 1095, 0), (0, 32, .istore_n 3, 1, 0, 0, 0), (0, 33, .iload_n 2, 1, 0, 0, 0), (0, 34, .iconst 1, 1, 0, 1, 0), (0, 35, .ishr, 1, 0, 0, 0), (0, 36, .istore_n 2, 1, 0, 0, 0), (2, 37, .goto (-30), 3, 6, 0, 0), (0, 40, .iload 4, 2, 0, 0, 0), (5, 42, .ireturn, 1, 0, 0, 0)]
def mt_X11_often : List mm_e := [(0, 0, .iconst 1, 1, 0, 1, 0), (0, 1, .istore_n 2, 1, 0, 0, 0), (0, 2, .iconst 0, 1, 0, 0, 0), (0, 3, .istore_n 3, 1, 0, 0, 0), (0, 4, .iload_n 3, 1, 0, 0, 0), (0, 5, .iload_n 1, 1, 0, 0, 0), (1, 6, .if_icmp .ge 15, 3, 13, 0, 0), (0, 9, .iload_n 2, 1, 0, 0, 0), (0, 10, .iload_n 0, 1, 0, 0, 0), (4, 11, .invokestatic 120, 3, 136, 1092, 0), (0, 14, .istore_n 2, 1, 0, 0, 0), (0, 15, .iinc 3 1, 3, 0, 1, 0), (2, 18, .goto (-14), 3, 4, 0, 0), (0, 21, .iload_n 2, 1, 0, 0, 0), (5, 22, .ireturn, 1, 0, 0, 0)]
def mt_X11_inverse : List mm_e := [(0, 0, .iload_n 0, 1, 0, 0, 0), (0, 1, .bipush 14, 2, 0, 14, 0), (4, 3, .invokestatic 123, 3, 137, 1101, 0), (5, 6, .ireturn, 1, 0, 0, 0)]
def mt_X11_product : List mm_e := [(0, 0, .aload_n 0, 1, 0, 0, 0), (3, 1, .getfield 28, 3, 10, 7, 948), (0, 4, .bipush 16, 2, 0, 16, 0), (0, 6, .iload_n 1, 1, 0, 0, 0), (0, 7, .imul, 1, 0, 0, 0), (0, 8, .iload_n 2, 1, 0, 0, 0), (0, 9, .iadd, 1, 0, 0, 0), (3, 10, .iaload, 1, 0, 0, 0), (5, 11, .ireturn, 1, 0, 0, 0)]
def mt_X11_power : List mm_e := [(0, 0, .aload_n 0, 1, 0, 0, 0), (3, 1, .getfield 22, 3, 10, 5, 946), (0, 4, .iload_n 1, 1, 0, 0, 0), (0, 5, .bipush 15, 2, 0, 15, 0), (0, 7, .irem, 1, 0, 0, 0), (3, 8, .iaload, 1, 0, 0, 0), (5, 9, .ireturn, 1, 0, 0, 0)]
def mt_X11_fieldBy : List mm_e := [(0, 0, .iload_n 2, 1, 0, 0, 0), (1, 1, .ifCond .ne 11, 3, 6, 0, 0), (0, 4, .iload_n 0, 1, 0, 0, 0), (0, 5, .iload_n 1, 1, 0, 0, 0), (4, 6, .invokestatic 120, 3, 136, 1092, 0), (2, 9, .goto 32, 3, 21, 0, 0), (0, 12, .iload_n 2, 1, 0, 0, 0), (0, 13, .iconst 1, 1, 0, 1, 0), (1, 14, .if_icmp .ne 22, 3, 18, 0, 0), (0, 17, .iload_n 1, 1, 0, 0, 0), (1, 18, .ifCond .ne 7, 3, 13, 0, 0), (0, 21, .iconst (-1), 1, 0, 4294967295, 0), (2, 22, .goto 19, 3, 21, 0, 0), (0, 25, .iload_n 0, 1, 0, 0, 0), (0, 26, .iload_n 1, 1, 0, 0, 0), (4, 27, .invokestatic 126, 3, 138, 1098, 0), (4, 30, .invokestatic 120, 3, 136, 1092, 0), (2, 33, .goto 8, 3, 21, 0, 0), (0, 36, .iload_n 0, 1, 0, 0, 0), (0, 37, .iload_n 1, 1, 0, 0, 0), (4, 38, .invokestatic 123, 3, 137, 1101, 0), (5, 41, .ireturn, 1, 0, 0, 0)]
def mt_X11_field : List mm_e := [(0, 0, .iload_n 1, 1, 0, 0, 0), (0, 1, .i2l, 1, 0, 0, 0), (0, 2, .lconst 0, 1, 0, 0, 0), (0, 3, .ldc2_w 129, 3, 0, 15, 1088), (4, 6, .invokestatic 88, 3, 122, 1052, 0), (1, 9, .ifCond .eq 36, 3, 23, 0, 0), (0, 12, .iload_n 2, 1, 0, 0, 0), (0, 13, .i2l, 1, 0, 0, 0), (0, 14, .lconst 0, 1, 0, 0, 0), (0, 15, .ldc2_w 129, 3, 0, 15, 1088), (4, 18, .invokestatic 88, 3, 122, 1052, 0), (1, 21, .ifCond .eq 24, 3, 23, 0, 0), (0, 24, .iload_n 3, 1, 0, 0, 0), (0, 25, .i2l, 1, 0, 0, 0), (0, 26, .lconst 0, 1, 0, 0, 0), (0, 27, .ldc2_w 102, 3, 0, 2, 1055), (4, 30, .invokestatic 88, 3, 122, 1052, 0), (1, 33, .ifCond .eq 12, 3, 23, 0, 0), (0, 36, .iload_n 1, 1, 0, 0, 0), (0, 37, .iload_n 2, 1, 0, 0, 0), (0, 38, .iload_n 3, 1, 0, 0, 0), (4, 39, .invokestatic 131, 3, 141, 1089, 0), (2, 42, .goto 5, 3, 24, 0, 0), (0, 45, .bipush (-2), 2, 0, 4294967294, 0), (5, 47, .ireturn, 1, 0, 0, 0)]
def mt_X11_type : List mm_e := [(0, 0, .iload_n 1, 1, 0, 0, 0), (4, 1, .invokestatic 134, 3, 123, 1108, 0), (1, 4, .ifCond .eq 15, 3, 9, 0, 0), (0, 7, .iload_n 2, 1, 0, 0, 0), (0, 8, .i2l, 1, 0, 0, 0), (0, 9, .lconst 0, 1, 0, 0, 0), (0, 10, .ldc2_w 137, 3, 0, 255, 1111), (4, 13, .invokestatic 88, 3, 122, 1052, 0), (1, 16, .ifCond .ne 6, 3, 11, 0, 0), (0, 19, .bipush (-2), 2, 0, 4294967294, 0), (5, 21, .ireturn, 1, 0, 0, 0), (0, 22, .aload_n 0, 1, 0, 0, 0), (3, 23, .getfield 37, 3, 10, 10, 951), (0, 26, .iload_n 1, 1, 0, 0, 0), (3, 27, .iaload, 1, 0, 0, 0), (0, 28, .iload_n 1, 1, 0, 0, 0), (1, 29, .ifCond .ne 8, 3, 19, 0, 0), (0, 32, .bipush 14, 2, 0, 14, 0), (2, 34, .goto 4, 3, 20, 0, 0), (0, 37, .iconst 3, 1, 0, 3, 0), (1, 38, .if_icmp .ne 6, 3, 23, 0, 0), (0, 41, .bipush (-4), 2, 0, 4294967292, 0), (5, 43, .ireturn, 1, 0, 0, 0), (0, 44, .iload_n 1, 1, 0, 0, 0), (1, 45, .ifCond .ne 18, 3, 34, 0, 0), (0, 48, .aload_n 0, 1, 0, 0, 0), (3, 49, .getfield 31, 3, 10, 8, 949), (0, 52, .aload_n 0, 1, 0, 0, 0), (3, 53, .getfield 37, 3, 10, 10, 951), (0, 56, .iload_n 1, 1, 0, 0, 0), (3, 57, .iaload, 1, 0, 0, 0), (0, 58, .iload_n 2, 1, 0, 0, 0), (3, 59, .iastore, 1, 0, 0, 0), (2, 60, .goto 15, 3, 42, 0, 0), (0, 63, .aload_n 0, 1, 0, 0, 0), (3, 64, .getfield 34, 3, 10, 9, 950), (0, 67, .aload_n 0, 1, 0, 0, 0), (3, 68, .getfield 37, 3, 10, 10, 951), (0, 71, .iload_n 1, 1, 0, 0, 0), (3, 72, .iaload, 1, 0, 0, 0), (0, 73, .iload_n 2, 1, 0, 0, 0), (3, 74, .iastore, 1, 0, 0, 0), (0, 75, .aload_n 0, 1, 0, 0, 0), (3, 76, .getfield 37, 3, 10, 10, 951), (0, 79, .iload_n 1, 1, 0, 0, 0), (0, 80, .dup2, 1, 0, 0, 0), (3, 81, .iaload, 1, 0, 0, 0), (0, 82, .iconst 1, 1, 0, 1, 0), (0, 83, .iadd, 1, 0, 0, 0), (3, 84, .iastore, 1, 0, 0, 0), (0, 85, .aload_n 0, 1, 0, 0, 0), (3, 86, .getfield 37, 3, 10, 10, 951), (0, 89, .iload_n 1, 1, 0, 0, 0), (3, 90, .iaload, 1, 0, 0, 0), (5, 91, .ireturn, 1, 0, 0, 0)]
def mt_X11_wipe : List mm_e := [(0, 0, .iload_n 1, 1, 0, 0, 0), (4, 1, .invokestatic 134, 3, 123, 1108, 0), (1, 4, .ifCond .ne 6, 3, 5, 0, 0), (0, 7, .bipush (-2), 2, 0, 4294967294, 0), (5, 9, .ireturn, 1, 0, 0, 0), (0, 10, .aload_n 0, 1, 0, 0, 0), (3, 11, .getfield 37, 3, 10, 10, 951), (0, 14, .iload_n 1, 1, 0, 0, 0), (3, 15, .iaload, 1, 0, 0, 0), (0, 16, .istore_n 2, 1, 0, 0, 0), (0, 17, .aload_n 0, 1, 0, 0, 0), (3, 18, .getfield 37, 3, 10, 10, 951), (0, 21, .iload_n 1, 1, 0, 0, 0), (0, 22, .iconst 0, 1, 0, 0, 0), (3, 23, .iastore, 1, 0, 0, 0), (0, 24, .iload_n 2, 1, 0, 0, 0), (5, 25, .ireturn, 1, 0, 0, 0)]
def mt_X11_undo : List mm_e := [(0, 0, .iload_n 1, 1, 0, 0, 0), (4, 1, .invokestatic 134, 3, 123, 1108, 0), (1, 4, .ifCond .ne 6, 3, 5, 0, 0), (0, 7, .bipush (-2), 2, 0, 4294967294, 0), (5, 9, .ireturn, 1, 0, 0, 0), (0, 10, .aload_n 0, 1, 0, 0, 0), (3, 11, .getfield 37, 3, 10, 10, 951), (0, 14, .iload_n 1, 1, 0, 0, 0), (3, 15, .iaload, 1, 0, 0, 0), (1, 16, .ifCond .ne 6, 3, 12, 0, 0), (0, 19, .bipush (-3), 2, 0, 4294967293, 0), (5, 21, .ireturn, 1, 0, 0, 0), (0, 22, .aload_n 0, 1, 0, 0, 0), (3, 23, .getfield 37, 3, 10, 10, 951), (0, 26, .iload_n 1, 1, 0, 0, 0), (0, 27, .dup2, 1, 0, 0, 0), (3, 28, .iaload, 1, 0, 0, 0), (0, 29, .iconst 1, 1, 0, 1, 0), (0, 30, .isub, 1, 0, 0, 0), (3, 31, .iastore, 1, 0, 0, 0), (0, 32, .aload_n 0, 1, 0, 0, 0), (3, 33, .getfield 37, 3, 10, 10, 951), (0, 36, .iload_n 1, 1, 0, 0, 0), (3, 37, .iaload, 1, 0, 0, 0), (5, 38, .ireturn, 1, 0, 0, 0)]
def mt_X11_read : List mm_e := [(0, 0, .iload_n 1, 1, 0, 0, 0), (4, 1, .invokestatic 98, 3, 127, 1048, 0), (1, 4, .ifCond .ne 6, 3, 5, 0, 0), (0, 7, .bipush (-2), 2, 0, 4294967294, 0), (5, 9, .ireturn, 1, 0, 0, 0), (0, 10, .aload_n 0, 1, 0, 0, 0), (3, 11, .getfield 7, 3, 10, 0, 941), (0, 14, .iload_n 1, 1, 0, 0, 0), (3, 15, .iaload, 1, 0, 0, 0), (1, 16, .ifCond .ge 9, 3, 14, 0, 0), (0, 19, .aload_n 0, 1, 0, 0, 0), (0, 20, .iconst 1, 1, 0, 1, 0), (4, 21, .invokevirtual 104, 3, 126, 1056, 0), (5, 24, .ireturn, 1, 0, 0, 0), (0, 25, .iconst 0, 1, 0, 0, 0), (0, 26, .istore_n 2, 1, 0, 0, 0), (0, 27, .iload_n 2, 1, 0, 0, 0), (0, 28, .aload_n 0, 1, 0, 0, 0), (3, 29, .getfield 13, 3, 10, 1, 942), (0, 32, .iload_n 1, 1, 0, 0, 0), (3, 33, .iaload, 1, 0, 0, 0), (1, 34, .if_icmp .ge 28, 3, 36, 0, 0), (0, 37, .aload_n 0, 1, 0, 0, 0), (0, 38, .iconst 0, 1, 0, 0, 0), (0, 39, .aload_n 0, 1, 0, 0, 0), (3, 40, .getfield 16, 3, 10, 2, 943), (0, 43, .bipush 60, 2, 0, 60, 0), (0, 45, .iload_n 1, 1, 0, 0, 0), (0, 46, .imul, 1, 0, 0, 0), (0, 47, .iload_n 2, 1, 0, 0, 0), (0, 48, .iadd, 1, 0, 0, 0), (3, 49, .iaload, 1, 0, 0, 0), (4, 50, .invokevirtual 139, 3, 143, 1124, 0), (1, 53, .ifCond .lt 9, 3, 36, 0, 0), (0, 56, .iinc 2 1, 3, 0, 1, 0), (2, 59, .goto (-32), 3, 16, 0, 0), (0, 62, .iload_n 2, 1, 0, 0, 0), (5, 63, .ireturn, 1, 0, 0, 0)]
def mt_X11_letterOf : List mm_e := [(0, 0, .iload_n 0, 1, 0, 0, 0), (1, 1, .ifCond .ne 8, 3, 4, 0, 0), (0, 4, .bipush 108, 2, 0, 108, 0), (2, 6, .goto 15, 3, 10, 0, 0), (0, 9, .iload_n 0, 1, 0, 0, 0), (0, 10, .iconst 1, 1, 0, 1, 0), (1, 11, .if_icmp .ne 8, 3, 9, 0, 0), (0, 14, .bipush 109, 2, 0, 109, 0), (2, 16, .goto 5, 3, 10, 0, 0), (0, 19, .bipush 116, 2, 0, 116, 0), (0, 21, .istore_n 2, 1, 0, 0, 0), (0, 22, .iload_n 0, 1, 0, 0, 0), (0, 23, .iconst 1, 1, 0, 1, 0), (1, 24, .if_icmp .ne 8, 3, 16, 0, 0), (0, 27, .bipush 105, 2, 0, 105, 0), (2, 29, .goto 5, 3, 17, 0, 0), (0, 32, .bipush 111, 2, 0, 111, 0), (0, 34, .istore_n 3, 1, 0, 0, 0), (0, 35, .iload_n 0, 1, 0, 0, 0), (1, 36, .ifCond .ne 8, 3, 22, 0, 0), (0, 39, .bipush 119, 2, 0, 119, 0), (2, 41, .goto 15, 3, 28, 0, 0), (0, 44, .iload_n 0, 1, 0, 0, 0), (0, 45, .iconst 1, 1, 0, 1, 0), (1, 46, .if_icmp .ne 8, 3, 27, 0, 0), (0, 49, .bipush 100, 2, 0, 100, 0), (2, 51, .goto 5, 3, 28, 0, 0), (0, 54, .bipush 112, 2, 0, 112, 0), (0, 56, .istore 4, 2, 0, 0, 0), (0, 58, .iload_n 1, 1, 0, 0, 0), (1, 59, .ifCond .ne 7, 3, 33, 0, 0), (0, 62, .iload_n 2, 1, 0, 0, 0), (2, 63, .goto 14, 3, 39, 0, 0), (0, 66, .iload_n 1, 1, 0, 0, 0), (0, 67, .iconst 1, 1, 0, 1, 0), (1, 68, .if_icmp .ne 7, 3, 38, 0, 0), (0, 71, .iload_n 3, 1, 0, 0, 0), (2, 72, .goto 5, 3, 39, 0, 0), (0, 75, .iload 4, 2, 0, 0, 0), (5, 77, .ireturn, 1, 0, 0, 0)]
def mt_X11_along : List mm_e := [(0, 0, .iconst 0, 1, 0, 0, 0), (0, 1, .istore_n 2, 1, 0, 0, 0), (0, 2, .iload_n 2, 1, 0, 0, 0), (0, 3, .aload_n 0, 1, 0, 0, 0), (3, 4, .getfield 37, 3, 10, 10, 951), (0, 7, .iconst 1, 1, 0, 1, 0), (3, 8, .iaload, 1, 0, 0, 0), (1, 9, .if_icmp .ge 23, 3, 18, 0, 0), (0, 12, .aload_n 0, 1, 0, 0, 0), (3, 13, .getfield 34, 3, 10, 9, 950), (0, 16, .iload_n 2, 1, 0, 0, 0), (3, 17, .iaload, 1, 0, 0, 0), (0, 18, .iload_n 1, 1, 0, 0, 0), (0, 19, .iload_n 2, 1, 0, 0, 0), (4, 20, .invokestatic 142, 3, 147, 1137, 0), (1, 23, .if_icmp .ne 9, 3, 18, 0, 0), (0, 26, .iinc 2 1, 3, 0, 1, 0), (2, 29, .goto (-27), 3, 2, 0, 0), (0, 32, .iload_n 2, 1, 0, 0, 0), (5, 33, .ireturn, 1, 0, 0, 0)]
def mt_X11_faultNow : List mm_e := [(0, 0, .aload_n 0, 1, 0, 0, 0), (0, 1, .iconst 0, 1, 0, 0, 0), (4, 2, .invokevirtual 145, 3, 148, 1133, 0), (0, 5, .aload_n 0, 1, 0, 0, 0), (0, 6, .iconst 1, 1, 0, 1, 0), (4, 7, .invokevirtual 145, 3, 148, 1133, 0), (0, 10, .aload_n 0, 1, 0, 0, 0), (0, 11, .iconst 2, 1, 0, 2, 0), (4, 12, .invokevirtual 145, 3, 148, 1133, 0), (4, 15, .invokestatic 148, 3, 125, 1140, 0), (4, 18, .invokestatic 148, 3, 125, 1140, 0), (0, 21, .istore_n 1, 1, 0, 0, 0), (0, 22, .aload_n 0, 1, 0, 0, 0), (3, 23, .getfield 37, 3, 10, 10, 951), (0, 26, .iconst 1, 1, 0, 1, 0), (3, 27, .iaload, 1, 0, 0, 0), (1, 28, .ifCond .eq 8, 3, 20, 0, 0), (0, 31, .iload_n 1, 1, 0, 0, 0), (0, 32, .iconst 3, 1, 0, 3, 0), (1, 33, .if_icmp .ne 7, 3, 22, 0, 0), (0, 36, .iconst (-1), 1, 0, 4294967295, 0), (2, 37, .goto 4, 3, 23, 0, 0), (0, 40, .iload_n 1, 1, 0, 0, 0), (5, 41, .ireturn, 1, 0, 0, 0)]
def mt_X11_fault : List mm_e := [(0, 0, .aload_n 0, 1, 0, 0, 0), (4, 1, .invokevirtual 151, 3, 149, 1129, 0), (5, 4, .ireturn, 1, 0, 0, 0)]
def mt_X11_levelNow : List mm_e := [(0, 0, .aload_n 0, 1, 0, 0, 0), (0, 1, .iconst 1, 1, 0, 1, 0), (4, 2, .invokevirtual 145, 3, 148, 1133, 0), (0, 5, .iconst 3, 1, 0, 3, 0), (1, 6, .if_icmp .ne 7, 3, 7, 0, 0), (0, 9, .iconst 1, 1, 0, 1, 0), (2, 10, .goto 17, 3, 15, 0, 0), (0, 13, .aload_n 0, 1, 0, 0, 0), (0, 14, .iconst 2, 1, 0, 2, 0), (4, 15, .invokevirtual 145, 3, 148, 1133, 0), (0, 18, .iconst 3, 1, 0, 3, 0), (1, 19, .if_icmp .ne 7, 3, 14, 0, 0), (0, 22, .iconst 2, 1, 0, 2, 0), (2, 23, .goto 4, 3, 15, 0, 0), (0, 26, .iconst 0, 1, 0, 0, 0), (5, 27, .ireturn, 1, 0, 0, 0)]
def mt_X11_checksOf : List mm_e := [(0, 0, .iconst 2, 1, 0, 2, 0), (0, 1, .iconst 2, 1, 0, 2, 0), (0, 2, .iload_n 0, 1, 0, 0, 0), (0, 3, .imul, 1, 0, 0, 0), (0, 4, .iadd, 1, 0, 0, 0), (5, 5, .ireturn, 1, 0, 0, 0)]
def mt_X11_roomOf : List mm_e := [(0, 0, .iconst 3, 1, 0, 3, 0), (0, 1, .bipush 14, 2, 0, 14, 0), (0, 3, .iload_n 0, 1, 0, 0, 0), (4, 4, .invokestatic 155, 3, 152, 1168, 0), (0, 7, .isub, 1, 0, 0, 0), (0, 8, .imul, 1, 0, 0, 0), (5, 9, .ireturn, 1, 0, 0, 0)]
def mt_X11_isEye : List mm_e := [(0, 0, .iload_n 0, 1, 0, 0, 0), (0, 1, .iconst 3, 1, 0, 3, 0), (1, 2, .if_icmp .ge 8, 3, 6, 0, 0), (0, 5, .iload_n 1, 1, 0, 0, 0), (0, 6, .iconst 3, 1, 0, 3, 0), (1, 7, .if_icmp .lt 25, 3, 18, 0, 0), (0, 10, .iload_n 0, 1, 0, 0, 0), (0, 11, .iconst 3, 1, 0, 3, 0), (1, 12, .if_icmp .ge 9, 3, 12, 0, 0), (0, 15, .iload_n 1, 1, 0, 0, 0), (0, 16, .bipush 11, 2, 0, 11, 0), (1, 18, .if_icmp .gt 14, 3, 18, 0, 0), (0, 21, .iload_n 0, 1, 0, 0, 0), (0, 22, .bipush 11, 2, 0, 11, 0), (1, 24, .if_icmp .le 12, 3, 20, 0, 0), (0, 27, .iload_n 1, 1, 0, 0, 0), (0, 28, .iconst 3, 1, 0, 3, 0), (1, 29, .if_icmp .ge 7, 3, 20, 0, 0), (0, 32, .iconst 1, 1, 0, 1, 0), (2, 33, .goto 4, 3, 21, 0, 0), (0, 36, .iconst 0, 1, 0, 0, 0), (5, 37, .ireturn, 1, 0, 0, 0)]
def mt_X11_eye : List mm_e := [(0, 0, .iload_n 0, 1, 0, 0, 0), (0, 1, .iconst 1, 1, 0, 1, 0), (1, 2, .if_icmp .eq 9, 3, 6, 0, 0), (0, 5, .iload_n 0, 1, 0, 0, 0), (0, 6, .bipush 13, 2, 0, 13, 0), (1, 8, .if_icmp .ne 18, 3, 14, 0, 0), (0, 11, .iload_n 1, 1, 0, 0, 0), (0, 12, .iconst 1, 1, 0, 1, 0), (1, 13, .if_icmp .eq 9, 3, 12, 0, 0), (0, 16, .iload_n 1, 1, 0, 0, 0), (0, 17, .bipush 13, 2, 0, 13, 0), (1, 19, .if_icmp .ne 7, 3, 14, 0, 0), (0, 22, .iconst 0, 1, 0, 0, 0), (2, 23, .goto 4, 3, 15, 0, 0), (0, 26, .iconst 1, 1, 0, 1, 0), (5, 27, .ireturn, 1, 0, 0, 0)]
def mt_X11_formatBit : List mm_e := [(0, 0, .iload_n 0, 1, 0, 0, 0), (0, 1, .iconst 3, 1, 0, 3, 0), (1, 2, .if_icmp .ne 8, 3, 6, 0, 0), (0, 5, .iload_n 1, 1, 0, 0, 0), (0, 6, .iconst 4, 1, 0, 4, 0), (1, 7, .if_icmp .lt 14, 3, 12, 0, 0), (0, 10, .iload_n 0, 1, 0, 0, 0), (0, 11, .bipush 11, 2, 0, 11, 0), (1, 13, .if_icmp .ne 12, 3, 16, 0, 0), (0, 16, .iload_n 1, 1, 0, 0, 0), (0, 17, .iconst 4, 1, 0, 4, 0), (1, 18, .if_icmp .ge 7, 3, 16, 0, 0), (0, 21, .iconst 3, 1, 0, 3, 0), (0, 22, .iload_n 1, 1, 0, 0, 0), (0, 23, .isub, 1, 0, 0, 0), (5, 24, .ireturn, 1, 0, 0, 0), (0, 25, .iload_n 0, 1, 0, 0, 0), (0, 26, .iconst 3, 1, 0, 3, 0), (1, 27, .if_icmp .ne 16, 3, 26, 0, 0), (0, 30, .iload_n 1, 1, 0, 0, 0), (0, 31, .bipush 10, 2, 0, 10, 0), (1, 33, .if_icmp .le 10, 3, 26, 0, 0), (0, 36, .bipush 14, 2, 0, 14, 0), (0, 38, .iload_n 1, 1, 0, 0, 0), (0, 39, .isub, 1, 0, 0, 0), (2, 40, .goto 4, 3, 27, 0, 0), (0, 43, .iconst (-1), 1, 0, 4294967295, 0), (5, 44, .ireturn, 1, 0, 0, 0)]
def mt_X11_frees : List mm_e := [(0, 0, .iconst 0, 1, 0, 0, 0), (0, 1, .istore_n 1, 1, 0, 0, 0), (0, 2, .iload_n 1, 1, 0, 0, 0), (0, 3, .sipush 256, 3, 0, 256, 0), (1, 6, .if_icmp .ge 26, 3, 18, 0, 0), (0, 9, .aload_n 0, 1, 0, 0, 0), (3, 10, .getfield 28, 3, 10, 7, 948), (0, 13, .iload_n 1, 1, 0, 0, 0), (0, 14, .iload_n 1, 1, 0, 0, 0), (0, 15, .bipush 16, 2, 0, 16, 0), (0, 17, .idiv, 1, 0, 0, 0), (0, 18, .iload_n 1, 1, 0, 0, 0), (0, 19, .bipush 16, 2, 0, 16, 0), (0, 21, .irem, 1, 0, 0, 0), (4, 22, .invokestatic 120, 3, 136, 1092, 0), (3, 25, .iastore, 1, 0, 0, 0), (0, 26, .iinc 1 1, 3, 0, 1, 0), (2, 29, .goto (-27), 3, 2, 0, 0), (0, 32, .aload_n 0, 1, 0, 0, 0), (3, 33, .getfield 22, 3, 10, 5, 946), (0, 36, .iconst 0, 1, 0, 0, 0), (0, 37, .iconst 1, 1, 0, 1, 0), (3, 38, .iastore, 1, 0, 0, 0), (0, 39, .iconst 1, 1, 0, 1, 0), (0, 40, .istore_n 1, 1, 0, 0, 0), (0, 41, .iload_n 1, 1, 0, 0, 0), (0, 42, .bipush 15, 2, 0, 15, 0), (1, 44, .if_icmp .ge 26, 3, 41, 0, 0), (0, 47, .aload_n 0, 1, 0, 0, 0), (3, 48, .getfield 22, 3, 10, 5, 946), (0, 51, .iload_n 1, 1, 0, 0, 0), (0, 52, .aload_n 0, 1, 0, 0, 0), (3, 53, .getfield 22, 3, 10, 5, 946), (0, 56, .iload_n 1, 1, 0, 0, 0), (0, 57, .iconst 1, 1, 0, 1, 0), (0, 58, .isub, 1, 0, 0, 0), (3, 59, .iaload, 1, 0, 0, 0), (4, 60, .invokestatic 117, 3, 135, 1095, 0), (3, 63, .iastore, 1, 0, 0, 0), (0, 64, .iinc 1 1, 3, 0, 1, 0), (2, 67, .goto (-26), 3, 25, 0, 0), (0, 70, .iconst 0, 1, 0, 0, 0), (0, 71, .istore_n 1, 1, 0, 0, 0), (0, 72, .iload_n 1, 1, 0, 0, 0), (0, 73, .bipush 15, 2, 0, 15, 0), (1, 75, .if_icmp .ge 32, 3, 63, 0, 0), (0, 78, .aload_n 0, 1, 0, 0, 0), (3, 79, .getfield 25, 3, 10, 6, 947), (0, 82, .aload_n 0, 1, 0, 0, 0), (3, 83, .getfield 22, 3, 10, 5, 946), (0, 86, .iload_n 1, 1, 0, 0, 0), (3, 87, .iaload, 1, 0, 0, 0), (0, 88, .aload_n 0, 1, 0, 0, 0), (3, 89, .getfield 22, 3, 10, 5, 946), (0, 92, .bipush 15, 2, 0, 15, 0), (0, 94, .iload_n 1, 1, 0, 0, 0), (0, 95, .isub, 1, 0, 0, 0), (0, 96, .bipush 15, 2, 0, 15, 0), (0, 98, .irem, 1, 0, 0, 0), (3, 99, .iaload, 1, 0, 0, 0), (3, 100, .iastore, 1, 0, 0, 0), (0, 101, .iinc 1 1, 3, 0, 1, 0), (2, 104, .goto (-32), 3, 43, 0, 0), (0, 107, .iconst 0, 1, 0, 0, 0), (0, 108, .istore_n 1, 1, 0, 0, 0), (0, 109, .iconst 0, 1, 0, 0, 0), (0, 110, .istore_n 2, 1, 0, 0, 0), (0, 111, .iload_n 2, 1, 0, 0, 0), (0, 112, .bipush 15, 2, 0, 15, 0), (1, 114, .if_icmp .ge 114, 3, 130, 0, 0), (0, 117, .iconst 0, 1, 0, 0, 0), (0, 118, .istore_n 3, 1, 0, 0, 0), (0, 119, .iload_n 3, 1, 0, 0, 0), (0, 120, .bipush 15, 2, 0, 15, 0), (1, 122, .if_icmp .ge 100, 3, 128, 0, 0), (0, 125, .iload_n 2, 1, 0, 0, 0), (0, 126, .iconst 2, 1, 0, 2, 0), (0, 127, .irem, 1, 0, 0, 0), (1, 128, .ifCond .ne 7, 3, 81, 0, 0), (0, 131, .iload_n 3, 1, 0, 0, 0), (2, 132, .goto 7, 3, 84, 0, 0), (0, 135, .bipush 14, 2, 0, 14, 0), (0, 137, .iload_n 3, 1, 0, 0, 0), (0, 138, .isub, 1, 0, 0, 0), (0, 139, .istore 4, 2, 0, 0, 0), (0, 141, .iload_n 2, 1, 0, 0, 0), (0, 142, .iload 4, 2, 0, 0, 0), (4, 144, .invokestatic 158, 3, 154, 1155, 0), (1, 147, .ifCond .ne 23, 3, 99, 0, 0), (0, 150, .iload_n 2, 1, 0, 0, 0), (0, 151, .bipush 7, 2, 0, 7, 0), (1, 153, .if_icmp .eq 17, 3, 99, 0, 0), (0, 156, .iload_n 2, 1, 0, 0, 0), (0, 157, .iload 4, 2, 0, 0, 0), (4, 159, .invokestatic 162, 3, 156, 1158, 0), (0, 162, .iconst (-1), 1, 0, 4294967295, 0), (1, 163, .if_icmp .ne 7, 3, 99, 0, 0), (0, 166, .iconst 1, 1, 0, 1, 0), (2, 167, .goto 4, 3, 100, 0, 0), (0, 170, .iconst 0, 1, 0, 0, 0), (0, 171, .istore 5, 2, 0, 0, 0), (0, 173, .aload_n 0, 1, 0, 0, 0), (3, 174, .getfield 46, 3, 10, 16, 957), (0, 177, .bipush 15, 2, 0, 15, 0), (0, 179, .iload_n 2, 1, 0, 0, 0), (0, 180, .imul, 1, 0, 0, 0), (0, 181, .iload 4, 2, 0, 0, 0), (0, 183, .iadd, 1, 0, 0, 0), (0, 184, .iload 5, 2, 0, 0, 0), (1, 186, .ifCond .eq 7, 3, 112, 0, 0), (0, 189, .iload_n 1, 1, 0, 0, 0), (2, 190, .goto 4, 3, 113, 0, 0), (0, 193, .iconst (-1), 1, 0, 4294967295, 0), (3, 194, .iastore, 1, 0, 0, 0), (0, 195, .iload 5, 2, 0, 0, 0), (1, 197, .ifCond .eq 19, 3, 126, 0, 0), (0, 200, .aload_n 0, 1, 0, 0, 0), (3, 201, .getfield 49, 3, 10, 17, 958), (0, 204, .iload_n 1, 1, 0, 0, 0), (0, 205, .bipush 15, 2, 0, 15, 0), (0, 207, .iload_n 2, 1, 0, 0, 0), (0, 208, .imul, 1, 0, 0, 0), (0, 209, .iload 4, 2, 0, 0, 0), (0, 211, .iadd, 1, 0, 0, 0), (3, 212, .iastore, 1, 0, 0, 0), (0, 213, .iinc 1 1, 3, 0, 1, 0), (0, 216, .iinc 3 1, 3, 0, 1, 0), (2, 219, .goto (-100), 3, 72, 0, 0), (0, 222, .iinc 2 1, 3, 0, 1, 0), (2, 225, .goto (-114), 3, 67, 0, 0), (5, 228, .return_, 1, 0, 0, 0)]
def mt_X11_itemAt : List mm_e := [(0, 0, .iload_n 1, 1, 0, 0, 0), (1, 1, .ifCond .le 30, 3, 21, 0, 0), (0, 4, .iload_n 1, 1, 0, 0, 0), (0, 5, .iconst 1, 1, 0, 1, 0), (0, 6, .isub, 1, 0, 0, 0), (0, 7, .iconst 2, 1, 0, 2, 0), (0, 8, .idiv, 1, 0, 0, 0), (0, 9, .aload_n 0, 1, 0, 0, 0), (3, 10, .getfield 37, 3, 10, 10, 951), (0, 13, .iconst 0, 1, 0, 0, 0), (3, 14, .iaload, 1, 0, 0, 0), (1, 15, .if_icmp .ge 16, 3, 21, 0, 0), (0, 18, .aload_n 0, 1, 0, 0, 0), (3, 19, .getfield 31, 3, 10, 8, 949), (0, 22, .iload_n 1, 1, 0, 0, 0), (0, 23, .iconst 1, 1, 0, 1, 0), (0, 24, .isub, 1, 0, 0, 0), (0, 25, .iconst 2, 1, 0, 2, 0), (0, 26, .idiv, 1, 0, 0, 0), (3, 27, .iaload, 1, 0, 0, 0), (2, 28, .goto 4, 3, 22, 0, 0), (0, 31, .iconst 0, 1, 0, 0, 0), (0, 32, .istore_n 2, 1, 0, 0, 0), (0, 33, .iload_n 1, 1, 0, 0, 0), (1, 34, .ifCond .ne 12, 3, 30, 0, 0), (0, 37, .aload_n 0, 1, 0, 0, 0), (3, 38, .getfield 37, 3, 10, 10, 951), (0, 41, .iconst 0, 1, 0, 0, 0), (3, 42, .iaload, 1, 0, 0, 0), (2, 43, .goto 22, 3, 43, 0, 0), (0, 46, .iload_n 1, 1, 0, 0, 0), (0, 47, .iconst 1, 1, 0, 1, 0), (0, 48, .isub, 1, 0, 0, 0), (0, 49, .iconst 2, 1, 0, 2, 0), (0, 50, .irem, 1, 0, 0, 0), (1, 51, .ifCond .ne 10, 3, 40, 0, 0), (0, 54, .iload_n 2, 1, 0, 0, 0), (0, 55, .bipush 16, 2, 0, 16, 0), (0, 57, .idiv, 1, 0, 0, 0), (2, 58, .goto 7, 3, 43, 0, 0), (0, 61, .iload_n 2, 1, 0, 0, 0), (0, 62, .bipush 16, 2, 0, 16, 0), (0, 64, .irem, 1, 0, 0, 0), (5, 65, .ireturn, 1, 0, 0, 0)]
def mt_X11_bases : List mm_e := [(0, 0, .aload_n 0, 1, 0, 0, 0), (3, 1, .getfield 55, 3, 10, 19, 960), (0, 4, .iconst 0, 1, 0, 0, 0), (0, 5, .iconst 1, 1, 0, 1, 0), (3, 6, .iastore, 1, 0, 0, 0), (0, 7, .iconst 1, 1, 0, 1, 0), (0, 8, .istore_n 2, 1, 0, 0, 0), (0, 9, .iload_n 2, 1, 0, 0, 0), (0, 10, .bipush 7, 2, 0, 7, 0), (1, 12, .if_icmp .ge 16, 3, 17, 0, 0), (0, 15, .aload_n 0, 1, 0, 0, 0), (3, 16, .getfield 55, 3, 10, 19, 960), (0, 19, .iload_n 2, 1, 0, 0, 0), (0, 20, .iconst 0, 1, 0, 0, 0), (3, 21, .iastore, 1, 0, 0, 0), (0, 22, .iinc 2 1, 3, 0, 1, 0), (2, 25, .goto (-16), 3, 7, 0, 0), (0, 28, .iconst 0, 1, 0, 0, 0), (0, 29, .istore_n 2, 1, 0, 0, 0), (0, 30, .iload_n 2, 1, 0, 0, 0), (0, 31, .iload_n 1, 1, 0, 0, 0), (1, 32, .if_icmp .ge 49, 3, 50, 0, 0), (0, 35, .iload_n 2, 1, 0, 0, 0), (0, 36, .iconst 1, 1, 0, 1, 0), (0, 37, .iadd, 1, 0, 0, 0), (0, 38, .istore_n 3, 1, 0, 0, 0), (0, 39, .iload_n 3, 1, 0, 0, 0), (1, 40, .ifCond .le 35, 3, 48, 0, 0), (0, 43, .aload_n 0, 1, 0, 0, 0), (3, 44, .getfield 55, 3, 10, 19, 960), (0, 47, .iload_n 3, 1, 0, 0, 0), (0, 48, .dup2, 1, 0, 0, 0), (3, 49, .iaload, 1, 0, 0, 0), (0, 50, .aload_n 0, 1, 0, 0, 0), (0, 51, .aload_n 0, 1, 0, 0, 0), (3, 52, .getfield 55, 3, 10, 19, 960), (0, 55, .iload_n 3, 1, 0, 0, 0), (0, 56, .iconst 1, 1, 0, 1, 0), (0, 57, .isub, 1, 0, 0, 0), (3, 58, .iaload, 1, 0, 0, 0), (0, 59, .aload_n 0, 1, 0, 0, 0), (0, 60, .iload_n 2, 1, 0, 0, 0), (4, 61, .invokevirtual 165, 3, 140, 1175, 0), (4, 64, .invokevirtual 168, 3, 139, 1179, 0), (0, 67, .ixor, 1, 0, 0, 0), (3, 68, .iastore, 1, 0, 0, 0), (0, 69, .iinc 3 (-1), 3, 0, 4294967295, 0), (2, 72, .goto (-33), 3, 26, 0, 0), (0, 75, .iinc 2 1, 3, 0, 1, 0), (2, 78, .goto (-48), 3, 19, 0, 0), (5, 81, .return_, 1, 0, 0, 0)]
def mt_X11_checks : List mm_e := [(0, 0, .aload_n 0, 1, 0, 0, 0), (3, 1, .getfield 171, 3, 10, 12, 953), (4, 4, .invokestatic 155, 3, 152, 1168, 0), (0, 7, .istore_n 2, 1, 0, 0, 0), (0, 8, .iconst 0, 1, 0, 0, 0), (0, 9, .istore_n 3, 1, 0, 0, 0), (0, 10, .iload_n 3, 1, 0, 0, 0), (0, 11, .bipush 7, 2, 0, 7, 0), (1, 13, .if_icmp .ge 16, 3, 16, 0, 0), (0, 16, .aload_n 0, 1, 0, 0, 0), (3, 17, .getfield 52, 3, 10, 18, 959), (0, 20, .iload_n 3, 1, 0, 0, 0), (0, 21, .iconst 0, 1, 0, 0, 0), (3, 22, .iastore, 1, 0, 0, 0), (0, 23, .iinc 3 1, 3, 0, 1, 0), (2, 26, .goto (-16), 3, 6, 0, 0), (0, 29, .iconst 0, 1, 0, 0, 0), (0, 30, .istore_n 3, 1, 0, 0, 0), (0, 31, .iload_n 3, 1, 0, 0, 0), (0, 32, .bipush 14, 2, 0, 14, 0), (0, 34, .iload_n 2, 1, 0, 0, 0), (0, 35, .isub, 1, 0, 0, 0), (1, 36, .if_icmp .ge 88, 3, 73, 0, 0), (0, 39, .aload_n 0, 1, 0, 0, 0), (3, 40, .getfield 40, 3, 10, 14, 955), (0, 43, .bipush 14, 2, 0, 14, 0), (0, 45, .iload_n 1, 1, 0, 0, 0), (0, 46, .imul, 1, 0, 0, 0), (0, 47, .iload_n 3, 1, 0, 0, 0), (0, 48, .iadd, 1, 0, 0, 0), (3, 49, .iaload, 1, 0, 0, 0), (0, 50, .aload_n 0, 1, 0, 0, 0), (3, 51, .getfield 52, 3, 10, 18, 959), (0, 54, .iconst 0, 1, 0, 0, 0), (3, 55, .iaload, 1, 0, 0, 0), (0, 56, .ixor, 1, 0, 0, 0), (0, 57, .istore 4, 2, 0, 0, 0), (0, 59, .iconst 0, 1, 0, 0, 0), (0, 60, .istore 5, 2, 0, 0, 0), (0, 62, .iload 5, 2, 0, 0, 0), (0, 64, .iload_n 2, 1, 0, 0, 0), (1, 65, .if_icmp .ge 53, 3, 71, 0, 0), (0, 68, .aload_n 0, 1, 0, 0, 0), (3, 69, .getfield 52, 3, 10, 18, 959), (0, 72, .iload 5, 2, 0, 0, 0), (0, 74, .iload 5, 2, 0, 0, 0), (0, 76, .iconst 1, 1, 0, 1, 0), (0, 77, .iadd, 1, 0, 0, 0), (0, 78, .iload_n 2, 1, 0, 0, 0), (1, 79, .if_icmp .ge 15, 3, 57, 0, 0), (0, 82, .aload_n 0, 1, 0, 0, 0), (3, 83, .getfield 52, 3, 10, 18, 959), (0, 86, .iload 5, 2, 0, 0, 0), (0, 88, .iconst 1, 1, 0, 1, 0), (0, 89, .iadd, 1, 0, 0, 0), (3, 90, .iaload, 1, 0, 0, 0), (2, 91, .goto 4, 3, 58, 0, 0), (0, 94, .iconst 0, 1, 0, 0, 0), (0, 95, .aload_n 0, 1, 0, 0, 0), (0, 96, .iload 4, 2, 0, 0, 0), (0, 98, .aload_n 0, 1, 0, 0, 0), (3, 99, .getfield 55, 3, 10, 19, 960), (0, 102, .iload 5, 2, 0, 0, 0), (0, 104, .iconst 1, 1, 0, 1, 0), (0, 105, .iadd, 1, 0, 0, 0), (3, 106, .iaload, 1, 0, 0, 0), (4, 107, .invokevirtual 168, 3, 139, 1179, 0), (0, 110, .ixor, 1, 0, 0, 0), (3, 111, .iastore, 1, 0, 0, 0), (0, 112, .iinc 5 1, 3, 0, 1, 0), (2, 115, .goto (-53), 3, 39, 0, 0), (0, 118, .iinc 3 1, 3, 0, 1, 0), (2, 121, .goto (-90), 3, 18, 0, 0), (0, 124, .iconst 0, 1, 0, 0, 0), (0, 125, .istore_n 3, 1, 0, 0, 0), (0, 126, .iload_n 3, 1, 0, 0, 0), (0, 127, .iload_n 2, 1, 0, 0, 0), (1, 128, .if_icmp .ge 31, 3, 96, 0, 0), (0, 131, .aload_n 0, 1, 0, 0, 0), (3, 132, .getfield 40, 3, 10, 14, 955), (0, 135, .bipush 14, 2, 0, 14, 0), (0, 137, .iload_n 1, 1, 0, 0, 0), (0, 138, .imul, 1, 0, 0, 0), (0, 139, .bipush 14, 2, 0, 14, 0), (0, 141, .iadd, 1, 0, 0, 0), (0, 142, .iload_n 2, 1, 0, 0, 0), (0, 143, .isub, 1, 0, 0, 0), (0, 144, .iload_n 3, 1, 0, 0, 0), (0, 145, .iadd, 1, 0, 0, 0), (0, 146, .aload_n 0, 1, 0, 0, 0), (3, 147, .getfield 52, 3, 10, 18, 959), (0, 150, .iload_n 3, 1, 0, 0, 0), (3, 151, .iaload, 1, 0, 0, 0), (3, 152, .iastore, 1, 0, 0, 0), (0, 153, .iinc 3 1, 3, 0, 1, 0), (2, 156, .goto (-30), 3, 75, 0, 0), (5, 159, .return_, 1, 0, 0, 0)]
def mt_X11_maskBit : List mm_e := [(0, 0, .iload_n 0, 1, 0, 0, 0), (6, 1, .tableswitch 87 0 3 #[31, 45, 57, 69], 31, 0, 0, 0), (0, 32, .iload_n 1, 1, 0, 0, 0), (0, 33, .iload_n 2, 1, 0, 0, 0), (0, 34, .iadd, 1, 0, 0, 0), (0, 35, .iconst 2, 1, 0, 2, 0), (0, 36, .irem, 1, 0, 0, 0), (1, 37, .ifCond .ne 7, 3, 10, 0, 0), (0, 40, .iconst 1, 1, 0, 1, 0), (2, 41, .goto 4, 3, 11, 0, 0), (0, 44, .iconst 0, 1, 0, 0, 0), (5, 45, .ireturn, 1, 0, 0, 0), (0, 46, .iload_n 1, 1, 0, 0, 0), (0, 47, .iconst 2, 1, 0, 2, 0), (0, 48, .irem, 1, 0, 0, 0), (1, 49, .ifCond .ne 7, 3, 18, 0, 0), (0, 52, .iconst 1, 1, 0, 1, 0), (2, 53, .goto 4, 3, 19, 0, 0), (0, 56, .iconst 0, 1, 0, 0, 0), (5, 57, .ireturn, 1, 0, 0, 0), (0, 58, .iload_n 2, 1, 0, 0, 0), (0, 59, .iconst 3, 1, 0, 3, 0), (0, 60, .irem, 1, 0, 0, 0), (1, 61, .ifCond .ne 7, 3, 26, 0, 0), (0, 64, .iconst 1, 1, 0, 1, 0), (2, 65, .goto 4, 3, 27, 0, 0), (0, 68, .iconst 0, 1, 0, 0, 0), (5, 69, .ireturn, 1, 0, 0, 0), (0, 70, .iload_n 1, 1, 0, 0, 0), (0, 71, .iload_n 2, 1, 0, 0, 0), (0, 72, .imul, 1, 0, 0, 0), (0, 73, .iload_n 1, 1, 0, 0, 0), (0, 74, .iadd, 1, 0, 0, 0), (0, 75, .iload_n 2, 1, 0, 0, 0), (0, 76, .iadd, 1, 0, 0, 0), (0, 77, .iconst 2, 1, 0, 2, 0), (0, 78, .irem, 1, 0, 0, 0), (1, 79, .ifCond .ne 7, 3, 40, 0, 0), (0, 82, .iconst 1, 1, 0, 1, 0), (2, 83, .goto 4, 3, 41, 0, 0), (0, 86, .iconst 0, 1, 0, 0, 0), (5, 87, .ireturn, 1, 0, 0, 0), (0, 88, .iconst 0, 1, 0, 0, 0), (5, 89, .ireturn, 1, 0, 0, 0)]
def mt_X11_dotAt : List mm_e := [(0, 0, .iload_n 2, 1, 0, 0, 0), (0, 1, .bipush 15, 2, 0, 15, 0), (0, 3, .idiv, 1, 0, 0, 0), (0, 4, .istore_n 3, 1, 0, 0, 0), (0, 5, .iload_n 2, 1, 0, 0, 0), (0, 6, .bipush 15, 2, 0, 15, 0), (0, 8, .irem, 1, 0, 0, 0), (0, 9, .istore 4, 2, 0, 0, 0), (0, 11, .aload_n 0, 1, 0, 0, 0), (3, 12, .getfield 46, 3, 10, 16, 957), (0, 15, .iload_n 2, 1, 0, 0, 0), (3, 16, .iaload, 1, 0, 0, 0), (0, 17, .iconst (-1), 1, 0, 4294967295, 0), (1, 18, .if_icmp .eq 18, 3, 24, 0, 0), (0, 21, .aload_n 0, 1, 0, 0, 0), (3, 22, .getfield 43, 3, 10, 15, 956), (0, 25, .iload_n 2, 1, 0, 0, 0), (3, 26, .iaload, 1, 0, 0, 0), (0, 27, .iload_n 1, 1, 0, 0, 0), (0, 28, .iload_n 3, 1, 0, 0, 0), (0, 29, .iload 4, 2, 0, 0, 0), (4, 31, .invokestatic 174, 3, 161, 1204, 0), (0, 34, .ixor, 1, 0, 0, 0), (5, 35, .ireturn, 1, 0, 0, 0), (0, 36, .iload_n 3, 1, 0, 0, 0), (0, 37, .iload 4, 2, 0, 0, 0), (4, 39, .invokestatic 158, 3, 154, 1155, 0), (1, 42, .ifCond .eq 10, 3, 32, 0, 0), (0, 45, .iload_n 3, 1, 0, 0, 0), (0, 46, .iload 4, 2, 0, 0, 0), (4, 48, .invokestatic 177, 3, 155, 1207, 0), (5, 51, .ireturn, 1, 0, 0, 0), (0, 52, .iload_n 3, 1, 0, 0, 0), (0, 53, .iload 4, 2, 0, 0, 0), (4, 55, .invokestatic 162, 3, 156, 1158, 0), (0, 58, .istore 5, 2, 0, 0, 0), (0, 60, .iconst 4, 1, 0, 4, 0), (0, 61, .aload_n 0, 1, 0, 0, 0), (3, 62, .getfield 171, 3, 10, 12, 953), (0, 65, .imul, 1, 0, 0, 0), (0, 66, .iload_n 1, 1, 0, 0, 0), (0, 67, .iconst (-1), 1, 0, 4294967295, 0), (1, 68, .if_icmp .ne 7, 3, 45, 0, 0), (0, 71, .iconst 0, 1, 0, 0, 0), (2, 72, .goto 4, 3, 46, 0, 0), (0, 75, .iload_n 1, 1, 0, 0, 0), (0, 76, .iadd, 1, 0, 0, 0), (0, 77, .istore 6, 2, 0, 0, 0), (0, 79, .iload 5, 2, 0, 0, 0), (0, 81, .iconst (-1), 1, 0, 4294967295, 0), (1, 82, .if_icmp .ne 18, 3, 59, 0, 0), (0, 85, .iload 4, 2, 0, 0, 0), (0, 87, .iconst 2, 1, 0, 2, 0), (0, 88, .irem, 1, 0, 0, 0), (1, 89, .ifCond .ne 7, 3, 57, 0, 0), (0, 92, .iconst 1, 1, 0, 1, 0), (2, 93, .goto 14, 3, 64, 0, 0), (0, 96, .iconst 0, 1, 0, 0, 0), (2, 97, .goto 10, 3, 64, 0, 0), (0, 100, .iload 6, 2, 0, 0, 0), (0, 102, .iload 5, 2, 0, 0, 0), (0, 104, .ishr, 1, 0, 0, 0), (0, 105, .iconst 1, 1, 0, 1, 0), (0, 106, .iand, 1, 0, 0, 0), (5, 107, .ireturn, 1, 0, 0, 0)]
def mt_X11_runs : List mm_e := [(0, 0, .iconst 0, 1, 0, 0, 0), (0, 1, .istore 4, 2, 0, 0, 0), (0, 3, .iconst 0, 1, 0, 0, 0), (0, 4, .istore 5, 2, 0, 0, 0), (0, 6, .iconst (-1), 1, 0, 4294967295, 0), (0, 7, .istore 6, 2, 0, 0, 0), (0, 9, .iconst 0, 1, 0, 0, 0), (0, 10, .istore 7, 2, 0, 0, 0), (0, 12, .iload 7, 2, 0, 0, 0), (0, 14, .bipush 15, 2, 0, 15, 0), (1, 16, .if_icmp .gt 80, 3, 52, 0, 0), (0, 19, .iload 7, 2, 0, 0, 0), (0, 21, .bipush 15, 2, 0, 15, 0), (1, 23, .if_icmp .ge 17, 3, 23, 0, 0), (0, 26, .aload_n 0, 1, 0, 0, 0), (0, 27, .iload_n 1, 1, 0, 0, 0), (0, 28, .iload_n 3, 1, 0, 0, 0), (0, 29, .iload 7, 2, 0, 0, 0), (0, 31, .iload_n 2, 1, 0, 0, 0), (0, 32, .imul, 1, 0, 0, 0), (0, 33, .iadd, 1, 0, 0, 0), (4, 34, .invokevirtual 180, 3, 162, 1200, 0), (2, 37, .goto 4, 3, 24, 0, 0), (0, 40, .iconst (-1), 1, 0, 4294967295, 0), (0, 41, .istore 8, 2, 0, 0, 0), (0, 43, .iload 4, 2, 0, 0, 0), (0, 45, .iload 8, 2, 0, 0, 0), (0, 47, .iload 6, 2, 0, 0, 0), (1, 49, .if_icmp .eq 16, 3, 36, 0, 0), (0, 52, .iload 5, 2, 0, 0, 0), (0, 54, .iconst 4, 1, 0, 4, 0), (1, 55, .if_icmp .le 10, 3, 36, 0, 0), (0, 58, .iload 5, 2, 0, 0, 0), (0, 60, .iconst 2, 1, 0, 2, 0), (0, 61, .isub, 1, 0, 0, 0), (2, 62, .goto 4, 3, 37, 0, 0), (0, 65, .iconst 0, 1, 0, 0, 0), (0, 66, .iadd, 1, 0, 0, 0), (0, 67, .istore 4, 2, 0, 0, 0), (0, 69, .iload 8, 2, 0, 0, 0), (0, 71, .iload 6, 2, 0, 0, 0), (1, 73, .if_icmp .ne 10, 3, 46, 0, 0), (0, 76, .iload 5, 2, 0, 0, 0), (0, 78, .iconst 1, 1, 0, 1, 0), (0, 79, .iadd, 1, 0, 0, 0), (2, 80, .goto 4, 3, 47, 0, 0), (0, 83, .iconst 1, 1, 0, 1, 0), (0, 84, .istore 5, 2, 0, 0, 0), (0, 86, .iload 8, 2, 0, 0, 0), (0, 88, .istore 6, 2, 0, 0, 0), (0, 90, .iinc 7 1, 3, 0, 1, 0), (2, 93, .goto (-81), 3, 8, 0, 0), (0, 96, .iload 4, 2, 0, 0, 0), (5, 98, .ireturn, 1, 0, 0, 0)]
def mt_X11_darkOf : List mm_e := [(0, 0, .iconst 0, 1, 0, 0, 0), (0, 1, .istore_n 2, 1, 0, 0, 0), (0, 2, .iconst 0, 1, 0, 0, 0), (0, 3, .istore_n 3, 1, 0, 0, 0), (0, 4, .iload_n 3, 1, 0, 0, 0), (0, 5, .sipush 225, 3, 0, 225, 0), (1, 8, .if_icmp .ge 18, 3, 16, 0, 0), (0, 11, .iload_n 2, 1, 0, 0, 0), (0, 12, .aload_n 0, 1, 0, 0, 0), (0, 13, .iload_n 1, 1, 0, 0, 0), (0, 14, .iload_n 3, 1, 0, 0, 0), (4, 15, .invokevirtual 180, 3, 162, 1200, 0), (0, 18, .iadd, 1, 0, 0, 0), (0, 19, .istore_n 2, 1, 0, 0, 0), (0, 20, .iinc 3 1, 3, 0, 1, 0), (2, 23, .goto (-19), 3, 4, 0, 0), (0, 26, .iload_n 2, 1, 0, 0, 0), (5, 27, .ireturn, 1, 0, 0, 0)]
def mt_X11_penaltyOf : List mm_e := [(0, 0, .iconst 0, 1, 0, 0, 0), (0, 1, .istore_n 2, 1, 0, 0, 0), (0, 2, .iconst 0, 1, 0, 0, 0), (0, 3, .istore_n 3, 1, 0, 0, 0), (0, 4, .iload_n 3, 1, 0, 0, 0), (0, 5, .bipush 15, 2, 0, 15, 0), (1, 7, .if_icmp .ge 31, 3, 25, 0, 0), (0, 10, .iload_n 2, 1, 0, 0, 0), (0, 11, .aload_n 0, 1, 0, 0, 0), (0, 12, .iload_n 1, 1, 0, 0, 0), (0, 13, .iconst 1, 1, 0, 1, 0), (0, 14, .bipush 15, 2, 0, 15, 0), (0, 16, .iload_n 3, 1, 0, 0, 0), (0, 17, .imul, 1, 0, 0, 0), (4, 18, .invokevirtual 183, 3, 163, 1196, 0), (0, 21, .aload_n 0, 1, 0, 0, 0), (0, 22, .iload_n 1, 1, 0, 0, 0), (0, 23, .bipush 15, 2, 0, 15, 0), (0, 25, .iload_n 3, 1, 0, 0, 0), (4, 26, .invokevirtual 183, 3, 163, 1196, 0), (0, 29, .iadd, 1, 0, 0, 0), (0, 30, .iadd, 1, 0, 0, 0), (0, 31, .istore_n 2, 1, 0, 0, 0), (0, 32, .iinc 3 1, 3, 0, 1, 0), (2, 35, .goto (-31), 3, 4, 0, 0), (0, 38, .iconst 0, 1, 0, 0, 0), (0, 39, .istore_n 3, 1, 0, 0, 0), (0, 40, .iload_n 3, 1, 0, 0, 0), (0, 41, .sipush 210, 3, 0, 210, 0), (1, 44, .if_icmp .ge 74, 3, 74, 0, 0), (0, 47, .iload_n 3, 1, 0, 0, 0), (0, 48, .bipush 15, 2, 0, 15, 0), (0, 50, .irem, 1, 0, 0, 0), (0, 51, .bipush 14, 2, 0, 14, 0), (1, 53, .if_icmp .ge 59, 3, 72, 0, 0), (0, 56, .aload_n 0, 1, 0, 0, 0), (0, 57, .iload_n 1, 1, 0, 0, 0), (0, 58, .iload_n 3, 1, 0, 0, 0), (4, 59, .invokevirtual 180, 3, 162, 1200, 0), (0, 62, .aload_n 0, 1, 0, 0, 0), (0, 63, .iload_n 1, 1, 0, 0, 0), (0, 64, .iload_n 3, 1, 0, 0, 0), (0, 65, .iconst 1, 1, 0, 1, 0), (0, 66, .iadd, 1, 0, 0, 0), (4, 67, .invokevirtual 180, 3, 162, 1200, 0), (0, 70, .iadd, 1, 0, 0, 0), (0, 71, .aload_n 0, 1, 0, 0, 0), (0, 72, .iload_n 1, 1, 0, 0, 0), (0, 73, .iload_n 3, 1, 0, 0, 0), (0, 74, .bipush 15, 2, 0, 15, 0), (0, 76, .iadd, 1, 0, 0, 0), (4, 77, .invokevirtual 180, 3, 162, 1200, 0), (0, 80, .iadd, 1, 0, 0, 0), (0, 81, .aload_n 0, 1, 0, 0, 0), (0, 82, .iload_n 1, 1, 0, 0, 0), (0, 83, .iload_n 3, 1, 0, 0, 0), (0, 84, .bipush 16, 2, 0, 16, 0), (0, 86, .iadd, 1, 0, 0, 0), (4, 87, .invokevirtual 180, 3, 162, 1200, 0), (0, 90, .iadd, 1, 0, 0, 0), (0, 91, .istore 4, 2, 0, 0, 0), (0, 93, .iload_n 2, 1, 0, 0, 0), (0, 94, .iload 4, 2, 0, 0, 0), (1, 96, .ifCond .eq 9, 3, 67, 0, 0), (0, 99, .iload 4, 2, 0, 0, 0), (0, 101, .iconst 4, 1, 0, 4, 0), (1, 102, .if_icmp .ne 7, 3, 69, 0, 0), (0, 105, .iconst 3, 1, 0, 3, 0), (2, 106, .goto 4, 3, 70, 0, 0), (0, 109, .iconst 0, 1, 0, 0, 0), (0, 110, .iadd, 1, 0, 0, 0), (0, 111, .istore_n 2, 1, 0, 0, 0), (0, 112, .iinc 3 1, 3, 0, 1, 0), (2, 115, .goto (-75), 3, 27, 0, 0), (0, 118, .aload_n 0, 1, 0, 0, 0), (0, 119, .iload_n 1, 1, 0, 0, 0), (4, 120, .invokevirtual 186, 3, 164, 1210, 0), (0, 123, .bipush 112, 2, 0, 112, 0), (0, 125, .isub, 1, 0, 0, 0), (0, 126, .istore_n 3, 1, 0, 0, 0), (0, 127, .iload_n 2, 1, 0, 0, 0), (0, 128, .iload_n 3, 1, 0, 0, 0), (1, 129, .ifCond .ge 8, 3, 86, 0, 0), (0, 132, .iload_n 3, 1, 0, 0, 0), (0, 133, .ineg, 1, 0, 0, 0), (2, 134, .goto 4, 3, 87, 0, 0), (0, 137, .iload_n 3, 1, 0, 0, 0), (0, 138, .iconst 5, 1, 0, 5, 0), (0, 139, .idiv, 1, 0, 0, 0), (0, 140, .iadd, 1, 0, 0, 0), (5, 141, .ireturn, 1, 0, 0, 0)]
def mt_X11_makes : List mm_e := [(0, 0, .aload_n 0, 1, 0, 0, 0), (4, 1, .invokevirtual 189, 3, 157, 1151, 0), (0, 4, .aload_n 0, 1, 0, 0, 0), (0, 5, .aload_n 0, 1, 0, 0, 0), (4, 6, .invokevirtual 192, 3, 151, 1161, 0), (3, 9, .putfield 171, 3, 10, 12, 953), (0, 12, .aload_n 0, 1, 0, 0, 0), (0, 13, .iconst (-1), 1, 0, 4294967295, 0), (3, 14, .putfield 195, 3, 10, 13, 954), (0, 17, .aload_n 0, 1, 0, 0, 0), (0, 18, .iconst 1, 1, 0, 1, 0), (0, 19, .iconst 2, 1, 0, 2, 0), (0, 20, .aload_n 0, 1, 0, 0, 0), (3, 21, .getfield 37, 3, 10, 10, 951), (0, 24, .iconst 0, 1, 0, 0, 0), (3, 25, .iaload, 1, 0, 0, 0), (0, 26, .imul, 1, 0, 0, 0), (0, 27, .iadd, 1, 0, 0, 0), (0, 28, .aload_n 0, 1, 0, 0, 0), (3, 29, .getfield 171, 3, 10, 12, 953), (4, 32, .invokestatic 198, 3, 153, 1165, 0), (1, 35, .if_icmp .gt 7, 3, 24, 0, 0), (0, 38, .iconst 1, 1, 0, 1, 0), (2, 39, .goto 4, 3, 25, 0, 0), (0, 42, .iconst 0, 1, 0, 0, 0), (3, 43, .putfield 201, 3, 10, 11, 952), (0, 46, .aload_n 0, 1, 0, 0, 0), (3, 47, .getfield 201, 3, 10, 11, 952), (1, 50, .ifCond .ne 4, 3, 30, 0, 0), (5, 53, .return_, 1, 0, 0, 0), (0, 54, .aload_n 0, 1, 0, 0, 0), (0, 55, .aload_n 0, 1, 0, 0, 0), (3, 56, .getfield 171, 3, 10, 12, 953), (4, 59, .invokestatic 155, 3, 152, 1168, 0), (4, 62, .invokevirtual 205, 3, 159, 1171, 0), (0, 65, .iconst 0, 1, 0, 0, 0), (0, 66, .istore_n 1, 1, 0, 0, 0), (0, 67, .iload_n 1, 1, 0, 0, 0), (0, 68, .aload_n 0, 1, 0, 0, 0), (3, 69, .getfield 171, 3, 10, 12, 953), (4, 72, .invokestatic 198, 3, 153, 1165, 0), (1, 75, .if_icmp .ge 29, 3, 59, 0, 0), (0, 78, .aload_n 0, 1, 0, 0, 0), (3, 79, .getfield 40, 3, 10, 14, 955), (0, 82, .bipush 14, 2, 0, 14, 0), (0, 84, .iload_n 1, 1, 0, 0, 0), (0, 85, .iconst 3, 1, 0, 3, 0), (0, 86, .irem, 1, 0, 0, 0), (0, 87, .imul, 1, 0, 0, 0), (0, 88, .iload_n 1, 1, 0, 0, 0), (0, 89, .iconst 3, 1, 0, 3, 0), (0, 90, .idiv, 1, 0, 0, 0), (0, 91, .iadd, 1, 0, 0, 0), (0, 92, .aload_n 0, 1, 0, 0, 0), (0, 93, .iload_n 1, 1, 0, 0, 0), (4, 94, .invokevirtual 209, 3, 158, 1183, 0), (3, 97, .iastore, 1, 0, 0, 0), (0, 98, .iinc 1 1, 3, 0, 1, 0), (2, 101, .goto (-34), 3, 37, 0, 0), (0, 104, .iconst 0, 1, 0, 0, 0), (0, 105, .istore_n 1, 1, 0, 0, 0), (0, 106, .iload_n 1, 1, 0, 0, 0), (0, 107, .iconst 3, 1, 0, 3, 0), (1, 108, .if_icmp .ge 14, 3, 69, 0, 0), (0, 111, .aload_n 0, 1, 0, 0, 0), (0, 112, .iload_n 1, 1, 0, 0, 0), (4, 113, .invokevirtual 212, 3, 160, 1187, 0), (0, 116, .iinc 1 1, 3, 0, 1, 0), (2, 119, .goto (-13), 3, 61, 0, 0), (0, 122, .iconst 0, 1, 0, 0, 0), (0, 123, .istore_n 1, 1, 0, 0, 0), (0, 124, .iload_n 1, 1, 0, 0, 0), (0, 125, .sipush 171, 3, 0, 171, 0), (1, 128, .if_icmp .ge 58, 3, 112, 0, 0), (0, 131, .iload_n 1, 1, 0, 0, 0), (0, 132, .iconst 4, 1, 0, 4, 0), (0, 133, .idiv, 1, 0, 0, 0), (0, 134, .istore_n 2, 1, 0, 0, 0), (0, 135, .aload_n 0, 1, 0, 0, 0), (3, 136, .getfield 43, 3, 10, 15, 956), (0, 139, .aload_n 0, 1, 0, 0, 0), (3, 140, .getfield 49, 3, 10, 17, 958), (0, 143, .iload_n 1, 1, 0, 0, 0), (3, 144, .iaload, 1, 0, 0, 0), (0, 145, .iload_n 1, 1, 0, 0, 0), (0, 146, .sipush 168, 3, 0, 168, 0), (1, 149, .if_icmp .ge 29, 3, 108, 0, 0), (0, 152, .aload_n 0, 1, 0, 0, 0), (3, 153, .getfield 40, 3, 10, 14, 955), (0, 156, .bipush 14, 2, 0, 14, 0), (0, 158, .iload_n 2, 1, 0, 0, 0), (0, 159, .iconst 3, 1, 0, 3, 0), (0, 160, .irem, 1, 0, 0, 0), (0, 161, .imul, 1, 0, 0, 0), (0, 162, .iload_n 2, 1, 0, 0, 0), (0, 163, .iconst 3, 1, 0, 3, 0), (0, 164, .idiv, 1, 0, 0, 0), (0, 165, .iadd, 1, 0, 0, 0), (3, 166, .iaload, 1, 0, 0, 0), (0, 167, .iconst 3, 1, 0, 3, 0), (0, 168, .iload_n 1, 1, 0, 0, 0), (0, 169, .iconst 4, 1, 0, 4, 0), (0, 170, .irem, 1, 0, 0, 0), (0, 171, .isub, 1, 0, 0, 0), (0, 172, .ishr, 1, 0, 0, 0), (0, 173, .iconst 1, 1, 0, 1, 0), (0, 174, .iand, 1, 0, 0, 0), (2, 175, .goto 4, 3, 109, 0, 0), (0, 178, .iconst 0, 1, 0, 0, 0), (3, 179, .iastore, 1, 0, 0, 0), (0, 180, .iinc 1 1, 3, 0, 1, 0), (2, 183, .goto (-59), 3, 71, 0, 0), (0, 186, .ldc 215, 2, 0, 999999, 1191), (0, 188, .istore_n 1, 1, 0, 0, 0), (0, 189, .iconst 0, 1, 0, 0, 0), (0, 190, .istore_n 2, 1, 0, 0, 0), (0, 191, .iload_n 2, 1, 0, 0, 0), (0, 192, .iconst 4, 1, 0, 4, 0), (1, 193, .if_icmp .ge 38, 3, 138, 0, 0), (0, 196, .aload_n 0, 1, 0, 0, 0), (0, 197, .iload_n 2, 1, 0, 0, 0), (4, 198, .invokevirtual 216, 3, 165, 1192, 0), (0, 201, .istore_n 3, 1, 0, 0, 0), (0, 202, .aload_n 0, 1, 0, 0, 0), (0, 203, .iload_n 3, 1, 0, 0, 0), (0, 204, .iload_n 1, 1, 0, 0, 0), (1, 205, .if_icmp .ge 7, 3, 129, 0, 0), (0, 208, .iload_n 2, 1, 0, 0, 0), (2, 209, .goto 7, 3, 131, 0, 0), (0, 212, .aload_n 0, 1, 0, 0, 0), (3, 213, .getfield 195, 3, 10, 13, 954), (3, 216, .putfield 195, 3, 10, 13, 954), (0, 219, .iload_n 3, 1, 0, 0, 0), (0, 220, .iload_n 1, 1, 0, 0, 0), (4, 221, .invokestatic 219, 3, 124, 1214, 0), (0, 224, .istore_n 1, 1, 0, 0, 0), (0, 225, .iinc 2 1, 3, 0, 1, 0), (2, 228, .goto (-37), 3, 116, 0, 0), (5, 231, .return_, 1, 0, 0, 0)]
def mt_X11_markBy : List mm_e := [(0, 0, .iload_n 1, 1, 0, 0, 0), (1, 1, .ifCond .ne 10, 3, 5, 0, 0), (0, 4, .aload_n 0, 1, 0, 0, 0), (3, 5, .getfield 171, 3, 10, 12, 953), (2, 8, .goto 44, 3, 26, 0, 0), (0, 11, .iload_n 1, 1, 0, 0, 0), (0, 12, .iconst 1, 1, 0, 1, 0), (1, 13, .if_icmp .ne 10, 3, 11, 0, 0), (0, 16, .aload_n 0, 1, 0, 0, 0), (3, 17, .getfield 195, 3, 10, 13, 954), (2, 20, .goto 32, 3, 26, 0, 0), (0, 23, .iload_n 1, 1, 0, 0, 0), (0, 24, .iconst 2, 1, 0, 2, 0), (1, 25, .if_icmp .ne 15, 3, 20, 0, 0), (0, 28, .aload_n 0, 1, 0, 0, 0), (3, 29, .getfield 171, 3, 10, 12, 953), (4, 32, .invokestatic 198, 3, 153, 1165, 0), (0, 35, .iconst 3, 1, 0, 3, 0), (0, 36, .idiv, 1, 0, 0, 0), (2, 37, .goto 15, 3, 26, 0, 0), (0, 40, .aload_n 0, 1, 0, 0, 0), (3, 41, .getfield 201, 3, 10, 11, 952), (1, 44, .ifCond .eq 7, 3, 25, 0, 0), (0, 47, .iconst 0, 1, 0, 0, 0), (2, 48, .goto 4, 3, 26, 0, 0), (0, 51, .iconst 1, 1, 0, 1, 0), (5, 52, .ireturn, 1, 0, 0, 0)]
def mt_X11_mark : List mm_e := [(0, 0, .aload_n 0, 1, 0, 0, 0), (4, 1, .invokevirtual 222, 3, 166, 1147, 0), (0, 4, .iload_n 1, 1, 0, 0, 0), (0, 5, .i2l, 1, 0, 0, 0), (0, 6, .lconst 0, 1, 0, 0, 0), (0, 7, .ldc2_w 96, 3, 0, 3, 1051), (4, 10, .invokestatic 88, 3, 122, 1052, 0), (1, 13, .ifCond .eq 11, 3, 12, 0, 0), (0, 16, .aload_n 0, 1, 0, 0, 0), (0, 17, .iload_n 1, 1, 0, 0, 0), (4, 18, .invokevirtual 225, 3, 167, 1217, 0), (2, 21, .goto 5, 3, 13, 0, 0), (0, 24, .bipush (-2), 2, 0, 4294967294, 0), (5, 26, .ireturn, 1, 0, 0, 0)]
def mt_X11_symbolBy : List mm_e := [(0, 0, .aload_n 0, 1, 0, 0, 0), (3, 1, .getfield 201, 3, 10, 11, 952), (1, 4, .ifCond .eq 17, 3, 12, 0, 0), (0, 7, .aload_n 0, 1, 0, 0, 0), (3, 8, .getfield 40, 3, 10, 14, 955), (0, 11, .bipush 14, 2, 0, 14, 0), (0, 13, .iload_n 1, 1, 0, 0, 0), (0, 14, .imul, 1, 0, 0, 0), (0, 15, .iload_n 2, 1, 0, 0, 0), (0, 16, .iadd, 1, 0, 0, 0), (3, 17, .iaload, 1, 0, 0, 0), (2, 18, .goto 4, 3, 13, 0, 0), (0, 21, .iconst (-1), 1, 0, 4294967295, 0), (5, 22, .ireturn, 1, 0, 0, 0)]
def mt_X11_symbol : List mm_e := [(0, 0, .aload_n 0, 1, 0, 0, 0), (4, 1, .invokevirtual 222, 3, 166, 1147, 0), (0, 4, .iload_n 1, 1, 0, 0, 0), (0, 5, .i2l, 1, 0, 0, 0), (0, 6, .lconst 0, 1, 0, 0, 0), (0, 7, .ldc2_w 102, 3, 0, 2, 1055), (4, 10, .invokestatic 88, 3, 122, 1052, 0), (1, 13, .ifCond .eq 24, 3, 19, 0, 0), (0, 16, .iload_n 2, 1, 0, 0, 0), (0, 17, .i2l, 1, 0, 0, 0), (0, 18, .lconst 0, 1, 0, 0, 0), (0, 19, .ldc2_w 228, 3, 0, 13, 1225), (4, 22, .invokestatic 88, 3, 122, 1052, 0), (1, 25, .ifCond .eq 12, 3, 19, 0, 0), (0, 28, .aload_n 0, 1, 0, 0, 0), (0, 29, .iload_n 1, 1, 0, 0, 0), (0, 30, .iload_n 2, 1, 0, 0, 0), (4, 31, .invokevirtual 230, 3, 169, 1226, 0), (2, 34, .goto 5, 3, 20, 0, 0), (0, 37, .bipush (-2), 2, 0, 4294967294, 0), (5, 39, .ireturn, 1, 0, 0, 0)]
def mt_X11_dotsBy : List mm_e := [(0, 0, .iconst 0, 1, 0, 0, 0), (0, 1, .istore_n 3, 1, 0, 0, 0), (0, 2, .iconst 0, 1, 0, 0, 0), (0, 3, .istore 4, 2, 0, 0, 0), (0, 5, .iload 4, 2, 0, 0, 0), (0, 7, .bipush 15, 2, 0, 15, 0), (1, 9, .if_icmp .ge 27, 3, 22, 0, 0), (0, 12, .iload_n 3, 1, 0, 0, 0), (0, 13, .aload_n 0, 1, 0, 0, 0), (0, 14, .iload_n 1, 1, 0, 0, 0), (0, 15, .bipush 15, 2, 0, 15, 0), (0, 17, .iload_n 2, 1, 0, 0, 0), (0, 18, .imul, 1, 0, 0, 0), (0, 19, .iload 4, 2, 0, 0, 0), (0, 21, .iadd, 1, 0, 0, 0), (4, 22, .invokevirtual 180, 3, 162, 1200, 0), (0, 25, .iload 4, 2, 0, 0, 0), (0, 27, .ishl, 1, 0, 0, 0), (0, 28, .ior, 1, 0, 0, 0), (0, 29, .istore_n 3, 1, 0, 0, 0), (0, 30, .iinc 4 1, 3, 0, 1, 0), (2, 33, .goto (-28), 3, 4, 0, 0), (0, 36, .aload_n 0, 1, 0, 0, 0), (3, 37, .getfield 201, 3, 10, 11, 952), (1, 40, .ifCond .eq 7, 3, 27, 0, 0), (0, 43, .iload_n 3, 1, 0, 0, 0), (2, 44, .goto 5, 3, 28, 0, 0), (0, 47, .bipush (-3), 2, 0, 4294967293, 0), (5, 49, .ireturn, 1, 0, 0, 0)]
def mt_X11_isPlace : List mm_e := [(0, 0, .iload_n 0, 1, 0, 0, 0), (0, 1, .i2l, 1, 0, 0, 0), (0, 2, .lconst 0, 1, 0, 0, 0), (0, 3, .ldc2_w 233, 3, 0, 14, 1238), (4, 6, .invokestatic 88, 3, 122, 1052, 0), (5, 9, .ireturn, 1, 0, 0, 0)]
def mt_X11_dots : List mm_e := [(0, 0, .aload_n 0, 1, 0, 0, 0), (4, 1, .invokevirtual 222, 3, 166, 1147, 0), (0, 4, .iload_n 1, 1, 0, 0, 0), (0, 5, .i2l, 1, 0, 0, 0), (0, 6, .ldc2_w 235, 3, 0, 18446744073709551615, 1234), (0, 9, .ldc2_w 96, 3, 0, 3, 1051), (4, 12, .invokestatic 88, 3, 122, 1052, 0), (1, 15, .ifCond .eq 19, 3, 16, 0, 0), (0, 18, .iload_n 2, 1, 0, 0, 0), (4, 19, .invokestatic 237, 3, 172, 1235, 0), (1, 22, .ifCond .eq 12, 3, 16, 0, 0), (0, 25, .aload_n 0, 1, 0, 0, 0), (0, 26, .iload_n 1, 1, 0, 0, 0), (0, 27, .iload_n 2, 1, 0, 0, 0), (4, 28, .invokevirtual 240, 3, 171, 1239, 0), (2, 31, .goto 5, 3, 17, 0, 0), (0, 34, .bipush (-2), 2, 0, 4294967294, 0), (5, 36, .ireturn, 1, 0, 0, 0)]
def mt_X11_penaltyBy : List mm_e := [(0, 0, .aload_n 0, 1, 0, 0, 0), (3, 1, .getfield 201, 3, 10, 11, 952), (1, 4, .ifCond .eq 11, 3, 7, 0, 0), (0, 7, .aload_n 0, 1, 0, 0, 0), (0, 8, .iload_n 1, 1, 0, 0, 0), (4, 9, .invokevirtual 216, 3, 165, 1192, 0), (2, 12, .goto 5, 3, 8, 0, 0), (0, 15, .bipush (-3), 2, 0, 4294967293, 0), (5, 17, .ireturn, 1, 0, 0, 0)]
def mt_X11_penalty : List mm_e := [(0, 0, .aload_n 0, 1, 0, 0, 0), (4, 1, .invokevirtual 222, 3, 166, 1147, 0), (0, 4, .iload_n 1, 1, 0, 0, 0), (0, 5, .i2l, 1, 0, 0, 0), (0, 6, .lconst 0, 1, 0, 0, 0), (0, 7, .ldc2_w 96, 3, 0, 3, 1051), (4, 10, .invokestatic 88, 3, 122, 1052, 0), (1, 13, .ifCond .eq 11, 3, 12, 0, 0), (0, 16, .aload_n 0, 1, 0, 0, 0), (0, 17, .iload_n 1, 1, 0, 0, 0), (4, 18, .invokevirtual 243, 3, 174, 1247, 0), (2, 21, .goto 5, 3, 13, 0, 0), (0, 24, .bipush (-2), 2, 0, 4294967294, 0), (5, 26, .ireturn, 1, 0, 0, 0)]
def mt_X11_placeBy : List mm_e := [(0, 0, .aload_n 0, 1, 0, 0, 0), (3, 1, .getfield 46, 3, 10, 16, 957), (0, 4, .iload_n 1, 1, 0, 0, 0), (3, 5, .iaload, 1, 0, 0, 0), (0, 6, .iconst (-1), 1, 0, 4294967295, 0), (1, 7, .if_icmp .eq 20, 3, 15, 0, 0), (0, 10, .iload_n 2, 1, 0, 0, 0), (0, 11, .iconst 1, 1, 0, 1, 0), (1, 12, .if_icmp .ne 19, 3, 17, 0, 0), (0, 15, .aload_n 0, 1, 0, 0, 0), (3, 16, .getfield 46, 3, 10, 16, 957), (0, 19, .iload_n 1, 1, 0, 0, 0), (3, 20, .iaload, 1, 0, 0, 0), (0, 21, .sipush 167, 3, 0, 167, 0), (1, 24, .if_icmp .le 7, 3, 17, 0, 0), (0, 27, .iconst (-1), 1, 0, 4294967295, 0), (2, 28, .goto 24, 3, 30, 0, 0), (0, 31, .iload_n 2, 1, 0, 0, 0), (1, 32, .ifCond .ne 12, 3, 24, 0, 0), (0, 35, .aload_n 0, 1, 0, 0, 0), (3, 36, .getfield 46, 3, 10, 16, 957), (0, 39, .iload_n 1, 1, 0, 0, 0), (3, 40, .iaload, 1, 0, 0, 0), (2, 41, .goto 11, 3, 30, 0, 0), (0, 44, .aload_n 0, 1, 0, 0, 0), (3, 45, .getfield 46, 3, 10, 16, 957), (0, 48, .iload_n 1, 1, 0, 0, 0), (3, 49, .iaload, 1, 0, 0, 0), (0, 50, .iconst 4, 1, 0, 4, 0), (0, 51, .idiv, 1, 0, 0, 0), (5, 52, .ireturn, 1, 0, 0, 0)]
def mt_X11_place : List mm_e := [(0, 0, .aload_n 0, 1, 0, 0, 0), (4, 1, .invokevirtual 222, 3, 166, 1147, 0), (0, 4, .iload_n 1, 1, 0, 0, 0), (4, 5, .invokestatic 237, 3, 172, 1235, 0), (1, 8, .ifCond .eq 31, 3, 20, 0, 0), (0, 11, .iload_n 2, 1, 0, 0, 0), (4, 12, .invokestatic 237, 3, 172, 1235, 0), (1, 15, .ifCond .eq 24, 3, 20, 0, 0), (0, 18, .iload_n 3, 1, 0, 0, 0), (4, 19, .invokestatic 134, 3, 123, 1108, 0), (1, 22, .ifCond .eq 17, 3, 20, 0, 0), (0, 25, .aload_n 0, 1, 0, 0, 0), (0, 26, .bipush 15, 2, 0, 15, 0), (0, 28, .iload_n 1, 1, 0, 0, 0), (0, 29, .imul, 1, 0, 0, 0), (0, 30, .iload_n 2, 1, 0, 0, 0), (0, 31, .iadd, 1, 0, 0, 0), (0, 32, .iload_n 3, 1, 0, 0, 0), (4, 33, .invokevirtual 246, 3, 176, 1255, 0), (2, 36, .goto 5, 3, 21, 0, 0), (0, 39, .bipush (-2), 2, 0, 4294967294, 0), (5, 41, .ireturn, 1, 0, 0, 0)]
def mt_X11_sumOf : List mm_e := [(0, 0, .iconst 0, 1, 0, 0, 0), (0, 1, .istore_n 1, 1, 0, 0, 0), (0, 2, .iconst 0, 1, 0, 0, 0), (0, 3, .istore_n 2, 1, 0, 0, 0), (0, 4, .iload_n 2, 1, 0, 0, 0), (0, 5, .sipush 225, 3, 0, 225, 0), (1, 8, .if_icmp .ge 15, 3, 15, 0, 0), (0, 11, .iload_n 1, 1, 0, 0, 0), (0, 12, .aload_n 0, 1, 0, 0, 0), (0, 13, .iload_n 2, 1, 0, 0, 0), (3, 14, .iaload, 1, 0, 0, 0), (0, 15, .iadd, 1, 0, 0, 0), (0, 16, .istore_n 1, 1, 0, 0, 0), (0, 17, .iinc 2 1, 3, 0, 1, 0), (2, 20, .goto (-16), 3, 4, 0, 0), (0, 23, .iload_n 1, 1, 0, 0, 0), (5, 24, .ireturn, 1, 0, 0, 0)]
def mt_X11_does : List mm_e := [(0, 0, .iload_n 1, 1, 0, 0, 0), (0, 1, .sipush 225, 3, 0, 225, 0), (1, 4, .if_icmp .ge 20, 3, 14, 0, 0), (0, 7, .aload_n 0, 1, 0, 0, 0), (3, 8, .getfield 58, 3, 10, 20, 961), (0, 11, .iload_n 1, 1, 0, 0, 0), (0, 12, .iconst 1, 1, 0, 1, 0), (0, 13, .aload_n 0, 1, 0, 0, 0), (3, 14, .getfield 58, 3, 10, 20, 961), (0, 17, .iload_n 1, 1, 0, 0, 0), (3, 18, .iaload, 1, 0, 0, 0), (0, 19, .isub, 1, 0, 0, 0), (3, 20, .iastore, 1, 0, 0, 0), (2, 21, .goto 25, 3, 28, 0, 0), (0, 24, .aload_n 0, 1, 0, 0, 0), (3, 25, .getfield 61, 3, 10, 21, 962), (0, 28, .iload_n 1, 1, 0, 0, 0), (0, 29, .sipush 225, 3, 0, 225, 0), (0, 32, .isub, 1, 0, 0, 0), (0, 33, .iconst 1, 1, 0, 1, 0), (0, 34, .aload_n 0, 1, 0, 0, 0), (3, 35, .getfield 61, 3, 10, 21, 962), (0, 38, .iload_n 1, 1, 0, 0, 0), (0, 39, .sipush 225, 3, 0, 225, 0), (0, 42, .isub, 1, 0, 0, 0), (3, 43, .iaload, 1, 0, 0, 0), (0, 44, .isub, 1, 0, 0, 0), (3, 45, .iastore, 1, 0, 0, 0), (5, 46, .return_, 1, 0, 0, 0)]
def mt_X11_notes : List mm_e := [(0, 0, .aload_n 0, 1, 0, 0, 0), (0, 1, .iload_n 1, 1, 0, 0, 0), (4, 2, .invokevirtual 249, 3, 179, 1267, 0), (0, 5, .aload_n 0, 1, 0, 0, 0), (3, 6, .getfield 252, 3, 10, 23, 964), (0, 9, .bipush 60, 2, 0, 60, 0), (1, 11, .if_icmp .ne 41, 3, 30, 0, 0), (0, 14, .iconst 1, 1, 0, 1, 0), (0, 15, .istore_n 2, 1, 0, 0, 0), (0, 16, .iload_n 2, 1, 0, 0, 0), (0, 17, .bipush 60, 2, 0, 60, 0), (1, 19, .if_icmp .ge 23, 3, 24, 0, 0), (0, 22, .aload_n 0, 1, 0, 0, 0), (3, 23, .getfield 64, 3, 10, 22, 963), (0, 26, .iload_n 2, 1, 0, 0, 0), (0, 27, .iconst 1, 1, 0, 1, 0), (0, 28, .isub, 1, 0, 0, 0), (0, 29, .aload_n 0, 1, 0, 0, 0), (3, 30, .getfield 64, 3, 10, 22, 963), (0, 33, .iload_n 2, 1, 0, 0, 0), (3, 34, .iaload, 1, 0, 0, 0), (3, 35, .iastore, 1, 0, 0, 0), (0, 36, .iinc 2 1, 3, 0, 1, 0), (2, 39, .goto (-23), 3, 9, 0, 0), (0, 42, .aload_n 0, 1, 0, 0, 0), (0, 43, .dup, 1, 0, 0, 0), (3, 44, .getfield 252, 3, 10, 23, 964), (0, 47, .iconst 1, 1, 0, 1, 0), (0, 48, .isub, 1, 0, 0, 0), (3, 49, .putfield 252, 3, 10, 23, 964), (0, 52, .aload_n 0, 1, 0, 0, 0), (3, 53, .getfield 64, 3, 10, 22, 963), (0, 56, .aload_n 0, 1, 0, 0, 0), (3, 57, .getfield 252, 3, 10, 23, 964), (0, 60, .iload_n 1, 1, 0, 0, 0), (3, 61, .iastore, 1, 0, 0, 0), (0, 62, .aload_n 0, 1, 0, 0, 0), (0, 63, .dup, 1, 0, 0, 0), (3, 64, .getfield 252, 3, 10, 23, 964), (0, 67, .iconst 1, 1, 0, 1, 0), (0, 68, .iadd, 1, 0, 0, 0), (3, 69, .putfield 252, 3, 10, 23, 964), (5, 72, .return_, 1, 0, 0, 0)]
def mt_X11_turn : List mm_e := [(0, 0, .iload_n 1, 1, 0, 0, 0), (4, 1, .invokestatic 237, 3, 172, 1235, 0), (1, 4, .ifCond .eq 10, 3, 6, 0, 0), (0, 7, .iload_n 2, 1, 0, 0, 0), (4, 8, .invokestatic 237, 3, 172, 1235, 0), (1, 11, .ifCond .ne 6, 3, 8, 0, 0), (0, 14, .bipush (-2), 2, 0, 4294967294, 0), (5, 16, .ireturn, 1, 0, 0, 0), (0, 17, .aload_n 0, 1, 0, 0, 0), (0, 18, .bipush 15, 2, 0, 15, 0), (0, 20, .iload_n 1, 1, 0, 0, 0), (0, 21, .imul, 1, 0, 0, 0), (0, 22, .iload_n 2, 1, 0, 0, 0), (0, 23, .iadd, 1, 0, 0, 0), (4, 24, .invokevirtual 255, 3, 180, 1263, 0), (0, 27, .aload_n 0, 1, 0, 0, 0), (3, 28, .getfield 58, 3, 10, 20, 961), (4, 31, .invokestatic 258, 3, 178, 1271, 0), (5, 34, .ireturn, 1, 0, 0, 0)]
def mt_X11_lost : List mm_e := [(0, 0, .iload_n 1, 1, 0, 0, 0), (4, 1, .invokestatic 237, 3, 172, 1235, 0), (1, 4, .ifCond .eq 10, 3, 6, 0, 0), (0, 7, .iload_n 2, 1, 0, 0, 0), (4, 8, .invokestatic 237, 3, 172, 1235, 0), (1, 11, .ifCond .ne 6, 3, 8, 0, 0), (0, 14, .bipush (-2), 2, 0, 4294967294, 0), (5, 16, .ireturn, 1, 0, 0, 0), (0, 17, .aload_n 0, 1, 0, 0, 0), (0, 18, .sipush 225, 3, 0, 225, 0), (0, 21, .bipush 15, 2, 0, 15, 0), (0, 23, .iload_n 1, 1, 0, 0, 0), (0, 24, .imul, 1, 0, 0, 0), (0, 25, .iadd, 1, 0, 0, 0), (0, 26, .iload_n 2, 1, 0, 0, 0), (0, 27, .iadd, 1, 0, 0, 0), (4, 28, .invokevirtual 255, 3, 180, 1263, 0), (0, 31, .aload_n 0, 1, 0, 0, 0), (3, 32, .getfield 61, 3, 10, 21, 962), (4, 35, .invokestatic 258, 3, 178, 1271, 0), (5, 38, .ireturn, 1, 0, 0, 0)]
def mt_X11_back : List mm_e := [(0, 0, .aload_n 0, 1, 0, 0, 0), (3, 1, .getfield 252, 3, 10, 23, 964), (1, 4, .ifCond .ne 6, 3, 5, 0, 0), (0, 7, .bipush (-3), 2, 0, 4294967293, 0), (5, 9, .ireturn, 1, 0, 0, 0), (0, 10, .aload_n 0, 1, 0, 0, 0), (0, 11, .dup, 1, 0, 0, 0), (3, 12, .getfield 252, 3, 10, 23, 964), (0, 15, .iconst 1, 1, 0, 1, 0), (0, 16, .isub, 1, 0, 0, 0), (3, 17, .putfield 252, 3, 10, 23, 964), (0, 20, .aload_n 0, 1, 0, 0, 0), (0, 21, .aload_n 0, 1, 0, 0, 0), (3, 22, .getfield 64, 3, 10, 22, 963), (0, 25, .aload_n 0, 1, 0, 0, 0), (3, 26, .getfield 252, 3, 10, 23, 964), (3, 29, .iaload, 1, 0, 0, 0), (4, 30, .invokevirtual 249, 3, 179, 1267, 0), (0, 33, .aload_n 0, 1, 0, 0, 0), (3, 34, .getfield 252, 3, 10, 23, 964), (5, 37, .ireturn, 1, 0, 0, 0)]
def mt_X11_heal : List mm_e := [(0, 0, .iconst 0, 1, 0, 0, 0), (0, 1, .istore_n 1, 1, 0, 0, 0), (0, 2, .iconst 0, 1, 0, 0, 0), (0, 3, .istore_n 2, 1, 0, 0, 0), (0, 4, .iload_n 2, 1, 0, 0, 0), (0, 5, .sipush 225, 3, 0, 225, 0), (1, 8, .if_icmp .ge 47, 3, 35, 0, 0), (0, 11, .iload_n 1, 1, 0, 0, 0), (0, 12, .aload_n 0, 1, 0, 0, 0), (3, 13, .getfield 58, 3, 10, 20, 961), (0, 16, .iload_n 2, 1, 0, 0, 0), (3, 17, .iaload, 1, 0, 0, 0), (0, 18, .aload_n 0, 1, 0, 0, 0), (3, 19, .getfield 61, 3, 10, 21, 962), (0, 22, .iload_n 2, 1, 0, 0, 0), (3, 23, .iaload, 1, 0, 0, 0), (0, 24, .iadd, 1, 0, 0, 0), (1, 25, .ifCond .le 7, 3, 20, 0, 0), (0, 28, .iconst 1, 1, 0, 1, 0), (2, 29, .goto 4, 3, 21, 0, 0), (0, 32, .iconst 0, 1, 0, 0, 0), (0, 33, .iadd, 1, 0, 0, 0), (0, 34, .istore_n 1, 1, 0, 0, 0), (0, 35, .aload_n 0, 1, 0, 0, 0), (3, 36, .getfield 58, 3, 10, 20, 961), (0, 39, .iload_n 2, 1, 0, 0, 0), (0, 40, .iconst 0, 1, 0, 0, 0), (3, 41, .iastore, 1, 0, 0, 0), (0, 42, .aload_n 0, 1, 0, 0, 0), (3, 43, .getfield 61, 3, 10, 21, 962), (0, 46, .iload_n 2, 1, 0, 0, 0), (0, 47, .iconst 0, 1, 0, 0, 0), (3, 48, .iastore, 1, 0, 0, 0), (0, 49, .iinc 2 1, 3, 0, 1, 0), (2, 52, .goto (-48), 3, 4, 0, 0), (0, 55, .aload_n 0, 1, 0, 0, 0), (0, 56, .iconst 0, 1, 0, 0, 0), (3, 57, .putfield 252, 3, 10, 23, 964), (0, 60, .iload_n 1, 1, 0, 0, 0), (5, 61, .ireturn, 1, 0, 0, 0)]
def mt_X11_seenAt : List mm_e := [(0, 0, .aload_n 0, 1, 0, 0, 0), (3, 1, .getfield 61, 3, 10, 21, 962), (0, 4, .iload_n 1, 1, 0, 0, 0), (3, 5, .iaload, 1, 0, 0, 0), (0, 6, .iconst 1, 1, 0, 1, 0), (1, 7, .if_icmp .ne 7, 3, 8, 0, 0), (0, 10, .iconst 2, 1, 0, 2, 0), (2, 11, .goto 19, 3, 18, 0, 0), (0, 14, .aload_n 0, 1, 0, 0, 0), (0, 15, .aload_n 0, 1, 0, 0, 0), (3, 16, .getfield 195, 3, 10, 13, 954), (0, 19, .iload_n 1, 1, 0, 0, 0), (4, 20, .invokevirtual 180, 3, 162, 1200, 0), (0, 23, .aload_n 0, 1, 0, 0, 0), (3, 24, .getfield 58, 3, 10, 20, 961), (0, 27, .iload_n 1, 1, 0, 0, 0), (3, 28, .iaload, 1, 0, 0, 0), (0, 29, .ixor, 1, 0, 0, 0), (5, 30, .ireturn, 1, 0, 0, 0)]
def mt_X11_seen : List mm_e := [(0, 0, .aload_n 0, 1, 0, 0, 0), (4, 1, .invokevirtual 222, 3, 166, 1147, 0), (0, 4, .iload_n 1, 1, 0, 0, 0), (4, 5, .invokestatic 237, 3, 172, 1235, 0), (1, 8, .ifCond .eq 10, 3, 8, 0, 0), (0, 11, .iload_n 2, 1, 0, 0, 0), (4, 12, .invokestatic 237, 3, 172, 1235, 0), (1, 15, .ifCond .ne 6, 3, 10, 0, 0), (0, 18, .bipush (-2), 2, 0, 4294967294, 0), (5, 20, .ireturn, 1, 0, 0, 0), (0, 21, .aload_n 0, 1, 0, 0, 0), (3, 22, .getfield 201, 3, 10, 11, 952), (1, 25, .ifCond .eq 16, 3, 21, 0, 0), (0, 28, .aload_n 0, 1, 0, 0, 0), (0, 29, .bipush 15, 2, 0, 15, 0), (0, 31, .iload_n 1, 1, 0, 0, 0), (0, 32, .imul, 1, 0, 0, 0), (0, 33, .iload_n 2, 1, 0, 0, 0), (0, 34, .iadd, 1, 0, 0, 0), (4, 35, .invokevirtual 262, 3, 185, 1290, 0), (2, 38, .goto 5, 3, 22, 0, 0), (0, 41, .bipush (-3), 2, 0, 4294967293, 0), (5, 43, .ireturn, 1, 0, 0, 0)]
def mt_X11_formatNow : List mm_e := [(0, 0, .iconst 0, 1, 0, 0, 0), (0, 1, .istore_n 1, 1, 0, 0, 0), (0, 2, .iconst 3, 1, 0, 3, 0), (0, 3, .istore_n 2, 1, 0, 0, 0), (0, 4, .iload_n 2, 1, 0, 0, 0), (1, 5, .ifCond .lt 101, 3, 59, 0, 0), (0, 8, .iconst 0, 1, 0, 0, 0), (0, 9, .istore_n 3, 1, 0, 0, 0), (0, 10, .bipush 45, 2, 0, 45, 0), (0, 12, .istore 4, 2, 0, 0, 0), (0, 14, .iload 4, 2, 0, 0, 0), (0, 16, .sipush 180, 3, 0, 180, 0), (1, 19, .if_icmp .ge 61, 3, 43, 0, 0), (0, 22, .iload 4, 2, 0, 0, 0), (0, 24, .bipush 15, 2, 0, 15, 0), (0, 26, .idiv, 1, 0, 0, 0), (0, 27, .iload 4, 2, 0, 0, 0), (0, 29, .bipush 15, 2, 0, 15, 0), (0, 31, .irem, 1, 0, 0, 0), (4, 32, .invokestatic 162, 3, 156, 1158, 0), (0, 35, .iload_n 2, 1, 0, 0, 0), (1, 36, .if_icmp .ne 12, 3, 26, 0, 0), (0, 39, .aload_n 0, 1, 0, 0, 0), (0, 40, .iload 4, 2, 0, 0, 0), (4, 42, .invokevirtual 262, 3, 185, 1290, 0), (2, 45, .goto 4, 3, 27, 0, 0), (0, 48, .iconst 2, 1, 0, 2, 0), (0, 49, .istore 5, 2, 0, 0, 0), (0, 51, .iload_n 3, 1, 0, 0, 0), (0, 52, .iload 5, 2, 0, 0, 0), (0, 54, .iconst 1, 1, 0, 1, 0), (1, 55, .if_icmp .ne 7, 3, 34, 0, 0), (0, 58, .iconst 1, 1, 0, 1, 0), (2, 59, .goto 13, 3, 39, 0, 0), (0, 62, .iload 5, 2, 0, 0, 0), (1, 64, .ifCond .ne 7, 3, 38, 0, 0), (0, 67, .iconst (-1), 1, 0, 4294967295, 0), (2, 68, .goto 4, 3, 39, 0, 0), (0, 71, .iconst 0, 1, 0, 0, 0), (0, 72, .iadd, 1, 0, 0, 0), (0, 73, .istore_n 3, 1, 0, 0, 0), (0, 74, .iinc 4 1, 3, 0, 1, 0), (2, 77, .goto (-63), 3, 10, 0, 0), (0, 80, .iload_n 3, 1, 0, 0, 0), (1, 81, .ifCond .ne 5, 3, 47, 0, 0), (0, 84, .iconst (-1), 1, 0, 4294967295, 0), (5, 85, .ireturn, 1, 0, 0, 0), (0, 86, .iconst 2, 1, 0, 2, 0), (0, 87, .iload_n 1, 1, 0, 0, 0), (0, 88, .imul, 1, 0, 0, 0), (0, 89, .iload_n 3, 1, 0, 0, 0), (1, 90, .ifCond .le 7, 3, 54, 0, 0), (0, 93, .iconst 1, 1, 0, 1, 0), (2, 94, .goto 4, 3, 55, 0, 0), (0, 97, .iconst 0, 1, 0, 0, 0), (0, 98, .iadd, 1, 0, 0, 0), (0, 99, .istore_n 1, 1, 0, 0, 0), (0, 100, .iinc 2 (-1), 3, 0, 4294967295, 0), (2, 103, .goto (-99), 3, 4, 0, 0), (0, 106, .iload_n 1, 1, 0, 0, 0), (0, 107, .bipush 11, 2, 0, 11, 0), (1, 109, .if_icmp .le 7, 3, 64, 0, 0), (0, 112, .iconst (-1), 1, 0, 4294967295, 0), (2, 113, .goto 4, 3, 65, 0, 0), (0, 116, .iload_n 1, 1, 0, 0, 0), (5, 117, .ireturn, 1, 0, 0, 0)]
def mt_X11_symbolSeen : List mm_e := [(0, 0, .iconst 0, 1, 0, 0, 0), (0, 1, .istore_n 2, 1, 0, 0, 0), (0, 2, .iconst 1, 1, 0, 1, 0), (0, 3, .istore_n 3, 1, 0, 0, 0), (0, 4, .iconst 4, 1, 0, 4, 0), (0, 5, .iload_n 1, 1, 0, 0, 0), (0, 6, .imul, 1, 0, 0, 0), (0, 7, .istore 4, 2, 0, 0, 0), (0, 9, .iload 4, 2, 0, 0, 0), (0, 11, .iconst 4, 1, 0, 4, 0), (0, 12, .iload_n 1, 1, 0, 0, 0), (0, 13, .imul, 1, 0, 0, 0), (0, 14, .iconst 4, 1, 0, 4, 0), (0, 15, .iadd, 1, 0, 0, 0), (1, 16, .if_icmp .ge 69, 3, 53, 0, 0), (0, 19, .aload_n 0, 1, 0, 0, 0), (3, 20, .getfield 49, 3, 10, 17, 958), (0, 23, .iload 4, 2, 0, 0, 0), (3, 25, .iaload, 1, 0, 0, 0), (0, 26, .istore 5, 2, 0, 0, 0), (0, 28, .aload_n 0, 1, 0, 0, 0), (0, 29, .iload 5, 2, 0, 0, 0), (4, 31, .invokevirtual 262, 3, 185, 1290, 0), (0, 34, .istore 6, 2, 0, 0, 0), (0, 36, .iload_n 3, 1, 0, 0, 0), (1, 37, .ifCond .eq 13, 3, 31, 0, 0), (0, 40, .iload 6, 2, 0, 0, 0), (0, 42, .iconst 2, 1, 0, 2, 0), (1, 43, .if_icmp .ge 7, 3, 31, 0, 0), (0, 46, .iconst 1, 1, 0, 1, 0), (2, 47, .goto 4, 3, 32, 0, 0), (0, 50, .iconst 0, 1, 0, 0, 0), (0, 51, .istore_n 3, 1, 0, 0, 0), (0, 52, .iconst 2, 1, 0, 2, 0), (0, 53, .iload_n 2, 1, 0, 0, 0), (0, 54, .imul, 1, 0, 0, 0), (0, 55, .iload 6, 2, 0, 0, 0), (0, 57, .iconst 1, 1, 0, 1, 0), (0, 58, .iand, 1, 0, 0, 0), (0, 59, .aload_n 0, 1, 0, 0, 0), (3, 60, .getfield 265, 3, 10, 26, 967), (0, 63, .iload 5, 2, 0, 0, 0), (0, 65, .bipush 15, 2, 0, 15, 0), (0, 67, .idiv, 1, 0, 0, 0), (0, 68, .iload 5, 2, 0, 0, 0), (0, 70, .bipush 15, 2, 0, 15, 0), (0, 72, .irem, 1, 0, 0, 0), (4, 73, .invokestatic 174, 3, 161, 1204, 0), (0, 76, .ixor, 1, 0, 0, 0), (0, 77, .iadd, 1, 0, 0, 0), (0, 78, .istore_n 2, 1, 0, 0, 0), (0, 79, .iinc 4 1, 3, 0, 1, 0), (2, 82, .goto (-73), 3, 8, 0, 0), (0, 85, .iload_n 3, 1, 0, 0, 0), (1, 86, .ifCond .eq 7, 3, 57, 0, 0), (0, 89, .iload_n 2, 1, 0, 0, 0), (2, 90, .goto 4, 3, 58, 0, 0), (0, 93, .iconst (-1), 1, 0, 4294967295, 0), (5, 94, .ireturn, 1, 0, 0, 0)]
def mt_X11_equations : List mm_e := [(0, 0, .iconst 0, 1, 0, 0, 0), (0, 1, .istore_n 3, 1, 0, 0, 0), (0, 2, .iload_n 3, 1, 0, 0, 0), (0, 3, .iload_n 1, 1, 0, 0, 0), (1, 4, .if_icmp .ge 69, 3, 44, 0, 0), (0, 7, .iconst 0, 1, 0, 0, 0), (0, 8, .istore 4, 2, 0, 0, 0), (0, 10, .iload 4, 2, 0, 0, 0), (0, 12, .iload_n 2, 1, 0, 0, 0), (1, 13, .if_icmp .ge 37, 3, 30, 0, 0), (0, 16, .aload_n 0, 1, 0, 0, 0), (3, 17, .getfield 79, 3, 10, 31, 972), (0, 20, .bipush 7, 2, 0, 7, 0), (0, 22, .iload_n 3, 1, 0, 0, 0), (0, 23, .imul, 1, 0, 0, 0), (0, 24, .iload 4, 2, 0, 0, 0), (0, 26, .iadd, 1, 0, 0, 0), (0, 27, .aload_n 0, 1, 0, 0, 0), (0, 28, .iload_n 3, 1, 0, 0, 0), (0, 29, .bipush 13, 2, 0, 13, 0), (0, 31, .aload_n 0, 1, 0, 0, 0), (3, 32, .getfield 82, 3, 10, 32, 973), (0, 35, .iload 4, 2, 0, 0, 0), (3, 37, .iaload, 1, 0, 0, 0), (0, 38, .isub, 1, 0, 0, 0), (0, 39, .imul, 1, 0, 0, 0), (4, 40, .invokevirtual 165, 3, 140, 1175, 0), (3, 43, .iastore, 1, 0, 0, 0), (0, 44, .iinc 4 1, 3, 0, 1, 0), (2, 47, .goto (-37), 3, 7, 0, 0), (0, 50, .aload_n 0, 1, 0, 0, 0), (3, 51, .getfield 79, 3, 10, 31, 972), (0, 54, .bipush 7, 2, 0, 7, 0), (0, 56, .iload_n 3, 1, 0, 0, 0), (0, 57, .imul, 1, 0, 0, 0), (0, 58, .iload_n 2, 1, 0, 0, 0), (0, 59, .iadd, 1, 0, 0, 0), (0, 60, .aload_n 0, 1, 0, 0, 0), (3, 61, .getfield 76, 3, 10, 30, 971), (0, 64, .iload_n 3, 1, 0, 0, 0), (3, 65, .iaload, 1, 0, 0, 0), (3, 66, .iastore, 1, 0, 0, 0), (0, 67, .iinc 3 1, 3, 0, 1, 0), (2, 70, .goto (-68), 3, 2, 0, 0), (5, 73, .return_, 1, 0, 0, 0)]
def mt_X11_swaps : List mm_e := [(0, 0, .iconst 0, 1, 0, 0, 0), (0, 1, .istore_n 3, 1, 0, 0, 0), (0, 2, .iload_n 3, 1, 0, 0, 0), (0, 3, .bipush 7, 2, 0, 7, 0), (1, 5, .if_icmp .ge 57, 3, 41, 0, 0), (0, 8, .aload_n 0, 1, 0, 0, 0), (3, 9, .getfield 79, 3, 10, 31, 972), (0, 12, .bipush 7, 2, 0, 7, 0), (0, 14, .iload_n 1, 1, 0, 0, 0), (0, 15, .imul, 1, 0, 0, 0), (0, 16, .iload_n 3, 1, 0, 0, 0), (0, 17, .iadd, 1, 0, 0, 0), (3, 18, .iaload, 1, 0, 0, 0), (0, 19, .istore 4, 2, 0, 0, 0), (0, 21, .aload_n 0, 1, 0, 0, 0), (3, 22, .getfield 79, 3, 10, 31, 972), (0, 25, .bipush 7, 2, 0, 7, 0), (0, 27, .iload_n 1, 1, 0, 0, 0), (0, 28, .imul, 1, 0, 0, 0), (0, 29, .iload_n 3, 1, 0, 0, 0), (0, 30, .iadd, 1, 0, 0, 0), (0, 31, .aload_n 0, 1, 0, 0, 0), (3, 32, .getfield 79, 3, 10, 31, 972), (0, 35, .bipush 7, 2, 0, 7, 0), (0, 37, .iload_n 2, 1, 0, 0, 0), (0, 38, .imul, 1, 0, 0, 0), (0, 39, .iload_n 3, 1, 0, 0, 0), (0, 40, .iadd, 1, 0, 0, 0), (3, 41, .iaload, 1, 0, 0, 0), (3, 42, .iastore, 1, 0, 0, 0), (0, 43, .aload_n 0, 1, 0, 0, 0), (3, 44, .getfield 79, 3, 10, 31, 972), (0, 47, .bipush 7, 2, 0, 7, 0), (0, 49, .iload_n 2, 1, 0, 0, 0), (0, 50, .imul, 1, 0, 0, 0), (0, 51, .iload_n 3, 1, 0, 0, 0), (0, 52, .iadd, 1, 0, 0, 0), (0, 53, .iload 4, 2, 0, 0, 0), (3, 55, .iastore, 1, 0, 0, 0), (0, 56, .iinc 3 1, 3, 0, 1, 0), (2, 59, .goto (-57), 3, 2, 0, 0), (5, 62, .return_, 1, 0, 0, 0)]
def mt_X11_solves : List mm_e := [(0, 0, .aload_n 0, 1, 0, 0, 0), (0, 1, .iload_n 1, 1, 0, 0, 0), (0, 2, .iload_n 2, 1, 0, 0, 0), (4, 3, .invokevirtual 268, 3, 189, 1326, 0), (0, 6, .iconst 0, 1, 0, 0, 0), (0, 7, .istore_n 3, 1, 0, 0, 0), (0, 8, .iload_n 3, 1, 0, 0, 0), (0, 9, .iload_n 2, 1, 0, 0, 0), (1, 10, .if_icmp .ge 210, 3, 126, 0, 0), (0, 13, .iload_n 3, 1, 0, 0, 0), (0, 14, .istore 4, 2, 0, 0, 0), (0, 16, .iload 4, 2, 0, 0, 0), (0, 18, .iload_n 1, 1, 0, 0, 0), (1, 19, .if_icmp .ge 24, 3, 25, 0, 0), (0, 22, .aload_n 0, 1, 0, 0, 0), (3, 23, .getfield 79, 3, 10, 31, 972), (0, 26, .bipush 7, 2, 0, 7, 0), (0, 28, .iload 4, 2, 0, 0, 0), (0, 30, .imul, 1, 0, 0, 0), (0, 31, .iload_n 3, 1, 0, 0, 0), (0, 32, .iadd, 1, 0, 0, 0), (3, 33, .iaload, 1, 0, 0, 0), (1, 34, .ifCond .ne 9, 3, 25, 0, 0), (0, 37, .iinc 4 1, 3, 0, 1, 0), (2, 40, .goto (-24), 3, 11, 0, 0), (0, 43, .iload 4, 2, 0, 0, 0), (0, 45, .iload_n 1, 1, 0, 0, 0), (1, 46, .if_icmp .ne 5, 3, 30, 0, 0), (0, 49, .iconst 0, 1, 0, 0, 0), (5, 50, .ireturn, 1, 0, 0, 0), (0, 51, .aload_n 0, 1, 0, 0, 0), (0, 52, .iload 4, 2, 0, 0, 0), (0, 54, .iload_n 3, 1, 0, 0, 0), (4, 55, .invokevirtual 272, 3, 190, 1330, 0), (0, 58, .aload_n 0, 1, 0, 0, 0), (3, 59, .getfield 25, 3, 10, 6, 947), (0, 62, .aload_n 0, 1, 0, 0, 0), (3, 63, .getfield 79, 3, 10, 31, 972), (0, 66, .bipush 7, 2, 0, 7, 0), (0, 68, .iload_n 3, 1, 0, 0, 0), (0, 69, .imul, 1, 0, 0, 0), (0, 70, .iload_n 3, 1, 0, 0, 0), (0, 71, .iadd, 1, 0, 0, 0), (3, 72, .iaload, 1, 0, 0, 0), (3, 73, .iaload, 1, 0, 0, 0), (0, 74, .istore 5, 2, 0, 0, 0), (0, 76, .iload_n 3, 1, 0, 0, 0), (0, 77, .istore 6, 2, 0, 0, 0), (0, 79, .iload 6, 2, 0, 0, 0), (0, 81, .iload_n 2, 1, 0, 0, 0), (1, 82, .if_icmp .gt 39, 3, 72, 0, 0), (0, 85, .aload_n 0, 1, 0, 0, 0), (3, 86, .getfield 79, 3, 10, 31, 972), (0, 89, .bipush 7, 2, 0, 7, 0), (0, 91, .iload_n 3, 1, 0, 0, 0), (0, 92, .imul, 1, 0, 0, 0), (0, 93, .iload 6, 2, 0, 0, 0), (0, 95, .iadd, 1, 0, 0, 0), (0, 96, .aload_n 0, 1, 0, 0, 0), (0, 97, .aload_n 0, 1, 0, 0, 0), (3, 98, .getfield 79, 3, 10, 31, 972), (0, 101, .bipush 7, 2, 0, 7, 0), (0, 103, .iload_n 3, 1, 0, 0, 0), (0, 104, .imul, 1, 0, 0, 0), (0, 105, .iload 6, 2, 0, 0, 0), (0, 107, .iadd, 1, 0, 0, 0), (3, 108, .iaload, 1, 0, 0, 0), (0, 109, .iload 5, 2, 0, 0, 0), (4, 111, .invokevirtual 168, 3, 139, 1179, 0), (3, 114, .iastore, 1, 0, 0, 0), (0, 115, .iinc 6 1, 3, 0, 1, 0), (2, 118, .goto (-39), 3, 48, 0, 0), (0, 121, .iconst 0, 1, 0, 0, 0), (0, 122, .istore 6, 2, 0, 0, 0), (0, 124, .iload 6, 2, 0, 0, 0), (0, 126, .iload_n 1, 1, 0, 0, 0), (1, 127, .if_icmp .ge 87, 3, 124, 0, 0), (0, 130, .iload 6, 2, 0, 0, 0), (0, 132, .iload_n 3, 1, 0, 0, 0), (1, 133, .if_icmp .ne 7, 3, 82, 0, 0), (0, 136, .iconst 0, 1, 0, 0, 0), (2, 137, .goto 15, 3, 90, 0, 0), (0, 140, .aload_n 0, 1, 0, 0, 0), (3, 141, .getfield 79, 3, 10, 31, 972), (0, 144, .bipush 7, 2, 0, 7, 0), (0, 146, .iload 6, 2, 0, 0, 0), (0, 148, .imul, 1, 0, 0, 0), (0, 149, .iload_n 3, 1, 0, 0, 0), (0, 150, .iadd, 1, 0, 0, 0), (3, 151, .iaload, 1, 0, 0, 0), (0, 152, .istore 7, 2, 0, 0, 0), (0, 154, .iload_n 3, 1, 0, 0, 0), (0, 155, .istore 8, 2, 0, 0, 0), (0, 157, .iload 8, 2, 0, 0, 0), (0, 159, .iload_n 2, 1, 0, 0, 0), (1, 160, .if_icmp .gt 48, 3, 122, 0, 0), (0, 163, .iload 7, 2, 0, 0, 0), (1, 165, .ifCond .eq 43, 3, 122, 0, 0), (0, 168, .aload_n 0, 1, 0, 0, 0), (3, 169, .getfield 79, 3, 10, 31, 972), (0, 172, .bipush 7, 2, 0, 7, 0), (0, 174, .iload 6, 2, 0, 0, 0), (0, 176, .imul, 1, 0, 0, 0), (0, 177, .iload 8, 2, 0, 0, 0), (0, 179, .iadd, 1, 0, 0, 0), (0, 180, .dup2, 1, 0, 0, 0), (3, 181, .iaload, 1, 0, 0, 0), (0, 182, .aload_n 0, 1, 0, 0, 0), (0, 183, .iload 7, 2, 0, 0, 0), (0, 185, .aload_n 0, 1, 0, 0, 0), (3, 186, .getfield 79, 3, 10, 31, 972), (0, 189, .bipush 7, 2, 0, 7, 0), (0, 191, .iload_n 3, 1, 0, 0, 0), (0, 192, .imul, 1, 0, 0, 0), (0, 193, .iload 8, 2, 0, 0, 0), (0, 195, .iadd, 1, 0, 0, 0), (3, 196, .iaload, 1, 0, 0, 0), (4, 197, .invokevirtual 168, 3, 139, 1179, 0), (0, 200, .ixor, 1, 0, 0, 0), (3, 201, .iastore, 1, 0, 0, 0), (0, 202, .iinc 8 1, 3, 0, 1, 0), (2, 205, .goto (-48), 3, 93, 0, 0), (0, 208, .iinc 6 1, 3, 0, 1, 0), (2, 211, .goto (-87), 3, 74, 0, 0), (0, 214, .iinc 3 1, 3, 0, 1, 0), (2, 217, .goto (-209), 3, 6, 0, 0), (0, 220, .iconst 1, 1, 0, 1, 0), (0, 221, .istore_n 3, 1, 0, 0, 0), (0, 222, .iload_n 2, 1, 0, 0, 0), (0, 223, .istore 4, 2, 0, 0, 0), (0, 225, .iload 4, 2, 0, 0, 0), (0, 227, .iload_n 1, 1, 0, 0, 0), (1, 228, .if_icmp .ge 34, 3, 150, 0, 0), (0, 231, .iload_n 3, 1, 0, 0, 0), (1, 232, .ifCond .eq 22, 3, 146, 0, 0), (0, 235, .aload_n 0, 1, 0, 0, 0), (3, 236, .getfield 79, 3, 10, 31, 972), (0, 239, .bipush 7, 2, 0, 7, 0), (0, 241, .iload 4, 2, 0, 0, 0), (0, 243, .imul, 1, 0, 0, 0), (0, 244, .iload_n 2, 1, 0, 0, 0), (0, 245, .iadd, 1, 0, 0, 0), (3, 246, .iaload, 1, 0, 0, 0), (1, 247, .ifCond .ne 7, 3, 146, 0, 0), (0, 250, .iconst 1, 1, 0, 1, 0), (2, 251, .goto 4, 3, 147, 0, 0), (0, 254, .iconst 0, 1, 0, 0, 0), (0, 255, .istore_n 3, 1, 0, 0, 0), (0, 256, .iinc 4 1, 3, 0, 1, 0), (2, 259, .goto (-34), 3, 130, 0, 0), (0, 262, .iconst 0, 1, 0, 0, 0), (0, 263, .istore 4, 2, 0, 0, 0), (0, 265, .iload 4, 2, 0, 0, 0), (0, 267, .iload_n 2, 1, 0, 0, 0), (1, 268, .if_icmp .ge 32, 3, 171, 0, 0), (0, 271, .iload_n 3, 1, 0, 0, 0), (1, 272, .ifCond .eq 28, 3, 171, 0, 0), (0, 275, .aload_n 0, 1, 0, 0, 0), (3, 276, .getfield 85, 3, 10, 33, 974), (0, 279, .iload 4, 2, 0, 0, 0), (0, 281, .aload_n 0, 1, 0, 0, 0), (3, 282, .getfield 79, 3, 10, 31, 972), (0, 285, .bipush 7, 2, 0, 7, 0), (0, 287, .iload 4, 2, 0, 0, 0), (0, 289, .imul, 1, 0, 0, 0), (0, 290, .iload_n 2, 1, 0, 0, 0), (0, 291, .iadd, 1, 0, 0, 0), (3, 292, .iaload, 1, 0, 0, 0), (3, 293, .iastore, 1, 0, 0, 0), (0, 294, .iinc 4 1, 3, 0, 1, 0), (2, 297, .goto (-32), 3, 152, 0, 0), (0, 300, .iload_n 3, 1, 0, 0, 0), (5, 301, .ireturn, 1, 0, 0, 0)]
def mt_X11_isGone : List mm_e := [(0, 0, .iconst 0, 1, 0, 0, 0), (0, 1, .istore_n 3, 1, 0, 0, 0), (0, 2, .iconst 0, 1, 0, 0, 0), (0, 3, .istore 4, 2, 0, 0, 0), (0, 5, .iload 4, 2, 0, 0, 0), (0, 7, .iload_n 1, 1, 0, 0, 0), (1, 8, .if_icmp .ge 30, 3, 21, 0, 0), (0, 11, .iload_n 3, 1, 0, 0, 0), (1, 12, .ifCond .ne 14, 3, 15, 0, 0), (0, 15, .aload_n 0, 1, 0, 0, 0), (3, 16, .getfield 82, 3, 10, 32, 973), (0, 19, .iload 4, 2, 0, 0, 0), (3, 21, .iaload, 1, 0, 0, 0), (0, 22, .iload_n 2, 1, 0, 0, 0), (1, 23, .if_icmp .ne 7, 3, 17, 0, 0), (0, 26, .iconst 1, 1, 0, 1, 0), (2, 27, .goto 4, 3, 18, 0, 0), (0, 30, .iconst 0, 1, 0, 0, 0), (0, 31, .istore_n 3, 1, 0, 0, 0), (0, 32, .iinc 4 1, 3, 0, 1, 0), (2, 35, .goto (-30), 3, 4, 0, 0), (0, 38, .iload_n 3, 1, 0, 0, 0), (5, 39, .ireturn, 1, 0, 0, 0)]
def mt_X11_triesOne : List mm_e := [(0, 0, .iconst 0, 1, 0, 0, 0), (0, 1, .istore_n 3, 1, 0, 0, 0), (0, 2, .iconst 0, 1, 0, 0, 0), (0, 3, .istore 4, 2, 0, 0, 0), (0, 5, .iload 4, 2, 0, 0, 0), (0, 7, .bipush 14, 2, 0, 14, 0), (1, 9, .if_icmp .ge 48, 3, 32, 0, 0), (0, 12, .iload_n 3, 1, 0, 0, 0), (1, 13, .ifCond .ne 44, 3, 32, 0, 0), (0, 16, .aload_n 0, 1, 0, 0, 0), (3, 17, .getfield 82, 3, 10, 32, 973), (0, 20, .iload_n 2, 1, 0, 0, 0), (0, 21, .iload 4, 2, 0, 0, 0), (3, 23, .iastore, 1, 0, 0, 0), (0, 24, .aload_n 0, 1, 0, 0, 0), (0, 25, .iload_n 2, 1, 0, 0, 0), (0, 26, .iload 4, 2, 0, 0, 0), (4, 28, .invokevirtual 275, 3, 192, 1338, 0), (1, 31, .ifCond .ne 18, 3, 28, 0, 0), (0, 34, .aload_n 0, 1, 0, 0, 0), (0, 35, .iload_n 1, 1, 0, 0, 0), (0, 36, .iload_n 2, 1, 0, 0, 0), (0, 37, .iconst 1, 1, 0, 1, 0), (0, 38, .iadd, 1, 0, 0, 0), (4, 39, .invokevirtual 278, 3, 191, 1322, 0), (1, 42, .ifCond .eq 7, 3, 28, 0, 0), (0, 45, .iconst 1, 1, 0, 1, 0), (2, 46, .goto 4, 3, 29, 0, 0), (0, 49, .iconst 0, 1, 0, 0, 0), (0, 50, .istore_n 3, 1, 0, 0, 0), (0, 51, .iinc 4 1, 3, 0, 1, 0), (2, 54, .goto (-49), 3, 4, 0, 0), (0, 57, .iload_n 3, 1, 0, 0, 0), (5, 58, .ireturn, 1, 0, 0, 0)]
def mt_X11_triesTwo : List mm_e := [(0, 0, .iconst 0, 1, 0, 0, 0), (0, 1, .istore_n 3, 1, 0, 0, 0), (0, 2, .iconst 0, 1, 0, 0, 0), (0, 3, .istore 4, 2, 0, 0, 0), (0, 5, .iload 4, 2, 0, 0, 0), (0, 7, .bipush 14, 2, 0, 14, 0), (1, 9, .if_icmp .ge 91, 3, 55, 0, 0), (0, 12, .iload_n 3, 1, 0, 0, 0), (1, 13, .ifCond .ne 87, 3, 55, 0, 0), (0, 16, .aload_n 0, 1, 0, 0, 0), (3, 17, .getfield 82, 3, 10, 32, 973), (0, 20, .iload_n 2, 1, 0, 0, 0), (0, 21, .iload 4, 2, 0, 0, 0), (3, 23, .iastore, 1, 0, 0, 0), (0, 24, .iload 4, 2, 0, 0, 0), (0, 26, .iconst 1, 1, 0, 1, 0), (0, 27, .iadd, 1, 0, 0, 0), (0, 28, .istore 5, 2, 0, 0, 0), (0, 30, .iload 5, 2, 0, 0, 0), (0, 32, .bipush 14, 2, 0, 14, 0), (1, 34, .if_icmp .ge 60, 3, 53, 0, 0), (0, 37, .iload_n 3, 1, 0, 0, 0), (1, 38, .ifCond .ne 56, 3, 53, 0, 0), (0, 41, .aload_n 0, 1, 0, 0, 0), (0, 42, .iload_n 2, 1, 0, 0, 0), (0, 43, .iload 4, 2, 0, 0, 0), (4, 45, .invokevirtual 275, 3, 192, 1338, 0), (1, 48, .ifCond .ne 46, 3, 53, 0, 0), (0, 51, .aload_n 0, 1, 0, 0, 0), (3, 52, .getfield 82, 3, 10, 32, 973), (0, 55, .iload_n 2, 1, 0, 0, 0), (0, 56, .iconst 1, 1, 0, 1, 0), (0, 57, .iadd, 1, 0, 0, 0), (0, 58, .iload 5, 2, 0, 0, 0), (3, 60, .iastore, 1, 0, 0, 0), (0, 61, .aload_n 0, 1, 0, 0, 0), (0, 62, .iload_n 2, 1, 0, 0, 0), (0, 63, .iload 5, 2, 0, 0, 0), (4, 65, .invokevirtual 275, 3, 192, 1338, 0), (1, 68, .ifCond .ne 18, 3, 49, 0, 0), (0, 71, .aload_n 0, 1, 0, 0, 0), (0, 72, .iload_n 1, 1, 0, 0, 0), (0, 73, .iload_n 2, 1, 0, 0, 0), (0, 74, .iconst 2, 1, 0, 2, 0), (0, 75, .iadd, 1, 0, 0, 0), (4, 76, .invokevirtual 278, 3, 191, 1322, 0), (1, 79, .ifCond .eq 7, 3, 49, 0, 0), (0, 82, .iconst 1, 1, 0, 1, 0), (2, 83, .goto 4, 3, 50, 0, 0), (0, 86, .iconst 0, 1, 0, 0, 0), (0, 87, .istore_n 3, 1, 0, 0, 0), (0, 88, .iinc 5 1, 3, 0, 1, 0), (2, 91, .goto (-61), 3, 18, 0, 0), (0, 94, .iinc 4 1, 3, 0, 1, 0), (2, 97, .goto (-92), 3, 4, 0, 0), (0, 100, .iload_n 3, 1, 0, 0, 0), (5, 101, .ireturn, 1, 0, 0, 0)]
def mt_X11_triesThree : List mm_e := [(0, 0, .iconst 0, 1, 0, 0, 0), (0, 1, .istore_n 3, 1, 0, 0, 0), (0, 2, .iconst 0, 1, 0, 0, 0), (0, 3, .istore 4, 2, 0, 0, 0), (0, 5, .iload 4, 2, 0, 0, 0), (0, 7, .bipush 14, 2, 0, 14, 0), (1, 9, .if_icmp .ge 134, 3, 78, 0, 0), (0, 12, .iload_n 3, 1, 0, 0, 0), (1, 13, .ifCond .ne 130, 3, 78, 0, 0), (0, 16, .aload_n 0, 1, 0, 0, 0), (3, 17, .getfield 82, 3, 10, 32, 973), (0, 20, .iload_n 2, 1, 0, 0, 0), (0, 21, .iload 4, 2, 0, 0, 0), (3, 23, .iastore, 1, 0, 0, 0), (0, 24, .iload 4, 2, 0, 0, 0), (0, 26, .iconst 1, 1, 0, 1, 0), (0, 27, .iadd, 1, 0, 0, 0), (0, 28, .istore 5, 2, 0, 0, 0), (0, 30, .iload 5, 2, 0, 0, 0), (0, 32, .bipush 14, 2, 0, 14, 0), (1, 34, .if_icmp .ge 103, 3, 76, 0, 0), (0, 37, .iload_n 3, 1, 0, 0, 0), (1, 38, .ifCond .ne 99, 3, 76, 0, 0), (0, 41, .aload_n 0, 1, 0, 0, 0), (0, 42, .iload_n 2, 1, 0, 0, 0), (0, 43, .iload 4, 2, 0, 0, 0), (4, 45, .invokevirtual 275, 3, 192, 1338, 0), (1, 48, .ifCond .ne 89, 3, 76, 0, 0), (0, 51, .aload_n 0, 1, 0, 0, 0), (3, 52, .getfield 82, 3, 10, 32, 973), (0, 55, .iload_n 2, 1, 0, 0, 0), (0, 56, .iconst 1, 1, 0, 1, 0), (0, 57, .iadd, 1, 0, 0, 0), (0, 58, .iload 5, 2, 0, 0, 0), (3, 60, .iastore, 1, 0, 0, 0), (0, 61, .iload 5, 2, 0, 0, 0), (0, 63, .iconst 1, 1, 0, 1, 0), (0, 64, .iadd, 1, 0, 0, 0), (0, 65, .istore 6, 2, 0, 0, 0), (0, 67, .iload 6, 2, 0, 0, 0), (0, 69, .bipush 14, 2, 0, 14, 0), (1, 71, .if_icmp .ge 60, 3, 74, 0, 0), (0, 74, .iload_n 3, 1, 0, 0, 0), (1, 75, .ifCond .ne 56, 3, 74, 0, 0), (0, 78, .aload_n 0, 1, 0, 0, 0), (0, 79, .iload_n 2, 1, 0, 0, 0), (0, 80, .iload 5, 2, 0, 0, 0), (4, 82, .invokevirtual 275, 3, 192, 1338, 0), (1, 85, .ifCond .ne 46, 3, 74, 0, 0), (0, 88, .aload_n 0, 1, 0, 0, 0), (3, 89, .getfield 82, 3, 10, 32, 973), (0, 92, .iload_n 2, 1, 0, 0, 0), (0, 93, .iconst 2, 1, 0, 2, 0), (0, 94, .iadd, 1, 0, 0, 0), (0, 95, .iload 6, 2, 0, 0, 0), (3, 97, .iastore, 1, 0, 0, 0), (0, 98, .aload_n 0, 1, 0, 0, 0), (0, 99, .iload_n 2, 1, 0, 0, 0), (0, 100, .iload 6, 2, 0, 0, 0), (4, 102, .invokevirtual 275, 3, 192, 1338, 0), (1, 105, .ifCond .ne 18, 3, 70, 0, 0), (0, 108, .aload_n 0, 1, 0, 0, 0), (0, 109, .iload_n 1, 1, 0, 0, 0), (0, 110, .iload_n 2, 1, 0, 0, 0), (0, 111, .iconst 3, 1, 0, 3, 0), (0, 112, .iadd, 1, 0, 0, 0), (4, 113, .invokevirtual 278, 3, 191, 1322, 0), (1, 116, .ifCond .eq 7, 3, 70, 0, 0), (0, 119, .iconst 1, 1, 0, 1, 0), (2, 120, .goto 4, 3, 71, 0, 0), (0, 123, .iconst 0, 1, 0, 0, 0), (0, 124, .istore_n 3, 1, 0, 0, 0), (0, 125, .iinc 6 1, 3, 0, 1, 0), (2, 128, .goto (-61), 3, 39, 0, 0), (0, 131, .iinc 5 1, 3, 0, 1, 0), (2, 134, .goto (-104), 3, 18, 0, 0), (0, 137, .iinc 4 1, 3, 0, 1, 0), (2, 140, .goto (-135), 3, 4, 0, 0), (0, 143, .iload_n 3, 1, 0, 0, 0), (5, 144, .ireturn, 1, 0, 0, 0)]
def mt_X11_tries : List mm_e := [(0, 0, .iload_n 3, 1, 0, 0, 0), (1, 1, .ifCond .ne 12, 3, 7, 0, 0), (0, 4, .aload_n 0, 1, 0, 0, 0), (0, 5, .iload_n 1, 1, 0, 0, 0), (0, 6, .iload_n 2, 1, 0, 0, 0), (4, 7, .invokevirtual 278, 3, 191, 1322, 0), (2, 10, .goto 37, 3, 27, 0, 0), (0, 13, .iload_n 3, 1, 0, 0, 0), (0, 14, .iconst 1, 1, 0, 1, 0), (1, 15, .if_icmp .ne 12, 3, 15, 0, 0), (0, 18, .aload_n 0, 1, 0, 0, 0), (0, 19, .iload_n 1, 1, 0, 0, 0), (0, 20, .iload_n 2, 1, 0, 0, 0), (4, 21, .invokevirtual 281, 3, 193, 1334, 0), (2, 24, .goto 23, 3, 27, 0, 0), (0, 27, .iload_n 3, 1, 0, 0, 0), (0, 28, .iconst 2, 1, 0, 2, 0), (1, 29, .if_icmp .ne 12, 3, 23, 0, 0), (0, 32, .aload_n 0, 1, 0, 0, 0), (0, 33, .iload_n 1, 1, 0, 0, 0), (0, 34, .iload_n 2, 1, 0, 0, 0), (4, 35, .invokevirtual 284, 3, 194, 1342, 0), (2, 38, .goto 9, 3, 27, 0, 0), (0, 41, .aload_n 0, 1, 0, 0, 0), (0, 42, .iload_n 1, 1, 0, 0, 0), (0, 43, .iload_n 2, 1, 0, 0, 0), (4, 44, .invokevirtual 287, 3, 195, 1346, 0), (5, 47, .ireturn, 1, 0, 0, 0)]
def mt_X11_mends : List mm_e := [(0, 0, .aload_n 0, 1, 0, 0, 0), (3, 1, .getfield 290, 3, 10, 25, 966), (4, 4, .invokestatic 155, 3, 152, 1168, 0), (0, 7, .istore_n 2, 1, 0, 0, 0), (0, 8, .iconst 0, 1, 0, 0, 0), (0, 9, .istore_n 3, 1, 0, 0, 0), (0, 10, .iconst 0, 1, 0, 0, 0), (0, 11, .istore 4, 2, 0, 0, 0), (0, 13, .iload 4, 2, 0, 0, 0), (0, 15, .bipush 6, 2, 0, 6, 0), (1, 17, .if_icmp .ge 17, 3, 18, 0, 0), (0, 20, .aload_n 0, 1, 0, 0, 0), (3, 21, .getfield 76, 3, 10, 30, 971), (0, 24, .iload 4, 2, 0, 0, 0), (0, 26, .iconst 0, 1, 0, 0, 0), (3, 27, .iastore, 1, 0, 0, 0), (0, 28, .iinc 4 1, 3, 0, 1, 0), (2, 31, .goto (-18), 3, 8, 0, 0), (0, 34, .iconst 0, 1, 0, 0, 0), (0, 35, .istore 4, 2, 0, 0, 0), (0, 37, .iload 4, 2, 0, 0, 0), (0, 39, .bipush 14, 2, 0, 14, 0), (1, 41, .if_icmp .ge 115, 3, 85, 0, 0), (0, 44, .aload_n 0, 1, 0, 0, 0), (0, 45, .iconst 3, 1, 0, 3, 0), (0, 46, .iload 4, 2, 0, 0, 0), (0, 48, .imul, 1, 0, 0, 0), (0, 49, .iload_n 1, 1, 0, 0, 0), (0, 50, .iadd, 1, 0, 0, 0), (4, 51, .invokevirtual 293, 3, 188, 1314, 0), (0, 54, .istore 5, 2, 0, 0, 0), (0, 56, .aload_n 0, 1, 0, 0, 0), (3, 57, .getfield 67, 3, 10, 27, 968), (0, 60, .bipush 14, 2, 0, 14, 0), (0, 62, .iload_n 1, 1, 0, 0, 0), (0, 63, .imul, 1, 0, 0, 0), (0, 64, .iload 4, 2, 0, 0, 0), (0, 66, .iadd, 1, 0, 0, 0), (0, 67, .iload 5, 2, 0, 0, 0), (0, 69, .iconst (-1), 1, 0, 4294967295, 0), (1, 70, .if_icmp .ne 7, 3, 43, 0, 0), (0, 73, .iconst 0, 1, 0, 0, 0), (2, 74, .goto 5, 3, 44, 0, 0), (0, 77, .iload 5, 2, 0, 0, 0), (3, 79, .iastore, 1, 0, 0, 0), (0, 80, .iload 5, 2, 0, 0, 0), (0, 82, .iconst (-1), 1, 0, 4294967295, 0), (1, 83, .if_icmp .ne 14, 3, 54, 0, 0), (0, 86, .aload_n 0, 1, 0, 0, 0), (3, 87, .getfield 82, 3, 10, 32, 973), (0, 90, .iload_n 3, 1, 0, 0, 0), (0, 91, .iload 4, 2, 0, 0, 0), (3, 93, .iastore, 1, 0, 0, 0), (0, 94, .iinc 3 1, 3, 0, 1, 0), (0, 97, .iconst 0, 1, 0, 0, 0), (0, 98, .istore 6, 2, 0, 0, 0), (0, 100, .iload 6, 2, 0, 0, 0), (0, 102, .iload_n 2, 1, 0, 0, 0), (1, 103, .if_icmp .ge 47, 3, 83, 0, 0), (0, 106, .aload_n 0, 1, 0, 0, 0), (3, 107, .getfield 76, 3, 10, 30, 971), (0, 110, .iload 6, 2, 0, 0, 0), (0, 112, .dup2, 1, 0, 0, 0), (3, 113, .iaload, 1, 0, 0, 0), (0, 114, .iload 5, 2, 0, 0, 0), (0, 116, .iconst (-1), 1, 0, 4294967295, 0), (1, 117, .if_icmp .ne 7, 3, 69, 0, 0), (0, 120, .iconst 0, 1, 0, 0, 0), (2, 121, .goto 21, 3, 79, 0, 0), (0, 124, .aload_n 0, 1, 0, 0, 0), (0, 125, .iload 5, 2, 0, 0, 0), (0, 127, .aload_n 0, 1, 0, 0, 0), (0, 128, .iload 6, 2, 0, 0, 0), (0, 130, .bipush 13, 2, 0, 13, 0), (0, 132, .iload 4, 2, 0, 0, 0), (0, 134, .isub, 1, 0, 0, 0), (0, 135, .imul, 1, 0, 0, 0), (4, 136, .invokevirtual 165, 3, 140, 1175, 0), (4, 139, .invokevirtual 168, 3, 139, 1179, 0), (0, 142, .ixor, 1, 0, 0, 0), (3, 143, .iastore, 1, 0, 0, 0), (0, 144, .iinc 6 1, 3, 0, 1, 0), (2, 147, .goto (-47), 3, 56, 0, 0), (0, 150, .iinc 4 1, 3, 0, 1, 0), (2, 153, .goto (-116), 3, 20, 0, 0), (0, 156, .aload_n 0, 1, 0, 0, 0), (3, 157, .getfield 70, 3, 10, 28, 969), (0, 160, .iload_n 1, 1, 0, 0, 0), (0, 161, .iload_n 3, 1, 0, 0, 0), (3, 162, .iastore, 1, 0, 0, 0), (0, 163, .aload_n 0, 1, 0, 0, 0), (3, 164, .getfield 73, 3, 10, 29, 970), (0, 167, .iload_n 1, 1, 0, 0, 0), (0, 168, .iconst (-1), 1, 0, 4294967295, 0), (3, 169, .iastore, 1, 0, 0, 0), (0, 170, .iconst 0, 1, 0, 0, 0), (0, 171, .istore 4, 2, 0, 0, 0), (0, 173, .iload_n 3, 1, 0, 0, 0), (0, 174, .iconst 2, 1, 0, 2, 0), (0, 175, .iload 4, 2, 0, 0, 0), (0, 177, .imul, 1, 0, 0, 0), (0, 178, .iadd, 1, 0, 0, 0), (0, 179, .iload_n 2, 1, 0, 0, 0), (1, 180, .if_icmp .gt 42, 3, 125, 0, 0), (0, 183, .aload_n 0, 1, 0, 0, 0), (3, 184, .getfield 73, 3, 10, 29, 970), (0, 187, .iload_n 1, 1, 0, 0, 0), (3, 188, .iaload, 1, 0, 0, 0), (0, 189, .iconst (-1), 1, 0, 4294967295, 0), (1, 190, .if_icmp .ne 32, 3, 125, 0, 0), (0, 193, .aload_n 0, 1, 0, 0, 0), (3, 194, .getfield 73, 3, 10, 29, 970), (0, 197, .iload_n 1, 1, 0, 0, 0), (0, 198, .aload_n 0, 1, 0, 0, 0), (0, 199, .iload_n 2, 1, 0, 0, 0), (0, 200, .iload_n 3, 1, 0, 0, 0), (0, 201, .iload 4, 2, 0, 0, 0), (4, 203, .invokevirtual 296, 3, 196, 1318, 0), (1, 206, .ifCond .eq 8, 3, 121, 0, 0), (0, 209, .iload 4, 2, 0, 0, 0), (2, 211, .goto 4, 3, 122, 0, 0), (0, 214, .iconst (-1), 1, 0, 4294967295, 0), (3, 215, .iastore, 1, 0, 0, 0), (0, 216, .iinc 4 1, 3, 0, 1, 0), (2, 219, .goto (-46), 3, 97, 0, 0), (0, 222, .iconst 0, 1, 0, 0, 0), (0, 223, .istore 4, 2, 0, 0, 0), (0, 225, .aload_n 0, 1, 0, 0, 0), (3, 226, .getfield 73, 3, 10, 29, 970), (0, 229, .iload_n 1, 1, 0, 0, 0), (3, 230, .iaload, 1, 0, 0, 0), (0, 231, .iconst (-1), 1, 0, 4294967295, 0), (1, 232, .if_icmp .eq 49, 3, 161, 0, 0), (0, 235, .iload 4, 2, 0, 0, 0), (0, 237, .iload_n 3, 1, 0, 0, 0), (0, 238, .aload_n 0, 1, 0, 0, 0), (3, 239, .getfield 73, 3, 10, 29, 970), (0, 242, .iload_n 1, 1, 0, 0, 0), (3, 243, .iaload, 1, 0, 0, 0), (0, 244, .iadd, 1, 0, 0, 0), (1, 245, .if_icmp .ge 36, 3, 161, 0, 0), (0, 248, .aload_n 0, 1, 0, 0, 0), (3, 249, .getfield 67, 3, 10, 27, 968), (0, 252, .bipush 14, 2, 0, 14, 0), (0, 254, .iload_n 1, 1, 0, 0, 0), (0, 255, .imul, 1, 0, 0, 0), (0, 256, .aload_n 0, 1, 0, 0, 0), (3, 257, .getfield 82, 3, 10, 32, 973), (0, 260, .iload 4, 2, 0, 0, 0), (3, 262, .iaload, 1, 0, 0, 0), (0, 263, .iadd, 1, 0, 0, 0), (0, 264, .dup2, 1, 0, 0, 0), (3, 265, .iaload, 1, 0, 0, 0), (0, 266, .aload_n 0, 1, 0, 0, 0), (3, 267, .getfield 85, 3, 10, 33, 974), (0, 270, .iload 4, 2, 0, 0, 0), (3, 272, .iaload, 1, 0, 0, 0), (0, 273, .ixor, 1, 0, 0, 0), (3, 274, .iastore, 1, 0, 0, 0), (0, 275, .iinc 4 1, 3, 0, 1, 0), (2, 278, .goto (-53), 3, 127, 0, 0), (5, 281, .return_, 1, 0, 0, 0)]
def mt_X11_reading : List mm_e := [(0, 0, .aload_n 0, 1, 0, 0, 0), (3, 1, .getfield 201, 3, 10, 11, 952), (1, 4, .ifCond .eq 10, 3, 6, 0, 0), (0, 7, .aload_n 0, 1, 0, 0, 0), (4, 8, .invokevirtual 300, 3, 187, 1306, 0), (2, 11, .goto 4, 3, 7, 0, 0), (0, 14, .iconst (-1), 1, 0, 4294967295, 0), (0, 15, .istore_n 1, 1, 0, 0, 0), (0, 16, .aload_n 0, 1, 0, 0, 0), (0, 17, .iload_n 1, 1, 0, 0, 0), (0, 18, .iconst (-1), 1, 0, 4294967295, 0), (1, 19, .if_icmp .ne 7, 3, 14, 0, 0), (0, 22, .iconst (-1), 1, 0, 4294967295, 0), (2, 23, .goto 6, 3, 17, 0, 0), (0, 26, .iload_n 1, 1, 0, 0, 0), (0, 27, .iconst 4, 1, 0, 4, 0), (0, 28, .idiv, 1, 0, 0, 0), (3, 29, .putfield 290, 3, 10, 25, 966), (0, 32, .aload_n 0, 1, 0, 0, 0), (0, 33, .iload_n 1, 1, 0, 0, 0), (0, 34, .iconst (-1), 1, 0, 4294967295, 0), (1, 35, .if_icmp .ne 7, 3, 24, 0, 0), (0, 38, .iconst (-1), 1, 0, 4294967295, 0), (2, 39, .goto 6, 3, 27, 0, 0), (0, 42, .iload_n 1, 1, 0, 0, 0), (0, 43, .iconst 4, 1, 0, 4, 0), (0, 44, .irem, 1, 0, 0, 0), (3, 45, .putfield 265, 3, 10, 26, 967), (0, 48, .aload_n 0, 1, 0, 0, 0), (0, 49, .aload_n 0, 1, 0, 0, 0), (3, 50, .getfield 201, 3, 10, 11, 952), (1, 53, .ifCond .ne 7, 3, 34, 0, 0), (0, 56, .iconst 4, 1, 0, 4, 0), (2, 57, .goto 13, 3, 40, 0, 0), (0, 60, .iload_n 1, 1, 0, 0, 0), (0, 61, .iconst (-1), 1, 0, 4294967295, 0), (1, 62, .if_icmp .ne 7, 3, 39, 0, 0), (0, 65, .iconst 1, 1, 0, 1, 0), (2, 66, .goto 4, 3, 40, 0, 0), (0, 69, .iconst 0, 1, 0, 0, 0), (3, 70, .putfield 303, 3, 10, 24, 965), (0, 73, .aload_n 0, 1, 0, 0, 0), (3, 74, .getfield 303, 3, 10, 24, 965), (1, 77, .ifCond .le 4, 3, 45, 0, 0), (5, 80, .return_, 1, 0, 0, 0), (0, 81, .iconst 0, 1, 0, 0, 0), (0, 82, .istore_n 2, 1, 0, 0, 0), (0, 83, .iload_n 2, 1, 0, 0, 0), (0, 84, .iconst 3, 1, 0, 3, 0), (1, 85, .if_icmp .ge 36, 3, 67, 0, 0), (0, 88, .aload_n 0, 1, 0, 0, 0), (0, 89, .iload_n 2, 1, 0, 0, 0), (4, 90, .invokevirtual 306, 3, 197, 1310, 0), (0, 93, .aload_n 0, 1, 0, 0, 0), (0, 94, .aload_n 0, 1, 0, 0, 0), (3, 95, .getfield 73, 3, 10, 29, 970), (0, 98, .iload_n 2, 1, 0, 0, 0), (3, 99, .iaload, 1, 0, 0, 0), (0, 100, .iconst (-1), 1, 0, 4294967295, 0), (1, 101, .if_icmp .ne 7, 3, 62, 0, 0), (0, 104, .iconst 2, 1, 0, 2, 0), (2, 105, .goto 7, 3, 64, 0, 0), (0, 108, .aload_n 0, 1, 0, 0, 0), (3, 109, .getfield 303, 3, 10, 24, 965), (3, 112, .putfield 303, 3, 10, 24, 965), (0, 115, .iinc 2 1, 3, 0, 1, 0), (2, 118, .goto (-35), 3, 47, 0, 0), (0, 121, .aload_n 0, 1, 0, 0, 0), (3, 122, .getfield 303, 3, 10, 24, 965), (1, 125, .ifCond .ne 15, 3, 76, 0, 0), (0, 128, .aload_n 0, 1, 0, 0, 0), (4, 129, .invokevirtual 309, 3, 211, 1350, 0), (1, 132, .ifCond .eq 8, 3, 76, 0, 0), (0, 135, .aload_n 0, 1, 0, 0, 0), (0, 136, .iconst 3, 1, 0, 3, 0), (3, 137, .putfield 303, 3, 10, 24, 965), (5, 140, .return_, 1, 0, 0, 0)]
def mt_X11_reads : List mm_e := [(0, 0, .aload_n 0, 1, 0, 0, 0), (4, 1, .invokevirtual 222, 3, 166, 1147, 0), (0, 4, .aload_n 0, 1, 0, 0, 0), (4, 5, .invokevirtual 313, 3, 198, 1302, 0), (5, 8, .return_, 1, 0, 0, 0)]
def mt_X11_why : List mm_e := [(0, 0, .aload_n 0, 1, 0, 0, 0), (4, 1, .invokevirtual 316, 3, 199, 1298, 0), (0, 4, .aload_n 0, 1, 0, 0, 0), (3, 5, .getfield 303, 3, 10, 24, 965), (5, 8, .ireturn, 1, 0, 0, 0)]
def mt_X11_itemRead : List mm_e := [(0, 0, .aload_n 0, 1, 0, 0, 0), (3, 1, .getfield 67, 3, 10, 27, 968), (0, 4, .bipush 14, 2, 0, 14, 0), (0, 6, .iload_n 1, 1, 0, 0, 0), (0, 7, .iconst 3, 1, 0, 3, 0), (0, 8, .irem, 1, 0, 0, 0), (0, 9, .imul, 1, 0, 0, 0), (0, 10, .iload_n 1, 1, 0, 0, 0), (0, 11, .iconst 3, 1, 0, 3, 0), (0, 12, .idiv, 1, 0, 0, 0), (0, 13, .iadd, 1, 0, 0, 0), (3, 14, .iaload, 1, 0, 0, 0), (5, 15, .ireturn, 1, 0, 0, 0)]
def mt_X11_toldBy : List mm_e := [(0, 0, .aload_n 0, 1, 0, 0, 0), (3, 1, .getfield 303, 3, 10, 24, 965), (1, 4, .ifCond .le 6, 3, 5, 0, 0), (0, 7, .bipush (-3), 2, 0, 4294967293, 0), (5, 9, .ireturn, 1, 0, 0, 0), (0, 10, .iload_n 1, 1, 0, 0, 0), (0, 11, .iconst (-1), 1, 0, 4294967295, 0), (1, 12, .if_icmp .ne 12, 3, 13, 0, 0), (0, 15, .aload_n 0, 1, 0, 0, 0), (3, 16, .getfield 67, 3, 10, 27, 968), (0, 19, .iconst 0, 1, 0, 0, 0), (3, 20, .iaload, 1, 0, 0, 0), (2, 21, .goto 39, 3, 38, 0, 0), (0, 24, .iload_n 1, 1, 0, 0, 0), (0, 25, .aload_n 0, 1, 0, 0, 0), (3, 26, .getfield 67, 3, 10, 27, 968), (0, 29, .iconst 0, 1, 0, 0, 0), (3, 30, .iaload, 1, 0, 0, 0), (1, 31, .if_icmp .ge 28, 3, 37, 0, 0), (0, 34, .bipush 16, 2, 0, 16, 0), (0, 36, .aload_n 0, 1, 0, 0, 0), (0, 37, .iconst 1, 1, 0, 1, 0), (0, 38, .iconst 2, 1, 0, 2, 0), (0, 39, .iload_n 1, 1, 0, 0, 0), (0, 40, .imul, 1, 0, 0, 0), (0, 41, .iadd, 1, 0, 0, 0), (4, 42, .invokevirtual 319, 3, 201, 1362, 0), (0, 45, .imul, 1, 0, 0, 0), (0, 46, .aload_n 0, 1, 0, 0, 0), (0, 47, .iconst 2, 1, 0, 2, 0), (0, 48, .iconst 2, 1, 0, 2, 0), (0, 49, .iload_n 1, 1, 0, 0, 0), (0, 50, .imul, 1, 0, 0, 0), (0, 51, .iadd, 1, 0, 0, 0), (4, 52, .invokevirtual 319, 3, 201, 1362, 0), (0, 55, .iadd, 1, 0, 0, 0), (2, 56, .goto 4, 3, 38, 0, 0), (0, 59, .iconst (-1), 1, 0, 4294967295, 0), (5, 60, .ireturn, 1, 0, 0, 0)]
def mt_X11_told : List mm_e := [(0, 0, .aload_n 0, 1, 0, 0, 0), (4, 1, .invokevirtual 316, 3, 199, 1298, 0), (0, 4, .iload_n 1, 1, 0, 0, 0), (0, 5, .i2l, 1, 0, 0, 0), (0, 6, .ldc2_w 235, 3, 0, 18446744073709551615, 1234), (0, 9, .ldc2_w 228, 3, 0, 13, 1225), (4, 12, .invokestatic 88, 3, 122, 1052, 0), (1, 15, .ifCond .eq 11, 3, 12, 0, 0), (0, 18, .aload_n 0, 1, 0, 0, 0), (0, 19, .iload_n 1, 1, 0, 0, 0), (4, 20, .invokevirtual 322, 3, 202, 1358, 0), (2, 23, .goto 5, 3, 13, 0, 0), (0, 26, .bipush (-2), 2, 0, 4294967294, 0), (5, 28, .ireturn, 1, 0, 0, 0)]
def mt_X11_formatBy : List mm_e := [(0, 0, .iload_n 1, 1, 0, 0, 0), (1, 1, .ifCond .ne 10, 3, 5, 0, 0), (0, 4, .aload_n 0, 1, 0, 0, 0), (3, 5, .getfield 290, 3, 10, 25, 966), (2, 8, .goto 7, 3, 7, 0, 0), (0, 11, .aload_n 0, 1, 0, 0, 0), (3, 12, .getfield 265, 3, 10, 26, 967), (5, 15, .ireturn, 1, 0, 0, 0)]
def mt_X11_format : List mm_e := [(0, 0, .aload_n 0, 1, 0, 0, 0), (4, 1, .invokevirtual 316, 3, 199, 1298, 0), (0, 4, .iload_n 1, 1, 0, 0, 0), (4, 5, .invokestatic 134, 3, 123, 1108, 0), (1, 8, .ifCond .eq 11, 3, 9, 0, 0), (0, 11, .aload_n 0, 1, 0, 0, 0), (0, 12, .iload_n 1, 1, 0, 0, 0), (4, 13, .invokevirtual 325, 3, 204, 1370, 0), (2, 16, .goto 5, 3, 10, 0, 0), (0, 19, .bipush (-2), 2, 0, 4294967294, 0), (5, 21, .ireturn, 1, 0, 0, 0)]
def mt_X11_isBlind : List mm_e := [(0, 0, .aload_n 0, 1, 0, 0, 0), (3, 1, .getfield 303, 3, 10, 24, 965), (0, 4, .iconst 4, 1, 0, 4, 0), (1, 5, .if_icmp .eq 11, 3, 8, 0, 0), (0, 8, .aload_n 0, 1, 0, 0, 0), (3, 9, .getfield 303, 3, 10, 24, 965), (0, 12, .iconst 1, 1, 0, 1, 0), (1, 13, .if_icmp .ne 7, 3, 10, 0, 0), (0, 16, .iconst 1, 1, 0, 1, 0), (2, 17, .goto 4, 3, 11, 0, 0), (0, 20, .iconst 0, 1, 0, 0, 0), (5, 21, .ireturn, 1, 0, 0, 0)]
def mt_X11_blockBy : List mm_e := [(0, 0, .aload_n 0, 1, 0, 0, 0), (4, 1, .invokevirtual 328, 3, 206, 1382, 0), (1, 4, .ifCond .eq 6, 3, 5, 0, 0), (0, 7, .bipush (-3), 2, 0, 4294967293, 0), (5, 9, .ireturn, 1, 0, 0, 0), (0, 10, .aload_n 0, 1, 0, 0, 0), (3, 11, .getfield 73, 3, 10, 29, 970), (0, 14, .iload_n 1, 1, 0, 0, 0), (3, 15, .iaload, 1, 0, 0, 0), (0, 16, .istore_n 3, 1, 0, 0, 0), (0, 17, .iload_n 2, 1, 0, 0, 0), (1, 18, .ifCond .ne 12, 3, 17, 0, 0), (0, 21, .aload_n 0, 1, 0, 0, 0), (3, 22, .getfield 70, 3, 10, 28, 969), (0, 25, .iload_n 1, 1, 0, 0, 0), (3, 26, .iaload, 1, 0, 0, 0), (2, 27, .goto 35, 3, 37, 0, 0), (0, 30, .iload_n 2, 1, 0, 0, 0), (0, 31, .iconst 1, 1, 0, 1, 0), (1, 32, .if_icmp .eq 8, 3, 23, 0, 0), (0, 35, .iload_n 3, 1, 0, 0, 0), (0, 36, .iconst (-1), 1, 0, 4294967295, 0), (1, 37, .if_icmp .ne 7, 3, 25, 0, 0), (0, 40, .iload_n 3, 1, 0, 0, 0), (2, 41, .goto 21, 3, 37, 0, 0), (0, 44, .aload_n 0, 1, 0, 0, 0), (3, 45, .getfield 290, 3, 10, 25, 966), (4, 48, .invokestatic 155, 3, 152, 1168, 0), (0, 51, .aload_n 0, 1, 0, 0, 0), (3, 52, .getfield 70, 3, 10, 28, 969), (0, 55, .iload_n 1, 1, 0, 0, 0), (3, 56, .iaload, 1, 0, 0, 0), (0, 57, .isub, 1, 0, 0, 0), (0, 58, .iconst 2, 1, 0, 2, 0), (0, 59, .iload_n 3, 1, 0, 0, 0), (0, 60, .imul, 1, 0, 0, 0), (0, 61, .isub, 1, 0, 0, 0), (5, 62, .ireturn, 1, 0, 0, 0)]
def mt_X11_block : List mm_e := [(0, 0, .aload_n 0, 1, 0, 0, 0), (4, 1, .invokevirtual 316, 3, 199, 1298, 0), (0, 4, .iload_n 1, 1, 0, 0, 0), (0, 5, .i2l, 1, 0, 0, 0), (0, 6, .lconst 0, 1, 0, 0, 0), (0, 7, .ldc2_w 102, 3, 0, 2, 1055), (4, 10, .invokestatic 88, 3, 122, 1052, 0), (1, 13, .ifCond .eq 24, 3, 19, 0, 0), (0, 16, .iload_n 2, 1, 0, 0, 0), (0, 17, .i2l, 1, 0, 0, 0), (0, 18, .lconst 0, 1, 0, 0, 0), (0, 19, .ldc2_w 102, 3, 0, 2, 1055), (4, 22, .invokestatic 88, 3, 122, 1052, 0), (1, 25, .ifCond .eq 12, 3, 19, 0, 0), (0, 28, .aload_n 0, 1, 0, 0, 0), (0, 29, .iload_n 1, 1, 0, 0, 0), (0, 30, .iload_n 2, 1, 0, 0, 0), (4, 31, .invokevirtual 331, 3, 207, 1378, 0), (2, 34, .goto 5, 3, 20, 0, 0), (0, 37, .bipush (-2), 2, 0, 4294967294, 0), (5, 39, .ireturn, 1, 0, 0, 0)]
def mt_X11_mendedBy : List mm_e := [(0, 0, .aload_n 0, 1, 0, 0, 0), (4, 1, .invokevirtual 328, 3, 206, 1382, 0), (1, 4, .ifCond .eq 6, 3, 5, 0, 0), (0, 7, .bipush (-3), 2, 0, 4294967293, 0), (5, 9, .ireturn, 1, 0, 0, 0), (0, 10, .aload_n 0, 1, 0, 0, 0), (3, 11, .getfield 73, 3, 10, 29, 970), (0, 14, .iload_n 1, 1, 0, 0, 0), (3, 15, .iaload, 1, 0, 0, 0), (0, 16, .iconst (-1), 1, 0, 4294967295, 0), (1, 17, .if_icmp .ne 7, 3, 13, 0, 0), (0, 20, .iconst (-1), 1, 0, 4294967295, 0), (2, 21, .goto 14, 3, 21, 0, 0), (0, 24, .aload_n 0, 1, 0, 0, 0), (3, 25, .getfield 67, 3, 10, 27, 968), (0, 28, .bipush 14, 2, 0, 14, 0), (0, 30, .iload_n 1, 1, 0, 0, 0), (0, 31, .imul, 1, 0, 0, 0), (0, 32, .iload_n 2, 1, 0, 0, 0), (0, 33, .iadd, 1, 0, 0, 0), (3, 34, .iaload, 1, 0, 0, 0), (5, 35, .ireturn, 1, 0, 0, 0)]
def mt_X11_mended : List mm_e := [(0, 0, .aload_n 0, 1, 0, 0, 0), (4, 1, .invokevirtual 316, 3, 199, 1298, 0), (0, 4, .iload_n 1, 1, 0, 0, 0), (0, 5, .i2l, 1, 0, 0, 0), (0, 6, .lconst 0, 1, 0, 0, 0), (0, 7, .ldc2_w 102, 3, 0, 2, 1055), (4, 10, .invokestatic 88, 3, 122, 1052, 0), (1, 13, .ifCond .eq 24, 3, 19, 0, 0), (0, 16, .iload_n 2, 1, 0, 0, 0), (0, 17, .i2l, 1, 0, 0, 0), (0, 18, .lconst 0, 1, 0, 0, 0), (0, 19, .ldc2_w 228, 3, 0, 13, 1225), (4, 22, .invokestatic 88, 3, 122, 1052, 0), (1, 25, .ifCond .eq 12, 3, 19, 0, 0), (0, 28, .aload_n 0, 1, 0, 0, 0), (0, 29, .iload_n 1, 1, 0, 0, 0), (0, 30, .iload_n 2, 1, 0, 0, 0), (4, 31, .invokevirtual 334, 3, 209, 1390, 0), (2, 34, .goto 5, 3, 20, 0, 0), (0, 37, .bipush (-2), 2, 0, 4294967294, 0), (5, 39, .ireturn, 1, 0, 0, 0)]
def mt_X11_isWrong : List mm_e := [(0, 0, .aload_n 0, 1, 0, 0, 0), (3, 1, .getfield 67, 3, 10, 27, 968), (0, 4, .iconst 0, 1, 0, 0, 0), (3, 5, .iaload, 1, 0, 0, 0), (0, 6, .bipush 15, 2, 0, 15, 0), (1, 8, .if_icmp .eq 23, 3, 18, 0, 0), (0, 11, .iconst 1, 1, 0, 1, 0), (0, 12, .iconst 2, 1, 0, 2, 0), (0, 13, .aload_n 0, 1, 0, 0, 0), (3, 14, .getfield 67, 3, 10, 27, 968), (0, 17, .iconst 0, 1, 0, 0, 0), (3, 18, .iaload, 1, 0, 0, 0), (0, 19, .imul, 1, 0, 0, 0), (0, 20, .iadd, 1, 0, 0, 0), (0, 21, .aload_n 0, 1, 0, 0, 0), (3, 22, .getfield 290, 3, 10, 25, 966), (4, 25, .invokestatic 198, 3, 153, 1165, 0), (1, 28, .if_icmp .le 7, 3, 20, 0, 0), (0, 31, .iconst 1, 1, 0, 1, 0), (2, 32, .goto 4, 3, 21, 0, 0), (0, 35, .iconst 0, 1, 0, 0, 0), (5, 36, .ireturn, 1, 0, 0, 0)]
def mt_X11_fails : List mm_e := [(0, 0, .iload_n 1, 1, 0, 0, 0), (0, 1, .bipush 15, 2, 0, 15, 0), (0, 3, .idiv, 1, 0, 0, 0), (0, 4, .iload_n 1, 1, 0, 0, 0), (0, 5, .bipush 15, 2, 0, 15, 0), (0, 7, .irem, 1, 0, 0, 0), (4, 8, .invokestatic 162, 3, 156, 1158, 0), (0, 11, .iconst (-1), 1, 0, 4294967295, 0), (1, 12, .if_icmp .eq 20, 3, 18, 0, 0), (0, 15, .aload_n 0, 1, 0, 0, 0), (4, 16, .invokevirtual 313, 3, 198, 1302, 0), (0, 19, .aload_n 0, 1, 0, 0, 0), (3, 20, .getfield 303, 3, 10, 24, 965), (1, 23, .ifCond .le 7, 3, 16, 0, 0), (0, 26, .iconst 1, 1, 0, 1, 0), (2, 27, .goto 4, 3, 17, 0, 0), (0, 30, .iconst 0, 1, 0, 0, 0), (5, 31, .ireturn, 1, 0, 0, 0), (0, 32, .aload_n 0, 1, 0, 0, 0), (3, 33, .getfield 46, 3, 10, 16, 957), (0, 36, .iload_n 1, 1, 0, 0, 0), (3, 37, .iaload, 1, 0, 0, 0), (0, 38, .iconst (-1), 1, 0, 4294967295, 0), (1, 39, .if_icmp .eq 15, 3, 30, 0, 0), (0, 42, .aload_n 0, 1, 0, 0, 0), (3, 43, .getfield 46, 3, 10, 16, 957), (0, 46, .iload_n 1, 1, 0, 0, 0), (3, 47, .iaload, 1, 0, 0, 0), (0, 48, .sipush 167, 3, 0, 167, 0), (1, 51, .if_icmp .le 5, 3, 32, 0, 0), (0, 54, .iconst 0, 1, 0, 0, 0), (5, 55, .ireturn, 1, 0, 0, 0), (0, 56, .aload_n 0, 1, 0, 0, 0), (3, 57, .getfield 46, 3, 10, 16, 957), (0, 60, .iload_n 1, 1, 0, 0, 0), (3, 61, .iaload, 1, 0, 0, 0), (0, 62, .iconst 4, 1, 0, 4, 0), (0, 63, .idiv, 1, 0, 0, 0), (0, 64, .iconst 3, 1, 0, 3, 0), (0, 65, .irem, 1, 0, 0, 0), (0, 66, .istore_n 2, 1, 0, 0, 0), (0, 67, .aload_n 0, 1, 0, 0, 0), (0, 68, .iload_n 2, 1, 0, 0, 0), (4, 69, .invokevirtual 306, 3, 197, 1310, 0), (0, 72, .aload_n 0, 1, 0, 0, 0), (3, 73, .getfield 73, 3, 10, 29, 970), (0, 76, .iload_n 2, 1, 0, 0, 0), (3, 77, .iaload, 1, 0, 0, 0), (0, 78, .iconst (-1), 1, 0, 4294967295, 0), (1, 79, .if_icmp .eq 14, 3, 55, 0, 0), (0, 82, .iload_n 2, 1, 0, 0, 0), (1, 83, .ifCond .ne 14, 3, 57, 0, 0), (0, 86, .aload_n 0, 1, 0, 0, 0), (4, 87, .invokevirtual 309, 3, 211, 1350, 0), (1, 90, .ifCond .eq 7, 3, 57, 0, 0), (0, 93, .iconst 1, 1, 0, 1, 0), (2, 94, .goto 4, 3, 58, 0, 0), (0, 97, .iconst 0, 1, 0, 0, 0), (5, 98, .ireturn, 1, 0, 0, 0)]
def mt_X11_strawNow : List mm_e := [(0, 0, .aload_n 0, 1, 0, 0, 0), (3, 1, .getfield 303, 3, 10, 24, 965), (1, 4, .ifCond .le 5, 3, 5, 0, 0), (0, 7, .iconst (-1), 1, 0, 4294967295, 0), (5, 8, .ireturn, 1, 0, 0, 0), (0, 9, .iconst (-1), 1, 0, 4294967295, 0), (0, 10, .istore_n 1, 1, 0, 0, 0), (0, 11, .iconst 0, 1, 0, 0, 0), (0, 12, .istore_n 2, 1, 0, 0, 0), (0, 13, .iload_n 2, 1, 0, 0, 0), (0, 14, .sipush 225, 3, 0, 225, 0), (1, 17, .if_icmp .ge 84, 3, 61, 0, 0), (0, 20, .iload_n 1, 1, 0, 0, 0), (0, 21, .iconst (-1), 1, 0, 4294967295, 0), (1, 22, .if_icmp .ne 79, 3, 61, 0, 0), (0, 25, .aload_n 0, 1, 0, 0, 0), (3, 26, .getfield 61, 3, 10, 21, 962), (0, 29, .iload_n 2, 1, 0, 0, 0), (3, 30, .iaload, 1, 0, 0, 0), (1, 31, .ifCond .ne 64, 3, 59, 0, 0), (0, 34, .aload_n 0, 1, 0, 0, 0), (3, 35, .getfield 58, 3, 10, 20, 961), (0, 38, .iload_n 2, 1, 0, 0, 0), (0, 39, .iconst 1, 1, 0, 1, 0), (0, 40, .aload_n 0, 1, 0, 0, 0), (3, 41, .getfield 58, 3, 10, 20, 961), (0, 44, .iload_n 2, 1, 0, 0, 0), (3, 45, .iaload, 1, 0, 0, 0), (0, 46, .isub, 1, 0, 0, 0), (3, 47, .iastore, 1, 0, 0, 0), (0, 48, .aload_n 0, 1, 0, 0, 0), (0, 49, .iload_n 2, 1, 0, 0, 0), (4, 50, .invokevirtual 337, 3, 212, 1402, 0), (1, 53, .ifCond .eq 7, 3, 36, 0, 0), (0, 56, .iload_n 2, 1, 0, 0, 0), (2, 57, .goto 4, 3, 37, 0, 0), (0, 60, .iconst (-1), 1, 0, 4294967295, 0), (0, 61, .istore_n 1, 1, 0, 0, 0), (0, 62, .aload_n 0, 1, 0, 0, 0), (3, 63, .getfield 58, 3, 10, 20, 961), (0, 66, .iload_n 2, 1, 0, 0, 0), (0, 67, .iconst 1, 1, 0, 1, 0), (0, 68, .aload_n 0, 1, 0, 0, 0), (3, 69, .getfield 58, 3, 10, 20, 961), (0, 72, .iload_n 2, 1, 0, 0, 0), (3, 73, .iaload, 1, 0, 0, 0), (0, 74, .isub, 1, 0, 0, 0), (3, 75, .iastore, 1, 0, 0, 0), (0, 76, .iload_n 2, 1, 0, 0, 0), (0, 77, .bipush 15, 2, 0, 15, 0), (0, 79, .idiv, 1, 0, 0, 0), (0, 80, .iload_n 2, 1, 0, 0, 0), (0, 81, .bipush 15, 2, 0, 15, 0), (0, 83, .irem, 1, 0, 0, 0), (4, 84, .invokestatic 162, 3, 156, 1158, 0), (0, 87, .iconst (-1), 1, 0, 4294967295, 0), (1, 88, .if_icmp .eq 7, 3, 59, 0, 0), (0, 91, .aload_n 0, 1, 0, 0, 0), (4, 92, .invokevirtual 313, 3, 198, 1302, 0), (0, 95, .iinc 2 1, 3, 0, 1, 0), (2, 98, .goto (-85), 3, 9, 0, 0), (0, 101, .aload_n 0, 1, 0, 0, 0), (4, 102, .invokevirtual 313, 3, 198, 1302, 0), (0, 105, .iload_n 1, 1, 0, 0, 0), (5, 106, .ireturn, 1, 0, 0, 0)]
def mt_X11_lineOf : List mm_e := [(0, 0, .iload_n 0, 1, 0, 0, 0), (0, 1, .iconst (-1), 1, 0, 4294967295, 0), (1, 2, .if_icmp .ne 7, 3, 5, 0, 0), (0, 5, .iconst (-1), 1, 0, 4294967295, 0), (2, 6, .goto 18, 3, 14, 0, 0), (0, 9, .iload_n 1, 1, 0, 0, 0), (1, 10, .ifCond .ne 10, 3, 11, 0, 0), (0, 13, .iload_n 0, 1, 0, 0, 0), (0, 14, .bipush 15, 2, 0, 15, 0), (0, 16, .idiv, 1, 0, 0, 0), (2, 17, .goto 7, 3, 14, 0, 0), (0, 20, .iload_n 0, 1, 0, 0, 0), (0, 21, .bipush 15, 2, 0, 15, 0), (0, 23, .irem, 1, 0, 0, 0), (5, 24, .ireturn, 1, 0, 0, 0)]
def mt_X11_straw : List mm_e := [(0, 0, .aload_n 0, 1, 0, 0, 0), (4, 1, .invokevirtual 316, 3, 199, 1298, 0), (0, 4, .iload_n 1, 1, 0, 0, 0), (4, 5, .invokestatic 134, 3, 123, 1108, 0), (1, 8, .ifCond .eq 14, 3, 10, 0, 0), (0, 11, .aload_n 0, 1, 0, 0, 0), (4, 12, .invokevirtual 340, 3, 213, 1398, 0), (0, 15, .iload_n 1, 1, 0, 0, 0), (4, 16, .invokestatic 343, 3, 214, 1406, 0), (2, 19, .goto 5, 3, 11, 0, 0), (0, 22, .bipush (-2), 2, 0, 4294967294, 0), (5, 24, .ireturn, 1, 0, 0, 0)]
def mt_X11_write : List mm_e := [(0, 0, .iload_n 1, 1, 0, 0, 0), (4, 1, .invokestatic 237, 3, 172, 1235, 0), (1, 4, .ifCond .eq 10, 3, 6, 0, 0), (0, 7, .iload_n 2, 1, 0, 0, 0), (4, 8, .invokestatic 98, 3, 127, 1048, 0), (1, 11, .ifCond .ne 6, 3, 8, 0, 0), (0, 14, .bipush (-2), 2, 0, 4294967294, 0), (5, 16, .ireturn, 1, 0, 0, 0), (0, 17, .aload_n 0, 1, 0, 0, 0), (3, 18, .getfield 7, 3, 10, 0, 941), (0, 21, .iload_n 2, 1, 0, 0, 0), (3, 22, .iaload, 1, 0, 0, 0), (1, 23, .ifCond .ge 9, 3, 17, 0, 0), (0, 26, .aload_n 0, 1, 0, 0, 0), (0, 27, .iconst 1, 1, 0, 1, 0), (4, 28, .invokevirtual 104, 3, 126, 1056, 0), (5, 31, .ireturn, 1, 0, 0, 0), (0, 32, .aload_n 0, 1, 0, 0, 0), (4, 33, .invokevirtual 222, 3, 166, 1147, 0), (0, 36, .aload_n 0, 1, 0, 0, 0), (3, 37, .getfield 201, 3, 10, 11, 952), (1, 40, .ifCond .ne 6, 3, 24, 0, 0), (0, 43, .bipush (-3), 2, 0, 4294967293, 0), (5, 45, .ireturn, 1, 0, 0, 0), (0, 46, .aload_n 0, 1, 0, 0, 0), (3, 47, .getfield 13, 3, 10, 1, 942), (0, 50, .iload_n 2, 1, 0, 0, 0), (3, 51, .iaload, 1, 0, 0, 0), (0, 52, .bipush 15, 2, 0, 15, 0), (4, 54, .invokestatic 219, 3, 124, 1214, 0), (0, 57, .istore_n 3, 1, 0, 0, 0), (0, 58, .iconst 0, 1, 0, 0, 0), (0, 59, .istore 4, 2, 0, 0, 0), (0, 61, .iload 4, 2, 0, 0, 0), (0, 63, .iload_n 3, 1, 0, 0, 0), (1, 64, .if_icmp .ge 41, 3, 58, 0, 0), (0, 67, .aload_n 0, 1, 0, 0, 0), (3, 68, .getfield 16, 3, 10, 2, 943), (0, 71, .bipush 60, 2, 0, 60, 0), (0, 73, .iload_n 2, 1, 0, 0, 0), (0, 74, .imul, 1, 0, 0, 0), (0, 75, .iload 4, 2, 0, 0, 0), (0, 77, .iadd, 1, 0, 0, 0), (0, 78, .aload_n 0, 1, 0, 0, 0), (3, 79, .getfield 7, 3, 10, 0, 941), (0, 82, .iload_n 2, 1, 0, 0, 0), (3, 83, .iaload, 1, 0, 0, 0), (0, 84, .aload_n 0, 1, 0, 0, 0), (0, 85, .bipush 15, 2, 0, 15, 0), (0, 87, .iload_n 1, 1, 0, 0, 0), (0, 88, .imul, 1, 0, 0, 0), (0, 89, .iload 4, 2, 0, 0, 0), (0, 91, .iadd, 1, 0, 0, 0), (4, 92, .invokevirtual 262, 3, 185, 1290, 0), (4, 95, .invokestatic 112, 3, 131, 1072, 0), (3, 98, .iastore, 1, 0, 0, 0), (0, 99, .iinc 4 1, 3, 0, 1, 0), (2, 102, .goto (-41), 3, 33, 0, 0), (0, 105, .iload_n 3, 1, 0, 0, 0), (5, 106, .ireturn, 1, 0, 0, 0)]
def mt_X11_count : List mm_e := [(0, 0, .aload_n 0, 1, 0, 0, 0), (4, 1, .invokevirtual 316, 3, 199, 1298, 0), (0, 4, .iload_n 1, 1, 0, 0, 0), (6, 5, .tableswitch 119 0 8 #[51, 58, 63, 68, 73, 81, 89, 94, 114], 51, 0, 0, 0), (0, 56, .aload_n 0, 1, 0, 0, 0), (3, 57, .getfield 37, 3, 10, 10, 951), (0, 60, .iconst 0, 1, 0, 0, 0), (3, 61, .iaload, 1, 0, 0, 0), (5, 62, .ireturn, 1, 0, 0, 0), (0, 63, .aload_n 0, 1, 0, 0, 0), (3, 64, .getfield 171, 3, 10, 12, 953), (5, 67, .ireturn, 1, 0, 0, 0), (0, 68, .aload_n 0, 1, 0, 0, 0), (3, 69, .getfield 195, 3, 10, 13, 954), (5, 72, .ireturn, 1, 0, 0, 0), (0, 73, .aload_n 0, 1, 0, 0, 0), (3, 74, .getfield 303, 3, 10, 24, 965), (5, 77, .ireturn, 1, 0, 0, 0), (0, 78, .aload_n 0, 1, 0, 0, 0), (3, 79, .getfield 58, 3, 10, 20, 961), (4, 82, .invokestatic 258, 3, 178, 1271, 0), (5, 85, .ireturn, 1, 0, 0, 0), (0, 86, .aload_n 0, 1, 0, 0, 0), (3, 87, .getfield 61, 3, 10, 21, 962), (4, 90, .invokestatic 258, 3, 178, 1271, 0), (5, 93, .ireturn, 1, 0, 0, 0), (0, 94, .aload_n 0, 1, 0, 0, 0), (3, 95, .getfield 252, 3, 10, 23, 964), (5, 98, .ireturn, 1, 0, 0, 0), (0, 99, .aload_n 0, 1, 0, 0, 0), (3, 100, .getfield 201, 3, 10, 11, 952), (1, 103, .ifCond .eq 14, 3, 37, 0, 0), (0, 106, .aload_n 0, 1, 0, 0, 0), (0, 107, .aload_n 0, 1, 0, 0, 0), (3, 108, .getfield 195, 3, 10, 13, 954), (4, 111, .invokevirtual 186, 3, 164, 1210, 0), (2, 114, .goto 4, 3, 38, 0, 0), (0, 117, .iconst 0, 1, 0, 0, 0), (5, 118, .ireturn, 1, 0, 0, 0), (0, 119, .aload_n 0, 1, 0, 0, 0), (3, 120, .getfield 92, 3, 10, 4, 945), (5, 123, .ireturn, 1, 0, 0, 0), (0, 124, .bipush (-2), 2, 0, 4294967294, 0), (5, 126, .ireturn, 1, 0, 0, 0)]
def mt_X11_tellsBlock : List mm_e := [(0, 0, .lload_n 1, 1, 0, 0, 0), (0, 1, .lstore 4, 2, 0, 0, 0), (0, 3, .iconst 0, 1, 0, 0, 0), (0, 4, .istore 6, 2, 0, 0, 0), (0, 6, .iload 6, 2, 0, 0, 0), (0, 8, .bipush 14, 2, 0, 14, 0), (1, 10, .if_icmp .ge 43, 3, 29, 0, 0), (0, 13, .ldc2_w 346, 3, 0, 31, 1422), (0, 16, .lload 4, 2, 0, 0, 0), (0, 18, .lmul, 1, 0, 0, 0), (0, 19, .aload_n 0, 1, 0, 0, 0), (0, 20, .iload_n 3, 1, 0, 0, 0), (0, 21, .iload 6, 2, 0, 0, 0), (4, 23, .invokevirtual 230, 3, 169, 1226, 0), (0, 26, .i2l, 1, 0, 0, 0), (0, 27, .ladd, 1, 0, 0, 0), (0, 28, .lstore 4, 2, 0, 0, 0), (0, 30, .ldc2_w 346, 3, 0, 31, 1422), (0, 33, .lload 4, 2, 0, 0, 0), (0, 35, .lmul, 1, 0, 0, 0), (0, 36, .aload_n 0, 1, 0, 0, 0), (0, 37, .iload_n 3, 1, 0, 0, 0), (0, 38, .iload 6, 2, 0, 0, 0), (4, 40, .invokevirtual 334, 3, 209, 1390, 0), (0, 43, .i2l, 1, 0, 0, 0), (0, 44, .ladd, 1, 0, 0, 0), (0, 45, .lstore 4, 2, 0, 0, 0), (0, 47, .iinc 6 1, 3, 0, 1, 0), (2, 50, .goto (-44), 3, 4, 0, 0), (0, 53, .iconst 0, 1, 0, 0, 0), (0, 54, .istore 6, 2, 0, 0, 0), (0, 56, .iload 6, 2, 0, 0, 0), (0, 58, .iconst 3, 1, 0, 3, 0), (1, 59, .if_icmp .ge 26, 3, 46, 0, 0), (0, 62, .ldc2_w 346, 3, 0, 31, 1422), (0, 65, .lload 4, 2, 0, 0, 0), (0, 67, .lmul, 1, 0, 0, 0), (0, 68, .aload_n 0, 1, 0, 0, 0), (0, 69, .iload_n 3, 1, 0, 0, 0), (0, 70, .iload 6, 2, 0, 0, 0), (4, 72, .invokevirtual 331, 3, 207, 1378, 0), (0, 75, .i2l, 1, 0, 0, 0), (0, 76, .ladd, 1, 0, 0, 0), (0, 77, .lstore 4, 2, 0, 0, 0), (0, 79, .iinc 6 1, 3, 0, 1, 0), (2, 82, .goto (-26), 3, 31, 0, 0), (0, 85, .lload 4, 2, 0, 0, 0), (5, 87, .lreturn, 1, 0, 0, 0)]
def mt_X11_digest : List mm_e := [(0, 0, .ldc2_w 348, 3, 0, 17, 1421), (0, 3, .lstore_n 1, 1, 0, 0, 0), (0, 4, .iconst 0, 1, 0, 0, 0), (0, 5, .istore_n 3, 1, 0, 0, 0), (0, 6, .iload_n 3, 1, 0, 0, 0), (0, 7, .bipush 8, 2, 0, 8, 0), (1, 9, .if_icmp .ge 22, 3, 18, 0, 0), (0, 12, .ldc2_w 346, 3, 0, 31, 1422), (0, 15, .lload_n 1, 1, 0, 0, 0), (0, 16, .lmul, 1, 0, 0, 0), (0, 17, .aload_n 0, 1, 0, 0, 0), (0, 18, .iload_n 3, 1, 0, 0, 0), (4, 19, .invokevirtual 350, 3, 217, 1423, 0), (0, 22, .i2l, 1, 0, 0, 0), (0, 23, .ladd, 1, 0, 0, 0), (0, 24, .lstore_n 1, 1, 0, 0, 0), (0, 25, .iinc 3 1, 3, 0, 1, 0), (2, 28, .goto (-22), 3, 4, 0, 0), (0, 31, .ldc2_w 346, 3, 0, 31, 1422), (0, 34, .lload_n 1, 1, 0, 0, 0), (0, 35, .lmul, 1, 0, 0, 0), (0, 36, .aload_n 0, 1, 0, 0, 0), (4, 37, .invokevirtual 151, 3, 149, 1129, 0), (0, 40, .i2l, 1, 0, 0, 0), (0, 41, .ladd, 1, 0, 0, 0), (0, 42, .lstore_n 1, 1, 0, 0, 0), (0, 43, .iconst 0, 1, 0, 0, 0), (0, 44, .istore_n 3, 1, 0, 0, 0), (0, 45, .iload_n 3, 1, 0, 0, 0), (0, 46, .iconst 4, 1, 0, 4, 0), (1, 47, .if_icmp .ge 22, 3, 42, 0, 0), (0, 50, .ldc2_w 346, 3, 0, 31, 1422), (0, 53, .lload_n 1, 1, 0, 0, 0), (0, 54, .lmul, 1, 0, 0, 0), (0, 55, .aload_n 0, 1, 0, 0, 0), (0, 56, .iload_n 3, 1, 0, 0, 0), (4, 57, .invokevirtual 225, 3, 167, 1217, 0), (0, 60, .i2l, 1, 0, 0, 0), (0, 61, .ladd, 1, 0, 0, 0), (0, 62, .lstore_n 1, 1, 0, 0, 0), (0, 63, .iinc 3 1, 3, 0, 1, 0), (2, 66, .goto (-21), 3, 28, 0, 0), (0, 69, .iconst 0, 1, 0, 0, 0), (0, 70, .istore_n 3, 1, 0, 0, 0), (0, 71, .iload_n 3, 1, 0, 0, 0), (0, 72, .iconst 3, 1, 0, 3, 0), (1, 73, .if_icmp .ge 16, 3, 54, 0, 0), (0, 76, .aload_n 0, 1, 0, 0, 0), (0, 77, .lload_n 1, 1, 0, 0, 0), (0, 78, .iload_n 3, 1, 0, 0, 0), (4, 79, .invokevirtual 353, 3, 218, 1424, 0), (0, 82, .lstore_n 1, 1, 0, 0, 0), (0, 83, .iinc 3 1, 3, 0, 1, 0), (2, 86, .goto (-15), 3, 44, 0, 0), (0, 89, .iconst (-1), 1, 0, 4294967295, 0), (0, 90, .istore_n 3, 1, 0, 0, 0), (0, 91, .iload_n 3, 1, 0, 0, 0), (0, 92, .iconst 4, 1, 0, 4, 0), (1, 93, .if_icmp .ge 40, 3, 78, 0, 0), (0, 96, .iconst 0, 1, 0, 0, 0), (0, 97, .istore 4, 2, 0, 0, 0), (0, 99, .iload 4, 2, 0, 0, 0), (0, 101, .bipush 15, 2, 0, 15, 0), (1, 103, .if_icmp .ge 24, 3, 76, 0, 0), (0, 106, .ldc2_w 346, 3, 0, 31, 1422), (0, 109, .lload_n 1, 1, 0, 0, 0), (0, 110, .lmul, 1, 0, 0, 0), (0, 111, .aload_n 0, 1, 0, 0, 0), (0, 112, .iload_n 3, 1, 0, 0, 0), (0, 113, .iload 4, 2, 0, 0, 0), (4, 115, .invokevirtual 240, 3, 171, 1239, 0), (0, 118, .i2l, 1, 0, 0, 0), (0, 119, .ladd, 1, 0, 0, 0), (0, 120, .lstore_n 1, 1, 0, 0, 0), (0, 121, .iinc 4 1, 3, 0, 1, 0), (2, 124, .goto (-25), 3, 61, 0, 0), (0, 127, .iinc 3 1, 3, 0, 1, 0), (2, 130, .goto (-39), 3, 56, 0, 0), (0, 133, .iconst 0, 1, 0, 0, 0), (0, 134, .istore_n 3, 1, 0, 0, 0), (0, 135, .iload_n 3, 1, 0, 0, 0), (0, 136, .iconst 4, 1, 0, 4, 0), (1, 137, .if_icmp .ge 22, 3, 94, 0, 0), (0, 140, .ldc2_w 346, 3, 0, 31, 1422), (0, 143, .lload_n 1, 1, 0, 0, 0), (0, 144, .lmul, 1, 0, 0, 0), (0, 145, .aload_n 0, 1, 0, 0, 0), (0, 146, .iload_n 3, 1, 0, 0, 0), (4, 147, .invokevirtual 243, 3, 174, 1247, 0), (0, 150, .i2l, 1, 0, 0, 0), (0, 151, .ladd, 1, 0, 0, 0), (0, 152, .lstore_n 1, 1, 0, 0, 0), (0, 153, .iinc 3 1, 3, 0, 1, 0), (2, 156, .goto (-21), 3, 80, 0, 0), (0, 159, .iconst 0, 1, 0, 0, 0), (0, 160, .istore_n 3, 1, 0, 0, 0), (0, 161, .iload_n 3, 1, 0, 0, 0), (0, 162, .sipush 225, 3, 0, 225, 0), (1, 165, .if_icmp .ge 34, 3, 115, 0, 0), (0, 168, .ldc2_w 346, 3, 0, 31, 1422), (0, 171, .lload_n 1, 1, 0, 0, 0), (0, 172, .lmul, 1, 0, 0, 0), (0, 173, .aload_n 0, 1, 0, 0, 0), (3, 174, .getfield 201, 3, 10, 11, 952), (1, 177, .ifCond .eq 11, 3, 109, 0, 0), (0, 180, .aload_n 0, 1, 0, 0, 0), (0, 181, .iload_n 3, 1, 0, 0, 0), (4, 182, .invokevirtual 262, 3, 185, 1290, 0), (2, 185, .goto 5, 3, 110, 0, 0), (0, 188, .bipush (-3), 2, 0, 4294967293, 0), (0, 190, .i2l, 1, 0, 0, 0), (0, 191, .ladd, 1, 0, 0, 0), (0, 192, .lstore_n 1, 1, 0, 0, 0), (0, 193, .iinc 3 1, 3, 0, 1, 0), (2, 196, .goto (-35), 3, 96, 0, 0), (0, 199, .ldc2_w 346, 3, 0, 31, 1422), (0, 202, .lload_n 1, 1, 0, 0, 0), (0, 203, .lmul, 1, 0, 0, 0), (0, 204, .aload_n 0, 1, 0, 0, 0), (3, 205, .getfield 303, 3, 10, 24, 965), (0, 208, .i2l, 1, 0, 0, 0), (0, 209, .ladd, 1, 0, 0, 0), (0, 210, .lstore_n 1, 1, 0, 0, 0), (0, 211, .iconst (-1), 1, 0, 4294967295, 0), (0, 212, .istore_n 3, 1, 0, 0, 0), (0, 213, .iload_n 3, 1, 0, 0, 0), (0, 214, .bipush 14, 2, 0, 14, 0), (1, 216, .if_icmp .ge 22, 3, 139, 0, 0), (0, 219, .ldc2_w 346, 3, 0, 31, 1422), (0, 222, .lload_n 1, 1, 0, 0, 0), (0, 223, .lmul, 1, 0, 0, 0), (0, 224, .aload_n 0, 1, 0, 0, 0), (0, 225, .iload_n 3, 1, 0, 0, 0), (4, 226, .invokevirtual 322, 3, 202, 1358, 0), (0, 229, .i2l, 1, 0, 0, 0), (0, 230, .ladd, 1, 0, 0, 0), (0, 231, .lstore_n 1, 1, 0, 0, 0), (0, 232, .iinc 3 1, 3, 0, 1, 0), (2, 235, .goto (-22), 3, 125, 0, 0), (0, 238, .iconst 0, 1, 0, 0, 0), (0, 239, .istore_n 3, 1, 0, 0, 0), (0, 240, .iload_n 3, 1, 0, 0, 0), (0, 241, .iconst 2, 1, 0, 2, 0), (1, 242, .if_icmp .ge 22, 3, 155, 0, 0), (0, 245, .ldc2_w 346, 3, 0, 31, 1422), (0, 248, .lload_n 1, 1, 0, 0, 0), (0, 249, .lmul, 1, 0, 0, 0), (0, 250, .aload_n 0, 1, 0, 0, 0), (0, 251, .iload_n 3, 1, 0, 0, 0), (4, 252, .invokevirtual 325, 3, 204, 1370, 0), (0, 255, .i2l, 1, 0, 0, 0), (0, 256, .ladd, 1, 0, 0, 0), (0, 257, .lstore_n 1, 1, 0, 0, 0), (0, 258, .iinc 3 1, 3, 0, 1, 0), (2, 261, .goto (-21), 3, 141, 0, 0), (0, 264, .aload_n 0, 1, 0, 0, 0), (4, 265, .invokevirtual 340, 3, 213, 1398, 0), (0, 268, .istore_n 3, 1, 0, 0, 0), (0, 269, .ldc2_w 346, 3, 0, 31, 1422), (0, 272, .lload_n 1, 1, 0, 0, 0), (0, 273, .lmul, 1, 0, 0, 0), (0, 274, .iload_n 3, 1, 0, 0, 0), (0, 275, .iconst 0, 1, 0, 0, 0), (4, 276, .invokestatic 343, 3, 214, 1406, 0), (0, 279, .i2l, 1, 0, 0, 0), (0, 280, .ladd, 1, 0, 0, 0), (0, 281, .lstore_n 1, 1, 0, 0, 0), (0, 282, .ldc2_w 346, 3, 0, 31, 1422), (0, 285, .lload_n 1, 1, 0, 0, 0), (0, 286, .lmul, 1, 0, 0, 0), (0, 287, .iload_n 3, 1, 0, 0, 0), (0, 288, .iconst 1, 1, 0, 1, 0), (4, 289, .invokestatic 343, 3, 214, 1406, 0), (0, 292, .i2l, 1, 0, 0, 0), (0, 293, .ladd, 1, 0, 0, 0), (5, 294, .lreturn, 1, 0, 0, 0)]
def mt_J6_bitCount_0f7a4 : List mm_e := [(0, 0, .iload_n 0, 1, 0, 0, 0), (0, 1, .iload_n 0, 1, 0, 0, 0), (0, 2, .iconst 1, 1, 0, 1, 0), (0, 3, .iushr, 1, 0, 0, 0), (0, 4, .ldc_w 265, 3, 0, 1431655765, 563), (0, 7, .iand, 1, 0, 0, 0), (0, 8, .isub, 1, 0, 0, 0), (0, 9, .istore_n 0, 1, 0, 0, 0), (0, 10, .iload_n 0, 1, 0, 0, 0), (0, 11, .ldc_w 266, 3, 0, 858993459, 564), (0, 14, .iand, 1, 0, 0, 0), (0, 15, .iload_n 0, 1, 0, 0, 0), (0, 16, .iconst 2, 1, 0, 2, 0), (0, 17, .iushr, 1, 0, 0, 0), (0, 18, .ldc_w 266, 3, 0, 858993459, 564), (0, 21, .iand, 1, 0, 0, 0), (0, 22, .iadd, 1, 0, 0, 0), (0, 23, .istore_n 0, 1, 0, 0, 0), (0, 24, .iload_n 0, 1, 0, 0, 0), (0, 25, .iload_n 0, 1, 0, 0, 0), (0, 26, .iconst 4, 1, 0, 4, 0), (0, 27, .iushr, 1, 0, 0, 0), (0, 28, .iadd, 1, 0, 0, 0), (0, 29, .ldc_w 267, 3, 0, 252645135, 565), (0, 32, .iand, 1, 0, 0, 0), (0, 33, .istore_n 0, 1, 0, 0, 0), (0, 34, .iload_n 0, 1, 0, 0, 0), (0, 35, .iload_n 0, 1, 0, 0, 0), (0, 36, .bipush 8, 2, 0, 8, 0), (0, 38, .iushr, 1, 0, 0, 0), (0, 39, .iadd, 1, 0, 0, 0), (0, 40, .istore_n 0, 1, 0, 0, 0), (0, 41, .iload_n 0, 1, 0, 0, 0), (0, 42, .iload_n 0, 1, 0, 0, 0), (0, 43, .bipush 16, 2, 0, 16, 0), (0, 45, .iushr, 1, 0, 0, 0), (0, 46, .iadd, 1, 0, 0, 0), (0, 47, .istore_n 0, 1, 0, 0, 0), (0, 48, .iload_n 0, 1, 0, 0, 0), (0, 49, .bipush 63, 2, 0, 63, 0), (0, 51, .iand, 1, 0, 0, 0), (5, 52, .ireturn, 1, 0, 0, 0)]
def mt_J9_floorMod_7cf53 : List mm_e := [(0, 0, .iload_n 0, 1, 0, 0, 0), (0, 1, .iload_n 1, 1, 0, 0, 0), (0, 2, .irem, 1, 0, 0, 0), (0, 3, .istore_n 2, 1, 0, 0, 0), (0, 4, .iload_n 0, 1, 0, 0, 0), (0, 5, .iload_n 1, 1, 0, 0, 0), (0, 6, .ixor, 1, 0, 0, 0), (1, 7, .ifCond .ge 11, 3, 14, 0, 0), (0, 10, .iload_n 2, 1, 0, 0, 0), (1, 11, .ifCond .eq 7, 3, 14, 0, 0), (0, 14, .iload_n 2, 1, 0, 0, 0), (0, 15, .iload_n 1, 1, 0, 0, 0), (0, 16, .iadd, 1, 0, 0, 0), (5, 17, .ireturn, 1, 0, 0, 0), (0, 18, .iload_n 2, 1, 0, 0, 0), (5, 19, .ireturn, 1, 0, 0, 0)]
def mt_J9_abs_0f7a4 : List mm_e := [(0, 0, .iload_n 0, 1, 0, 0, 0), (1, 1, .ifCond .ge 8, 3, 5, 0, 0), (0, 4, .iload_n 0, 1, 0, 0, 0), (0, 5, .ineg, 1, 0, 0, 0), (2, 6, .goto 4, 3, 6, 0, 0), (0, 9, .iload_n 0, 1, 0, 0, 0), (5, 10, .ireturn, 1, 0, 0, 0)]
def mt_J9_max_7cf53 : List mm_e := [(0, 0, .iload_n 0, 1, 0, 0, 0), (0, 1, .iload_n 1, 1, 0, 0, 0), (1, 2, .if_icmp .lt 7, 3, 5, 0, 0), (0, 5, .iload_n 0, 1, 0, 0, 0), (2, 6, .goto 4, 3, 6, 0, 0), (0, 9, .iload_n 1, 1, 0, 0, 0), (5, 10, .ireturn, 1, 0, 0, 0)]
def mt_J9_min_7cf53 : List mm_e := [(0, 0, .iload_n 0, 1, 0, 0, 0), (0, 1, .iload_n 1, 1, 0, 0, 0), (1, 2, .if_icmp .gt 7, 3, 5, 0, 0), (0, 5, .iload_n 0, 1, 0, 0, 0), (2, 6, .goto 4, 3, 6, 0, 0), (0, 9, .iload_n 1, 1, 0, 0, 0), (5, 10, .ireturn, 1, 0, 0, 0)]
def mt_L_law : List mm_e := [(3, 0, .new 7, 3, 9, 0, 103), (0, 3, .dup, 1, 0, 0, 0), (4, 4, .invokespecial 9, 3, 64, 105, 0), (0, 7, .astore_n 1, 1, 0, 0, 0), (3, 8, .new 10, 3, 10, 0, 935), (0, 11, .dup, 1, 0, 0, 0), (4, 12, .invokespecial 12, 3, 121, 937, 0), (0, 15, .astore_n 2, 1, 0, 0, 0), (0, 16, .iconst 0, 1, 0, 0, 0), (0, 17, .istore_n 3, 1, 0, 0, 0), (0, 18, .iload_n 3, 1, 0, 0, 0), (0, 19, .aload_n 0, 1, 0, 0, 0), (3, 20, .arraylength, 1, 0, 0, 0), (0, 21, .bipush 6, 2, 0, 6, 0), (0, 23, .isub, 1, 0, 0, 0), (1, 24, .if_icmp .gt 1031, 3, 725, 0, 0), (0, 27, .aload_n 0, 1, 0, 0, 0), (0, 28, .iload_n 3, 1, 0, 0, 0), (3, 29, .iaload, 1, 0, 0, 0), (0, 30, .bipush 31, 2, 0, 31, 0), (0, 32, .iand, 1, 0, 0, 0), (6, 33, .tableswitch 1016 0 29 #[135, 168, 191, 214, 227, 250, 293, 316, 349, 382, 405, 448, 481, 514, 527, 540, 573, 586, 609, 632, 665, 698, 721, 764, 787, 840, 883, 946, 979, 1002], 135, 0, 0, 0), (0, 168, .aload_n 1, 1, 0, 0, 0), (0, 169, .aload_n 0, 1, 0, 0, 0), (0, 170, .iload_n 3, 1, 0, 0, 0), (0, 171, .iconst 1, 1, 0, 1, 0), (0, 172, .iadd, 1, 0, 0, 0), (3, 173, .iaload, 1, 0, 0, 0), (0, 174, .aload_n 0, 1, 0, 0, 0), (0, 175, .iload_n 3, 1, 0, 0, 0), (0, 176, .iconst 2, 1, 0, 2, 0), (0, 177, .iadd, 1, 0, 0, 0), (3, 178, .iaload, 1, 0, 0, 0), (4, 179, .invokevirtual 13, 3, 65, 404, 0), (0, 182, .aload_n 2, 1, 0, 0, 0), (0, 183, .aload_n 0, 1, 0, 0, 0), (0, 184, .iload_n 3, 1, 0, 0, 0), (0, 185, .iconst 1, 1, 0, 1, 0), (0, 186, .iadd, 1, 0, 0, 0), (3, 187, .iaload, 1, 0, 0, 0), (0, 188, .aload_n 0, 1, 0, 0, 0), (0, 189, .iload_n 3, 1, 0, 0, 0), (0, 190, .iconst 2, 1, 0, 2, 0), (0, 191, .iadd, 1, 0, 0, 0), (3, 192, .iaload, 1, 0, 0, 0), (4, 193, .invokevirtual 17, 3, 143, 1104, 0), (1, 196, .if_icmp .eq 853, 3, 723, 0, 0), (0, 199, .iconst 0, 1, 0, 0, 0), (5, 200, .ireturn, 1, 0, 0, 0), (0, 201, .aload_n 1, 1, 0, 0, 0), (0, 202, .aload_n 0, 1, 0, 0, 0), (0, 203, .iload_n 3, 1, 0, 0, 0), (0, 204, .iconst 1, 1, 0, 1, 0), (0, 205, .iadd, 1, 0, 0, 0), (3, 206, .iaload, 1, 0, 0, 0), (4, 207, .invokevirtual 18, 3, 66, 423, 0), (0, 210, .aload_n 2, 1, 0, 0, 0), (0, 211, .aload_n 0, 1, 0, 0, 0), (0, 212, .iload_n 3, 1, 0, 0, 0), (0, 213, .iconst 1, 1, 0, 1, 0), (0, 214, .iadd, 1, 0, 0, 0), (3, 215, .iaload, 1, 0, 0, 0), (4, 216, .invokevirtual 22, 3, 144, 1112, 0), (1, 219, .if_icmp .eq 830, 3, 723, 0, 0), (0, 222, .iconst 0, 1, 0, 0, 0), (5, 223, .ireturn, 1, 0, 0, 0), (0, 224, .aload_n 1, 1, 0, 0, 0), (0, 225, .aload_n 0, 1, 0, 0, 0), (0, 226, .iload_n 3, 1, 0, 0, 0), (0, 227, .iconst 1, 1, 0, 1, 0), (0, 228, .iadd, 1, 0, 0, 0), (3, 229, .iaload, 1, 0, 0, 0), (4, 230, .invokevirtual 23, 3, 67, 427, 0), (0, 233, .aload_n 2, 1, 0, 0, 0), (0, 234, .aload_n 0, 1, 0, 0, 0), (0, 235, .iload_n 3, 1, 0, 0, 0), (0, 236, .iconst 1, 1, 0, 1, 0), (0, 237, .iadd, 1, 0, 0, 0), (3, 238, .iaload, 1, 0, 0, 0), (4, 239, .invokevirtual 26, 3, 145, 1116, 0), (1, 242, .if_icmp .eq 807, 3, 723, 0, 0), (0, 245, .iconst 0, 1, 0, 0, 0), (5, 246, .ireturn, 1, 0, 0, 0), (0, 247, .aload_n 1, 1, 0, 0, 0), (4, 248, .invokevirtual 27, 3, 68, 431, 0), (0, 251, .aload_n 2, 1, 0, 0, 0), (4, 252, .invokevirtual 31, 3, 150, 1125, 0), (1, 255, .if_icmp .eq 794, 3, 723, 0, 0), (0, 258, .iconst 0, 1, 0, 0, 0), (5, 259, .ireturn, 1, 0, 0, 0), (0, 260, .aload_n 1, 1, 0, 0, 0), (0, 261, .aload_n 0, 1, 0, 0, 0), (0, 262, .iload_n 3, 1, 0, 0, 0), (0, 263, .iconst 1, 1, 0, 1, 0), (0, 264, .iadd, 1, 0, 0, 0), (3, 265, .iaload, 1, 0, 0, 0), (4, 266, .invokevirtual 32, 3, 69, 489, 0), (0, 269, .aload_n 2, 1, 0, 0, 0), (0, 270, .aload_n 0, 1, 0, 0, 0), (0, 271, .iload_n 3, 1, 0, 0, 0), (0, 272, .iconst 1, 1, 0, 1, 0), (0, 273, .iadd, 1, 0, 0, 0), (3, 274, .iaload, 1, 0, 0, 0), (4, 275, .invokevirtual 35, 3, 146, 1120, 0), (1, 278, .if_icmp .eq 771, 3, 723, 0, 0), (0, 281, .iconst 0, 1, 0, 0, 0), (5, 282, .ireturn, 1, 0, 0, 0), (0, 283, .aload_n 1, 1, 0, 0, 0), (0, 284, .aload_n 0, 1, 0, 0, 0), (0, 285, .iload_n 3, 1, 0, 0, 0), (0, 286, .iconst 1, 1, 0, 1, 0), (0, 287, .iadd, 1, 0, 0, 0), (3, 288, .iaload, 1, 0, 0, 0), (0, 289, .aload_n 0, 1, 0, 0, 0), (0, 290, .iload_n 3, 1, 0, 0, 0), (0, 291, .iconst 2, 1, 0, 2, 0), (0, 292, .iadd, 1, 0, 0, 0), (3, 293, .iaload, 1, 0, 0, 0), (0, 294, .aload_n 0, 1, 0, 0, 0), (0, 295, .iload_n 3, 1, 0, 0, 0), (0, 296, .iconst 3, 1, 0, 3, 0), (0, 297, .iadd, 1, 0, 0, 0), (3, 298, .iaload, 1, 0, 0, 0), (4, 299, .invokevirtual 36, 3, 70, 497, 0), (0, 302, .aload_n 2, 1, 0, 0, 0), (0, 303, .aload_n 0, 1, 0, 0, 0), (0, 304, .iload_n 3, 1, 0, 0, 0), (0, 305, .iconst 1, 1, 0, 1, 0), (0, 306, .iadd, 1, 0, 0, 0), (3, 307, .iaload, 1, 0, 0, 0), (0, 308, .aload_n 0, 1, 0, 0, 0), (0, 309, .iload_n 3, 1, 0, 0, 0), (0, 310, .iconst 2, 1, 0, 2, 0), (0, 311, .iadd, 1, 0, 0, 0), (3, 312, .iaload, 1, 0, 0, 0), (0, 313, .aload_n 0, 1, 0, 0, 0), (0, 314, .iload_n 3, 1, 0, 0, 0), (0, 315, .iconst 3, 1, 0, 3, 0), (0, 316, .iadd, 1, 0, 0, 0), (3, 317, .iaload, 1, 0, 0, 0), (4, 318, .invokevirtual 40, 3, 142, 1084, 0), (1, 321, .if_icmp .eq 728, 3, 723, 0, 0), (0, 324, .iconst 0, 1, 0, 0, 0), (5, 325, .ireturn, 1, 0, 0, 0), (0, 326, .aload_n 1, 1, 0, 0, 0), (0, 327, .aload_n 0, 1, 0, 0, 0), (0, 328, .iload_n 3, 1, 0, 0, 0), (0, 329, .iconst 1, 1, 0, 1, 0), (0, 330, .iadd, 1, 0, 0, 0), (3, 331, .iaload, 1, 0, 0, 0), (4, 332, .invokevirtual 41, 3, 71, 517, 0), (0, 335, .aload_n 2, 1, 0, 0, 0), (0, 336, .aload_n 0, 1, 0, 0, 0), (0, 337, .iload_n 3, 1, 0, 0, 0), (0, 338, .iconst 1, 1, 0, 1, 0), (0, 339, .iadd, 1, 0, 0, 0), (3, 340, .iaload, 1, 0, 0, 0), (4, 341, .invokevirtual 44, 3, 168, 1143, 0), (1, 344, .if_icmp .eq 705, 3, 723, 0, 0), (0, 347, .iconst 0, 1, 0, 0, 0), (5, 348, .ireturn, 1, 0, 0, 0), (0, 349, .aload_n 1, 1, 0, 0, 0), (0, 350, .aload_n 0, 1, 0, 0, 0), (0, 351, .iload_n 3, 1, 0, 0, 0), (0, 352, .iconst 1, 1, 0, 1, 0), (0, 353, .iadd, 1, 0, 0, 0), (3, 354, .iaload, 1, 0, 0, 0), (0, 355, .aload_n 0, 1, 0, 0, 0), (0, 356, .iload_n 3, 1, 0, 0, 0), (0, 357, .iconst 2, 1, 0, 2, 0), (0, 358, .iadd, 1, 0, 0, 0), (3, 359, .iaload, 1, 0, 0, 0), (4, 360, .invokevirtual 45, 3, 72, 732, 0), (0, 363, .aload_n 2, 1, 0, 0, 0), (0, 364, .aload_n 0, 1, 0, 0, 0), (0, 365, .iload_n 3, 1, 0, 0, 0), (0, 366, .iconst 1, 1, 0, 1, 0), (0, 367, .iadd, 1, 0, 0, 0), (3, 368, .iaload, 1, 0, 0, 0), (0, 369, .aload_n 0, 1, 0, 0, 0), (0, 370, .iload_n 3, 1, 0, 0, 0), (0, 371, .iconst 2, 1, 0, 2, 0), (0, 372, .iadd, 1, 0, 0, 0), (3, 373, .iaload, 1, 0, 0, 0), (4, 374, .invokevirtual 48, 3, 170, 1221, 0), (1, 377, .if_icmp .eq 672, 3, 723, 0, 0), (0, 380, .iconst 0, 1, 0, 0, 0), (5, 381, .ireturn, 1, 0, 0, 0), (0, 382, .aload_n 1, 1, 0, 0, 0), (0, 383, .aload_n 0, 1, 0, 0, 0), (0, 384, .iload_n 3, 1, 0, 0, 0), (0, 385, .iconst 1, 1, 0, 1, 0), (0, 386, .iadd, 1, 0, 0, 0), (3, 387, .iaload, 1, 0, 0, 0), (0, 388, .aload_n 0, 1, 0, 0, 0), (0, 389, .iload_n 3, 1, 0, 0, 0), (0, 390, .iconst 2, 1, 0, 2, 0), (0, 391, .iadd, 1, 0, 0, 0), (3, 392, .iaload, 1, 0, 0, 0), (4, 393, .invokevirtual 49, 3, 73, 740, 0), (0, 396, .aload_n 2, 1, 0, 0, 0), (0, 397, .aload_n 0, 1, 0, 0, 0), (0, 398, .iload_n 3, 1, 0, 0, 0), (0, 399, .iconst 1, 1, 0, 1, 0), (0, 400, .iadd, 1, 0, 0, 0), (3, 401, .iaload, 1, 0, 0, 0), (0, 402, .aload_n 0, 1, 0, 0, 0), (0, 403, .iload_n 3, 1, 0, 0, 0), (0, 404, .iconst 2, 1, 0, 2, 0), (0, 405, .iadd, 1, 0, 0, 0), (3, 406, .iaload, 1, 0, 0, 0), (4, 407, .invokevirtual 52, 3, 173, 1230, 0), (1, 410, .if_icmp .eq 639, 3, 723, 0, 0), (0, 413, .iconst 0, 1, 0, 0, 0), (5, 414, .ireturn, 1, 0, 0, 0), (0, 415, .aload_n 1, 1, 0, 0, 0), (0, 416, .aload_n 0, 1, 0, 0, 0), (0, 417, .iload_n 3, 1, 0, 0, 0), (0, 418, .iconst 1, 1, 0, 1, 0), (0, 419, .iadd, 1, 0, 0, 0), (3, 420, .iaload, 1, 0, 0, 0), (4, 421, .invokevirtual 53, 3, 74, 748, 0), (0, 424, .aload_n 2, 1, 0, 0, 0), (0, 425, .aload_n 0, 1, 0, 0, 0), (0, 426, .iload_n 3, 1, 0, 0, 0), (0, 427, .iconst 1, 1, 0, 1, 0), (0, 428, .iadd, 1, 0, 0, 0), (3, 429, .iaload, 1, 0, 0, 0), (4, 430, .invokevirtual 56, 3, 175, 1243, 0), (1, 433, .if_icmp .eq 616, 3, 723, 0, 0), (0, 436, .iconst 0, 1, 0, 0, 0), (5, 437, .ireturn, 1, 0, 0, 0), (0, 438, .aload_n 1, 1, 0, 0, 0), (0, 439, .aload_n 0, 1, 0, 0, 0), (0, 440, .iload_n 3, 1, 0, 0, 0), (0, 441, .iconst 1, 1, 0, 1, 0), (0, 442, .iadd, 1, 0, 0, 0), (3, 443, .iaload, 1, 0, 0, 0), (0, 444, .aload_n 0, 1, 0, 0, 0), (0, 445, .iload_n 3, 1, 0, 0, 0), (0, 446, .iconst 2, 1, 0, 2, 0), (0, 447, .iadd, 1, 0, 0, 0), (3, 448, .iaload, 1, 0, 0, 0), (0, 449, .aload_n 0, 1, 0, 0, 0), (0, 450, .iload_n 3, 1, 0, 0, 0), (0, 451, .iconst 3, 1, 0, 3, 0), (0, 452, .iadd, 1, 0, 0, 0), (3, 453, .iaload, 1, 0, 0, 0), (4, 454, .invokevirtual 57, 3, 75, 756, 0), (0, 457, .aload_n 2, 1, 0, 0, 0), (0, 458, .aload_n 0, 1, 0, 0, 0), (0, 459, .iload_n 3, 1, 0, 0, 0), (0, 460, .iconst 1, 1, 0, 1, 0), (0, 461, .iadd, 1, 0, 0, 0), (3, 462, .iaload, 1, 0, 0, 0), (0, 463, .aload_n 0, 1, 0, 0, 0), (0, 464, .iload_n 3, 1, 0, 0, 0), (0, 465, .iconst 2, 1, 0, 2, 0), (0, 466, .iadd, 1, 0, 0, 0), (3, 467, .iaload, 1, 0, 0, 0), (0, 468, .aload_n 0, 1, 0, 0, 0), (0, 469, .iload_n 3, 1, 0, 0, 0), (0, 470, .iconst 3, 1, 0, 3, 0), (0, 471, .iadd, 1, 0, 0, 0), (3, 472, .iaload, 1, 0, 0, 0), (4, 473, .invokevirtual 60, 3, 177, 1251, 0), (1, 476, .if_icmp .eq 573, 3, 723, 0, 0), (0, 479, .iconst 0, 1, 0, 0, 0), (5, 480, .ireturn, 1, 0, 0, 0), (0, 481, .aload_n 1, 1, 0, 0, 0), (0, 482, .aload_n 0, 1, 0, 0, 0), (0, 483, .iload_n 3, 1, 0, 0, 0), (0, 484, .iconst 1, 1, 0, 1, 0), (0, 485, .iadd, 1, 0, 0, 0), (3, 486, .iaload, 1, 0, 0, 0), (0, 487, .aload_n 0, 1, 0, 0, 0), (0, 488, .iload_n 3, 1, 0, 0, 0), (0, 489, .iconst 2, 1, 0, 2, 0), (0, 490, .iadd, 1, 0, 0, 0), (3, 491, .iaload, 1, 0, 0, 0), (4, 492, .invokevirtual 61, 3, 76, 764, 0), (0, 495, .aload_n 2, 1, 0, 0, 0), (0, 496, .aload_n 0, 1, 0, 0, 0), (0, 497, .iload_n 3, 1, 0, 0, 0), (0, 498, .iconst 1, 1, 0, 1, 0), (0, 499, .iadd, 1, 0, 0, 0), (3, 500, .iaload, 1, 0, 0, 0), (0, 501, .aload_n 0, 1, 0, 0, 0), (0, 502, .iload_n 3, 1, 0, 0, 0), (0, 503, .iconst 2, 1, 0, 2, 0), (0, 504, .iadd, 1, 0, 0, 0), (3, 505, .iaload, 1, 0, 0, 0), (4, 506, .invokevirtual 64, 3, 181, 1259, 0), (1, 509, .if_icmp .eq 540, 3, 723, 0, 0), (0, 512, .iconst 0, 1, 0, 0, 0), (5, 513, .ireturn, 1, 0, 0, 0), (0, 514, .aload_n 1, 1, 0, 0, 0), (0, 515, .aload_n 0, 1, 0, 0, 0), (0, 516, .iload_n 3, 1, 0, 0, 0), (0, 517, .iconst 1, 1, 0, 1, 0), (0, 518, .iadd, 1, 0, 0, 0), (3, 519, .iaload, 1, 0, 0, 0), (0, 520, .aload_n 0, 1, 0, 0, 0), (0, 521, .iload_n 3, 1, 0, 0, 0), (0, 522, .iconst 2, 1, 0, 2, 0), (0, 523, .iadd, 1, 0, 0, 0), (3, 524, .iaload, 1, 0, 0, 0), (4, 525, .invokevirtual 65, 3, 77, 783, 0), (0, 528, .aload_n 2, 1, 0, 0, 0), (0, 529, .aload_n 0, 1, 0, 0, 0), (0, 530, .iload_n 3, 1, 0, 0, 0), (0, 531, .iconst 1, 1, 0, 1, 0), (0, 532, .iadd, 1, 0, 0, 0), (3, 533, .iaload, 1, 0, 0, 0), (0, 534, .aload_n 0, 1, 0, 0, 0), (0, 535, .iload_n 3, 1, 0, 0, 0), (0, 536, .iconst 2, 1, 0, 2, 0), (0, 537, .iadd, 1, 0, 0, 0), (3, 538, .iaload, 1, 0, 0, 0), (4, 539, .invokevirtual 68, 3, 182, 1274, 0), (1, 542, .if_icmp .eq 507, 3, 723, 0, 0), (0, 545, .iconst 0, 1, 0, 0, 0), (5, 546, .ireturn, 1, 0, 0, 0), (0, 547, .aload_n 1, 1, 0, 0, 0), (4, 548, .invokevirtual 69, 3, 78, 787, 0), (0, 551, .aload_n 2, 1, 0, 0, 0), (4, 552, .invokevirtual 72, 3, 183, 1278, 0), (1, 555, .if_icmp .eq 494, 3, 723, 0, 0), (0, 558, .iconst 0, 1, 0, 0, 0), (5, 559, .ireturn, 1, 0, 0, 0), (0, 560, .aload_n 1, 1, 0, 0, 0), (4, 561, .invokevirtual 73, 3, 79, 795, 0), (0, 564, .aload_n 2, 1, 0, 0, 0), (4, 565, .invokevirtual 76, 3, 184, 1282, 0), (1, 568, .if_icmp .eq 481, 3, 723, 0, 0), (0, 571, .iconst 0, 1, 0, 0, 0), (5, 572, .ireturn, 1, 0, 0, 0), (0, 573, .aload_n 1, 1, 0, 0, 0), (0, 574, .aload_n 0, 1, 0, 0, 0), (0, 575, .iload_n 3, 1, 0, 0, 0), (0, 576, .iconst 1, 1, 0, 1, 0), (0, 577, .iadd, 1, 0, 0, 0), (3, 578, .iaload, 1, 0, 0, 0), (0, 579, .aload_n 0, 1, 0, 0, 0), (0, 580, .iload_n 3, 1, 0, 0, 0), (0, 581, .iconst 2, 1, 0, 2, 0), (0, 582, .iadd, 1, 0, 0, 0), (3, 583, .iaload, 1, 0, 0, 0), (4, 584, .invokevirtual 77, 3, 80, 808, 0), (0, 587, .aload_n 2, 1, 0, 0, 0), (0, 588, .aload_n 0, 1, 0, 0, 0), (0, 589, .iload_n 3, 1, 0, 0, 0), (0, 590, .iconst 1, 1, 0, 1, 0), (0, 591, .iadd, 1, 0, 0, 0), (3, 592, .iaload, 1, 0, 0, 0), (0, 593, .aload_n 0, 1, 0, 0, 0), (0, 594, .iload_n 3, 1, 0, 0, 0), (0, 595, .iconst 2, 1, 0, 2, 0), (0, 596, .iadd, 1, 0, 0, 0), (3, 597, .iaload, 1, 0, 0, 0), (4, 598, .invokevirtual 80, 3, 186, 1286, 0), (1, 601, .if_icmp .eq 448, 3, 723, 0, 0), (0, 604, .iconst 0, 1, 0, 0, 0), (5, 605, .ireturn, 1, 0, 0, 0), (0, 606, .aload_n 1, 1, 0, 0, 0), (4, 607, .invokevirtual 81, 3, 81, 818, 0), (0, 610, .aload_n 2, 1, 0, 0, 0), (4, 611, .invokevirtual 84, 3, 200, 1294, 0), (1, 614, .if_icmp .eq 435, 3, 723, 0, 0), (0, 617, .iconst 0, 1, 0, 0, 0), (5, 618, .ireturn, 1, 0, 0, 0), (0, 619, .aload_n 1, 1, 0, 0, 0), (0, 620, .aload_n 0, 1, 0, 0, 0), (0, 621, .iload_n 3, 1, 0, 0, 0), (0, 622, .iconst 1, 1, 0, 1, 0), (0, 623, .iadd, 1, 0, 0, 0), (3, 624, .iaload, 1, 0, 0, 0), (4, 625, .invokevirtual 85, 3, 82, 822, 0), (0, 628, .aload_n 2, 1, 0, 0, 0), (0, 629, .aload_n 0, 1, 0, 0, 0), (0, 630, .iload_n 3, 1, 0, 0, 0), (0, 631, .iconst 1, 1, 0, 1, 0), (0, 632, .iadd, 1, 0, 0, 0), (3, 633, .iaload, 1, 0, 0, 0), (4, 634, .invokevirtual 88, 3, 203, 1354, 0), (1, 637, .if_icmp .eq 412, 3, 723, 0, 0), (0, 640, .iconst 0, 1, 0, 0, 0), (5, 641, .ireturn, 1, 0, 0, 0), (0, 642, .aload_n 1, 1, 0, 0, 0), (0, 643, .aload_n 0, 1, 0, 0, 0), (0, 644, .iload_n 3, 1, 0, 0, 0), (0, 645, .iconst 1, 1, 0, 1, 0), (0, 646, .iadd, 1, 0, 0, 0), (3, 647, .iaload, 1, 0, 0, 0), (4, 648, .invokevirtual 89, 3, 83, 831, 0), (0, 651, .aload_n 2, 1, 0, 0, 0), (0, 652, .aload_n 0, 1, 0, 0, 0), (0, 653, .iload_n 3, 1, 0, 0, 0), (0, 654, .iconst 1, 1, 0, 1, 0), (0, 655, .iadd, 1, 0, 0, 0), (3, 656, .iaload, 1, 0, 0, 0), (4, 657, .invokevirtual 92, 3, 205, 1366, 0), (1, 660, .if_icmp .eq 389, 3, 723, 0, 0), (0, 663, .iconst 0, 1, 0, 0, 0), (5, 664, .ireturn, 1, 0, 0, 0), (0, 665, .aload_n 1, 1, 0, 0, 0), (0, 666, .aload_n 0, 1, 0, 0, 0), (0, 667, .iload_n 3, 1, 0, 0, 0), (0, 668, .iconst 1, 1, 0, 1, 0), (0, 669, .iadd, 1, 0, 0, 0), (3, 670, .iaload, 1, 0, 0, 0), (0, 671, .aload_n 0, 1, 0, 0, 0), (0, 672, .iload_n 3, 1, 0, 0, 0), (0, 673, .iconst 2, 1, 0, 2, 0), (0, 674, .iadd, 1, 0, 0, 0), (3, 675, .iaload, 1, 0, 0, 0), (4, 676, .invokevirtual 93, 3, 84, 842, 0), (0, 679, .aload_n 2, 1, 0, 0, 0), (0, 680, .aload_n 0, 1, 0, 0, 0), (0, 681, .iload_n 3, 1, 0, 0, 0), (0, 682, .iconst 1, 1, 0, 1, 0), (0, 683, .iadd, 1, 0, 0, 0), (3, 684, .iaload, 1, 0, 0, 0), (0, 685, .aload_n 0, 1, 0, 0, 0), (0, 686, .iload_n 3, 1, 0, 0, 0), (0, 687, .iconst 2, 1, 0, 2, 0), (0, 688, .iadd, 1, 0, 0, 0), (3, 689, .iaload, 1, 0, 0, 0), (4, 690, .invokevirtual 96, 3, 208, 1374, 0), (1, 693, .if_icmp .eq 356, 3, 723, 0, 0), (0, 696, .iconst 0, 1, 0, 0, 0), (5, 697, .ireturn, 1, 0, 0, 0), (0, 698, .aload_n 1, 1, 0, 0, 0), (0, 699, .aload_n 0, 1, 0, 0, 0), (0, 700, .iload_n 3, 1, 0, 0, 0), (0, 701, .iconst 1, 1, 0, 1, 0), (0, 702, .iadd, 1, 0, 0, 0), (3, 703, .iaload, 1, 0, 0, 0), (0, 704, .aload_n 0, 1, 0, 0, 0), (0, 705, .iload_n 3, 1, 0, 0, 0), (0, 706, .iconst 2, 1, 0, 2, 0), (0, 707, .iadd, 1, 0, 0, 0), (3, 708, .iaload, 1, 0, 0, 0), (4, 709, .invokevirtual 97, 3, 85, 851, 0), (0, 712, .aload_n 2, 1, 0, 0, 0), (0, 713, .aload_n 0, 1, 0, 0, 0), (0, 714, .iload_n 3, 1, 0, 0, 0), (0, 715, .iconst 1, 1, 0, 1, 0), (0, 716, .iadd, 1, 0, 0, 0), (3, 717, .iaload, 1, 0, 0, 0), (0, 718, .aload_n 0, 1, 0, 0, 0), (0, 719, .iload_n 3, 1, 0, 0, 0), (0, 720, .iconst 2, 1, 0, 2, 0), (0, 721, .iadd, 1, 0, 0, 0), (3, 722, .iaload, 1, 0, 0, 0), (4, 723, .invokevirtual 100, 3, 210, 1386, 0), (1, 726, .if_icmp .eq 323, 3, 723, 0, 0), (0, 729, .iconst 0, 1, 0, 0, 0), (5, 730, .ireturn, 1, 0, 0, 0), (0, 731, .aload_n 1, 1, 0, 0, 0), (0, 732, .aload_n 0, 1, 0, 0, 0), (0, 733, .iload_n 3, 1, 0, 0, 0), (0, 734, .iconst 1, 1, 0, 1, 0), (0, 735, .iadd, 1, 0, 0, 0), (3, 736, .iaload, 1, 0, 0, 0), (4, 737, .invokevirtual 101, 3, 86, 859, 0), (0, 740, .aload_n 2, 1, 0, 0, 0), (0, 741, .aload_n 0, 1, 0, 0, 0), (0, 742, .iload_n 3, 1, 0, 0, 0), (0, 743, .iconst 1, 1, 0, 1, 0), (0, 744, .iadd, 1, 0, 0, 0), (3, 745, .iaload, 1, 0, 0, 0), (4, 746, .invokevirtual 104, 3, 215, 1394, 0), (1, 749, .if_icmp .eq 300, 3, 723, 0, 0), (0, 752, .iconst 0, 1, 0, 0, 0), (5, 753, .ireturn, 1, 0, 0, 0), (0, 754, .aload_n 1, 1, 0, 0, 0), (0, 755, .aload_n 0, 1, 0, 0, 0), (0, 756, .iload_n 3, 1, 0, 0, 0), (0, 757, .iconst 1, 1, 0, 1, 0), (0, 758, .iadd, 1, 0, 0, 0), (3, 759, .iaload, 1, 0, 0, 0), (0, 760, .aload_n 0, 1, 0, 0, 0), (0, 761, .iload_n 3, 1, 0, 0, 0), (0, 762, .iconst 2, 1, 0, 2, 0), (0, 763, .iadd, 1, 0, 0, 0), (3, 764, .iaload, 1, 0, 0, 0), (0, 765, .aload_n 0, 1, 0, 0, 0), (0, 766, .iload_n 3, 1, 0, 0, 0), (0, 767, .iconst 3, 1, 0, 3, 0), (0, 768, .iadd, 1, 0, 0, 0), (3, 769, .iaload, 1, 0, 0, 0), (4, 770, .invokevirtual 105, 3, 87, 867, 0), (0, 773, .aload_n 2, 1, 0, 0, 0), (0, 774, .aload_n 0, 1, 0, 0, 0), (0, 775, .iload_n 3, 1, 0, 0, 0), (0, 776, .iconst 1, 1, 0, 1, 0), (0, 777, .iadd, 1, 0, 0, 0), (3, 778, .iaload, 1, 0, 0, 0), (0, 779, .aload_n 0, 1, 0, 0, 0), (0, 780, .iload_n 3, 1, 0, 0, 0), (0, 781, .iconst 2, 1, 0, 2, 0), (0, 782, .iadd, 1, 0, 0, 0), (3, 783, .iaload, 1, 0, 0, 0), (0, 784, .aload_n 0, 1, 0, 0, 0), (0, 785, .iload_n 3, 1, 0, 0, 0), (0, 786, .iconst 3, 1, 0, 3, 0), (0, 787, .iadd, 1, 0, 0, 0), (3, 788, .iaload, 1, 0, 0, 0), (4, 789, .invokevirtual 108, 3, 128, 1044, 0), (1, 792, .if_icmp .eq 257, 3, 723, 0, 0), (0, 795, .iconst 0, 1, 0, 0, 0), (5, 796, .ireturn, 1, 0, 0, 0), (0, 797, .aload_n 1, 1, 0, 0, 0), (0, 798, .aload_n 0, 1, 0, 0, 0), (0, 799, .iload_n 3, 1, 0, 0, 0), (0, 800, .iconst 1, 1, 0, 1, 0), (0, 801, .iadd, 1, 0, 0, 0), (3, 802, .iaload, 1, 0, 0, 0), (4, 803, .invokevirtual 109, 3, 88, 875, 0), (0, 806, .aload_n 2, 1, 0, 0, 0), (0, 807, .aload_n 0, 1, 0, 0, 0), (0, 808, .iload_n 3, 1, 0, 0, 0), (0, 809, .iconst 1, 1, 0, 1, 0), (0, 810, .iadd, 1, 0, 0, 0), (3, 811, .iaload, 1, 0, 0, 0), (4, 812, .invokevirtual 112, 3, 129, 1060, 0), (1, 815, .if_icmp .eq 234, 3, 723, 0, 0), (0, 818, .iconst 0, 1, 0, 0, 0), (5, 819, .ireturn, 1, 0, 0, 0), (0, 820, .aload_n 1, 1, 0, 0, 0), (0, 821, .aload_n 0, 1, 0, 0, 0), (0, 822, .iload_n 3, 1, 0, 0, 0), (0, 823, .iconst 1, 1, 0, 1, 0), (0, 824, .iadd, 1, 0, 0, 0), (3, 825, .iaload, 1, 0, 0, 0), (0, 826, .aload_n 0, 1, 0, 0, 0), (0, 827, .iload_n 3, 1, 0, 0, 0), (0, 828, .iconst 2, 1, 0, 2, 0), (0, 829, .iadd, 1, 0, 0, 0), (3, 830, .iaload, 1, 0, 0, 0), (0, 831, .aload_n 0, 1, 0, 0, 0), (0, 832, .iload_n 3, 1, 0, 0, 0), (0, 833, .iconst 3, 1, 0, 3, 0), (0, 834, .iadd, 1, 0, 0, 0), (3, 835, .iaload, 1, 0, 0, 0), (0, 836, .aload_n 0, 1, 0, 0, 0), (0, 837, .iload_n 3, 1, 0, 0, 0), (0, 838, .iconst 4, 1, 0, 4, 0), (0, 839, .iadd, 1, 0, 0, 0), (3, 840, .iaload, 1, 0, 0, 0), (4, 841, .invokevirtual 113, 3, 89, 879, 0), (0, 844, .aload_n 2, 1, 0, 0, 0), (0, 845, .aload_n 0, 1, 0, 0, 0), (0, 846, .iload_n 3, 1, 0, 0, 0), (0, 847, .iconst 1, 1, 0, 1, 0), (0, 848, .iadd, 1, 0, 0, 0), (3, 849, .iaload, 1, 0, 0, 0), (0, 850, .aload_n 0, 1, 0, 0, 0), (0, 851, .iload_n 3, 1, 0, 0, 0), (0, 852, .iconst 2, 1, 0, 2, 0), (0, 853, .iadd, 1, 0, 0, 0), (3, 854, .iaload, 1, 0, 0, 0), (0, 855, .aload_n 0, 1, 0, 0, 0), (0, 856, .iload_n 3, 1, 0, 0, 0), (0, 857, .iconst 3, 1, 0, 3, 0), (0, 858, .iadd, 1, 0, 0, 0), (3, 859, .iaload, 1, 0, 0, 0), (0, 860, .aload_n 0, 1, 0, 0, 0), (0, 861, .iload_n 3, 1, 0, 0, 0), (0, 862, .iconst 4, 1, 0, 4, 0), (0, 863, .iadd, 1, 0, 0, 0), (3, 864, .iaload, 1, 0, 0, 0), (4, 865, .invokevirtual 117, 3, 132, 1064, 0), (1, 868, .if_icmp .eq 181, 3, 723, 0, 0), (0, 871, .iconst 0, 1, 0, 0, 0), (5, 872, .ireturn, 1, 0, 0, 0), (0, 873, .aload_n 1, 1, 0, 0, 0), (0, 874, .aload_n 0, 1, 0, 0, 0), (0, 875, .iload_n 3, 1, 0, 0, 0), (0, 876, .iconst 1, 1, 0, 1, 0), (0, 877, .iadd, 1, 0, 0, 0), (3, 878, .iaload, 1, 0, 0, 0), (0, 879, .aload_n 0, 1, 0, 0, 0), (0, 880, .iload_n 3, 1, 0, 0, 0), (0, 881, .iconst 2, 1, 0, 2, 0), (0, 882, .iadd, 1, 0, 0, 0), (3, 883, .iaload, 1, 0, 0, 0), (0, 884, .aload_n 0, 1, 0, 0, 0), (0, 885, .iload_n 3, 1, 0, 0, 0), (0, 886, .iconst 3, 1, 0, 3, 0), (0, 887, .iadd, 1, 0, 0, 0), (3, 888, .iaload, 1, 0, 0, 0), (4, 889, .invokevirtual 118, 3, 90, 891, 0), (0, 892, .aload_n 2, 1, 0, 0, 0), (0, 893, .aload_n 0, 1, 0, 0, 0), (0, 894, .iload_n 3, 1, 0, 0, 0), (0, 895, .iconst 1, 1, 0, 1, 0), (0, 896, .iadd, 1, 0, 0, 0), (3, 897, .iaload, 1, 0, 0, 0), (0, 898, .aload_n 0, 1, 0, 0, 0), (0, 899, .iload_n 3, 1, 0, 0, 0), (0, 900, .iconst 2, 1, 0, 2, 0), (0, 901, .iadd, 1, 0, 0, 0), (3, 902, .iaload, 1, 0, 0, 0), (0, 903, .aload_n 0, 1, 0, 0, 0), (0, 904, .iload_n 3, 1, 0, 0, 0), (0, 905, .iconst 3, 1, 0, 3, 0), (0, 906, .iadd, 1, 0, 0, 0), (3, 907, .iaload, 1, 0, 0, 0), (4, 908, .invokevirtual 121, 3, 133, 1075, 0), (1, 911, .if_icmp .eq 138, 3, 723, 0, 0), (0, 914, .iconst 0, 1, 0, 0, 0), (5, 915, .ireturn, 1, 0, 0, 0), (0, 916, .aload_n 1, 1, 0, 0, 0), (0, 917, .aload_n 0, 1, 0, 0, 0), (0, 918, .iload_n 3, 1, 0, 0, 0), (0, 919, .iconst 1, 1, 0, 1, 0), (0, 920, .iadd, 1, 0, 0, 0), (3, 921, .iaload, 1, 0, 0, 0), (0, 922, .aload_n 0, 1, 0, 0, 0), (0, 923, .iload_n 3, 1, 0, 0, 0), (0, 924, .iconst 2, 1, 0, 2, 0), (0, 925, .iadd, 1, 0, 0, 0), (3, 926, .iaload, 1, 0, 0, 0), (0, 927, .aload_n 0, 1, 0, 0, 0), (0, 928, .iload_n 3, 1, 0, 0, 0), (0, 929, .iconst 3, 1, 0, 3, 0), (0, 930, .iadd, 1, 0, 0, 0), (3, 931, .iaload, 1, 0, 0, 0), (0, 932, .aload_n 0, 1, 0, 0, 0), (0, 933, .iload_n 3, 1, 0, 0, 0), (0, 934, .iconst 4, 1, 0, 4, 0), (0, 935, .iadd, 1, 0, 0, 0), (3, 936, .iaload, 1, 0, 0, 0), (0, 937, .aload_n 0, 1, 0, 0, 0), (0, 938, .iload_n 3, 1, 0, 0, 0), (0, 939, .iconst 5, 1, 0, 5, 0), (0, 940, .iadd, 1, 0, 0, 0), (3, 941, .iaload, 1, 0, 0, 0), (4, 942, .invokevirtual 122, 3, 91, 896, 0), (0, 945, .aload_n 2, 1, 0, 0, 0), (0, 946, .aload_n 0, 1, 0, 0, 0), (0, 947, .iload_n 3, 1, 0, 0, 0), (0, 948, .iconst 1, 1, 0, 1, 0), (0, 949, .iadd, 1, 0, 0, 0), (3, 950, .iaload, 1, 0, 0, 0), (0, 951, .aload_n 0, 1, 0, 0, 0), (0, 952, .iload_n 3, 1, 0, 0, 0), (0, 953, .iconst 2, 1, 0, 2, 0), (0, 954, .iadd, 1, 0, 0, 0), (3, 955, .iaload, 1, 0, 0, 0), (0, 956, .aload_n 0, 1, 0, 0, 0), (0, 957, .iload_n 3, 1, 0, 0, 0), (0, 958, .iconst 3, 1, 0, 3, 0), (0, 959, .iadd, 1, 0, 0, 0), (3, 960, .iaload, 1, 0, 0, 0), (0, 961, .aload_n 0, 1, 0, 0, 0), (0, 962, .iload_n 3, 1, 0, 0, 0), (0, 963, .iconst 4, 1, 0, 4, 0), (0, 964, .iadd, 1, 0, 0, 0), (3, 965, .iaload, 1, 0, 0, 0), (0, 966, .aload_n 0, 1, 0, 0, 0), (0, 967, .iload_n 3, 1, 0, 0, 0), (0, 968, .iconst 5, 1, 0, 5, 0), (0, 969, .iadd, 1, 0, 0, 0), (3, 970, .iaload, 1, 0, 0, 0), (4, 971, .invokevirtual 126, 3, 134, 1080, 0), (1, 974, .if_icmp .eq 75, 3, 723, 0, 0), (0, 977, .iconst 0, 1, 0, 0, 0), (5, 978, .ireturn, 1, 0, 0, 0), (0, 979, .aload_n 1, 1, 0, 0, 0), (0, 980, .aload_n 0, 1, 0, 0, 0), (0, 981, .iload_n 3, 1, 0, 0, 0), (0, 982, .iconst 1, 1, 0, 1, 0), (0, 983, .iadd, 1, 0, 0, 0), (3, 984, .iaload, 1, 0, 0, 0), (0, 985, .aload_n 0, 1, 0, 0, 0), (0, 986, .iload_n 3, 1, 0, 0, 0), (0, 987, .iconst 2, 1, 0, 2, 0), (0, 988, .iadd, 1, 0, 0, 0), (3, 989, .iaload, 1, 0, 0, 0), (4, 990, .invokevirtual 127, 3, 92, 905, 0), (0, 993, .aload_n 2, 1, 0, 0, 0), (0, 994, .aload_n 0, 1, 0, 0, 0), (0, 995, .iload_n 3, 1, 0, 0, 0), (0, 996, .iconst 1, 1, 0, 1, 0), (0, 997, .iadd, 1, 0, 0, 0), (3, 998, .iaload, 1, 0, 0, 0), (0, 999, .aload_n 0, 1, 0, 0, 0), (0, 1000, .iload_n 3, 1, 0, 0, 0), (0, 1001, .iconst 2, 1, 0, 2, 0), (0, 1002, .iadd, 1, 0, 0, 0), (3, 1003, .iaload, 1, 0, 0, 0), (4, 1004, .invokevirtual 130, 3, 216, 1409, 0), (1, 1007, .if_icmp .eq 42, 3, 723, 0, 0), (0, 1010, .iconst 0, 1, 0, 0, 0), (5, 1011, .ireturn, 1, 0, 0, 0), (0, 1012, .aload_n 1, 1, 0, 0, 0), (0, 1013, .aload_n 0, 1, 0, 0, 0), (0, 1014, .iload_n 3, 1, 0, 0, 0), (0, 1015, .iconst 1, 1, 0, 1, 0), (0, 1016, .iadd, 1, 0, 0, 0), (3, 1017, .iaload, 1, 0, 0, 0), (4, 1018, .invokevirtual 131, 3, 93, 909, 0), (0, 1021, .aload_n 2, 1, 0, 0, 0), (0, 1022, .aload_n 0, 1, 0, 0, 0), (0, 1023, .iload_n 3, 1, 0, 0, 0), (0, 1024, .iconst 1, 1, 0, 1, 0), (0, 1025, .iadd, 1, 0, 0, 0), (3, 1026, .iaload, 1, 0, 0, 0), (4, 1027, .invokevirtual 134, 3, 217, 1413, 0), (1, 1030, .if_icmp .eq 19, 3, 723, 0, 0), (0, 1033, .iconst 0, 1, 0, 0, 0), (5, 1034, .ireturn, 1, 0, 0, 0), (0, 1035, .aload_n 1, 1, 0, 0, 0), (4, 1036, .invokevirtual 135, 3, 94, 917, 0), (0, 1039, .aload_n 2, 1, 0, 0, 0), (4, 1040, .invokevirtual 139, 3, 219, 1417, 0), (0, 1043, .lcmp, 1, 0, 0, 0), (1, 1044, .ifCond .eq 5, 3, 723, 0, 0), (0, 1047, .iconst 0, 1, 0, 0, 0), (5, 1048, .ireturn, 1, 0, 0, 0), (0, 1049, .iinc 3 6, 3, 0, 6, 0), (2, 1052, .goto (-1034), 3, 10, 0, 0), (0, 1055, .iconst 1, 1, 0, 1, 0), (5, 1056, .ireturn, 1, 0, 0, 0)]
def mm_ms_0 : List mm_m := [(yX0_init, cX0_init, 1, none, mt_X0_init, [2, 1, 0, 1, 20, 2, 28, 272, 92, 271, 0]),
  (yX0_cost, cX0_cost, 2, (some .int), mt_X0_cost, [1, 2, 0, 1, 20, 0, 0, 716, 92, 714, 715]),
  (yX1_init, cX1_init, 1, none, mt_X1_init, [2, 1, 1, 1, 20, 3, 90, 137, 87, 136, 0]),
  (yX1_add, cX1_add, 2, none, mt_X1_add, [1, 2, 1, 1, 23, 0, 0, 771, 87, 769, 770]),
  (yX1_takeBack, cX1_takeBack, 1, none, mt_X1_takeBack, [1, 1, 1, 1, 23, 0, 0, 794, 87, 792, 793]),
  (yX1_clear, cX1_clear, 2, none, mt_X1_clear, [1, 1, 1, 0, 0, 0, 0, 807, 87, 805, 806]),
  (yX1_hurtDots, cX1_hurtDots, 3, (some .int), mt_X1_hurtDots, [1, 1, 1, 1, 20, 0, 0, 802, 87, 800, 801]),
  (yX1_change, cX1_change, 4, none, mt_X1_change, [1, 2, 1, 0, 0, 0, 0, 775, 87, 774, 24]),
  (yX2_times, cX2_times, 2, (some .int), mt_X2_times, [0, 2, 99, 0, 0, 0, 0, 503, 100, 502, 0]),
  (yX2_quotient, cX2_quotient, 2, (some .int), mt_X2_quotient, [0, 2, 99, 0, 0, 0, 0, 510, 100, 509, 0]),
  (yX2_raised, cX2_raised, 2, (some .int), mt_X2_raised, [0, 2, 99, 1, 22, 0, 0, 513, 100, 512, 0]),
  (yX2_ofPlace, cX2_ofPlace, 1, (some .int), mt_X2_ofPlace, [0, 1, 99, 1, 22, 0, 0, 582, 100, 581, 0]),
  (yX3_init, cX3_init, 1, none, mt_X3_init, [2, 1, 2, 1, 20, 12, 143, 220, 90, 219, 0]),
  (yX3_make, cX3_make, 5, none, mt_X3_make, [1, 5, 2, 6, 146, 0, 0, 535, 90, 533, 534]),
  (yX3_chosen, cX3_chosen, 2, (some .int), mt_X3_chosen, [1, 2, 2, 0, 0, 0, 0, 657, 90, 655, 656]),
  (yX3_layItems, cX3_layItems, 5, none, mt_X3_layItems, [1, 2, 2, 2, 40, 0, 0, 548, 90, 547, 4]),
  (yX3_addChecks, cX3_addChecks, 5, none, mt_X3_addChecks, [1, 2, 2, 5, 122, 0, 0, 554, 90, 553, 5]),
  (yX3_layDots, cX3_layDots, 6, none, mt_X3_layDots, [1, 2, 2, 2, 46, 0, 0, 611, 90, 610, 14]),
  (yX3_chooseMask, cX3_chooseMask, 2, none, mt_X3_chooseMask, [1, 1, 2, 3, 70, 0, 0, 626, 90, 625, 16]),
  (yX3_fixedDots, cX3_fixedDots, 6, (some .int), mt_X3_fixedDots, [1, 3, 2, 1, 21, 0, 0, 616, 90, 615, 15])]
def mm_ms_1 : List mm_m := [(yX3_penaltyOf, cX3_penaltyOf, 6, (some .int), mt_X3_penaltyOf, [0, 1, 2, 2, 45, 0, 0, 629, 90, 628, 0]),
  (yX3_penaltyOfRuns, cX3_penaltyOfRuns, 2, (some .int), mt_X3_penaltyOfRuns, [0, 2, 2, 1, 20, 0, 0, 645, 90, 644, 0]),
  (yX3_runStartsAcross, cX3_runStartsAcross, 2, (some .int), mt_X3_runStartsAcross, [0, 1, 2, 0, 0, 0, 0, 639, 90, 638, 0]),
  (yX3_runStartsDown, cX3_runStartsDown, 5, (some .int), mt_X3_runStartsDown, [0, 2, 2, 0, 0, 0, 0, 642, 90, 641, 0]),
  (yX3_likeSquares, cX3_likeSquares, 3, (some .int), mt_X3_likeSquares, [0, 2, 2, 1, 20, 0, 0, 649, 90, 648, 0]),
  (yX4_init, cX4_init, 1, none, mt_X4_init, [2, 1, 3, 1, 20, 6, 47, 192, 89, 191, 0]),
  (yX4_mend, cX4_mend, 7, (some .int), mt_X4_mend, [1, 5, 3, 4, 96, 0, 0, 559, 89, 557, 558]),
  (yX4_sumUp, cX4_sumUp, 7, none, mt_X4_sumUp, [1, 3, 3, 2, 43, 0, 0, 572, 89, 571, 6]),
  (yX4_wantGone, cX4_wantGone, 4, none, mt_X4_wantGone, [1, 3, 3, 2, 68, 0, 0, 578, 89, 577, 7]),
  (yX4_strike, cX4_strike, 4, none, mt_X4_strike, [1, 3, 3, 1, 21, 0, 0, 586, 89, 585, 8]),
  (yX4_locate, cX4_locate, 9, (some .int), mt_X4_locate, [1, 2, 3, 1, 68, 0, 0, 590, 89, 589, 9]),
  (yX4_startLocators, cX4_startLocators, 2, none, mt_X4_startLocators, [1, 1, 3, 0, 0, 0, 0, 594, 89, 593, 10]),
  (yX4_wantLocated, cX4_wantLocated, 5, (some .boolean), mt_X4_wantLocated, [1, 3, 3, 3, 67, 0, 0, 599, 89, 598, 11]),
  (yX4_isLocated, cX4_isLocated, 6, (some .boolean), mt_X4_isLocated, [1, 3, 3, 2, 42, 0, 0, 603, 89, 602, 12]),
  (yX4_correct, cX4_correct, 9, none, mt_X4_correct, [1, 3, 3, 2, 68, 0, 0, 607, 89, 606, 13]),
  (yX5_init, cX5_init, 2, none, mt_X5_init, [2, 1, 4, 2, 40, 13, 144, 265, 91, 264, 0]),
  (yX5_look, cX5_look, 5, none, mt_X5_look, [1, 4, 4, 1, 21, 0, 0, 653, 91, 651, 652]),
  (yX5_readFormat, cX5_readFormat, 3, none, mt_X5_readFormat, [1, 1, 4, 2, 43, 0, 0, 661, 91, 659, 660]),
  (yX5_readBlocks, cX5_readBlocks, 8, none, mt_X5_readBlocks, [1, 3, 4, 5, 122, 0, 0, 670, 91, 668, 669]),
  (yX5_formatKnown, cX5_formatKnown, 1, (some .boolean), mt_X5_formatKnown, [1, 1, 4, 0, 0, 0, 0, 674, 91, 672, 673])]
def mm_ms_2 : List mm_m := [(yX5_level, cX5_level, 1, (some .int), mt_X5_level, [1, 1, 4, 0, 0, 0, 0, 687, 91, 685, 686]),
  (yX5_mask, cX5_mask, 1, (some .int), mt_X5_mask, [1, 1, 4, 0, 0, 0, 0, 682, 91, 680, 681]),
  (yX5_item, cX5_item, 2, (some .int), mt_X5_item, [1, 2, 4, 0, 0, 0, 0, 693, 91, 691, 692]),
  (yX5_vote, cX5_vote, 3, (some .int), mt_X5_vote, [1, 3, 4, 1, 21, 0, 0, 665, 91, 664, 17]),
  (yX5_takeSymbols, cX5_takeSymbols, 7, none, mt_X5_takeSymbols, [1, 2, 4, 1, 23, 0, 0, 678, 91, 677, 18]),
  (yX6_init, cX6_init, 1, none, mt_X6_init, [2, 1, 5, 1, 20, 1, 60, 351, 94, 350, 0]),
  (yX6_renew, cX6_renew, 4, none, mt_X6_renew, [1, 3, 5, 0, 0, 0, 0, 874, 94, 872, 873]),
  (yX6_findingAt, cX6_findingAt, 3, (some .int), mt_X6_findingAt, [1, 3, 5, 0, 0, 0, 0, 886, 94, 884, 885]),
  (yX6_put, cX6_put, 3, none, mt_X6_put, [1, 3, 5, 0, 0, 0, 0, 890, 94, 888, 889]),
  (yX6_hasPart, cX6_hasPart, 3, (some .boolean), mt_X6_hasPart, [1, 3, 5, 0, 0, 0, 0, 903, 94, 901, 902]),
  (yX7_init, cX7_init, 1, none, mt_X7_init, [2, 1, 6, 3, 61, 16, 179, 328, 93, 327, 0]),
  (yX7_find, cX7_find, 8, none, mt_X7_find, [1, 6, 6, 6, 151, 0, 0, 698, 93, 696, 697]),
  (yX7_isFormatDot, cX7_isFormatDot, 2, (some .boolean), mt_X7_isFormatDot, [0, 1, 6, 1, 21, 0, 0, 723, 93, 722, 0]),
  (yX7_spoilsBlock, cX7_spoilsBlock, 10, (some .boolean), mt_X7_spoilsBlock, [1, 4, 6, 5, 122, 0, 0, 707, 93, 706, 19]),
  (yX7_differs, cX7_differs, 2, (some .int), mt_X7_differs, [0, 2, 6, 0, 0, 0, 0, 712, 93, 711, 0]),
  (yX8_init, cX8_init, 2, none, mt_X8_init, [2, 2, 7, 1, 21, 1, 14, 115, 85, 114, 0]),
  (yX8_isFull, cX8_isFull, 1, (some .boolean), mt_X8_isFull, [1, 1, 7, 0, 0, 0, 0, 418, 85, 416, 417]),
  (yX8_append, cX8_append, 2, none, mt_X8_append, [1, 2, 7, 0, 0, 0, 0, 422, 85, 420, 421]),
  (yX8_byteAt, cX8_byteAt, 2, (some .int), mt_X8_byteAt, [1, 2, 7, 0, 0, 0, 0, 487, 85, 485, 486]),
  (yX8_faultAsLevel, cX8_faultAsLevel, 2, (some .int), mt_X8_faultAsLevel, [1, 1, 7, 5, 108, 0, 0, 438, 85, 436, 437])]
def mm_ms_3 : List mm_m := [(yX8_asLevel, cX8_asLevel, 2, (some .int), mt_X8_asLevel, [1, 1, 7, 5, 108, 0, 0, 528, 85, 526, 527]),
  (yX8_levelBegunBy, cX8_levelBegunBy, 4, (some .int), mt_X8_levelBegunBy, [1, 2, 7, 4, 85, 0, 0, 442, 85, 441, 1]),
  (yX9_init, cX9_init, 5, none, mt_X9_init, [2, 1, 8, 1, 21, 3, 567, 165, 88, 164, 0]),
  (yX9_symbolAt, cX9_symbolAt, 3, (some .int), mt_X9_symbolAt, [1, 2, 8, 0, 0, 0, 0, 703, 88, 701, 702]),
  (yX10_init, cX10_init, 2, none, mt_X10_init, [2, 1, 9, 4, 81, 72, 1499, 107, 84, 106, 0]),
  (yX10_type, cX10_type, 4, (some .int), mt_X10_type, [1, 3, 9, 1, 21, 0, 0, 407, 84, 405, 406]),
  (yX10_wipe, cX10_wipe, 4, (some .int), mt_X10_wipe, [1, 2, 9, 1, 21, 0, 0, 426, 84, 424, 425]),
  (yX10_undo, cX10_undo, 3, (some .int), mt_X10_undo, [1, 2, 9, 1, 21, 0, 0, 430, 84, 428, 429]),
  (yX10_fault, cX10_fault, 1, (some .int), mt_X10_fault, [1, 1, 9, 6, 129, 0, 0, 434, 84, 432, 433]),
  (yX10_read, cX10_read, 4, (some .int), mt_X10_read, [1, 2, 9, 1, 21, 0, 0, 492, 84, 490, 491]),
  (yX10_field, cX10_field, 4, (some .int), mt_X10_field, [1, 4, 9, 2, 43, 0, 0, 500, 84, 498, 499]),
  (yX10_mark, cX10_mark, 2, (some .int), mt_X10_mark, [1, 2, 9, 8, 199, 0, 0, 520, 84, 518, 519]),
  (yX10_symbol, cX10_symbol, 3, (some .int), mt_X10_symbol, [1, 3, 9, 8, 199, 0, 0, 735, 84, 733, 734]),
  (yX10_dots, cX10_dots, 3, (some .int), mt_X10_dots, [1, 3, 9, 8, 199, 0, 0, 743, 84, 741, 742]),
  (yX10_penalty, cX10_penalty, 2, (some .int), mt_X10_penalty, [1, 2, 9, 8, 199, 0, 0, 751, 84, 749, 750]),
  (yX10_place, cX10_place, 5, (some .int), mt_X10_place, [1, 4, 9, 2, 42, 0, 0, 759, 84, 757, 758]),
  (yX10_turn, cX10_turn, 3, (some .int), mt_X10_turn, [1, 3, 9, 2, 45, 0, 0, 767, 84, 765, 766]),
  (yX10_lost, cX10_lost, 3, (some .int), mt_X10_lost, [1, 3, 9, 2, 45, 0, 0, 786, 84, 784, 785]),
  (yX10_back, cX10_back, 1, (some .int), mt_X10_back, [1, 1, 9, 2, 43, 0, 0, 790, 84, 788, 789]),
  (yX10_heal, cX10_heal, 2, (some .int), mt_X10_heal, [1, 1, 9, 2, 42, 0, 0, 798, 84, 796, 797])]
def mm_ms_4 : List mm_m := [(yX10_seen, cX10_seen, 3, (some .int), mt_X10_seen, [1, 3, 9, 8, 199, 0, 0, 811, 84, 809, 810]),
  (yX10_why, cX10_why, 1, (some .int), mt_X10_why, [1, 1, 9, 8, 199, 0, 0, 821, 84, 819, 820]),
  (yX10_told, cX10_told, 2, (some .int), mt_X10_told, [1, 2, 9, 8, 199, 0, 0, 825, 84, 823, 824]),
  (yX10_format, cX10_format, 2, (some .int), mt_X10_format, [1, 2, 9, 8, 199, 0, 0, 834, 84, 832, 833]),
  (yX10_block, cX10_block, 3, (some .int), mt_X10_block, [1, 3, 9, 8, 199, 0, 0, 845, 84, 843, 844]),
  (yX10_mended, cX10_mended, 3, (some .int), mt_X10_mended, [1, 3, 9, 8, 199, 0, 0, 854, 84, 852, 853]),
  (yX10_straw, cX10_straw, 2, (some .int), mt_X10_straw, [1, 2, 9, 8, 199, 0, 0, 862, 84, 860, 861]),
  (yX10_sheet, cX10_sheet, 4, (some .int), mt_X10_sheet, [1, 4, 9, 1, 23, 0, 0, 870, 84, 868, 869]),
  (yX10_lose, cX10_lose, 2, (some .int), mt_X10_lose, [1, 2, 9, 1, 21, 0, 0, 878, 84, 876, 877]),
  (yX10_lay, cX10_lay, 6, (some .int), mt_X10_lay, [1, 5, 9, 1, 22, 0, 0, 882, 84, 880, 881]),
  (yX10_get, cX10_get, 5, (some .int), mt_X10_get, [1, 4, 9, 1, 22, 0, 0, 894, 84, 892, 893]),
  (yX10_copy, cX10_copy, 8, (some .int), mt_X10_copy, [1, 6, 9, 1, 68, 0, 0, 899, 84, 897, 898]),
  (yX10_write, cX10_write, 6, (some .int), mt_X10_write, [1, 3, 9, 8, 199, 0, 0, 908, 84, 906, 907]),
  (yX10_count, cX10_count, 2, (some .int), mt_X10_count, [1, 2, 9, 8, 199, 0, 0, 912, 84, 910, 911]),
  (yX10_digest, cX10_digest, 4, (some .long), mt_X10_digest, [1, 1, 9, 8, 199, 0, 0, 920, 84, 918, 919]),
  (yX10_withBlocks, cX10_withBlocks, 7, (some .long), mt_X10_withBlocks, [1, 2, 9, 3, 64, 0, 0, 926, 84, 925, 33]),
  (yX10_withSquares, cX10_withSquares, 7, (some .long), mt_X10_withSquares, [1, 2, 9, 2, 43, 0, 0, 930, 84, 929, 34]),
  (yX10_withReading, cX10_withReading, 6, (some .long), mt_X10_withReading, [1, 2, 9, 2, 43, 0, 0, 934, 84, 933, 35]),
  (yX10_markNow, cX10_markNow, 2, (some .int), mt_X10_markNow, [1, 2, 9, 2, 40, 0, 0, 731, 84, 730, 20]),
  (yX10_symbolNow, cX10_symbolNow, 3, (some .int), mt_X10_symbolNow, [1, 3, 9, 0, 0, 0, 0, 739, 84, 738, 21])]
def mm_ms_5 : List mm_m := [(yX10_dotsNow, cX10_dotsNow, 3, (some .int), mt_X10_dotsNow, [1, 3, 9, 0, 0, 0, 0, 747, 84, 746, 22]),
  (yX10_penaltyNow, cX10_penaltyNow, 2, (some .int), mt_X10_penaltyNow, [1, 2, 9, 0, 0, 0, 0, 755, 84, 754, 23]),
  (yX10_seenNow, cX10_seenNow, 3, (some .int), mt_X10_seenNow, [1, 3, 9, 1, 21, 0, 0, 815, 84, 814, 26]),
  (yX10_toldNow, cX10_toldNow, 3, (some .int), mt_X10_toldNow, [1, 2, 9, 1, 21, 0, 0, 829, 84, 828, 27]),
  (yX10_formatNow, cX10_formatNow, 2, (some .int), mt_X10_formatNow, [1, 2, 9, 1, 20, 0, 0, 838, 84, 837, 28]),
  (yX10_blockNow, cX10_blockNow, 4, (some .int), mt_X10_blockNow, [1, 3, 9, 2, 41, 0, 0, 849, 84, 848, 29]),
  (yX10_mendedNow, cX10_mendedNow, 4, (some .int), mt_X10_mendedNow, [1, 3, 9, 1, 20, 0, 0, 858, 84, 857, 30]),
  (yX10_strawNow, cX10_strawNow, 2, (some .int), mt_X10_strawNow, [1, 2, 9, 0, 0, 0, 0, 866, 84, 865, 31]),
  (yX10_countNow, cX10_countNow, 2, (some .int), mt_X10_countNow, [1, 2, 9, 2, 45, 0, 0, 916, 84, 915, 32]),
  (yX10_bring, cX10_bring, 2, none, mt_X10_bring, [1, 2, 9, 7, 178, 0, 0, 524, 84, 523, 3]),
  (yX10_damageChanged, cX10_damageChanged, 1, none, mt_X10_damageChanged, [1, 1, 9, 1, 21, 0, 0, 780, 84, 779, 25]),
  (yX10_typedBy, cX10_typedBy, 2, (some (.object "DotSquares$Typed")), mt_X10_typedBy, [1, 2, 9, 0, 0, 0, 0, 414, 84, 413, 0]),
  (yX10_found, cX10_found, 2, (some .int), mt_X10_found, [1, 2, 9, 0, 0, 0, 0, 496, 84, 495, 2]),
  (yX10_within, cX10_within, 2, (some .boolean), mt_X10_within, [0, 2, 9, 0, 0, 0, 0, 410, 84, 409, 0]),
  (yX10_isDot, cX10_isDot, 2, (some .boolean), mt_X10_isDot, [0, 2, 9, 1, 21, 0, 0, 762, 84, 761, 0]),
  (yX10_bit, cX10_bit, 2, (some .int), mt_X10_bit, [0, 2, 9, 0, 0, 0, 0, 171, 84, 170, 0]),
  (yX10_dotsIn, cX10_dotsIn, 6, (some .int), mt_X10_dotsIn, [0, 1, 9, 1, 20, 0, 0, 632, 84, 631, 0]),
  (yX10_checksOf, cX10_checksOf, 1, (some .int), mt_X10_checksOf, [0, 1, 9, 0, 0, 0, 0, 544, 84, 543, 0]),
  (yX10_itemsOf, cX10_itemsOf, 1, (some .int), mt_X10_itemsOf, [0, 1, 9, 1, 20, 0, 0, 541, 84, 540, 0]),
  (yX10_hasRoom, cX10_hasRoom, 2, (some .boolean), mt_X10_hasRoom, [0, 2, 9, 2, 40, 0, 0, 538, 84, 537, 0])]
def mm_ms_6 : List mm_m := [(yX10_maskedDots, cX10_maskedDots, 4, (some .int), mt_X10_maskedDots, [0, 2, 9, 0, 0, 0, 0, 621, 84, 620, 0]),
  (yX11_init, cX11_init, 2, none, mt_X11_init, [2, 1, 10, 1, 20, 26, 1918, 939, 95, 938, 0]),
  (yX11_in, cX11_in, 6, (some .boolean), mt_X11_in, [0, 3, 10, 0, 0, 0, 0, 1054, 95, 1053, 0]),
  (yX11_isTwo, cX11_isTwo, 1, (some .boolean), mt_X11_isTwo, [0, 1, 10, 1, 25, 0, 0, 1110, 95, 1109, 0]),
  (yX11_lesser, cX11_lesser, 2, (some .int), mt_X11_lesser, [0, 2, 10, 0, 0, 0, 0, 1216, 95, 1215, 0]),
  (yX11_greater, cX11_greater, 2, (some .int), mt_X11_greater, [0, 2, 10, 0, 0, 0, 0, 1142, 95, 1141, 0]),
  (yX11_finds, cX11_finds, 2, (some .int), mt_X11_finds, [1, 2, 10, 0, 0, 0, 0, 1059, 95, 1058, 36]),
  (yX11_isSheet, cX11_isSheet, 1, (some .boolean), mt_X11_isSheet, [0, 1, 10, 1, 25, 0, 0, 1050, 95, 1049, 0]),
  (yX11_sheet, cX11_sheet, 5, (some .int), mt_X11_sheet, [1, 4, 10, 2, 45, 0, 0, 1047, 95, 1045, 1046]),
  (yX11_lose, cX11_lose, 2, (some .int), mt_X11_lose, [1, 2, 10, 2, 45, 0, 0, 1063, 95, 1061, 1062]),
  (yX11_lacks, cX11_lacks, 4, (some .int), mt_X11_lacks, [1, 4, 10, 1, 25, 0, 0, 1071, 95, 1070, 37]),
  (yX11_cut, cX11_cut, 2, (some .int), mt_X11_cut, [0, 2, 10, 0, 0, 0, 0, 1074, 95, 1073, 0]),
  (yX11_lay, cX11_lay, 6, (some .int), mt_X11_lay, [1, 5, 10, 2, 48, 0, 0, 1067, 95, 1065, 1066]),
  (yX11_get, cX11_get, 4, (some .int), mt_X11_get, [1, 4, 10, 2, 48, 0, 0, 1078, 95, 1076, 1077]),
  (yX11_copy, cX11_copy, 7, (some .int), mt_X11_copy, [1, 6, 10, 2, 45, 0, 0, 1083, 95, 1081, 1082]),
  (yX11_twice, cX11_twice, 2, (some .int), mt_X11_twice, [0, 1, 10, 0, 0, 0, 0, 1097, 95, 1096, 0]),
  (yX11_multiplied, cX11_multiplied, 5, (some .int), mt_X11_multiplied, [0, 2, 10, 1, 21, 0, 0, 1094, 95, 1093, 0]),
  (yX11_often, cX11_often, 4, (some .int), mt_X11_often, [0, 2, 10, 2, 45, 0, 0, 1103, 95, 1102, 0]),
  (yX11_inverse, cX11_inverse, 1, (some .int), mt_X11_inverse, [0, 1, 10, 3, 68, 0, 0, 1100, 95, 1099, 0]),
  (yX11_product, cX11_product, 3, (some .int), mt_X11_product, [1, 3, 10, 0, 0, 0, 0, 1182, 95, 1181, 45])]
def mm_ms_7 : List mm_m := [(yX11_power, cX11_power, 2, (some .int), mt_X11_power, [1, 2, 10, 0, 0, 0, 0, 1178, 95, 1177, 44]),
  (yX11_fieldBy, cX11_fieldBy, 3, (some .int), mt_X11_fieldBy, [0, 3, 10, 4, 88, 0, 0, 1091, 95, 1090, 0]),
  (yX11_field, cX11_field, 4, (some .int), mt_X11_field, [1, 4, 10, 5, 110, 0, 0, 1087, 95, 1085, 1086]),
  (yX11_type, cX11_type, 3, (some .int), mt_X11_type, [1, 3, 10, 2, 45, 0, 0, 1107, 95, 1105, 1106]),
  (yX11_wipe, cX11_wipe, 3, (some .int), mt_X11_wipe, [1, 2, 10, 2, 45, 0, 0, 1115, 95, 1113, 1114]),
  (yX11_undo, cX11_undo, 2, (some .int), mt_X11_undo, [1, 2, 10, 2, 45, 0, 0, 1119, 95, 1117, 1118]),
  (yX11_read, cX11_read, 3, (some .int), mt_X11_read, [1, 2, 10, 3, 67, 0, 0, 1123, 95, 1121, 1122]),
  (yX11_letterOf, cX11_letterOf, 5, (some .int), mt_X11_letterOf, [0, 2, 10, 0, 0, 0, 0, 1139, 95, 1138, 0]),
  (yX11_along, cX11_along, 3, (some .int), mt_X11_along, [1, 2, 10, 1, 24, 0, 0, 1136, 95, 1135, 39]),
  (yX11_faultNow, cX11_faultNow, 2, (some .int), mt_X11_faultNow, [1, 1, 10, 2, 46, 0, 0, 1132, 95, 1131, 38]),
  (yX11_fault, cX11_fault, 1, (some .int), mt_X11_fault, [1, 1, 10, 3, 67, 0, 0, 1128, 95, 1126, 1127]),
  (yX11_levelNow, cX11_levelNow, 1, (some .int), mt_X11_levelNow, [1, 1, 10, 2, 46, 0, 0, 1164, 95, 1163, 42]),
  (yX11_checksOf, cX11_checksOf, 1, (some .int), mt_X11_checksOf, [0, 1, 10, 0, 0, 0, 0, 1170, 95, 1169, 0]),
  (yX11_roomOf, cX11_roomOf, 1, (some .int), mt_X11_roomOf, [0, 1, 10, 1, 20, 0, 0, 1167, 95, 1166, 0]),
  (yX11_isEye, cX11_isEye, 2, (some .boolean), mt_X11_isEye, [0, 2, 10, 0, 0, 0, 0, 1157, 95, 1156, 0]),
  (yX11_eye, cX11_eye, 2, (some .int), mt_X11_eye, [0, 2, 10, 0, 0, 0, 0, 1209, 95, 1208, 0]),
  (yX11_formatBit, cX11_formatBit, 2, (some .int), mt_X11_formatBit, [0, 2, 10, 0, 0, 0, 0, 1160, 95, 1159, 0]),
  (yX11_frees, cX11_frees, 6, none, mt_X11_frees, [1, 1, 10, 2, 45, 0, 0, 1154, 95, 1153, 41]),
  (yX11_itemAt, cX11_itemAt, 3, (some .int), mt_X11_itemAt, [1, 2, 10, 0, 0, 0, 0, 1186, 95, 1185, 46]),
  (yX11_bases, cX11_bases, 4, none, mt_X11_bases, [1, 2, 10, 1, 22, 0, 0, 1174, 95, 1173, 43])]
def mm_ms_8 : List mm_m := [(yX11_checks, cX11_checks, 6, none, mt_X11_checks, [1, 2, 10, 1, 22, 0, 0, 1190, 95, 1189, 47]),
  (yX11_maskBit, cX11_maskBit, 3, (some .int), mt_X11_maskBit, [0, 3, 10, 0, 0, 0, 0, 1206, 95, 1205, 0]),
  (yX11_dotAt, cX11_dotAt, 7, (some .int), mt_X11_dotAt, [1, 3, 10, 1, 22, 0, 0, 1203, 95, 1202, 50]),
  (yX11_runs, cX11_runs, 9, (some .int), mt_X11_runs, [1, 4, 10, 2, 48, 0, 0, 1199, 95, 1198, 49]),
  (yX11_darkOf, cX11_darkOf, 4, (some .int), mt_X11_darkOf, [1, 2, 10, 2, 48, 0, 0, 1213, 95, 1212, 51]),
  (yX11_penaltyOf, cX11_penaltyOf, 5, (some .int), mt_X11_penaltyOf, [1, 2, 10, 3, 76, 0, 0, 1195, 95, 1194, 48]),
  (yX11_makes, cX11_makes, 4, none, mt_X11_makes, [1, 1, 10, 4, 100, 0, 0, 1150, 95, 1149, 40]),
  (yX11_markBy, cX11_markBy, 2, (some .int), mt_X11_markBy, [1, 2, 10, 2, 40, 0, 0, 1220, 95, 1219, 52]),
  (yX11_mark, cX11_mark, 2, (some .int), mt_X11_mark, [1, 2, 10, 5, 123, 0, 0, 1146, 95, 1144, 1145]),
  (yX11_symbolBy, cX11_symbolBy, 3, (some .int), mt_X11_symbolBy, [1, 3, 10, 0, 0, 0, 0, 1229, 95, 1228, 53]),
  (yX11_symbol, cX11_symbol, 3, (some .int), mt_X11_symbol, [1, 3, 10, 5, 123, 0, 0, 1224, 95, 1222, 1223]),
  (yX11_dotsBy, cX11_dotsBy, 5, (some .int), mt_X11_dotsBy, [1, 3, 10, 2, 48, 0, 0, 1242, 95, 1241, 54]),
  (yX11_isPlace, cX11_isPlace, 1, (some .boolean), mt_X11_isPlace, [0, 1, 10, 1, 25, 0, 0, 1237, 95, 1236, 0]),
  (yX11_dots, cX11_dots, 3, (some .int), mt_X11_dots, [1, 3, 10, 5, 123, 0, 0, 1233, 95, 1231, 1232]),
  (yX11_penaltyBy, cX11_penaltyBy, 2, (some .int), mt_X11_penaltyBy, [1, 2, 10, 4, 100, 0, 0, 1250, 95, 1249, 55]),
  (yX11_penalty, cX11_penalty, 2, (some .int), mt_X11_penalty, [1, 2, 10, 5, 123, 0, 0, 1246, 95, 1244, 1245]),
  (yX11_placeBy, cX11_placeBy, 3, (some .int), mt_X11_placeBy, [1, 3, 10, 0, 0, 0, 0, 1258, 95, 1257, 56]),
  (yX11_place, cX11_place, 4, (some .int), mt_X11_place, [1, 4, 10, 5, 123, 0, 0, 1254, 95, 1252, 1253]),
  (yX11_sumOf, cX11_sumOf, 3, (some .int), mt_X11_sumOf, [0, 1, 10, 0, 0, 0, 0, 1273, 95, 1272, 0]),
  (yX11_does, cX11_does, 2, none, mt_X11_does, [1, 2, 10, 0, 0, 0, 0, 1270, 95, 1269, 58])]
def mm_ms_9 : List mm_m := [(yX11_notes, cX11_notes, 3, none, mt_X11_notes, [1, 2, 10, 1, 21, 0, 0, 1266, 95, 1265, 57]),
  (yX11_turn, cX11_turn, 3, (some .int), mt_X11_turn, [1, 3, 10, 2, 45, 0, 0, 1262, 95, 1260, 1261]),
  (yX11_lost, cX11_lost, 3, (some .int), mt_X11_lost, [1, 3, 10, 2, 45, 0, 0, 1277, 95, 1275, 1276]),
  (yX11_back, cX11_back, 1, (some .int), mt_X11_back, [1, 1, 10, 1, 21, 0, 0, 1281, 95, 1279, 1280]),
  (yX11_heal, cX11_heal, 3, (some .int), mt_X11_heal, [1, 1, 10, 0, 0, 0, 0, 1285, 95, 1283, 1284]),
  (yX11_seenAt, cX11_seenAt, 2, (some .int), mt_X11_seenAt, [1, 2, 10, 2, 48, 0, 0, 1293, 95, 1292, 59]),
  (yX11_seen, cX11_seen, 3, (some .int), mt_X11_seen, [1, 3, 10, 5, 123, 0, 0, 1289, 95, 1287, 1288]),
  (yX11_formatNow, cX11_formatNow, 6, (some .int), mt_X11_formatNow, [1, 1, 10, 3, 69, 0, 0, 1309, 95, 1308, 62]),
  (yX11_symbolSeen, cX11_symbolSeen, 7, (some .int), mt_X11_symbolSeen, [1, 2, 10, 3, 69, 0, 0, 1317, 95, 1316, 64]),
  (yX11_equations, cX11_equations, 5, none, mt_X11_equations, [1, 3, 10, 1, 21, 0, 0, 1329, 95, 1328, 67]),
  (yX11_swaps, cX11_swaps, 5, none, mt_X11_swaps, [1, 3, 10, 0, 0, 0, 0, 1333, 95, 1332, 68]),
  (yX11_solves, cX11_solves, 9, (some .boolean), mt_X11_solves, [1, 3, 10, 2, 45, 0, 0, 1325, 95, 1324, 66]),
  (yX11_isGone, cX11_isGone, 5, (some .boolean), mt_X11_isGone, [1, 3, 10, 0, 0, 0, 0, 1341, 95, 1340, 70]),
  (yX11_triesOne, cX11_triesOne, 5, (some .boolean), mt_X11_triesOne, [1, 3, 10, 3, 73, 0, 0, 1337, 95, 1336, 69]),
  (yX11_triesTwo, cX11_triesTwo, 6, (some .boolean), mt_X11_triesTwo, [1, 3, 10, 3, 73, 0, 0, 1345, 95, 1344, 71]),
  (yX11_triesThree, cX11_triesThree, 7, (some .boolean), mt_X11_triesThree, [1, 3, 10, 3, 73, 0, 0, 1349, 95, 1348, 72]),
  (yX11_tries, cX11_tries, 4, (some .boolean), mt_X11_tries, [1, 4, 10, 4, 99, 0, 0, 1321, 95, 1320, 65]),
  (yX11_mends, cX11_mends, 7, none, mt_X11_mends, [1, 2, 10, 5, 122, 0, 0, 1313, 95, 1312, 63]),
  (yX11_reading, cX11_reading, 3, none, mt_X11_reading, [1, 1, 10, 6, 148, 0, 0, 1305, 95, 1304, 61]),
  (yX11_reads, cX11_reads, 1, none, mt_X11_reads, [1, 1, 10, 7, 170, 0, 0, 1301, 95, 1300, 60])]
def mm_ms_10 : List mm_m := [(yX11_why, cX11_why, 1, (some .int), mt_X11_why, [1, 1, 10, 8, 190, 0, 0, 1297, 95, 1295, 1296]),
  (yX11_itemRead, cX11_itemRead, 2, (some .int), mt_X11_itemRead, [1, 2, 10, 0, 0, 0, 0, 1365, 95, 1364, 75]),
  (yX11_toldBy, cX11_toldBy, 2, (some .int), mt_X11_toldBy, [1, 2, 10, 1, 21, 0, 0, 1361, 95, 1360, 74]),
  (yX11_told, cX11_told, 2, (some .int), mt_X11_told, [1, 2, 10, 8, 190, 0, 0, 1357, 95, 1355, 1356]),
  (yX11_formatBy, cX11_formatBy, 2, (some .int), mt_X11_formatBy, [1, 2, 10, 0, 0, 0, 0, 1373, 95, 1372, 76]),
  (yX11_format, cX11_format, 2, (some .int), mt_X11_format, [1, 2, 10, 8, 190, 0, 0, 1369, 95, 1367, 1368]),
  (yX11_isBlind, cX11_isBlind, 1, (some .boolean), mt_X11_isBlind, [1, 1, 10, 0, 0, 0, 0, 1385, 95, 1384, 78]),
  (yX11_blockBy, cX11_blockBy, 4, (some .int), mt_X11_blockBy, [1, 3, 10, 1, 20, 0, 0, 1381, 95, 1380, 77]),
  (yX11_block, cX11_block, 3, (some .int), mt_X11_block, [1, 3, 10, 8, 190, 0, 0, 1377, 95, 1375, 1376]),
  (yX11_mendedBy, cX11_mendedBy, 3, (some .int), mt_X11_mendedBy, [1, 3, 10, 1, 20, 0, 0, 1393, 95, 1392, 79]),
  (yX11_mended, cX11_mended, 3, (some .int), mt_X11_mended, [1, 3, 10, 8, 190, 0, 0, 1389, 95, 1387, 1388]),
  (yX11_isWrong, cX11_isWrong, 1, (some .boolean), mt_X11_isWrong, [1, 1, 10, 2, 40, 0, 0, 1353, 95, 1352, 73]),
  (yX11_fails, cX11_fails, 3, (some .boolean), mt_X11_fails, [1, 2, 10, 7, 170, 0, 0, 1405, 95, 1404, 81]),
  (yX11_strawNow, cX11_strawNow, 3, (some .int), mt_X11_strawNow, [1, 1, 10, 8, 192, 0, 0, 1401, 95, 1400, 80]),
  (yX11_lineOf, cX11_lineOf, 2, (some .int), mt_X11_lineOf, [0, 2, 10, 0, 0, 0, 0, 1408, 95, 1407, 0]),
  (yX11_straw, cX11_straw, 2, (some .int), mt_X11_straw, [1, 2, 10, 9, 214, 0, 0, 1397, 95, 1395, 1396]),
  (yX11_write, cX11_write, 5, (some .int), mt_X11_write, [1, 3, 10, 5, 123, 0, 0, 1412, 95, 1410, 1411]),
  (yX11_count, cX11_count, 2, (some .int), mt_X11_count, [1, 2, 10, 8, 190, 0, 0, 1416, 95, 1414, 1415]),
  (yX11_tellsBlock, cX11_tellsBlock, 7, (some .long), mt_X11_tellsBlock, [1, 3, 10, 2, 43, 0, 0, 1427, 95, 1426, 82]),
  (yX11_digest, cX11_digest, 5, (some .long), mt_X11_digest, [1, 1, 10, 9, 214, 0, 0, 1420, 95, 1418, 1419])]
def mm_ms_11 : List mm_m := [(yJ6_bitCount_0f7a4, cJ6_bitCount_0f7a4, 1, (some .int), mt_J6_bitCount_0f7a4, [0, 1, 99, 0, 0, 0, 0, 562, 101, 561, 0]),
  (yJ9_floorMod_7cf53, cJ9_floorMod_7cf53, 3, (some .int), mt_J9_floorMod_7cf53, [0, 2, 99, 0, 0, 0, 0, 516, 86, 515, 0]),
  (yJ9_abs_0f7a4, cJ9_abs_0f7a4, 1, (some .int), mt_J9_abs_0f7a4, [0, 1, 99, 0, 0, 0, 0, 636, 86, 635, 0]),
  (yJ9_max_7cf53, cJ9_max_7cf53, 2, (some .int), mt_J9_max_7cf53, [0, 2, 99, 0, 0, 0, 0, 531, 86, 530, 0]),
  (yJ9_min_7cf53, cJ9_min_7cf53, 2, (some .int), mt_J9_min_7cf53, [0, 2, 99, 0, 0, 0, 0, 119, 86, 118, 0]),
  (yL_law, cL_law, 4, (some .boolean), mt_L_law, [0, 1, 99, 12, 480, 600000, 7302250, 0, 83, 0, 0])]
def mm_ms : List mm_m := mm_ms_0 ++ (mm_ms_1 ++ (mm_ms_2 ++ (mm_ms_3 ++ (mm_ms_4 ++ (mm_ms_5 ++ (mm_ms_6 ++ (mm_ms_7 ++ (mm_ms_8 ++ (mm_ms_9 ++ (mm_ms_10 ++ (mm_ms_11)))))))))))
def mm_nest : List Nat := [135, 167, 169, 190, 218, 270, 326, 349, 536, 549, 555, 579, 612, 617, 619, 630, 666, 683, 688, 694, 699, 709, 720, 724]
end
section
/-! WHAT A RUN OF THE SMALL MACHINE IS -/
def mm_me (j : Nat) : mm_m := mm_ms.getD j (⟨"", "", ""⟩, ByteArray.empty, 0, none, [], [])
def mm_tb (j : Nat) : List mm_e := (mm_me j).2.2.2.2.1
def mm_en (j i : Nat) : Option mm_e := (mm_tb j)[i]?
def mm_kd (μ : mm_M) (a : Nat) : Nat × Nat := if 1 ≤ a ∧ a < μ.1 ∧ a < 1000000 then μ.2.1 a else (0, 0)
def mm_pure (ins : Instr) (y : Nat) (L : mm_Lo) (st : List Value) : Option (mm_Lo × List Value) :=
  match mm_p1 ins y L st with
  | some r => some r
  | none => match mm_p2 ins L st with
    | some r => some r
    | none => match mm_p3 ins st with
      | some s => some (L, s)
      | none => none
def mm_cmp (c : ClassFile.Cond) (x y : Int32) : Bool :=
  match c with
  | .eq => decide (x = y)
  | .ne => !decide (x = y)
  | .lt => decide (x < y)
  | .ge => decide (y ≤ x)
  | .gt => decide (y < x)
  | .le => decide (x ≤ y)
def mm_br (ins : Instr) (st : List Value) : Option (Bool × List Value) :=
  match ins with
  | .ifCond c _ => match st with
    | .int x :: st => some (mm_cmp c x 0, st)
    | _ => none
  | .if_icmp c _ => match st with
    | .int y :: .int x :: st => some (mm_cmp c x y, st)
    | _ => none
  | _ => none
/-- memory that is read -/
def mm_m1 (X : Nat × (Nat → Int32)) (ins : Instr) (x y : Nat) (st : List Value) (μ : mm_M) : Option (List Value) :=
  match ins with
  | .getfield _ => match st with
    | .ref a :: st => if (mm_kd μ a).1 = 10 + x ∧ y < mm_N x then (match mm_fk x y with
      | 2 => some (.ref (μ.2.2.1 a y) :: st)
      | _ => some (.int (μ.2.2.2 a y) :: st)) else none
    | _ => none
  | .iaload => match st with
    | .int i :: .ref a :: st => if a < 1000000 then (if (mm_kd μ a).1 = 1 then (if i < 0 ∨ (mm_kd μ a).2 ≤ i.toNatClampNeg then none else some (.int (μ.2.2.2 a i.toNatClampNeg) :: st)) else none) else (if a < 1000005 then (if i < 0 ∨ (mm_S X (a - 1000000)).1 ≤ i.toNatClampNeg then none else some (.int ((mm_S X (a - 1000000)).2 i.toNatClampNeg) :: st)) else none)
    | _ => none
  | .aaload => match st with
    | .int i :: .ref a :: st => if 2 ≤ (mm_kd μ a).1 ∧ (mm_kd μ a).1 ≤ 4 then (if i < 0 ∨ (mm_kd μ a).2 ≤ i.toNatClampNeg then none else some (.ref (μ.2.2.1 a i.toNatClampNeg) :: st)) else none
    | _ => none
  | .arraylength => match st with
    | .ref a :: st => if a < 1000000 then (if 1 ≤ (mm_kd μ a).1 ∧ (mm_kd μ a).1 ≤ 4 then some (.int (nI (mm_kd μ a).2) :: st) else none) else (if a < 1000005 then some (.int (nI (mm_S X (a - 1000000)).1) :: st) else none)
    | _ => none
  | .getstatic _ => if x < 4 then some (.ref (1000000 + x) :: st) else none
  | .ldc _ => some (.ref 1000005 :: st)
  | .invokespecial _ => match st with
    | .ref a :: st => if 1 ≤ a ∧ a < 1000000 ∧ (st.map fun v => v.category).sum ≤ 8 then some st else none
    | _ => none
  | .invokevirtual _ => match st with
    | .int i :: .ref a :: st => if a = 1000005 ∧ (st.map fun v => v.category).sum ≤ 8 then (if i < 0 ∨ 9 ≤ i.toNatClampNeg then none else some (.int (nI (mm_tx.getD i.toNatClampNeg 0)) :: st)) else none
    | _ => none
  | _ => none
/-- memory that is written -/
def mm_m2 (ins : Instr) (x y : Nat) (st : List Value) (μ : mm_M) : Option (List Value × mm_M) :=
  match ins with
  | .putfield _ => match st with
    | .int v :: .ref a :: st => if (mm_kd μ a).1 = 10 + x ∧ y < mm_N x then (match mm_fk x y with
      | 0 => some (st, (μ.1, μ.2.1, μ.2.2.1, mm_up2 μ.2.2.2 a y v))
      | 1 => if v = 0 ∨ v = 1 then some (st, (μ.1, μ.2.1, μ.2.2.1, mm_up2 μ.2.2.2 a y v)) else none
      | _ => none) else none
    | .ref q :: .ref a :: st => if (mm_kd μ a).1 = 10 + x ∧ y < mm_N x ∧ mm_fk x y = 2 then some (st, (μ.1, μ.2.1, mm_up2 μ.2.2.1 a y q, μ.2.2.2)) else none
    | _ => none
  | .iastore => match st with
    | .int v :: .int i :: .ref a :: st => if (mm_kd μ a).1 = 1 then (if i < 0 ∨ (mm_kd μ a).2 ≤ i.toNatClampNeg then none else some (st, (μ.1, μ.2.1, μ.2.2.1, mm_up2 μ.2.2.2 a i.toNatClampNeg v))) else none
    | _ => none
  | .aastore => match st with
    | .ref q :: .int i :: .ref a :: st => if ((mm_kd μ a).1 = 2 ∧ (mm_kd μ q).1 = 15) ∨ ((mm_kd μ a).1 = 3 ∧ (mm_kd μ q).1 = 10) then (if i < 0 ∨ (mm_kd μ a).2 ≤ i.toNatClampNeg then none else some (st, (μ.1, μ.2.1, mm_up2 μ.2.2.1 a i.toNatClampNeg q, μ.2.2.2))) else none
    | _ => none
  | .invokestatic _ => match st with
    | .int n :: .int dp :: .ref a :: .int sp :: .ref a0 :: st => if (mm_kd μ a).1 = 1 ∧ (mm_kd μ a0).1 = 1 ∧ ¬ sp < 0 ∧ ¬ dp < 0 ∧ ¬ n < 0 ∧ sp.toNatClampNeg + n.toNatClampNeg ≤ (mm_kd μ a0).2 ∧ dp.toNatClampNeg + n.toNatClampNeg ≤ (mm_kd μ a).2 ∧ (st.map fun v => v.category).sum ≤ 8 then some (st, (μ.1, μ.2.1, μ.2.2.1, mm_row μ.2.2.2 a (va_cpy (μ.2.2.2 a0) (μ.2.2.2 a) sp.toNatClampNeg dp.toNatClampNeg n.toNatClampNeg))) else none
    | _ => none
  | _ => none
/-- memory that is made: an object of class x, an int row, a row of references, int rows in a row -/
def mm_m3 (ins : Instr) (x : Nat) (cap : Nat × Nat) (st : List Value) (B : Nat × Nat) (μ : mm_M) : Option (List Value × (Nat × Nat) × mm_M) :=
  match ins with
  | .new _ => if B.1 + 1 ≤ cap.1 ∧ B.2 + mm_N x ≤ cap.2 ∧ μ.1 + 1 < 1000000 ∧ x < 11 then some (.ref μ.1 :: st, (B.1 + 1, B.2 + mm_N x), (μ.1 + 1, mm_up1 μ.2.1 μ.1 (10 + x, 0), mm_row μ.2.2.1 μ.1 (fun _ => 0), mm_row μ.2.2.2 μ.1 (fun _ => 0))) else none
  | .newarray .int => match st with
    | .int n :: st => if ¬ n < 0 ∧ n.toNatClampNeg ≤ 65536 ∧ B.1 + 1 ≤ cap.1 ∧ B.2 + n.toNatClampNeg ≤ cap.2 ∧ μ.1 + 1 < 1000000 then some (.ref μ.1 :: st, (B.1 + 1, B.2 + n.toNatClampNeg), (μ.1 + 1, mm_up1 μ.2.1 μ.1 (1, n.toNatClampNeg), mm_row μ.2.2.1 μ.1 (fun _ => 0), mm_row μ.2.2.2 μ.1 (fun _ => 0))) else none
    | _ => none
  | .anewarray _ => match st with
    | .int n :: st => if (x = 2 ∨ x = 3) ∧ ¬ n < 0 ∧ n.toNatClampNeg ≤ 65536 ∧ B.1 + 1 ≤ cap.1 ∧ B.2 + n.toNatClampNeg ≤ cap.2 ∧ μ.1 + 1 < 1000000 then some (.ref μ.1 :: st, (B.1 + 1, B.2 + n.toNatClampNeg), (μ.1 + 1, mm_up1 μ.2.1 μ.1 (x, n.toNatClampNeg), mm_row μ.2.2.1 μ.1 (fun _ => 0), mm_row μ.2.2.2 μ.1 (fun _ => 0))) else none
    | _ => none
  | .multianewarray _ 2 => match st with
    | .int k :: .int n :: st => if ¬ n < 0 ∧ ¬ k < 0 ∧ n.toNatClampNeg ≤ 1000 ∧ k.toNatClampNeg ≤ 1000 ∧ B.1 + (1 + n.toNatClampNeg) ≤ cap.1 ∧ B.2 + (n.toNatClampNeg + n.toNatClampNeg * k.toNatClampNeg) ≤ cap.2 ∧ μ.1 + 1 + n.toNatClampNeg < 1000000 then
        some (.ref μ.1 :: st, (B.1 + 1 + n.toNatClampNeg, B.2 + n.toNatClampNeg + n.toNatClampNeg * k.toNatClampNeg), (μ.1 + 1 + n.toNatClampNeg, (fun q => if q = μ.1 then (4, n.toNatClampNeg) else if μ.1 < q ∧ q < μ.1 + 1 + n.toNatClampNeg then (1, k.toNatClampNeg) else μ.2.1 q), (fun q i => if q = μ.1 then (if i < n.toNatClampNeg then μ.1 + 1 + i else 0) else if μ.1 < q ∧ q < μ.1 + 1 + n.toNatClampNeg then 0 else μ.2.2.1 q i), (fun q i => if μ.1 ≤ q ∧ q < μ.1 + 1 + n.toNatClampNeg then 0 else μ.2.2.2 q i))) else none
    | _ => none
  | _ => none
def mm_mem (X : Nat × (Nat → Int32)) (j : Nat) (ins : Instr) (x y : Nat) (st : List Value) (B : Nat × Nat) (μ : mm_M) : Option (List Value × (Nat × Nat) × mm_M) :=
  match mm_m1 X ins x y st μ with
  | some st => some (st, B, μ)
  | none => match mm_m2 ins x y st μ with
    | some (st, μ) => some (st, B, μ)
    | none => mm_m3 ins x (mm_nu (mm_me j) 5, mm_nu (mm_me j) 6) st B μ
/-- the locals that a call begins with -/
def mm_ent : List Value → mm_Lo
  | [] => []
  | .long v :: vs => some (.long v) :: none :: mm_ent vs
  | .double v :: vs => some (.double v) :: none :: mm_ent vs
  | v :: vs => some v :: mm_ent vs
def mm_ini (vs : List Value) (n : Nat) : mm_Lo := mm_ent vs ++ List.replicate (n - (mm_ent vs).length) none
/-- the receiver of a call of kind k (0: none) of a method of class c -/
def mm_rcv (k c : Nat) (as : List Value) (μ : mm_M) : Bool :=
  match k with
  | 0 => true
  | 1 => match as with
    | .ref a :: _ => decide ((mm_kd μ a).1 = 10 + c)
    | _ => false
  | _ => match as with
    | .ref a :: _ => decide (1 ≤ a ∧ a < 1000000)
    | _ => false
/-- a call: its arguments, the rest of the stack, the budget behind it -/
def mm_cl (j x : Nat) (st : List Value) (B : Nat × Nat) (μ : mm_M) : Option (List Value × List Value × (Nat × Nat)) :=
  let m := mm_me x
  let na := mm_nu m 1
  let as := (st.take na).reverse
  let rest := st.drop na
  if na ≤ st.length ∧ (rest.map fun v => v.category).sum ≤ 8 ∧ mm_rcv (mm_nu m 0) (mm_nu m 2) as μ = true ∧ (mm_ent as).length ≤ m.2.2.1 ∧ B.1 + mm_nu m 5 ≤ mm_nu (mm_me j) 5 ∧ B.2 + mm_nu m 6 ≤ mm_nu (mm_me j) 6 then some (as, rest, (B.1 + mm_nu m 5, B.2 + mm_nu m 6)) else none
/-- a method's end -/
def mm_rt (j : Nat) (ins : Instr) (st : List Value) (μ : mm_M) : Option (Option Value × mm_M) :=
  match ins with
  | .return_ => match st with
    | [] => if (mm_me j).2.2.2.1 = none then some (none, μ) else none
    | _ => none
  | .ireturn => match st with
    | [.int v] => if (mm_me j).2.2.2.1 = some .int ∨ ((mm_me j).2.2.2.1 = some .boolean ∧ (v = 0 ∨ v = 1)) then some (some (.int v), μ) else none
    | _ => none
  | .lreturn => match st with
    | [.long v] => if (mm_me j).2.2.2.1 = some .long then some (some (.long v), μ) else none
    | _ => none
  | .areturn => match st with
    | [.ref a] => if (mm_me j).2.2.2.1 = some (.object "DotSquares$Typed") ∧ 1 ≤ a then some (some (.ref a), μ) else none
    | _ => none
  | _ => none
/-- where a switch goes -/
def mm_off (ins : Instr) (x : Int32) : Option Int :=
  match ins with
  | .tableswitch dflt lo hi offs => if x.toInt < lo ∨ hi < x.toInt then some dflt else offs[(x.toInt - lo).toNat]?
  | _ => none
def mm_sw (j pc : Nat) (ins : Instr) (st : List Value) : Option (Nat × List Value) :=
  match st with
  | .int x :: st => match mm_off ins x with
    | some o => match (mm_tb j).findIdx? (fun e => decide ((e.2.1 : Int) = (pc : Int) + o)) with
      | some i => some (i, st)
      | none => none
    | none => none
  | _ => none
def mm_x (X : Nat × (Nat → Int32)) : Nat → Nat → Nat → mm_Lo → List Value → Nat × Nat → mm_M → Option (Option Value × mm_M)
  | 0, _, _, _, _, _, _ => none
  | f + 1, j, i, L, st, B, μ =>
    match mm_en j i with
    | none => none
    | some (tag, pc, ins, _, x, y, _) =>
      match tag with
      | 0 => match mm_pure ins y L st with
        | some (L', st') => mm_x X f j (i + 1) L' st' B μ
        | none => none
      | 1 => match mm_br ins st with
        | some (true, st') => mm_x X f j x L st' B μ
        | some (false, st') => mm_x X f j (i + 1) L st' B μ
        | none => none
      | 2 => mm_x X f j x L st B μ
      | 3 => match mm_mem X j ins x y st B μ with
        | some (st', B', μ') => mm_x X f j (i + 1) L st' B' μ'
        | none => none
      | 4 => match mm_cl j x st B μ with
        | some (as, rest, B') => match mm_x X f x 0 (mm_ini as (mm_me x).2.2.1) [] (0, 0) μ with
          | some (r, μ') => mm_x X f j (i + 1) L (r.toList ++ rest) B' μ'
          | none => none
        | none => none
      | 5 => mm_rt j ins st μ
      | _ => match mm_sw j pc ins st with
        | some (i', st') => mm_x X f j i' L st' B μ
        | none => none
end
section
/-! WHAT IS CHECKED OF THE ROWS, BY PROGRAM -/
def mm_own (j : Nat) : String := (mm_me j).1.cls
def mm_pc (j i : Nat) : Nat := match mm_en j i with
  | some e => e.2.1
  | none => 0
def mm_cls (c : Nat) : vw_C := vwCl.getD c ("", fun _ => ("", "", "", false), 0)
def mm_sf (x : Nat) : String × String := match x with
  | 0 => ("DotSquares", "FREE")
  | 1 => ("DotSquares", "EYES_AND_CLOCK")
  | 2 => ("DotSquares$Field", "POWERS")
  | _ => ("DotSquares$Field", "LOGS")
def mm_k0 (own : String) (ins : Instr) (len y z : Nat) : Bool :=
  match ins with
  | .iconst n => len == 1 && decide (Int32.ofInt n = nI y)
  | .bipush n => len == 2 && decide ((Int8.ofInt n).toInt32 = nI y)
  | .sipush n => len == 3 && decide ((Int16.ofInt n).toInt32 = nI y)
  | .ldc q => len == 2 && decide (lw_tbl[z]? = some (.constant own q (nI y)))
  | .ldc_w q => len == 3 && decide (lw_tbl[z]? = some (.constant own q (nI y)))
  | .lconst n => len == 1 && decide (Int64.ofNat n.val = lN y)
  | .ldc2_w q => len == 3 && decide (lw_tbl[z]? = some (.constantLong own q (lN y)))
  | .iinc _ n => len == 3 && decide (Int32.ofInt n = nI y)
  | .iload _ | .lload _ | .aload _ | .istore _ | .lstore _ | .astore _ => len == 2
  | _ => len == 1
def mm_k3 (j : Nat) (ins : Instr) (len x y z : Nat) : Bool :=
  match ins with
  | .getfield q => len == 3 && decide (x < 11) && decide (y < mm_N x) && decide (lw_tbl[z]? = some (.fieldLink (mm_own j) q ((mm_cls x).2.1 y).1 ((mm_cls x).2.1 y).2.1 ((mm_cls x).2.1 y).2.2.1))
  | .putfield q => len == 3 && decide (x < 11) && decide (y < mm_N x) && decide (lw_tbl[z]? = some (.fieldLink (mm_own j) q ((mm_cls x).2.1 y).1 ((mm_cls x).2.1 y).2.1 ((mm_cls x).2.1 y).2.2.1)) && (decide (((mm_cls x).2.1 y).2.2.2 = false) || (mm_nu (mm_me j) 0 == 2 && decide (((mm_cls x).2.1 y).1 = mm_own j)))
  | .getstatic q => len == 3 && (if y = 0 then decide (lw_tbl[z]? = some (.fieldLink (mm_own j) q (mm_sf x).1 (mm_sf x).2 "[I")) else decide (z < mm_nest.length) && decide (lw_tbl[mm_nest.getD z 0]? = some (.fieldLinkNest (mm_own j) q (mm_sf x).1 (mm_sf x).2 "[I" "DotSquares")))
  | .ldc q => len == 2 && decide (mm_own j = "DotSquares$Typed") && q == 35
  | .invokespecial q => len == 3 && decide (lw_tbl[z]? = some (.methodLink (mm_own j) q objectInit)) && decide (1 ≤ mm_nu (mm_me j) 3) && decide (20 ≤ mm_nu (mm_me j) 4)
  | .invokevirtual q => len == 3 && decide (lw_tbl[z]? = some (.methodLink (mm_own j) q yJ0_charAt_5068e)) && decide (4 ≤ mm_nu (mm_me j) 3) && decide (85 ≤ mm_nu (mm_me j) 4)
  | .invokestatic q => len == 3 && decide (lw_tbl[z]? = some (.methodLink (mm_own j) q arraycopyName)) && decide (1 ≤ mm_nu (mm_me j) 3) && decide (68 ≤ mm_nu (mm_me j) 4)
  | .new q => len == 3 && decide (x < 11) && decide (lw_tbl[z]? = some (.classLink (mm_own j) q (mm_cls x).1))
  | .newarray .int => len == 2
  | .anewarray q => len == 3 && decide (lw_tbl[z]? = some (.classLink (mm_own j) q (if x = 2 then RX6 else RX0)))
  | .multianewarray q 2 => len == 4 && decide (lw_tbl[z]? = some (.classLink (mm_own j) q "[[I"))
  | .iaload | .iastore | .aaload | .aastore | .arraylength => len == 1
  | _ => false
def mm_k4 (j : Nat) (ins : Instr) (x y z : Nat) : Bool :=
  decide (x < 225) && decide (mm_nu (mm_me x) 3 + 1 ≤ mm_nu (mm_me j) 3) && decide (8 + ((mm_me x).2.2.1 + 11) + mm_nu (mm_me x) 4 ≤ mm_nu (mm_me j) 4) &&
  (match ins with
  | .invokestatic q => mm_nu (mm_me x) 0 == 0 && (if z = 0 then decide (lw_tbl[y]? = some (.methodLink (mm_own j) q (mm_me x).1)) else decide (y < mm_nest.length) && decide (lw_tbl[mm_nest.getD y 0]? = some (.methodLinkNest (mm_own j) q (mm_me x).1 "DotSquares")))
  | .invokevirtual q => mm_nu (mm_me x) 0 == 1 && (if z = 0 then decide (lw_tbl[y]? = some (.methodLink (mm_own j) q (mm_me x).1)) else decide (y < mm_nest.length) && decide (lw_tbl[mm_nest.getD y 0]? = some (.methodLinkNest (mm_own j) q (mm_me x).1 "DotSquares")))
  | .invokespecial q => mm_nu (mm_me x) 0 == 2 && (if z = 0 then decide (lw_tbl[y]? = some (.methodLink (mm_own j) q (mm_me x).1)) else decide (y < mm_nest.length) && decide (lw_tbl[mm_nest.getD y 0]? = some (.methodLinkNest (mm_own j) q (mm_me x).1 "DotSquares")))
  | _ => false)
def mm_kb (ins : Instr) (pc tgt : Nat) : Bool :=
  match ins with
  | .ifCond _ o => decide ((pc : Int) + o = (tgt : Nat))
  | .if_icmp _ o => decide ((pc : Int) + o = (tgt : Nat))
  | _ => false
def mm_kg (ins : Instr) (pc tgt : Nat) : Bool :=
  match ins with
  | .goto o => decide ((pc : Int) + o = (tgt : Nat))
  | _ => false
/-- a row -/
def mm_ck (j i : Nat) : Bool := match mm_en j i with
  | none => false
  | some (tag, pc, ins, len, x, y, z) => decide (decode (mm_me j).2.1 pc = .ok (ins, len)) && (match tag with
    | 0 => mm_k0 (mm_own j) ins len y z && mm_pc j (i + 1) == pc + len
    | 1 => mm_kb ins pc (mm_pc j x) && len == 3 && mm_pc j (i + 1) == pc + 3
    | 2 => mm_kg ins pc (mm_pc j x) && len == 3
    | 3 => mm_k3 j ins len x y z && mm_pc j (i + 1) == pc + len
    | 4 => mm_k4 j ins x y z && len == 3 && mm_pc j (i + 1) == pc + 3
    | 5 => len == 1
    | _ => true)
/-- a method's head -/
def mm_hd (j : Nat) : Bool :=
  let m := mm_me j
  decide (lw_tbl[mm_nu m 7]? = some (.code m.1 m.2.1 m.2.2.1 m.2.2.2.1)) && decide (lw_tbl[mm_nu m 8]? = some (.initialized m.1.cls)) && plainFor m.1 && decide (m.1.cls ≠ "java/lang/invoke/MethodHandle") && decide (m.1.cls ≠ "java/lang/invoke/VarHandle") && mm_pc j 0 == 0 &&
  (match mm_nu m 0 with
  | 0 => decide (lw_tbl[mm_nu m 9]? = some (.static m.1)) && decide ((parseMethodDescriptor m.1.desc).map (fun d => d.parameters.length) = some (mm_nu m 1))
  | 1 => decide (lw_tbl[mm_nu m 9]? = some (.instanceMethod m.1)) && decide (lw_tbl[mm_nu m 10]? = some (.selects m.1.cls m.1 m.1)) && decide ((mm_cls (mm_nu m 2)).1 = m.1.cls) && decide (mm_nu m 2 < 11) && decide ((parseMethodDescriptor m.1.desc).map (fun d => d.parameters.length + 1) = some (mm_nu m 1))
  | 2 => decide (lw_tbl[mm_nu m 9]? = some (.instanceMethod m.1)) && decide (m.1.name = "<init>") && decide (m.2.2.2.1 = none) && decide ((parseMethodDescriptor m.1.desc).map (fun d => d.parameters.length + 1) = some (mm_nu m 1))
  | _ => false)
def mm_ckm (j : Nat) : Bool := (List.range (mm_tb j).length).all (fun i => mm_ck j i)
end
section
/-! HOW THE SMALL MACHINE STANDS FOR THE MACHINE: addresses, locals, cells -/
abbrev mm_G : Type := va_G × (Nat → ClassId) × Nat × (Nat → Nat) × (Nat × (Nat → Int32))
def mm_A (g : mm_G) : Nat → Prop := fun q => g.2.2.1 < q
def mm_q (g : mm_G) (k : Nat) : Option Nat := if k = 0 then none else if k < 1000000 then some (g.2.2.1 + k) else some (g.2.2.2.1 (k - 1000000))
def mm_rl (g : mm_G) : Value → Value
  | .ref k => va_rf (mm_q g k)
  | v => v
theorem mm_rf_cat (r : Option Nat) : (va_rf r).category = 1 := by
  cases r <;> rfl
theorem mm_rl_cat (g : mm_G) (v : Value) : (mm_rl g v).category = v.category := by
  cases v <;> first | rfl | exact mm_rf_cat _
theorem mm_rl_sum (g : mm_G) (st : List Value) : ((st.map (mm_rl g)).map fun v => v.category).sum = (st.map fun v => v.category).sum := by
  rw [List.map_map]
  congr 1
  apply List.map_congr_left
  intro v _
  exact mm_rl_cat g v
theorem mm_rl_dyn (g : mm_G) {k : Nat} (h0 : 1 ≤ k) (h1 : k < 1000000) : mm_rl g (.ref k) = .ref (g.2.2.1 + k) := by
  have : ¬ k = 0 := by omega
  simp [mm_rl, h1, mm_q, this, va_rf]
theorem mm_rl_sta (g : mm_G) {k : Nat} (h1 : ¬ k < 1000000) : mm_rl g (.ref k) = .ref (g.2.2.2.1 (k - 1000000)) := by
  have : ¬ k = 0 := by omega
  simp [mm_rl, h1, mm_q, this, va_rf]
theorem mm_rl_ref (g : mm_G) (k : Nat) : (mm_rl g (.ref k) = .null) ∨ ∃ a, mm_rl g (.ref k) = .ref a := by
  show va_rf (mm_q g k) = .null ∨ ∃ a, va_rf (mm_q g k) = .ref a
  cases mm_q g k with
  | none => exact Or.inl rfl
  | some a => exact Or.inr ⟨a, rfl⟩
def mm_as (g : mm_G) (L : mm_Lo) : List (Nat × Value) := (List.range L.length).filterMap fun i => match L[i]? with
  | some (some v) => some (i, mm_rl g v)
  | _ => none
theorem mm_as_mem {g : mm_G} {L : mm_Lo} {i : Nat} {v : Value} (h : L[i]? = some (some v)) : (i, mm_rl g v) ∈ mm_as g L := by
  have hi : i < L.length := (List.getElem?_eq_some_iff.mp h).1
  exact List.mem_filterMap.mpr ⟨i, List.mem_range.mpr hi, by rw [h]⟩
theorem mm_mem_as {g : mm_G} {L : mm_Lo} {q : Nat × Value} (h : q ∈ mm_as g L) : ∃ v, L[q.1]? = some (some v) ∧ q.2 = mm_rl g v := by
  obtain ⟨i, -, hi⟩ := List.mem_filterMap.mp h
  cases hL : L[i]? with
  | none => rw [hL] at hi; cases hi
  | some o =>
    rw [hL] at hi
    cases o with
    | none => cases hi
    | some v =>
      cases hi
      exact ⟨v, hL, rfl⟩
/-- the locals -/
def mm_L (g : mm_G) (ls : Array Slot) (nL : Nat) (L : mm_Lo) : Prop := ls.size = nL ∧ lv_wf ls ∧ L.length = nL ∧ ∀ (i : Nat) (v : Value), L[i]? = some (some v) → ls[i]? = some (Slot.val (mm_rl g v))
theorem mm_L.has {g : mm_G} {ls : Array Slot} {nL : Nat} {L : mm_Lo} (h : mm_L g ls nL L) : lv_has ls nL (mm_as g L) := by
  refine ⟨h.1, h.2.1, fun q hq => ?_⟩
  obtain ⟨v, h1, h2⟩ := mm_mem_as hq
  rw [h2]
  exact h.2.2.2 _ _ h1
theorem mm_lg_of {o : Option (Option Value)} {v : Value} (h : o = some (some v)) (hc : v.category = 2) : mm_lg o = true := by
  subst h
  cases v <;> first | rfl | (simp [Value.category] at hc; done)
theorem mm_L.st1 {g : mm_G} {ls' : Array Slot} {nL k : Nat} {L : mm_Lo} {v : Value} (hn : L.length = nL) (hok : mm_ok1 L k = true) (h : lv_has ls' nL ((k, mm_rl g v) :: (mm_as g L).filter (fun q => !(q.1 == k) && !(q.1 + 1 == k && q.2.category == 2)))) : mm_L g ls' nL (L.set k (some v)) := by
  unfold mm_ok1 at hok
  rw [Bool.and_eq_true] at hok
  have hk : k < L.length := of_decide_eq_true hok.1
  refine ⟨h.1, h.2.1, by rw [List.length_set]; exact hn, fun i w hw => ?_⟩
  by_cases hi : i = k
  · subst hi
    rw [List.getElem?_set_self hk] at hw
    cases hw
    exact h.2.2 (i, mm_rl g v) List.mem_cons_self
  · rw [List.getElem?_set_ne (Ne.symm hi)] at hw
    refine h.2.2 (i, mm_rl g w) (List.mem_cons_of_mem _ (List.mem_filter.mpr ⟨mm_as_mem hw, ?_⟩))
    simp only [Bool.and_eq_true, Bool.not_eq_true', beq_eq_false_iff_ne, ne_eq, hi, not_false_eq_true, true_and]
    rw [Bool.and_eq_false_iff]
    by_cases hik : i + 1 = k
    · right
      subst hik
      have hlg := hok.2
      simp only [Bool.not_eq_true'] at hlg
      rw [mm_rl_cat]
      cases hcat : (w.category == 2) with
      | false => rfl
      | true =>
        rw [mm_lg_of hw (by simpa using hcat)] at hlg
        cases hlg
    · left
      simpa using hik
theorem mm_L.st2 {g : mm_G} {ls' : Array Slot} {nL k : Nat} {L : mm_Lo} {v : Value} (hn : L.length = nL) (hok : mm_ok1 L k = true) (hk1 : k + 1 < L.length) (h : lv_has ls' nL ((k, mm_rl g v) :: (mm_as g L).filter (fun q => !(q.1 == k) && (!(q.1 == k + 1) && !(q.1 + 1 == k && q.2.category == 2))))) : mm_L g ls' nL ((L.set k (some v)).set (k + 1) none) := by
  unfold mm_ok1 at hok
  rw [Bool.and_eq_true] at hok
  have hk : k < L.length := of_decide_eq_true hok.1
  refine ⟨h.1, h.2.1, by rw [List.length_set, List.length_set]; exact hn, fun i w hw => ?_⟩
  by_cases hi1 : i = k + 1
  · subst hi1
    rw [List.getElem?_set_self (by rw [List.length_set]; exact hk1)] at hw
    cases hw
  · rw [List.getElem?_set_ne (Ne.symm hi1)] at hw
    by_cases hi : i = k
    · subst hi
      rw [List.getElem?_set_self hk] at hw
      cases hw
      exact h.2.2 (i, mm_rl g v) List.mem_cons_self
    · rw [List.getElem?_set_ne (Ne.symm hi)] at hw
      refine h.2.2 (i, mm_rl g w) (List.mem_cons_of_mem _ (List.mem_filter.mpr ⟨mm_as_mem hw, ?_⟩))
      simp only [Bool.and_eq_true, Bool.not_eq_true', beq_eq_false_iff_ne, ne_eq, hi, hi1, not_false_eq_true, true_and]
      rw [Bool.and_eq_false_iff]
      by_cases hik : i + 1 = k
      · right
        subst hik
        have hlg := hok.2
        simp only [Bool.not_eq_true'] at hlg
        rw [mm_rl_cat]
        cases hcat : (w.category == 2) with
        | false => rfl
        | true =>
          rw [mm_lg_of hw (by simpa using hcat)] at hlg
          cases hlg
      · left
        simpa using hik
end
section
/-! AN INSTRUCTION THAT TOUCHES LOCALS AND STACK ALONE -/
/-- the words that hold at every state of the run -/
def mm_gt : List Jvm.Cond := lw_tbl.filter goodWord
theorem mm_mg {z : Nat} {w : Jvm.Cond} (h : lw_tbl[z]? = some w) (hg : goodWord w = true) : w ∈ mm_gt := List.mem_filter.mpr ⟨List.mem_of_getElem? h, hg⟩
theorem mm_gw {args : Array Value} {s : State} (hts : ∀ w ∈ mm_gt, w.before args s = true) {z : Nat} {w : Jvm.Cond} (h : lw_tbl[z]? = some w) (hg : goodWord w = true) : w.before args s = true := hts w (mm_mg h hg)
theorem mm_good {b : Jvm.Cond} (hb : b ∈ mm_gt) : GoodIn mm_gt (b :: mm_gt) := by
  intro w hw
  have h1 : w ∈ mm_gt := by
    rcases List.mem_cons.mp hw with rfl | h
    · exact hb
    · exact h
  exact ⟨h1, good_of_word (List.mem_filter.mp h1).2⟩
section MMP
variable {p : Program} {l : Launch} {e : Env} {R : Room} {s : State} {m : MethodId} {args : Array Value} {below : List Frame} {meth : Method} {c : Code} {H : Heap} {locs : List Loc} {cells slots : Nat} {Q : State → Prop}
variable {cc : ByteArray} {pc : Nat} {ls : Array Slot} {g : mm_G} {nL : Nat} {own : String}
set_option maxHeartbeats 4000000 in
theorem mm_p1_W (hx : p.tables.exec = Jvm.exec) (hb : c.code = cc) (hown : s.vm.findClass own = some m.cls) (hts : ∀ w ∈ mm_gt, w.before args s = true) {ins : Instr} {y z len : Nat} {L L' : mm_Lo} {st st' : List Value} (h : mm_p1 ins y L st = some (L', st')) (hk : mm_k0 own ins len y z = true) (hdg : decode cc pc = .ok (ins, len)) (hL : mm_L g ls nL L)
    (kk : ∀ ls', mm_L g ls' nL L' → W p l e R s m args below meth c H locs cells slots Q (F0 m (pc + len) ls' (st'.map (mm_rl g)))) : W p l e R s m args below meth c H locs cells slots Q (F0 m pc ls (st.map (mm_rl g))) := by
  unfold mm_p1 at h
  split at h
  · cases h
    simp only [mm_k0, Bool.and_eq_true, beq_iff_eq, decide_eq_true_eq] at hk
    obtain ⟨rfl, hk⟩ := hk
    exact lv_iconst hx hb hdg hk (kk ls hL)
  · cases h
    simp only [mm_k0, Bool.and_eq_true, beq_iff_eq, decide_eq_true_eq] at hk
    obtain ⟨rfl, hk⟩ := hk
    exact lv_bipush hx hb hdg hk (kk ls hL)
  · cases h
    simp only [mm_k0, Bool.and_eq_true, beq_iff_eq, decide_eq_true_eq] at hk
    obtain ⟨rfl, hk⟩ := hk
    exact lv_sipush hx hb hdg hk (kk ls hL)
  · cases h
    simp only [mm_k0, Bool.and_eq_true, beq_iff_eq, decide_eq_true_eq] at hk
    obtain ⟨rfl, hk⟩ := hk
    exact lv_ldc hx hb hown (mm_gw hts hk rfl) hdg (kk ls hL)
  · cases h
    simp only [mm_k0, Bool.and_eq_true, beq_iff_eq, decide_eq_true_eq] at hk
    obtain ⟨rfl, hk⟩ := hk
    exact lv_ldcw hx hb hown (mm_gw hts hk rfl) hdg (kk ls hL)
  · cases h
    simp only [mm_k0, Bool.and_eq_true, beq_iff_eq, decide_eq_true_eq] at hk
    obtain ⟨rfl, hk⟩ := hk
    exact lv_lconst hx hb hdg hk (kk ls hL)
  · cases h
    simp only [mm_k0, Bool.and_eq_true, beq_iff_eq, decide_eq_true_eq] at hk
    obtain ⟨rfl, hk⟩ := hk
    exact lv_ldc2 hx hb hown (mm_gw hts hk rfl) hdg (kk ls hL)
  · split at h
    · cases h
      simp only [mm_k0, beq_iff_eq] at hk
      subst hk
      rename_i hv
      exact lv_iload_n hx hb hdg rfl (hL.2.2.2 _ _ hv) (kk ls hL)
    · cases h
  · split at h
    · cases h
      simp only [mm_k0, beq_iff_eq] at hk
      subst hk
      rename_i hv
      exact lv_iload hx hb hdg (hL.2.2.2 _ _ hv) (kk ls hL)
    · cases h
  · split at h
    · cases h
      simp only [mm_k0, beq_iff_eq] at hk
      subst hk
      rename_i hv
      exact lv_lload_n hx hb hdg rfl (hL.2.2.2 _ _ hv) (kk ls hL)
    · cases h
  · split at h
    · cases h
      simp only [mm_k0, beq_iff_eq] at hk
      subst hk
      rename_i hv
      exact lv_lload hx hb hdg (hL.2.2.2 _ _ hv) (kk ls hL)
    · cases h
  · split at h
    · cases h
      simp only [mm_k0, beq_iff_eq] at hk
      subst hk
      rename_i x hv
      have h1 := hL.2.2.2 _ _ hv
      have k1 := kk ls hL
      rw [List.map_cons] at k1
      rcases mm_rl_ref g x with hr | ⟨a, hr⟩
      · rw [hr] at h1 k1
        exact lv_aload_nN hx hb hdg rfl h1 k1
      · rw [hr] at h1 k1
        exact lv_aload_n hx hb hdg rfl h1 k1
    · cases h
  · split at h
    · cases h
      simp only [mm_k0, beq_iff_eq] at hk
      subst hk
      rename_i x hv
      have h1 := hL.2.2.2 _ _ hv
      have k1 := kk ls hL
      rw [List.map_cons] at k1
      rcases mm_rl_ref g x with hr | ⟨a, hr⟩
      · rw [hr] at h1 k1
        exact lv_aloadN hx hb hdg h1 k1
      · rw [hr] at h1 k1
        exact lv_aload hx hb hdg h1 k1
    · cases h
  · split at h
    · split at h
      · cases h
        simp only [mm_k0, Bool.and_eq_true, beq_iff_eq, decide_eq_true_eq] at hk
        obtain ⟨rfl, hk⟩ := hk
        rename_i x hv b hok
        have hmem := mm_as_mem (g := g) hv
        obtain ⟨q, hq⟩ := List.getElem?_of_mem hmem
        have hlt := (List.getElem?_eq_some_iff.mp hv).1
        rw [hL.2.2.1] at hlt
        exact lv_iinc hx hb hdg hL.has hq (by rw [hk]) hlt rfl (fun ls' hl' => kk ls' (mm_L.st1 hL.2.2.1 hok hl'))
      · cases h
    · cases h
  · cases h
set_option maxHeartbeats 4000000 in
theorem mm_p2_W (hx : p.tables.exec = Jvm.exec) (hb : c.code = cc) {ins : Instr} {y z len : Nat} {L L' : mm_Lo} {st st' : List Value} (h : mm_p2 ins L st = some (L', st')) (hk : mm_k0 own ins len y z = true) (hdg : decode cc pc = .ok (ins, len)) (hL : mm_L g ls nL L)
    (kk : ∀ ls', mm_L g ls' nL L' → W p l e R s m args below meth c H locs cells slots Q (F0 m (pc + len) ls' (st'.map (mm_rl g)))) : W p l e R s m args below meth c H locs cells slots Q (F0 m pc ls (st.map (mm_rl g))) := by
  have hlt : ∀ k, mm_ok1 L k = true → k < nL := by
    intro k hok
    unfold mm_ok1 at hok
    rw [Bool.and_eq_true] at hok
    rw [← hL.2.2.1]
    exact of_decide_eq_true hok.1
  unfold mm_p2 at h
  split at h
  · split at h
    · unfold mm_st1 at h
      split at h
      · rename_i hok
        cases h
        simp only [mm_k0, beq_iff_eq] at hk
        subst hk
        exact lv_istore_n hx hb hdg rfl hL.has (hlt _ hok) rfl (fun ls' hl' => kk ls' (mm_L.st1 hL.2.2.1 hok hl'))
      · cases h
    · cases h
  · split at h
    · unfold mm_st1 at h
      split at h
      · rename_i hok
        cases h
        simp only [mm_k0, beq_iff_eq] at hk
        subst hk
        exact lv_istore hx hb hdg hL.has (hlt _ hok) rfl (fun ls' hl' => kk ls' (mm_L.st1 hL.2.2.1 hok hl'))
      · cases h
    · cases h
  · split at h
    · rename_i x st2
      unfold mm_st1 at h
      split at h
      · rename_i hok
        cases h
        simp only [mm_k0, beq_iff_eq] at hk
        subst hk
        have k1 := fun ls' hl' => kk ls' (mm_L.st1 (v := .ref x) hL.2.2.1 hok hl')
        rw [List.map_cons]
        rcases mm_rl_ref g x with hr | ⟨a, hr⟩
        · rw [hr] at k1 ⊢
          exact lv_astore_nN hx hb hdg rfl hL.has (hlt _ hok) rfl k1
        · rw [hr] at k1 ⊢
          exact lv_astore_n hx hb hdg rfl hL.has (hlt _ hok) rfl k1
      · cases h
    · cases h
  · split at h
    · rename_i x st2
      unfold mm_st1 at h
      split at h
      · rename_i hok
        cases h
        simp only [mm_k0, beq_iff_eq] at hk
        subst hk
        have k1 := fun ls' hl' => kk ls' (mm_L.st1 (v := .ref x) hL.2.2.1 hok hl')
        rw [List.map_cons]
        rcases mm_rl_ref g x with hr | ⟨a, hr⟩
        · rw [hr] at k1 ⊢
          exact lv_astoreN hx hb hdg hL.has (hlt _ hok) rfl k1
        · rw [hr] at k1 ⊢
          exact lv_astore hx hb hdg hL.has (hlt _ hok) rfl k1
      · cases h
    · cases h
  · split at h
    · unfold mm_st2 at h
      split at h
      · rename_i hok
        cases h
        simp only [mm_k0, beq_iff_eq] at hk
        subst hk
        simp only [Bool.and_eq_true, decide_eq_true_eq] at hok
        exact lv_lstore_n hx hb hdg rfl hL.has (by rw [← hL.2.2.1]; exact hok.2) rfl (fun ls' hl' => kk ls' (mm_L.st2 hL.2.2.1 hok.1 hok.2 hl'))
      · cases h
    · cases h
  · split at h
    · unfold mm_st2 at h
      split at h
      · rename_i hok
        cases h
        simp only [mm_k0, beq_iff_eq] at hk
        subst hk
        simp only [Bool.and_eq_true, decide_eq_true_eq] at hok
        exact lv_lstore hx hb hdg hL.has (by rw [← hL.2.2.1]; exact hok.2) rfl (fun ls' hl' => kk ls' (mm_L.st2 hL.2.2.1 hok.1 hok.2 hl'))
      · cases h
    · cases h
  · split at h
    · cases h
      simp only [mm_k0, beq_iff_eq] at hk
      subst hk
      exact lv_dup hx hb hdg rfl (kk ls hL)
    · cases h
      simp only [mm_k0, beq_iff_eq] at hk
      subst hk
      exact lv_dup hx hb hdg (by rw [mm_rl_cat]; rfl) (kk ls hL)
    · cases h
  · split at h
    · cases h
      simp only [mm_k0, beq_iff_eq] at hk
      subst hk
      exact lv_dup2_11 hx hb hdg rfl (by rw [mm_rl_cat]; rfl) (kk ls hL)
    · cases h
  · split at h
    · cases h
      simp only [mm_k0, beq_iff_eq] at hk
      subst hk
      exact lv_pop hx hb hdg rfl (kk ls hL)
    · cases h
  · cases h
set_option maxHeartbeats 4000000 in
theorem mm_p3_W (hx : p.tables.exec = Jvm.exec) (hb : c.code = cc) {ins : Instr} {y z len : Nat} {st st' : List Value} (h : mm_p3 ins st = some st') (hk : mm_k0 own ins len y z = true) (hdg : decode cc pc = .ok (ins, len))
    (kk : W p l e R s m args below meth c H locs cells slots Q (F0 m (pc + len) ls (st'.map (mm_rl g)))) : W p l e R s m args below meth c H locs cells slots Q (F0 m pc ls (st.map (mm_rl g))) := by
  unfold mm_p3 at h
  split at h
  · split at h
    · cases h
      simp only [mm_k0, beq_iff_eq] at hk
      subst hk
      exact lv_iadd hx hb hdg kk
    · cases h
  · split at h
    · cases h
      simp only [mm_k0, beq_iff_eq] at hk
      subst hk
      exact lv_isub hx hb hdg kk
    · cases h
  · split at h
    · cases h
      simp only [mm_k0, beq_iff_eq] at hk
      subst hk
      exact lv_imul hx hb hdg kk
    · cases h
  · split at h
    · split at h
      · cases h
      · rename_i hne
        cases h
        simp only [mm_k0, beq_iff_eq] at hk
        subst hk
        exact lv_idiv hx hb hdg (of_decide_eq_false hne) kk
    · cases h
  · split at h
    · split at h
      · cases h
      · rename_i hne
        cases h
        simp only [mm_k0, beq_iff_eq] at hk
        subst hk
        exact lv_irem hx hb hdg (of_decide_eq_false hne) kk
    · cases h
  · split at h
    · cases h
      simp only [mm_k0, beq_iff_eq] at hk
      subst hk
      exact lv_ineg hx hb hdg kk
    · cases h
  · split at h
    · cases h
      simp only [mm_k0, beq_iff_eq] at hk
      subst hk
      exact lv_iand hx hb hdg kk
    · cases h
  · split at h
    · cases h
      simp only [mm_k0, beq_iff_eq] at hk
      subst hk
      exact lv_ior hx hb hdg kk
    · cases h
  · split at h
    · cases h
      simp only [mm_k0, beq_iff_eq] at hk
      subst hk
      exact lv_ixor hx hb hdg kk
    · cases h
  · split at h
    · cases h
      simp only [mm_k0, beq_iff_eq] at hk
      subst hk
      exact lv_ishl hx hb hdg kk
    · cases h
  · split at h
    · cases h
      simp only [mm_k0, beq_iff_eq] at hk
      subst hk
      exact lv_ishr hx hb hdg kk
    · cases h
  · split at h
    · cases h
      simp only [mm_k0, beq_iff_eq] at hk
      subst hk
      exact lv_iushr hx hb hdg rfl kk
    · cases h
  · split at h
    · cases h
      simp only [mm_k0, beq_iff_eq] at hk
      subst hk
      exact lv_ladd hx hb hdg kk
    · cases h
  · split at h
    · cases h
      simp only [mm_k0, beq_iff_eq] at hk
      subst hk
      exact lv_lmul hx hb hdg kk
    · cases h
  · split at h
    · cases h
      simp only [mm_k0, beq_iff_eq] at hk
      subst hk
      exact W.lcmp hx hb hdg kk
    · cases h
  · split at h
    · cases h
      simp only [mm_k0, beq_iff_eq] at hk
      subst hk
      exact lv_i2l hx hb hdg rfl kk
    · cases h
  · split at h
    · cases h
      simp only [mm_k0, beq_iff_eq] at hk
      subst hk
      exact lv_i2b hx hb hdg rfl kk
    · cases h
  · split at h
    · cases h
      simp only [mm_k0, beq_iff_eq] at hk
      subst hk
      exact lv_i2s hx hb hdg rfl kk
    · cases h
  · cases h
theorem mm_pure_W (hx : p.tables.exec = Jvm.exec) (hb : c.code = cc) (hown : s.vm.findClass own = some m.cls) (hts : ∀ w ∈ mm_gt, w.before args s = true) {ins : Instr} {y z len : Nat} {L L' : mm_Lo} {st st' : List Value} (h : mm_pure ins y L st = some (L', st')) (hk : mm_k0 own ins len y z = true) (hdg : decode cc pc = .ok (ins, len)) (hL : mm_L g ls nL L)
    (kk : ∀ ls', mm_L g ls' nL L' → W p l e R s m args below meth c H locs cells slots Q (F0 m (pc + len) ls' (st'.map (mm_rl g)))) : W p l e R s m args below meth c H locs cells slots Q (F0 m pc ls (st.map (mm_rl g))) := by
  unfold mm_pure at h
  split at h
  · rename_i r h1
    cases h
    exact mm_p1_W hx hb hown hts h1 hk hdg hL kk
  · split at h
    · rename_i r h1
      cases h
      exact mm_p2_W hx hb h1 hk hdg hL kk
    · split at h
      · rename_i r h1
        cases h
        exact mm_p3_W hx hb h1 hk hdg (kk ls hL)
      · cases h
/-- a branch -/
theorem mm_br_W (hx : p.tables.exec = Jvm.exec) (hb : c.code = cc) {ins : Instr} {tgt : Nat} {b : Bool} {st st' : List Value} (h : mm_br ins st = some (b, st')) (hk : mm_kb ins pc tgt = true) (hdg : decode cc pc = .ok (ins, 3))
    (kk : W p l e R s m args below meth c H locs cells slots Q (F0 m (if b then tgt else pc + 3) ls (st'.map (mm_rl g)))) : W p l e R s m args below meth c H locs cells slots Q (F0 m pc ls (st.map (mm_rl g))) := by
  unfold mm_br at h
  split at h
  · split at h
    · rename_i cd off _ x st2
      cases h
      have ht := of_decide_eq_true (show decide ((pc : Int) + off = (tgt : Nat)) = true from hk)
      cases cd
      · refine lv_if_eq hx hb hdg ht (fun q => ?_) (fun q => ?_)
        · simpa [mm_cmp, q] using kk
        · simpa [mm_cmp, q] using kk
      · refine lv_if_ne hx hb hdg ht (fun q => ?_) (fun q => ?_)
        · simpa [mm_cmp, q] using kk
        · simpa [mm_cmp, q] using kk
      · refine lv_if_lt hx hb hdg ht (fun q => ?_) (fun q => ?_)
        · simpa [mm_cmp, q] using kk
        · simpa [mm_cmp, q] using kk
      · refine lv_if_ge hx hb hdg ht (fun q => ?_) (fun q => ?_)
        · simpa [mm_cmp, q] using kk
        · simpa [mm_cmp, q] using kk
      · refine lv_if_gt hx hb hdg ht (fun q => ?_) (fun q => ?_)
        · simpa [mm_cmp, q] using kk
        · simpa [mm_cmp, q] using kk
      · refine lv_if_le hx hb hdg ht (fun q => ?_) (fun q => ?_)
        · simpa [mm_cmp, q] using kk
        · simpa [mm_cmp, q] using kk
    · cases h
  · split at h
    · rename_i cd off _ y x st2
      cases h
      have ht := of_decide_eq_true (show decide ((pc : Int) + off = (tgt : Nat)) = true from hk)
      cases cd
      · refine lv_icmp_eq hx hb hdg ht (fun q => ?_) (fun q => ?_)
        · simpa [mm_cmp, q] using kk
        · simpa [mm_cmp, q] using kk
      · refine lv_icmp_ne hx hb hdg ht (fun q => ?_) (fun q => ?_)
        · simpa [mm_cmp, q] using kk
        · simpa [mm_cmp, q] using kk
      · refine lv_icmp_lt hx hb hdg ht (fun q => ?_) (fun q => ?_)
        · simpa [mm_cmp, q] using kk
        · simpa [mm_cmp, q] using kk
      · refine lv_icmp_ge hx hb hdg ht (fun q => ?_) (fun q => ?_)
        · simpa [mm_cmp, q] using kk
        · simpa [mm_cmp, q] using kk
      · refine lv_icmp_gt hx hb hdg ht (fun q => ?_) (fun q => ?_)
        · simpa [mm_cmp, q] using kk
        · simpa [mm_cmp, q] using kk
      · refine lv_icmp_le hx hb hdg ht (fun q => ?_) (fun q => ?_)
        · simpa [mm_cmp, q] using kk
        · simpa [mm_cmp, q] using kk
    · cases h
  · cases h
end MMP
end
section
/-! THE CELLS -/
def mm_fs (g : mm_G) (c : Nat) (rk : Nat → Nat) (ik : Nat → Int32) : List Value := (List.range (mm_N c)).map fun j => if mm_fk c j = 2 then va_rf (mm_q g (rk j)) else .int (ik j)
def mm_E (g : mm_G) (kd : Nat × Nat) (rk : Nat → Nat) (ik : Nat → Int32) : va_E :=
  if kd.1 = 1 then .inl (g.2.1 1, kd.2, .inl ik)
  else if kd.1 ≤ 4 then .inl (g.2.1 kd.1, kd.2, .inr (.inr (.inr (.inr (fun i => mm_q g (rk i))))))
  else .inr (kd.1 - 10, mm_fs g (kd.1 - 10) rk ik)
def mm_Ec (g : mm_G) (μ : mm_M) (k : Nat) : Nat × va_E := (g.2.2.1 + k, mm_E g (μ.2.1 k) (μ.2.2.1 k) (μ.2.2.2 k))
def mm_ws (g : mm_G) (μ : mm_M) : va_W := (List.range (μ.1 - 1)).map fun k => mm_Ec g μ (k + 1)
/-- the heap holds the memory -/
def mm_R (g : mm_G) (μ : mm_M) (H : Heap) : Prop := 1 ≤ μ.1 ∧ H.size = g.2.2.1 + μ.1 ∧ va_P g.1 vwCl (mm_ws g μ) H
theorem mm_ws_get {g : mm_G} {μ : mm_M} {a : Nat} (h0 : 1 ≤ a) (h1 : a < μ.1) : (mm_ws g μ)[a - 1]? = some (mm_Ec g μ a) := by
  unfold mm_ws
  rw [List.getElem?_map, List.getElem?_range (by omega)]
  show some (mm_Ec g μ (a - 1 + 1)) = _
  rw [show a - 1 + 1 = a by omega]
theorem mm_ws_inv {g : mm_G} {μ : mm_M} {k : Nat} {q : Nat × va_E} (h : (mm_ws g μ)[k]? = some q) : k + 1 < μ.1 ∧ q = mm_Ec g μ (k + 1) := by
  unfold mm_ws at h
  rw [List.getElem?_map] at h
  by_cases hk : k < μ.1 - 1
  · rw [List.getElem?_range hk] at h
    cases h
    exact ⟨by omega, rfl⟩
  · rw [List.getElem?_eq_none (by rw [List.length_range]; omega)] at h
    cases h
theorem mm_wsD (g : mm_G) (μ : mm_M) : va_D (mm_A g) (mm_ws g μ) := by
  refine ⟨fun i j x y hi hj hxy => ?_, fun k x hk => ?_⟩
  · obtain ⟨-, rfl⟩ := mm_ws_inv hi
    obtain ⟨-, rfl⟩ := mm_ws_inv hj
    have : g.2.2.1 + (i + 1) = g.2.2.1 + (j + 1) := hxy
    omega
  · obtain ⟨-, rfl⟩ := mm_ws_inv hk
    show g.2.2.1 < g.2.2.1 + (k + 1)
    omega
/-- one cell changes -/
theorem mm_ws_set {g : mm_G} {μ μ' : mm_M} {a : Nat} (h0 : 1 ≤ a) (h1 : a < μ.1) (hn : μ'.1 = μ.1) (hk : ∀ k, k ≠ a → mm_Ec g μ' k = mm_Ec g μ k) : (mm_ws g μ).set (a - 1) (mm_Ec g μ' a) = mm_ws g μ' := by
  apply List.ext_getElem?
  intro k
  by_cases hka : k = a - 1
  · subst hka
    rw [List.getElem?_set_self (by unfold mm_ws; rw [List.length_map, List.length_range]; omega), mm_ws_get h0 (by rw [hn]; exact h1)]
  · rw [List.getElem?_set_ne (Ne.symm hka)]
    by_cases hlt : k + 1 < μ.1
    · have e1 := mm_ws_get (g := g) (μ := μ) (a := k + 1) (by omega) hlt
      have e2 := mm_ws_get (g := g) (μ := μ') (a := k + 1) (by omega) (by rw [hn]; exact hlt)
      rw [show k + 1 - 1 = k by omega] at e1 e2
      rw [e1, e2, hk (k + 1) (by omega)]
    · rw [List.getElem?_eq_none (by unfold mm_ws; rw [List.length_map, List.length_range]; omega), List.getElem?_eq_none (by unfold mm_ws; rw [List.length_map, List.length_range, hn]; omega)]
/-- a cell comes -/
theorem mm_ws_new {g : mm_G} {μ μ' : mm_M} (h0 : 1 ≤ μ.1) (hn : μ'.1 = μ.1 + 1) (hk : ∀ k, k ≠ μ.1 → mm_Ec g μ' k = mm_Ec g μ k) : mm_ws g μ ++ [mm_Ec g μ' μ.1] = mm_ws g μ' := by
  have hl : (mm_ws g μ).length = μ.1 - 1 := by unfold mm_ws; rw [List.length_map, List.length_range]
  apply List.ext_getElem?
  intro k
  by_cases h1 : k < μ.1 - 1
  · rw [List.getElem?_append_left (by rw [hl]; exact h1)]
    have e1 := mm_ws_get (g := g) (μ := μ) (a := k + 1) (by omega) (by omega)
    have e2 := mm_ws_get (g := g) (μ := μ') (a := k + 1) (by omega) (by omega)
    rw [show k + 1 - 1 = k by omega] at e1 e2
    rw [e1, e2, hk (k + 1) (by omega)]
  · by_cases h2 : k = μ.1 - 1
    · subst h2
      rw [List.getElem?_append_right (by rw [hl]; exact Nat.le_refl _), hl, Nat.sub_self]
      have e2 := mm_ws_get (g := g) (μ := μ') (a := μ.1) h0 (by omega)
      rw [e2]
      rfl
    · rw [List.getElem?_eq_none (by rw [List.length_append, hl]; simp; omega), List.getElem?_eq_none (by unfold mm_ws; rw [List.length_map, List.length_range, hn]; omega)]
theorem mm_kd_in {μ : mm_M} {a t : Nat} (h : (mm_kd μ a).1 = t) (ht : 1 ≤ t) : 1 ≤ a ∧ a < μ.1 ∧ a < 1000000 ∧ mm_kd μ a = μ.2.1 a := by
  unfold mm_kd at h ⊢
  by_cases hc : 1 ≤ a ∧ a < μ.1 ∧ a < 1000000
  · rw [if_pos hc]
    exact ⟨hc.1, hc.2.1, hc.2.2, rfl⟩
  · rw [if_neg hc] at h
    exfalso
    have : (0 : Nat) = t := h
    omega
theorem mm_E_i {g : mm_G} {kd : Nat × Nat} {rk : Nat → Nat} {ik : Nat → Int32} (h : kd.1 = 1) : mm_E g kd rk ik = .inl (g.2.1 1, kd.2, .inl ik) := by
  unfold mm_E
  rw [if_pos h]
theorem mm_E_q {g : mm_G} {kd : Nat × Nat} {rk : Nat → Nat} {ik : Nat → Int32} (h : 2 ≤ kd.1) (h2 : kd.1 ≤ 4) : mm_E g kd rk ik = .inl (g.2.1 kd.1, kd.2, .inr (.inr (.inr (.inr (fun i => mm_q g (rk i)))))) := by
  unfold mm_E
  rw [if_neg (by omega), if_pos h2]
theorem mm_E_o {g : mm_G} {kd : Nat × Nat} {rk : Nat → Nat} {ik : Nat → Int32} {x : Nat} (h : kd.1 = 10 + x) : mm_E g kd rk ik = .inr (x, mm_fs g x rk ik) := by
  unfold mm_E
  rw [if_neg (by omega), if_neg (by omega), show kd.1 - 10 = x by omega]
theorem mm_fs_get {g : mm_G} {x y : Nat} {rk : Nat → Nat} {ik : Nat → Int32} (hy : y < mm_N x) : (mm_fs g x rk ik)[y]? = some (if mm_fk x y = 2 then va_rf (mm_q g (rk y)) else .int (ik y)) := by
  unfold mm_fs
  rw [List.getElem?_map, List.getElem?_range hy]
  rfl
theorem mm_fs_len (g : mm_G) (x : Nat) (rk : Nat → Nat) (ik : Nat → Int32) : (mm_fs g x rk ik).length = mm_N x := by
  unfold mm_fs
  rw [List.length_map, List.length_range]
theorem mm_fs_seti {g : mm_G} {x y : Nat} {rk : Nat → Nat} {ik : Nat → Int32} {v : Int32} (hy : y < mm_N x) (hf : mm_fk x y ≠ 2) : (mm_fs g x rk ik).set y (.int v) = mm_fs g x rk (fun j => if j = y then v else ik j) := by
  apply List.ext_getElem?
  intro k
  by_cases hk : k = y
  · subst hk
    rw [List.getElem?_set_self (by rw [mm_fs_len]; exact hy), mm_fs_get hy, if_neg hf, if_pos rfl]
  · rw [List.getElem?_set_ne (Ne.symm hk)]
    by_cases hl : k < mm_N x
    · rw [mm_fs_get hl, mm_fs_get hl, if_neg hk]
    · rw [List.getElem?_eq_none (by rw [mm_fs_len]; omega), List.getElem?_eq_none (by rw [mm_fs_len]; omega)]
theorem mm_fs_setr {g : mm_G} {x y : Nat} {rk : Nat → Nat} {ik : Nat → Int32} {q : Nat} (hy : y < mm_N x) (hf : mm_fk x y = 2) : (mm_fs g x rk ik).set y (va_rf (mm_q g q)) = mm_fs g x (fun j => if j = y then q else rk j) ik := by
  apply List.ext_getElem?
  intro k
  by_cases hk : k = y
  · subst hk
    rw [List.getElem?_set_self (by rw [mm_fs_len]; exact hy), mm_fs_get hy, if_pos hf, if_pos rfl]
  · rw [List.getElem?_set_ne (Ne.symm hk)]
    by_cases hl : k < mm_N x
    · rw [mm_fs_get hl, mm_fs_get hl, if_neg hk]
    · rw [List.getElem?_eq_none (by rw [mm_fs_len]; omega), List.getElem?_eq_none (by rw [mm_fs_len]; omega)]
end
section
/-! String.charAt of the one text constant -/
/-- what is known of the text: its object at q, its bytes at v -/
def mm_T (q v : Nat) (A : Nat → Prop) (U : State) (H : Heap) : Prop := va_O "java/lang/String" q A U H ∧ va_OF "java/lang/String" "coder" "B" (.int 0) q A U H ∧ va_OF "java/lang/String" "value" "[B" (.ref v) q A U H ∧ va_T .byte v 9 (fun j => .int (nI (mm_tx.getD j 0))) A U H ∧ va_Z "java/lang/String" "COMPACT_STRINGS" "Z" (.int 1) A U H ∧ va_Zq "jdk/internal/util/Preconditions" "SIOOBE_FORMATTER" "Ljava/util/function/BiFunction;" A U H
theorem mm_T.moved {q v : Nat} {A : Nat → Prop} {u U : State} {H : Heap} (hvm : u.vm.Alike U.vm) (h : mm_T q v A u H) : mm_T q v A U H :=
  ⟨va_O.moved hvm h.1, va_OF.moved hvm h.2.1, va_OF.moved hvm h.2.2.1, va_T.moved hvm h.2.2.2.1, va_Z.moved hvm h.2.2.2.2.1, va_Zq.moved hvm h.2.2.2.2.2⟩
theorem mm_T.kept {q v : Nat} {A : Nat → Prop} {U : State} {H H1 : Heap} (h : mm_T q v A U H) (hq : ∀ a : Nat, a < H.size → ¬ A a → H1[a]? = H[a]?) : mm_T q v A U H1 :=
  ⟨h.1.kept hq, h.2.1.kept hq, h.2.2.1.kept hq, h.2.2.2.1.kept hq, h.2.2.2.2.1.kept hq, h.2.2.2.2.2.kept hq⟩
theorem dJ0_charAt_5068e_0 : decode cJ0_charAt_5068e 0 = .ok (.aload_n 0, 1) := by decide +kernel
theorem dJ0_charAt_5068e_1 : decode cJ0_charAt_5068e 1 = .ok (.invokevirtual 492, 3) := by decide +kernel
theorem dJ0_charAt_5068e_4 : decode cJ0_charAt_5068e 4 = .ok (.ifCond .eq 12, 3) := by decide +kernel
theorem dJ0_charAt_5068e_7 : decode cJ0_charAt_5068e 7 = .ok (.aload_n 0, 1) := by decide +kernel
theorem dJ0_charAt_5068e_8 : decode cJ0_charAt_5068e 8 = .ok (.getfield 9, 3) := by decide +kernel
theorem dJ0_charAt_5068e_11 : decode cJ0_charAt_5068e 11 = .ok (.iload_n 1, 1) := by decide +kernel
theorem dJ0_charAt_5068e_12 : decode cJ0_charAt_5068e 12 = .ok (.invokestatic 495, 3) := by decide +kernel
theorem dJ0_charAt_5068e_15 : decode cJ0_charAt_5068e 15 = .ok (.ireturn, 1) := by decide +kernel
theorem dJ0_charAt_5068e_16 : decode cJ0_charAt_5068e 16 = .ok (.aload_n 0, 1) := by decide +kernel
theorem dJ0_charAt_5068e_17 : decode cJ0_charAt_5068e 17 = .ok (.getfield 9, 3) := by decide +kernel
theorem dJ0_charAt_5068e_20 : decode cJ0_charAt_5068e 20 = .ok (.iload_n 1, 1) := by decide +kernel
theorem dJ0_charAt_5068e_21 : decode cJ0_charAt_5068e 21 = .ok (.invokestatic 498, 3) := by decide +kernel
theorem dJ0_charAt_5068e_24 : decode cJ0_charAt_5068e 24 = .ok (.ireturn, 1) := by decide +kernel
theorem dJ0_isLatin1_aae02_0 : decode cJ0_isLatin1_aae02 0 = .ok (.getstatic 38, 3) := by decide +kernel
theorem dJ0_isLatin1_aae02_3 : decode cJ0_isLatin1_aae02 3 = .ok (.ifCond .eq 14, 3) := by decide +kernel
theorem dJ0_isLatin1_aae02_6 : decode cJ0_isLatin1_aae02 6 = .ok (.aload_n 0, 1) := by decide +kernel
theorem dJ0_isLatin1_aae02_7 : decode cJ0_isLatin1_aae02 7 = .ok (.getfield 15, 3) := by decide +kernel
theorem dJ0_isLatin1_aae02_10 : decode cJ0_isLatin1_aae02 10 = .ok (.ifCond .ne 7, 3) := by decide +kernel
theorem dJ0_isLatin1_aae02_13 : decode cJ0_isLatin1_aae02 13 = .ok (.iconst 1, 1) := by decide +kernel
theorem dJ0_isLatin1_aae02_14 : decode cJ0_isLatin1_aae02 14 = .ok (.goto 4, 3) := by decide +kernel
theorem dJ0_isLatin1_aae02_17 : decode cJ0_isLatin1_aae02 17 = .ok (.iconst 0, 1) := by decide +kernel
theorem dJ0_isLatin1_aae02_18 : decode cJ0_isLatin1_aae02 18 = .ok (.ireturn, 1) := by decide +kernel
theorem dJ0_checkIndex_df160_0 : decode cJ0_checkIndex_df160 0 = .ok (.iload_n 0, 1) := by decide +kernel
theorem dJ0_checkIndex_df160_1 : decode cJ0_checkIndex_df160 1 = .ok (.iload_n 1, 1) := by decide +kernel
theorem dJ0_checkIndex_df160_2 : decode cJ0_checkIndex_df160 2 = .ok (.getstatic 1053, 3) := by decide +kernel
theorem dJ0_checkIndex_df160_5 : decode cJ0_checkIndex_df160 5 = .ok (.invokestatic 1059, 3) := by decide +kernel
theorem dJ0_checkIndex_df160_8 : decode cJ0_checkIndex_df160 8 = .ok (.pop, 1) := by decide +kernel
theorem dJ0_checkIndex_df160_9 : decode cJ0_checkIndex_df160 9 = .ok (.return_, 1) := by decide +kernel
theorem dJ1_charAt_3b067_0 : decode cJ1_charAt_3b067 0 = .ok (.iload_n 1, 1) := by decide +kernel
theorem dJ1_charAt_3b067_1 : decode cJ1_charAt_3b067 1 = .ok (.aload_n 0, 1) := by decide +kernel
theorem dJ1_charAt_3b067_2 : decode cJ1_charAt_3b067 2 = .ok (.arraylength, 1) := by decide +kernel
theorem dJ1_charAt_3b067_3 : decode cJ1_charAt_3b067 3 = .ok (.invokestatic 9, 3) := by decide +kernel
theorem dJ1_charAt_3b067_6 : decode cJ1_charAt_3b067 6 = .ok (.aload_n 0, 1) := by decide +kernel
theorem dJ1_charAt_3b067_7 : decode cJ1_charAt_3b067 7 = .ok (.iload_n 1, 1) := by decide +kernel
theorem dJ1_charAt_3b067_8 : decode cJ1_charAt_3b067 8 = .ok (.baload, 1) := by decide +kernel
theorem dJ1_charAt_3b067_9 : decode cJ1_charAt_3b067 9 = .ok (.sipush 255, 3) := by decide +kernel
theorem dJ1_charAt_3b067_12 : decode cJ1_charAt_3b067 12 = .ok (.iand, 1) := by decide +kernel
theorem dJ1_charAt_3b067_13 : decode cJ1_charAt_3b067 13 = .ok (.i2c, 1) := by decide +kernel
theorem dJ1_charAt_3b067_14 : decode cJ1_charAt_3b067 14 = .ok (.ireturn, 1) := by decide +kernel
theorem dJ3_checkIndex_8e157_0 : decode cJ3_checkIndex_8e157 0 = .ok (.iload_n 0, 1) := by decide +kernel
theorem dJ3_checkIndex_8e157_1 : decode cJ3_checkIndex_8e157 1 = .ok (.ifCond .lt 8, 3) := by decide +kernel
theorem dJ3_checkIndex_8e157_4 : decode cJ3_checkIndex_8e157 4 = .ok (.iload_n 0, 1) := by decide +kernel
theorem dJ3_checkIndex_8e157_5 : decode cJ3_checkIndex_8e157 5 = .ok (.iload_n 1, 1) := by decide +kernel
theorem dJ3_checkIndex_8e157_6 : decode cJ3_checkIndex_8e157 6 = .ok (.if_icmp .lt 10, 3) := by decide +kernel
theorem dJ3_checkIndex_8e157_9 : decode cJ3_checkIndex_8e157 9 = .ok (.aload_n 2, 1) := by decide +kernel
theorem dJ3_checkIndex_8e157_10 : decode cJ3_checkIndex_8e157 10 = .ok (.iload_n 0, 1) := by decide +kernel
theorem dJ3_checkIndex_8e157_11 : decode cJ3_checkIndex_8e157 11 = .ok (.iload_n 1, 1) := by decide +kernel
theorem dJ3_checkIndex_8e157_12 : decode cJ3_checkIndex_8e157 12 = .ok (.invokestatic 95, 3) := by decide +kernel
theorem dJ3_checkIndex_8e157_15 : decode cJ3_checkIndex_8e157 15 = .ok (.athrow, 1) := by decide +kernel
theorem dJ3_checkIndex_8e157_16 : decode cJ3_checkIndex_8e157 16 = .ok (.iload_n 0, 1) := by decide +kernel
theorem dJ3_checkIndex_8e157_17 : decode cJ3_checkIndex_8e157 17 = .ok (.ireturn, 1) := by decide +kernel
def mm_wJ (y : MethodName) (cc : ByteArray) (n : Nat) (r : Option FieldType) : List Jvm.Cond := .code y cc n r :: mm_gt
set_option maxHeartbeats 4000000 in
set_option maxRecDepth 100000 in
/-- Preconditions.checkIndex(i, n, f): i -/
theorem mm_chkP (l : Launch) (i n : Int32) (v : Value) (hv : v.category = 1) (h0 : ¬ i < 0) (h1 : i < n) : Met l yJ3_checkIndex_8e157 (mm_wJ yJ3_checkIndex_8e157 cJ3_checkIndex_8e157 3 (some .int)) ({ frames := 0, cells := 0, slots := 0, locals := 0 }) (va_Pc [.int i, .int n, v] (fun _ => True)) (vp_Si (fun r => r = i)) 0 0 (fun _ => False) := by
  refine va_MetF (cc := cJ3_checkIndex_8e157) (maxL := 3) (ret := some .int) (by decide +kernel) rfl ?_
  intro p e s m args below meth c s₁ B hml hpc
  obtain ⟨rfl, -⟩ := hpc
  have hx := B.exec
  have hb := B.bytes
  have hr := B.returns
  have hlocks := B.notSynchronized
  have hl := lv_entry ([.int i, .int n, v]) (n := 3) (by
    have e1 : ¬ (Value.int i).category = 2 := fun h => by cases h
    have e2 : ¬ (Value.int n).category = 2 := fun h => by cases h
    have e3 : ¬ v.category = 2 := by rw [hv]; exact fun h => by cases h
    simp only [lg_sl, List.flatMap_cons, List.flatMap_nil, e1, e2, e3, if_false]
    exact Nat.le_refl _)
  rw [lg_entry_eq]
  generalize (lg_sl ([.int i, .int n, v]) ++ List.replicate (3 - (lg_sl ([.int i, .int n, v])).length) Slot.unset).toArray = ls at hl ⊢
  refine lv_iload_n hx hb (k := 0) (i := 0) dJ3_checkIndex_8e157_0 rfl (lv_at hl 0 rfl) ?_
  refine lv_if_lt hx hb (tgt := 9) (off := 8) dJ3_checkIndex_8e157_1 (by decide) (fun q => absurd q h0) (fun _ => ?_)
  refine lv_iload_n hx hb (k := 0) (i := 0) dJ3_checkIndex_8e157_4 rfl (lv_at hl 0 rfl) ?_
  refine lv_iload_n hx hb (k := 1) (i := 1) dJ3_checkIndex_8e157_5 rfl (lv_at hl 1 rfl) ?_
  refine lv_icmp_lt hx hb (tgt := 16) (off := 10) dJ3_checkIndex_8e157_6 (by decide) (fun _ => ?_) (fun q => absurd h1 q)
  refine lv_iload_n hx hb (k := 0) (i := 0) dJ3_checkIndex_8e157_16 rfl (lv_at hl 0 rfl) ?_
  exact W.iret (v := i) hx hb hr (fun t ht _ => ⟨i, rfl, rfl, ht⟩) (fun q h => absurd h List.not_mem_nil) dJ3_checkIndex_8e157_17
set_option maxHeartbeats 4000000 in
set_option maxRecDepth 100000 in
/-- String.checkIndex(i, n) -/
theorem mm_chkS (l : Launch) (A : Nat → Prop) (q v : Nat) (i n : Int32) (h0 : ¬ i < 0) (h1 : i < n) : Met l yJ0_checkIndex_df160 (mm_wJ yJ0_checkIndex_df160 cJ0_checkIndex_df160 2 none) ({ frames := 1, cells := 0, slots := 0, locals := 22 }) (va_Pc [.int i, .int n] (fun U => mm_T q v A U U.heap)) (va_Sv (fun _ => True)) 0 0 (fun _ => False) := by
  refine va_MetF (cc := cJ0_checkIndex_df160) (maxL := 2) (ret := none) (by decide +kernel) rfl ?_
  intro p e s m args below meth c s₁ B hml hpc
  obtain ⟨rfl, hT⟩ := hpc
  have hx := B.exec
  have hb := B.bytes
  have hr := B.returns
  have hlocks := B.notSynchronized
  have hts0 := atoms_spec (ws := mm_wJ yJ0_checkIndex_df160 cJ0_checkIndex_df160 2 none) B.pre
  have hts : ∀ w ∈ mm_gt, w.before _ s = true := fun w h => hts0 w (List.mem_cons_of_mem _ h)
  have hown : s.vm.findClass RJ0 = some m.cls := findClass_of_methodNamed B.named
  have hS : va_S A s.heap s.heap [] := va_S.rf
  have hl := lv_entry ([.int i, .int n]) (n := 2) (Nat.le_of_ble_eq_true rfl)
  rw [lg_entry_eq]
  generalize (lg_sl ([.int i, .int n]) ++ List.replicate (2 - (lg_sl ([.int i, .int n])).length) Slot.unset).toArray = ls at hl ⊢
  refine lv_iload_n hx hb (k := 0) (i := 0) dJ0_checkIndex_df160_0 rfl (lv_at hl 0 rfl) ?_
  refine lv_iload_n hx hb (k := 1) (i := 1) dJ0_checkIndex_df160_1 rfl (lv_at hl 1 rfl) ?_
  have key : ∀ f : Value, f.category = 1 → va_Z "jdk/internal/util/Preconditions" "SIOOBE_FORMATTER" "Ljava/util/function/BiFunction;" f A s s.heap → W p l e (headSpec (mm_wJ yJ0_checkIndex_df160 cJ0_checkIndex_df160 2 none) ({ frames := 1, cells := 0, slots := 0, locals := 22 })).room s m #[Value.int i, Value.int n] below meth c s.heap [] 0 0 (MQ below (va_Sv (fun _ => True)) #[Value.int i, Value.int n] s 0 0 (fun _ => False)) (F0 m 2 ls [.int n, .int i]) := by
    intro f hf hZ
    refine va_gets hx hb hZ hS hown (mm_gw hts (z := 460) (w := .fieldLink RJ0 1053 "jdk/internal/util/Preconditions" "SIOOBE_FORMATTER" "Ljava/util/function/BiFunction;") (by decide +kernel) rfl) (fun _ h => h) dJ0_checkIndex_df160_2 ?_
    have hcw : CallB (headSpec (mm_wJ yJ0_checkIndex_df160 cJ0_checkIndex_df160 2 none) ({ frames := 1, cells := 0, slots := 0, locals := 22 })).room s _ RJ0 1059 yJ3_checkIndex_8e157 cJ3_checkIndex_8e157 3 (some .int) (mm_wJ yJ3_checkIndex_8e157 cJ3_checkIndex_8e157 3 (some .int)) ({ frames := 0, cells := 0, slots := 0, locals := 0 }) 0 0 3 := callB_of 3 hts (mm_good (mm_mg (z := 464) (by decide +kernel) rfl)) rfl rfl rfl (mm_gw hts (z := 98) (by decide +kernel) rfl) (mm_gw hts (z := 462) (by decide +kernel) rfl) (by decide +kernel) ⟨Nat.le_of_ble_eq_true rfl, Nat.le_of_ble_eq_true rfl⟩
    refine vp_callSi (W.runS (As := [.int i, .int n, f]) (rest := []) ⟨hx, hb, hml, hown, hts⟩ (mm_chkP l i n f hf h0 h1) ⟨hcw, mm_gw hts (z := 463) (by decide +kernel) rfl⟩ ⟨fun a U g mk z => ⟨z.1, trivial⟩, fun U _ _ => ⟨rfl, trivial⟩⟩ rfl rfl hl.1 rfl (lv_room (Nat.le_of_ble_eq_true rfl)) dJ0_checkIndex_df160_5 ⟨Nat.le_of_ble_eq_true rfl, Nat.le_of_ble_eq_true rfl⟩) (fun r _ => ?_)
    refine lv_pop hx hb dJ0_checkIndex_df160_8 rfl ?_
    exact W.vret hx hb hr (fun t ht _ => ⟨rfl, trivial, ht⟩) (fun q h => absurd h List.not_mem_nil) dJ0_checkIndex_df160_9
  rcases hT.2.2.2.2.2 with hZ | ⟨t, hZ⟩
  · exact key .null rfl hZ
  · exact key (.ref t) rfl hZ
set_option maxHeartbeats 4000000 in
set_option maxRecDepth 100000 in
/-- StringLatin1.charAt(bytes, k) -/
theorem mm_chrL (l : Launch) (A : Nat → Prop) (q v : Nat) (i : Int32) (h0 : ¬ i < 0) (h1 : i < 9) : Met l yJ1_charAt_3b067 (mm_wJ yJ1_charAt_3b067 cJ1_charAt_3b067 2 (some .char)) ({ frames := 2, cells := 0, slots := 0, locals := 43 }) (va_Pc [.ref v, .int i] (fun U => mm_T q v A U U.heap)) (vp_Si (fun r => r = nI (mm_tx.getD i.toNatClampNeg 0))) 0 0 (fun _ => False) := by
  refine va_MetF (cc := cJ1_charAt_3b067) (maxL := 2) (ret := some .char) (by decide +kernel) rfl ?_
  intro p e s m args below meth c s₁ B hml hpc
  obtain ⟨rfl, hT⟩ := hpc
  have hx := B.exec
  have hb := B.bytes
  have hr := B.returns
  have hlocks := B.notSynchronized
  have hts0 := atoms_spec (ws := mm_wJ yJ1_charAt_3b067 cJ1_charAt_3b067 2 (some .char)) B.pre
  have hts : ∀ w ∈ mm_gt, w.before _ s = true := fun w h => hts0 w (List.mem_cons_of_mem _ h)
  have hown : s.vm.findClass RJ1 = some m.cls := findClass_of_methodNamed B.named
  have hS : va_S A s.heap s.heap [] := va_S.rf
  have hl := lv_entry ([.ref v, .int i]) (n := 2) (Nat.le_of_ble_eq_true rfl)
  rw [lg_entry_eq]
  generalize (lg_sl ([.ref v, .int i]) ++ List.replicate (2 - (lg_sl ([.ref v, .int i])).length) Slot.unset).toArray = ls at hl ⊢
  refine lv_iload_n hx hb (k := 1) (i := 1) dJ1_charAt_3b067_0 rfl (lv_at hl 1 rfl) ?_
  refine lv_aload_n hx hb (k := 0) (i := 0) dJ1_charAt_3b067_1 rfl (lv_at hl 0 rfl) ?_
  obtain ⟨cell, t1, t2, t3, t4, t5, t6, t7⟩ := id hT.2.2.2.1
  refine W.alen (n := 9) hx hb t1 t2 (t5.trans rfl) rfl rfl dJ1_charAt_3b067_2 ?_
  have hcw : CallB (headSpec (mm_wJ yJ1_charAt_3b067 cJ1_charAt_3b067 2 (some .char)) ({ frames := 2, cells := 0, slots := 0, locals := 43 })).room s _ RJ1 9 yJ0_checkIndex_df160 cJ0_checkIndex_df160 2 none (mm_wJ yJ0_checkIndex_df160 cJ0_checkIndex_df160 2 none) ({ frames := 1, cells := 0, slots := 0, locals := 22 }) 0 0 2 := callB_of 2 hts (mm_good (mm_mg (z := 459) (by decide +kernel) rfl)) rfl rfl rfl (mm_gw hts (z := 96) (by decide +kernel) rfl) (mm_gw hts (z := 457) (by decide +kernel) rfl) (by decide +kernel) ⟨Nat.le_of_ble_eq_true rfl, Nat.le_of_ble_eq_true rfl⟩
  refine va_csv (W.runS (As := [.int i, .int 9]) (rest := []) ⟨hx, hb, hml, hown, hts⟩ (mm_chkS l A q v i 9 h0 h1) ⟨hcw, mm_gw hts (z := 458) (by decide +kernel) rfl⟩ ⟨fun a U g mk z => ⟨z.1, mm_T.moved (u := U) (U := U.calling g mk a) (Vm.Alike.refl U.vm) z.2⟩, fun U hU hW => ⟨rfl, (show mm_T q v A U U.heap by rw [hU]; exact mm_T.moved hW.alike hT)⟩⟩ rfl rfl hl.1 rfl (lv_room (Nat.le_of_ble_eq_true rfl)) dJ1_charAt_3b067_3 ⟨Nat.le_of_ble_eq_true rfl, Nat.le_of_ble_eq_true rfl⟩) (fun _ => ?_)
  refine lv_aload_n hx hb (k := 0) (i := 0) dJ1_charAt_3b067_6 rfl (lv_at hl 0 rfl) ?_
  refine lv_iload_n hx hb (k := 1) (i := 1) dJ1_charAt_3b067_7 rfl (lv_at hl 1 rfl) ?_
  have hi9 : i.toNatClampNeg < 9 := by
    have e0 := Int32.not_lt.mp h0
    have e1 := Int32.le_iff_toInt_le.mp e0
    have e2 := Int32.lt_iff_toInt_lt.mp h1
    have e3 : (0 : Int32).toInt = 0 := by decide
    have e4 : (9 : Int32).toInt = 9 := by decide
    rw [e3] at e1
    rw [e4] at e2
    show i.toInt.toNat < 9
    omega
  have hin : vp_in i 9 := fun z => by
    rcases z with z | z
    · exact h0 z
    · omega
  refine va_tb hx hb hT.2.2.2.1 hS hin rfl dJ1_charAt_3b067_8 ?_
  refine lv_sipush (v := 255) hx hb (n := 255) dJ1_charAt_3b067_9 (by decide) ?_
  refine lv_iand hx hb dJ1_charAt_3b067_12 ?_
  refine lv_i2c hx hb dJ1_charAt_3b067_13 rfl ?_
  have hval : ((nI (mm_tx.getD i.toNatClampNeg 0) &&& 255).toUInt32 % 65536).toInt32 = nI (mm_tx.getD i.toNatClampNeg 0) ∧ narrow .char (.int (nI (mm_tx.getD i.toNatClampNeg 0))) = .int (nI (mm_tx.getD i.toNatClampNeg 0)) := by
    generalize i.toNatClampNeg = k at hi9
    have h9 : ∀ k, k < 9 → ((nI (mm_tx.getD k 0) &&& 255).toUInt32 % 65536).toInt32 = nI (mm_tx.getD k 0) ∧ narrow .char (.int (nI (mm_tx.getD k 0))) = .int (nI (mm_tx.getD k 0)) := by decide +kernel
    exact h9 k hi9
  rw [hval.1]
  exact W.zret (v := nI (mm_tx.getD i.toNatClampNeg 0)) hx hb hr hval.2 (fun t ht _ => ⟨_, rfl, rfl, ht⟩) (fun q h => absurd h List.not_mem_nil) dJ1_charAt_3b067_14
set_option maxHeartbeats 4000000 in
set_option maxRecDepth 100000 in
/-- String.isLatin1() -/
theorem mm_lat (l : Launch) (A : Nat → Prop) (q v : Nat) : Met l yJ0_isLatin1_aae02 (mm_wJ yJ0_isLatin1_aae02 cJ0_isLatin1_aae02 1 (some .boolean)) ({ frames := 0, cells := 0, slots := 0, locals := 0 }) (va_Pc [.ref q] (fun U => mm_T q v A U U.heap)) (vp_Si (fun r => r = 1)) 0 0 (fun _ => False) := by
  refine va_MetF (cc := cJ0_isLatin1_aae02) (maxL := 1) (ret := some .boolean) (by decide +kernel) rfl ?_
  intro p e s m args below meth c s₁ B hml hpc
  obtain ⟨rfl, hT⟩ := hpc
  have hx := B.exec
  have hb := B.bytes
  have hr := B.returns
  have hlocks := B.notSynchronized
  have hts0 := atoms_spec (ws := mm_wJ yJ0_isLatin1_aae02 cJ0_isLatin1_aae02 1 (some .boolean)) B.pre
  have hts : ∀ w ∈ mm_gt, w.before _ s = true := fun w h => hts0 w (List.mem_cons_of_mem _ h)
  have hown : s.vm.findClass RJ0 = some m.cls := findClass_of_methodNamed B.named
  have hS : va_S A s.heap s.heap [] := va_S.rf
  have hl := lv_entry ([.ref q]) (n := 1) (Nat.le_of_ble_eq_true rfl)
  rw [lg_entry_eq]
  generalize (lg_sl ([.ref q]) ++ List.replicate (1 - (lg_sl ([.ref q])).length) Slot.unset).toArray = ls at hl ⊢
  refine va_gets hx hb hT.2.2.2.2.1 hS hown (mm_gw hts (z := 452) (w := .fieldLink RJ0 38 "java/lang/String" "COMPACT_STRINGS" "Z") (by decide +kernel) rfl) (fun _ h => h) dJ0_isLatin1_aae02_0 ?_
  refine lv_if_eq hx hb (tgt := 17) (off := 14) dJ0_isLatin1_aae02_3 (by decide) (fun z => absurd z (by decide)) (fun _ => ?_)
  refine lv_aload_n hx hb (k := 0) (i := 0) dJ0_isLatin1_aae02_6 rfl (lv_at hl 0 rfl) ?_
  refine vk_getf hx hb hT.2.1 hS hown (mm_gw hts (z := 1428) (w := .fieldLink RJ0 15 "java/lang/String" "coder" "B") (by decide +kernel) rfl) (fun _ h => h) dJ0_isLatin1_aae02_7 ?_
  refine lv_if_ne hx hb (tgt := 17) (off := 7) dJ0_isLatin1_aae02_10 (by decide) (fun z => absurd rfl z) (fun _ => ?_)
  refine lv_iconst (v := 1) hx hb (n := 1) dJ0_isLatin1_aae02_13 (by decide) ?_
  refine lv_goto hx hb (tgt := 18) (off := 4) dJ0_isLatin1_aae02_14 (by decide) ?_
  exact W.zret (v := 1) hx hb hr rfl (fun t ht _ => ⟨_, rfl, rfl, ht⟩) (fun q h => absurd h List.not_mem_nil) dJ0_isLatin1_aae02_18
set_option maxHeartbeats 4000000 in
set_option maxRecDepth 100000 in
/-- String.charAt(k) -/
theorem mm_chrS (l : Launch) (A : Nat → Prop) (q v : Nat) (i : Int32) (h0 : ¬ i < 0) (h1 : i < 9) : Met l yJ0_charAt_5068e (mm_wJ yJ0_charAt_5068e cJ0_charAt_5068e 2 (some .char)) ({ frames := 3, cells := 0, slots := 0, locals := 64 }) (va_Pc [.ref q, .int i] (fun U => mm_T q v A U U.heap)) (vp_Si (fun r => r = nI (mm_tx.getD i.toNatClampNeg 0))) 0 0 (fun _ => False) := by
  refine va_MetF (cc := cJ0_charAt_5068e) (maxL := 2) (ret := some .char) (by decide +kernel) rfl ?_
  intro p e s m args below meth c s₁ B hml hpc
  obtain ⟨rfl, hT⟩ := hpc
  have hx := B.exec
  have hb := B.bytes
  have hr := B.returns
  have hlocks := B.notSynchronized
  have hts0 := atoms_spec (ws := mm_wJ yJ0_charAt_5068e cJ0_charAt_5068e 2 (some .char)) B.pre
  have hts : ∀ w ∈ mm_gt, w.before _ s = true := fun w h => hts0 w (List.mem_cons_of_mem _ h)
  have hown : s.vm.findClass RJ0 = some m.cls := findClass_of_methodNamed B.named
  have hS : va_S A s.heap s.heap [] := va_S.rf
  have hl := lv_entry ([.ref q, .int i]) (n := 2) (Nat.le_of_ble_eq_true rfl)
  rw [lg_entry_eq]
  generalize (lg_sl ([.ref q, .int i]) ++ List.replicate (2 - (lg_sl ([.ref q, .int i])).length) Slot.unset).toArray = ls at hl ⊢
  obtain ⟨cellO, o1, o2, o3, o4⟩ := id hT.1
  refine lv_aload_n hx hb (k := 0) (i := 0) dJ0_charAt_5068e_0 rfl (lv_at hl 0 rfl) ?_
  have hcw1 : CallB (headSpec (mm_wJ yJ0_charAt_5068e cJ0_charAt_5068e 2 (some .char)) ({ frames := 3, cells := 0, slots := 0, locals := 64 })).room s _ RJ0 492 yJ0_isLatin1_aae02 cJ0_isLatin1_aae02 1 (some .boolean) (mm_wJ yJ0_isLatin1_aae02 cJ0_isLatin1_aae02 1 (some .boolean)) ({ frames := 0, cells := 0, slots := 0, locals := 0 }) 0 0 0 := callB_of 0 hts (mm_good (mm_mg (z := 451) (by decide +kernel) rfl)) rfl rfl rfl (mm_gw hts (z := 96) (by decide +kernel) rfl) (mm_gw hts (z := 448) (by decide +kernel) rfl) (by decide +kernel) ⟨Nat.le_of_ble_eq_true rfl, Nat.le_of_ble_eq_true rfl⟩
  refine vp_callSi (W.runV (C := RJ0) (As := []) (rest := []) ⟨hx, hb, hml, hown, hts⟩ (mm_lat l A q v) ⟨hcw1, mm_gw hts (z := 449) (by decide +kernel) rfl, mm_gw hts (z := 450) (by decide +kernel) rfl⟩ ⟨fun a U g mk z => ⟨z.1, mm_T.moved (u := U) (U := U.calling g mk a) (Vm.Alike.refl U.vm) z.2⟩, ⟨cellO, o1, o2, o3⟩, fun U hU hW => ⟨rfl, (show mm_T q v A U U.heap by rw [hU]; exact mm_T.moved hW.alike hT)⟩⟩ rfl rfl hl.1 rfl (lv_room (Nat.le_of_ble_eq_true rfl)) dJ0_charAt_5068e_1 ⟨Nat.le_of_ble_eq_true rfl, Nat.le_of_ble_eq_true rfl⟩) (fun r er => ?_)
  subst er
  refine lv_if_eq hx hb (tgt := 16) (off := 12) dJ0_charAt_5068e_4 (by decide) (fun z => absurd z (by decide)) (fun _ => ?_)
  refine lv_aload_n hx hb (k := 0) (i := 0) dJ0_charAt_5068e_7 rfl (lv_at hl 0 rfl) ?_
  refine vk_getf hx hb hT.2.2.1 hS hown (mm_gw hts (z := 1429) (w := .fieldLink RJ0 9 "java/lang/String" "value" "[B") (by decide +kernel) rfl) (fun _ h => h) dJ0_charAt_5068e_8 ?_
  refine lv_iload_n hx hb (k := 1) (i := 1) dJ0_charAt_5068e_11 rfl (lv_at hl 1 rfl) ?_
  have hcw2 : CallB (headSpec (mm_wJ yJ0_charAt_5068e cJ0_charAt_5068e 2 (some .char)) ({ frames := 3, cells := 0, slots := 0, locals := 64 })).room s _ RJ0 495 yJ1_charAt_3b067 cJ1_charAt_3b067 2 (some .char) (mm_wJ yJ1_charAt_3b067 cJ1_charAt_3b067 2 (some .char)) ({ frames := 2, cells := 0, slots := 0, locals := 43 }) 0 0 2 := callB_of 2 hts (mm_good (mm_mg (z := 456) (by decide +kernel) rfl)) rfl rfl rfl (mm_gw hts (z := 97) (by decide +kernel) rfl) (mm_gw hts (z := 454) (by decide +kernel) rfl) (by decide +kernel) ⟨Nat.le_of_ble_eq_true rfl, Nat.le_of_ble_eq_true rfl⟩
  refine vp_callSi (W.runS (As := [.ref v, .int i]) (rest := []) ⟨hx, hb, hml, hown, hts⟩ (mm_chrL l A q v i h0 h1) ⟨hcw2, mm_gw hts (z := 455) (by decide +kernel) rfl⟩ ⟨fun a U g mk z => ⟨z.1, mm_T.moved (u := U) (U := U.calling g mk a) (Vm.Alike.refl U.vm) z.2⟩, fun U hU hW => ⟨rfl, (show mm_T q v A U U.heap by rw [hU]; exact mm_T.moved hW.alike hT)⟩⟩ rfl rfl hl.1 rfl (lv_room (Nat.le_of_ble_eq_true rfl)) dJ0_charAt_5068e_12 ⟨Nat.le_of_ble_eq_true rfl, Nat.le_of_ble_eq_true rfl⟩) (fun r er => ?_)
  subst er
  have hi9 : i.toNatClampNeg < 9 := by
    have e0 := Int32.not_lt.mp h0
    have e1 := Int32.le_iff_toInt_le.mp e0
    have e2 := Int32.lt_iff_toInt_lt.mp h1
    have e3 : (0 : Int32).toInt = 0 := by decide
    have e4 : (9 : Int32).toInt = 9 := by decide
    rw [e3] at e1
    rw [e4] at e2
    show i.toInt.toNat < 9
    omega
  have hval : narrow .char (.int (nI (mm_tx.getD i.toNatClampNeg 0))) = .int (nI (mm_tx.getD i.toNatClampNeg 0)) := by
    generalize i.toNatClampNeg = k at hi9
    have h9 : ∀ k, k < 9 → narrow .char (.int (nI (mm_tx.getD k 0))) = .int (nI (mm_tx.getD k 0)) := by decide +kernel
    exact h9 k hi9
  exact W.zret (v := nI (mm_tx.getD i.toNatClampNeg 0)) hx hb hr hval (fun t ht _ => ⟨_, rfl, rfl, ht⟩) (fun q h => absurd h List.not_mem_nil) dJ0_charAt_5068e_15
end
section
/-! WHAT HOLDS ALL THE RUN -/
def mm_tys (g : mm_G) : List (ClassId × FieldType) := [(g.2.1 1, .int), (g.2.1 2, .object RX6), (g.2.1 3, .object RX0), (g.2.1 4, .array .int)]
def mm_AO (t : FieldType) (U : State) : Prop := (Jvm.Cond.arrayOver t).before #[] U = true
def mm_C (g : mm_G) (U : State) (H : Heap) : Prop :=
  va_K g.1 vwCl (mm_tys g) U ∧
  (∀ (i : Nat) (w : Jvm.Cond), i < mm_nest.length → lw_tbl[mm_nest.getD i 0]? = some w → va_Nw w U) ∧
  (va_AO RX6 U ∧ va_AO RX0 U ∧ mm_AO (.array .int) U) ∧
  (∀ i, i < 4 → va_Z (mm_sf i).1 (mm_sf i).2 "[I" (.ref (g.2.2.2.1 i)) (mm_A g) U H) ∧
  (∀ i, i < 5 → va_T .int (g.2.2.2.1 i) (mm_S g.2.2.2.2 i).1 (fun j => .int ((mm_S g.2.2.2.2 i).2 j)) (mm_A g) U H) ∧
  (vk_R "DotSquares$Typed" 35 "lowmidtop" (g.2.2.2.1 5) U ∧ ∃ v, mm_T (g.2.2.2.1 5) v (mm_A g) U H) ∧
  g.2.2.1 < H.size
theorem mm_nestW : ∀ i, i < mm_nest.length → (match lw_tbl[mm_nest.getD i 0]? with
  | some w => w.onTables && w.keepsH
  | none => true) = true := by decide +kernel
theorem mm_AO.moved {t : FieldType} {u U : State} (hvm : u.vm.Alike U.vm) (h : mm_AO (.array t) u) : mm_AO (.array t) U := by
  obtain ⟨comp, c, k, h1, h2, h3, h4, h5⟩ := arrayOverA_spec h
  obtain ⟨k', hk', he⟩ := hvm.2.2 _ _ h3
  have hi : (U.vm.classes.findIdx? fun (x : Class) => match x.kind with | .array component _ => component == comp | _ => false) = some c := by
    have e1 := va_idx_bare U.vm comp
    have e2 := va_idx_bare u.vm comp
    first | rw [hvm.bare_eq] at e1 | rw [← hvm.bare_eq] at e1
    exact e1.symm.trans (e2.trans h2)
  have hkind : k'.kind = .array comp (.array t) := by rw [he]; exact h4
  have f1 : U.vm.findClass (FieldType.array t).toString = some comp := by rw [hvm.findClass]; exact h1
  have f2 : U.vm.findClass ("[" ++ (FieldType.array t).toString) = some c := by rw [hvm.findClass]; exact h5
  unfold mm_AO Cond.before Cond.holds
  simp only [Cond.value]
  rw [f1, Option.bind_some]
  refine (congrArg (fun o : Option Nat => (o.bind (fun c => (U.vm.classes[c]?).map fun (k : Class) => match k.kind with | .array _ ty => decide (ty = FieldType.array t) && decide (U.vm.findClass ("[" ++ (FieldType.array t).toString) = some c) | _ => false) == some true)) hi).trans ?_
  simp [hk', hkind, f2]
/-- it goes on: in a warmer machine, over a heap that is the same but for what is ours -/
theorem mm_C.on {g : mm_G} {u U : State} {H H1 : Heap} (h : mm_C g u H) (hW : u.WarmedH U.vm) (hz : H.size ≤ H1.size) (hq : ∀ a : Nat, a < H.size → ¬ mm_A g a → H1[a]? = H[a]?) : mm_C g U H1 := by
  obtain ⟨h1, h2, h3, h4, h5, h6, h7⟩ := h
  refine ⟨va_K.moved hW.alike h1, fun i w hi hw => ?_, ⟨h3.1.moved hW.alike, h3.2.1.moved hW.alike, mm_AO.moved hW.alike h3.2.2⟩, fun i hi => ((h4 i hi).moved hW.alike).kept hq, fun i hi => ((h5 i hi).moved hW.alike).kept hq, ⟨h6.1.warm hW, ?_⟩, Nat.lt_of_lt_of_le h7 hz⟩
  · have hn := mm_nestW i hi
    rw [hw] at hn
    simp only [Bool.and_eq_true] at hn
    exact va_tabs hn.1 (rfl : (u.setVm U.vm).vm = U.vm) (Cond.onTables_warmH (T := u) (args' := #[]) hW hn.1 hn.2 (h2 i w hi hw))
  · obtain ⟨v, hv⟩ := h6.2
    exact ⟨v, (mm_T.moved hW.alike hv).kept hq⟩
theorem mm_C.calls {g : mm_G} {U : State} {H : Heap} (h : mm_C g U H) (gf : JFrame) (mk : MethodId) (a : Array Value) : mm_C g (U.calling gf mk a) H := by
  obtain ⟨h1, h2, h3, h4, h5, h6, h7⟩ := h
  have hA : U.vm.Alike (U.calling gf mk a).vm := Vm.Alike.refl U.vm
  refine ⟨va_K.moved hA h1, fun i w hi hw => ?_, ⟨h3.1.moved hA, h3.2.1.moved hA, mm_AO.moved hA h3.2.2⟩, fun i hi => ((h4 i hi).moved hA), fun i hi => ((h5 i hi).moved hA), ⟨h6.1.same rfl, ?_⟩, h7⟩
  · have hn := mm_nestW i hi
    rw [hw] at hn
    simp only [Bool.and_eq_true] at hn
    exact va_Nw.same (u := U) (U := U.calling gf mk a) hn.1 rfl (h2 i w hi hw)
  · obtain ⟨v, hv⟩ := h6.2
    exact ⟨v, mm_T.moved hA hv⟩
/-! the classes -/
theorem mm_vw : ∀ c, c < 11 → vwCl[c]? = some (mm_cls c) := by
  intro c hc
  match c, hc with
  | 0, _ => rfl
  | 1, _ => rfl
  | 2, _ => rfl
  | 3, _ => rfl
  | 4, _ => rfl
  | 5, _ => rfl
  | 6, _ => rfl
  | 7, _ => rfl
  | 8, _ => rfl
  | 9, _ => rfl
  | 10, _ => rfl
  | n + 11, h => exact absurd h (by omega)
theorem mm_clsN : ∀ c, c < 11 → (mm_cls c).2.2 = mm_N c := by decide +kernel
def mm_ty (c k : Nat) : FieldType := (parseFieldDescriptor ((mm_cls c).2.1 k).2.2.1).getD .int
theorem mm_ty_ok : ∀ c, c < 11 → ∀ k, k < mm_N c → parseFieldDescriptor ((mm_cls c).2.1 k).2.2.1 = some (mm_ty c k) := by decide +kernel
def mm_tyk (f : Nat) (t : FieldType) : Bool :=
  match f, t with
  | 0, .int => true
  | 1, .boolean => true
  | 2, .object _ => true
  | 2, .array _ => true
  | _, _ => false
theorem mm_ty_k : ∀ c, c < 11 → ∀ k, k < mm_N c → mm_tyk (mm_fk c k) (mm_ty c k) = true := by decide +kernel
theorem mm_ty_n : ∀ c, c < 11 → ∀ a, a < mm_N c → ∀ b, b < mm_N c → a ≠ b → ((mm_cls c).2.1 a).2.1 ≠ ((mm_cls c).2.1 b).2.1 := by decide +kernel
theorem mm_ty_d : ∀ c, c < 11 → ∀ k, k < mm_N c → ((mm_cls c).2.1 k).1 = (mm_cls c).1 := by decide +kernel
def mm_lay : List (List Nat) := [[288, 290, 292, 294], [150, 152, 154, 156, 158], [242, 244, 246, 248, 250, 252, 254, 256, 258], [201, 203, 205, 207, 209, 211, 213], [309, 311, 313, 315, 317, 319, 321], [361, 363, 365, 367], [337, 339, 341, 343], [125, 127, 129], [181, 183, 185], [381, 383, 385, 387, 389, 391, 393, 395, 397, 399, 401], [975, 977, 979, 981, 983, 985, 987, 989, 991, 993, 995, 997, 999, 1001, 1003, 1005, 1007, 1009, 1011, 1013, 1015, 1017, 1019, 1021, 1023, 1025, 1027, 1029, 1031, 1033, 1035, 1037, 1039, 1041]]
def mm_clw : List (Nat × Nat) := [(269, 92), (134, 87), (217, 90), (189, 89), (262, 91), (348, 94), (325, 93), (112, 85), (162, 88), (104, 84), (936, 95)]
theorem mm_layW : ∀ c, c < 11 → ∀ k, k < mm_N c → lw_tbl[(mm_lay.getD c []).getD k 0]? = some (u_lay (mm_cls c).1 (mm_cls c).2.1 k) := by decide +kernel
theorem mm_layG : ∀ c, c < 11 → ∀ k, k < mm_N c → goodWord (u_lay (mm_cls c).1 (mm_cls c).2.1 k) = true := by decide +kernel
theorem mm_in : ∀ c, c < 11 → ∀ w ∈ u_ws (mm_cls c).1 (mm_cls c).2.1 (mm_cls c).2.2, w ∈ mm_gt := by
  intro c hc w hw
  obtain ⟨k, hk, rfl⟩ := List.mem_map.mp hw
  have hk := List.mem_range.mp hk
  rw [mm_clsN c hc] at hk
  exact mm_mg (mm_layW c hc k hk) (mm_layG c hc k hk)
theorem mm_newW : ∀ c, c < 11 → lw_tbl[(mm_clw.getD c (0, 0)).1]? = some (.instantiable (mm_cls c).1 (mm_cls c).2.2) ∧ lw_tbl[(mm_clw.getD c (0, 0)).2]? = some (.initialized (mm_cls c).1) := by decide +kernel
end
section
/-! AN INSTRUCTION THAT READS MEMORY -/
section MMR
variable {p : Program} {l : Launch} {e : Env} {R : Room} {s : State} {m : MethodId} {args : Array Value} {below : List Frame} {meth : Method} {c : Code} {H : Heap} {locs : List Loc} {cells slots : Nat} {Q : State → Prop}
variable {cc : ByteArray} {pc : Nat} {ls : Array Slot} {g : mm_G} {nL j : Nat} {μ : mm_M}
theorem mm_cell_i (hR : mm_R g μ H) {a : Nat} (h : (mm_kd μ a).1 = 1) : (mm_ws g μ)[a - 1]? = some (g.2.2.1 + a, .inl (g.2.1 1, (mm_kd μ a).2, .inl (μ.2.2.2 a))) ∧ mm_rl g (.ref a) = .ref (g.2.2.1 + a) := by
  obtain ⟨a1, a2, a3, a4⟩ := mm_kd_in h (Nat.le_refl 1)
  refine ⟨?_, mm_rl_dyn g a1 a3⟩
  rw [mm_ws_get a1 a2]
  unfold mm_Ec
  rw [a4] at h
  rw [mm_E_i h, a4]
theorem mm_cell_q (hR : mm_R g μ H) {a : Nat} (h : 2 ≤ (mm_kd μ a).1) (h2 : (mm_kd μ a).1 ≤ 4) : (mm_ws g μ)[a - 1]? = some (g.2.2.1 + a, .inl (g.2.1 (mm_kd μ a).1, (mm_kd μ a).2, .inr (.inr (.inr (.inr (fun i => mm_q g (μ.2.2.1 a i))))))) ∧ mm_rl g (.ref a) = .ref (g.2.2.1 + a) := by
  obtain ⟨a1, a2, a3, a4⟩ := mm_kd_in (a := a) rfl (Nat.le_trans (by decide) h)
  refine ⟨?_, mm_rl_dyn g a1 a3⟩
  rw [mm_ws_get a1 a2]
  unfold mm_Ec
  rw [a4] at h h2 ⊢
  rw [mm_E_q h h2]
theorem mm_cell_o (hR : mm_R g μ H) {a x : Nat} (h : (mm_kd μ a).1 = 10 + x) : (mm_ws g μ)[a - 1]? = some (g.2.2.1 + a, .inr (x, mm_fs g x (μ.2.2.1 a) (μ.2.2.2 a))) ∧ mm_rl g (.ref a) = .ref (g.2.2.1 + a) := by
  obtain ⟨a1, a2, a3, a4⟩ := mm_kd_in h (by omega)
  refine ⟨?_, mm_rl_dyn g a1 a3⟩
  rw [mm_ws_get a1 a2]
  unfold mm_Ec
  rw [a4] at h
  rw [mm_E_o h]
theorem mm_tys_at {t : Nat} (h1 : 1 ≤ t) (h2 : t ≤ 4) : ∃ ty, (mm_tys g)[t - 1]? = some (g.2.1 t, ty) ∧ (2 ≤ t → ty.isReference = true) := by
  match t, h1, h2 with
  | 1, _, _ => exact ⟨_, rfl, fun h => absurd h (by decide)⟩
  | 2, _, _ => exact ⟨_, rfl, fun _ => rfl⟩
  | 3, _, _ => exact ⟨_, rfl, fun _ => rfl⟩
  | 4, _, _ => exact ⟨_, rfl, fun _ => rfl⟩
theorem mm_in_of {i : Int32} {n : Nat} (h : ¬ (i < 0 ∨ n ≤ i.toNatClampNeg)) : vp_in i n := h
set_option maxHeartbeats 4000000 in
theorem mm_m1_W (hx : p.tables.exec = Jvm.exec) (hb : c.code = cc) (hml : c.maxLocals = nL) (hls : ls.size = nL) (hown : s.vm.findClass (mm_own j) = some m.cls) (hts : ∀ w ∈ mm_gt, w.before args s = true) (hC : mm_C g s s.heap) (hR : mm_R g μ H) (hS : va_S (mm_A g) s.heap H locs) (hfr : mm_nu (mm_me j) 3 ≤ R.frames) (hlo : mm_nu (mm_me j) 4 ≤ R.locals) (hce : cells ≤ R.cells) (hsl : slots ≤ R.slots)
    {ins : Instr} {len x y z : Nat} {st st' : List Value} (h : mm_m1 g.2.2.2.2 ins x y st μ = some st') (hk : mm_k3 j ins len x y z = true) (hdg : decode cc pc = .ok (ins, len))
    (kk : W p l e R s m args below meth c H locs cells slots Q (F0 m (pc + len) ls (st'.map (mm_rl g)))) : W p l e R s m args below meth c H locs cells slots Q (F0 m pc ls (st.map (mm_rl g))) := by
  unfold mm_m1 at h
  split at h
  · -- getfield
    simp only [mm_k3, Bool.and_eq_true, beq_iff_eq, decide_eq_true_eq] at hk
    obtain ⟨⟨⟨rfl, hx11⟩, hy⟩, hlw⟩ := hk
    split at h
    · rename_i a st2
      split at h
      · rename_i hc
        obtain ⟨he, hr⟩ := mm_cell_o hR hc.1
        have hv := mm_fs_get (g := g) (rk := μ.2.2.1 a) (ik := μ.2.2.2 a) hy
        rw [List.map_cons, hr]
        have hyN : y < (mm_cls x).2.2 := by rw [mm_clsN x hx11]; exact hy
        split at h
        · rename_i hf
          cases h
          rw [if_pos hf] at hv
          exact va_get (C := (mm_cls x).1) (T := (mm_cls x).2.1) (N := (mm_cls x).2.2) hx hb hts (mm_in x hx11) hown hC.1 hR.2.2 (a - 1) he (mm_vw x hx11) y hyN (mm_gw hts hlw rfl) (fun _ q => q) hv hdg kk
        · rename_i hf
          cases h
          rw [if_neg hf] at hv
          exact va_get (C := (mm_cls x).1) (T := (mm_cls x).2.1) (N := (mm_cls x).2.2) hx hb hts (mm_in x hx11) hown hC.1 hR.2.2 (a - 1) he (mm_vw x hx11) y hyN (mm_gw hts hlw rfl) (fun _ q => q) hv hdg kk
      · cases h
    · cases h
  · -- iaload
    simp only [mm_k3, beq_iff_eq] at hk
    subst hk
    split at h
    · rename_i i a st2
      split at h
      · split at h
        · rename_i hlt hkd
          split at h
          · cases h
          · rename_i hin
            cases h
            obtain ⟨he, hr⟩ := mm_cell_i hR hkd
            rw [List.map_cons, List.map_cons, hr]
            exact va_iald hx hb hC.1 hR.2.2 (a - 1) 0 he rfl (mm_in_of hin) hdg kk
        · cases h
      · split at h
        · rename_i hge hlt
          split at h
          · cases h
          · rename_i hin
            cases h
            rw [List.map_cons, List.map_cons, mm_rl_sta g hge]
            exact va_ti hx hb (hC.2.2.2.2.1 (a - 1000000) (Nat.sub_lt_left_of_lt_add (n := 1000000) (m := 5) (Nat.not_lt.mp hge) hlt)) hS (mm_in_of hin) rfl hdg kk
        · cases h
    · cases h
  · -- aaload
    simp only [mm_k3, beq_iff_eq] at hk
    subst hk
    split at h
    · rename_i i a st2
      split at h
      · rename_i hc
        split at h
        · cases h
        · rename_i hin
          cases h
          obtain ⟨he, hr⟩ := mm_cell_q hR hc.1 hc.2
          obtain ⟨ty, ht, hty⟩ := mm_tys_at (g := g) (t := (mm_kd μ a).1) (by omega) hc.2
          rw [List.map_cons, List.map_cons, hr]
          have hin' := mm_in_of hin
          have hlt : i.toNatClampNeg < (mm_kd μ a).2 := Nat.not_le.mp fun q => hin (Or.inr q)
          exact W.aald (v := va_rf (mm_q g (μ.2.2.1 a i.toNatClampNeg))) (ty := ty) hx hb (hR.2.2 (a - 1) _ he) ((hC.1.2 _ _ ht).1 (mm_kd μ a).2 (fun j => va_rf (mm_q g (μ.2.2.1 a j)))) (hty hc.1) (fun q => by cases q) (by show ¬ (i < 0 ∨ (arrV _ _ _).slots.size ≤ _); rw [arrV_size]; exact hin') (by show (arrV _ _ _).slots[_]? = _; rw [arrV_read _ _ hlt]) rfl rfl hdg kk
      · cases h
    · cases h
  · -- arraylength
    simp only [mm_k3, beq_iff_eq] at hk
    subst hk
    split at h
    · rename_i a st2
      split at h
      · split at h
        · rename_i hlt hc
          cases h
          by_cases h1 : (mm_kd μ a).1 = 1
          · obtain ⟨he, hr⟩ := mm_cell_i hR h1
            rw [List.map_cons, hr]
            exact va_alen hx hb hC.1 hR.2.2 (a - 1) 0 he rfl rfl hdg kk
          · obtain ⟨he, hr⟩ := mm_cell_q hR (a := a) (by omega) hc.2
            obtain ⟨ty, ht, -⟩ := mm_tys_at (g := g) (t := (mm_kd μ a).1) (by omega) hc.2
            rw [List.map_cons, hr]
            exact va_alen hx hb hC.1 hR.2.2 (a - 1) _ he ht rfl hdg kk
        · cases h
      · split at h
        · rename_i hge hlt
          cases h
          rw [List.map_cons, mm_rl_sta g hge]
          obtain ⟨cell, t1, t2, t3, t4, t5, t6, t7⟩ := hC.2.2.2.2.1 (a - 1000000) (Nat.sub_lt_left_of_lt_add (n := 1000000) (m := 5) (Nat.not_lt.mp hge) hlt)
          exact W.alen hx hb (by rw [hS.2.1 _ (Array.getElem?_eq_some_iff.mp t1).1 t7]; exact t1) t2 t5 rfl rfl hdg kk
        · cases h
    · cases h
  · -- getstatic
    simp only [mm_k3, Bool.and_eq_true, beq_iff_eq] at hk
    obtain ⟨rfl, hk⟩ := hk
    split at h
    · rename_i hx4
      cases h
      have kk' : W p l e R s m args below meth c H locs cells slots Q (F0 m (pc + 3) ls (.ref (g.2.2.2.1 x) :: st.map (mm_rl g))) := by
        have e1 : mm_rl g (.ref (1000000 + x)) = .ref (g.2.2.2.1 x) := by
          rw [mm_rl_sta g (by omega), show 1000000 + x - 1000000 = x by omega]
        rw [List.map_cons, e1] at kk
        exact kk
      split at hk
      · exact va_gets hx hb (hC.2.2.2.1 x hx4) hS hown (mm_gw hts (of_decide_eq_true hk) rfl) (fun _ q => q) hdg kk'
      · simp only [Bool.and_eq_true, decide_eq_true_eq] at hk
        exact va_getsN hx hb (hC.2.2.2.1 x hx4) hS hown (va_Nw.use rfl (hC.2.1 z _ hk.1 hk.2)) (fun _ q => q) hdg kk'
    · cases h
  · -- ldc
    simp only [mm_k3, Bool.and_eq_true, beq_iff_eq, decide_eq_true_eq] at hk
    obtain ⟨⟨rfl, ho⟩, rfl⟩ := hk
    cases h
    rw [ho] at hown
    have kk' : W p l e R s m args below meth c H locs cells slots Q (F0 m (pc + 2) ls (.ref (g.2.2.2.1 5) :: st.map (mm_rl g))) := by
      have e1 : mm_rl g (.ref 1000005) = .ref (g.2.2.2.1 5) := mm_rl_sta g (by decide)
      rw [List.map_cons, e1] at kk
      exact kk
    exact va_ldcS hx hb hown hC.2.2.2.2.2.1.1 hdg kk'
  · -- Object.<init>
    simp only [mm_k3, Bool.and_eq_true, beq_iff_eq, decide_eq_true_eq] at hk
    obtain ⟨⟨⟨rfl, hlw⟩, h1⟩, h2⟩ := hk
    split at h
    · rename_i a st2
      split at h
      · rename_i hc
        cases h
        rw [List.map_cons, mm_rl_dyn g hc.1 hc.2.1]
        refine W.objInit hx hb hown (mm_gw hts hlw rfl) (mm_gw hts (z := 109) (by decide +kernel) rfl) (mm_gw hts (z := 110) (by decide +kernel) rfl) rfl (by rw [hml]; exact hls) rfl hdg (Nat.le_trans h1 hfr) ?_ kk
        have hs8 := hc.2.2
        show 2 * 0 + _ + 12 ≤ R.locals
        rw [mm_rl_sum]
        omega
      · cases h
    · cases h
  · -- charAt
    simp only [mm_k3, Bool.and_eq_true, beq_iff_eq, decide_eq_true_eq] at hk
    obtain ⟨⟨⟨rfl, hlw⟩, h1⟩, h2⟩ := hk
    split at h
    · rename_i i a st2
      split at h
      · rename_i hc
        split at h
        · cases h
        · rename_i hin
          cases h
          obtain ⟨rfl, hsum⟩ := hc
          have h0 : ¬ i < 0 := fun q => hin (Or.inl q)
          have hlt : i.toNatClampNeg < 9 := Nat.not_le.mp fun q => hin (Or.inr q)
          have h9 : i < 9 := by
            have e0 := Int32.not_lt.mp h0
            have e1 := Int32.le_iff_toInt_le.mp e0
            have e3 : (0 : Int32).toInt = 0 := by decide
            have e4 : (9 : Int32).toInt = 9 := by decide
            rw [e3] at e1
            refine Int32.lt_iff_toInt_lt.mpr ?_
            rw [e4]
            have : i.toInt.toNat < 9 := hlt
            omega
          obtain ⟨v, hT⟩ := hC.2.2.2.2.2.1.2
          obtain ⟨cellO, o1, o2, o3, o4⟩ := id hT.1
          have hTH := hT.kept hS.2.1
          rw [List.map_cons, List.map_cons, mm_rl_sta g (k := 1000005) (by decide)]
          have hcw : CallB R s args (mm_own j) _ yJ0_charAt_5068e cJ0_charAt_5068e 2 (some .char) (mm_wJ yJ0_charAt_5068e cJ0_charAt_5068e 2 (some .char)) ({ frames := 3, cells := 0, slots := 0, locals := 64 }) 0 0 1 := callB_of 1 hts (mm_good (mm_mg (z := 447) (by decide +kernel) rfl)) rfl rfl rfl (mm_gw hts (z := 96) (by decide +kernel) rfl) (mm_gw hts hlw rfl) (by decide +kernel) ⟨by show 3 + 1 ≤ R.frames; omega, by show 8 + (2 + 11) + 64 ≤ R.locals; omega⟩
          refine vp_callSi (W.runV (C := RJ0) (As := [.int i]) (rest := st2.map (mm_rl g)) ⟨hx, hb, hml, hown, hts⟩ (mm_chrS l (mm_A g) (g.2.2.2.1 5) v i h0 h9) ⟨hcw, mm_gw hts (z := 445) (by decide +kernel) rfl, mm_gw hts (z := 446) (by decide +kernel) rfl⟩ ⟨fun a U gf mk z => ⟨z.1, mm_T.moved (u := U) (U := U.calling gf mk a) (Vm.Alike.refl U.vm) z.2⟩, ⟨cellO, by rw [hS.2.1 _ (Array.getElem?_eq_some_iff.mp o1).1 o4]; exact o1, o2, o3⟩, fun U hU hW => ⟨rfl, (show mm_T (g.2.2.2.1 5) v (mm_A g) U U.heap by rw [hU]; exact mm_T.moved hW.alike hTH)⟩⟩ rfl rfl hls rfl (lv_room (by rw [mm_rl_sum]; exact hsum)) hdg ⟨hce, hsl⟩) (fun r er => ?_)
          subst er
          exact kk
      · cases h
    · cases h
  · cases h
end MMR
end
section
/-! AN INSTRUCTION THAT WRITES MEMORY -/
section MMS
variable {p : Program} {l : Launch} {e : Env} {R : Room} {s : State} {m : MethodId} {args : Array Value} {below : List Frame} {meth : Method} {c : Code} {H : Heap} {locs : List Loc} {cells slots : Nat} {Q : State → Prop}
variable {cc : ByteArray} {pc : Nat} {ls : Array Slot} {g : mm_G} {nL j : Nat} {μ : mm_M}
theorem mm_R.set {μ' : mm_M} {a : Nat} {H1 : Heap} (hR : mm_R g μ H) (h0 : 1 ≤ a) (h1 : a < μ.1) (hn : μ'.1 = μ.1) (hk : ∀ k, k ≠ a → mm_Ec g μ' k = mm_Ec g μ k) (hz : H1.size = H.size) (hat : va_at g.1 vwCl (mm_Ec g μ' a) H1) (ho : ∀ q : Nat, q ≠ g.2.2.1 + a → H1[q]? = H[q]?) : mm_R g μ' H1 := by
  refine ⟨by rw [hn]; exact hR.1, by rw [hz, hn]; exact hR.2.1, ?_⟩
  rw [← mm_ws_set h0 h1 hn hk]
  exact hR.2.2.set (mm_wsD g μ) (mm_ws_get h0 h1) hat ho
theorem mm_S_put {H1 : Heap} {a k : Nat} (hS : va_S (mm_A g) s.heap H locs) (h0 : 1 ≤ a) (hz : H1.size = H.size) (ho : ∀ q : Nat, q ≠ g.2.2.1 + a → H1[q]? = H[q]?) : va_S (mm_A g) s.heap H1 (locs ++ [⟨g.2.2.1 + a, k⟩]) :=
  hS.put hz ho (show g.2.2.1 < g.2.2.1 + a by omega)
/-- a field -/
theorem mm_put (hx : p.tables.exec = Jvm.exec) (hb : c.code = cc) (hown : s.vm.findClass (mm_own j) = some m.cls) (hts : ∀ w ∈ mm_gt, w.before args s = true) (hC : mm_C g s s.heap) (hR : mm_R g μ H) (hS : va_S (mm_A g) s.heap H locs) (hini : mm_nu (mm_me j) 0 = 2 → meth.name = "<init>")
    {index x y z a : Nat} {v : Value} {rest : List Value} (hx11 : x < 11) (hy : y < mm_N x) (hlw : lw_tbl[z]? = some (.fieldLink (mm_own j) index ((mm_cls x).2.1 y).1 ((mm_cls x).2.1 y).2.1 ((mm_cls x).2.1 y).2.2.1)) (hfin : ((mm_cls x).2.1 y).2.2.2 = false ∨ (mm_nu (mm_me j) 0 = 2 ∧ ((mm_cls x).2.1 y).1 = mm_own j))
    (ha : (mm_kd μ a).1 = 10 + x) (hna : narrow (mm_ty x y) v = v) (hfi : fits (mm_ty x y) v = true) (hdg : decode cc pc = .ok (.putfield index, 3))
    (kk : ∀ (H1 : Heap) (k : Nat), va_at g.1 vwCl (g.2.2.1 + a, .inr (x, (mm_fs g x (μ.2.2.1 a) (μ.2.2.2 a)).set y v)) H1 → H1.size = H.size → (∀ q : Nat, q ≠ g.2.2.1 + a → H1[q]? = H[q]?) → W p l e R s m args below meth c H1 (locs ++ [⟨g.2.2.1 + a, k⟩]) cells slots Q (F0 m (pc + 3) ls rest)) :
    W p l e R s m args below meth c H locs cells slots Q (F0 m pc ls (v :: .ref (g.2.2.1 + a) :: rest)) := by
  obtain ⟨he, -⟩ := mm_cell_o hR ha
  have hc := mm_vw x hx11
  have hyN : y < (mm_cls x).2.2 := by rw [mm_clsN x hx11]; exact hy
  have hap := va_apart (C := (mm_cls x).1) (T := (mm_cls x).2.1) (N := (mm_cls x).2.2) (own := mm_own j) hts (mm_in x hx11) (mm_ty x) (by rw [mm_clsN x hx11]; exact mm_ty_ok x hx11) (by rw [mm_clsN x hx11]; exact mm_ty_n x hx11) hC.1 hc
  obtain ⟨r, h1, cell, q1, q2, q3, q4⟩ := hR.2.2 (a - 1) _ he
  have hr : r = mm_cls x := Option.some.inj (h1.symm.trans hc)
  subst hr
  obtain ⟨hSl, hfc, kC, hkC, hkind⟩ := hC.1.1 x _ hc
  obtain ⟨cf, kf, fi, f, hi, hsl⟩ := hSl y hyN
  have hlay := hts _ (mm_in x hx11 _ (u_in_lay hyN))
  have hst := (u_facts hfc hkC (u_lays hts (mm_in x hx11) hyN) hi).1
  have hd := mm_ty_ok x hx11 y hy
  have hl : y < (mm_fs g x (μ.2.2.1 a) (μ.2.2.2 a)).length := by rw [mm_fs_len]; exact hy
  have fini : ∀ H1 : Heap, H1[g.2.2.1 + a]? = some (cell.setSlot (g.1.2 x y) v) → va_at g.1 vwCl (g.2.2.1 + a, .inr (x, (mm_fs g x (μ.2.2.1 a) (μ.2.2.2 a)).set y v)) H1 := fun H1 e1 => ⟨_, hc, t_OB.to (V := updV (vp_V (mm_fs g x (μ.2.2.1 a) (μ.2.2.2 a))) y v) ⟨_, e1, q2, q3, t_set q4 hap hyN v⟩ (fun k _ => vp_updV_set hl v k)⟩
  unfold u_lay at hlay
  by_cases hf : ((mm_cls x).2.1 y).2.2.2 = true
  · rw [if_pos hf] at hlay
    obtain ⟨hk2, hdecl⟩ : mm_nu (mm_me j) 0 = 2 ∧ ((mm_cls x).2.1 y).1 = mm_own j := by
      rcases hfin with h | h
      · rw [hf] at h; cases h
      · exact h
    have hcf : m.cls = cf := by
      obtain ⟨_, _, c', _, _, _, -, -, hf', -, -, -, hown2, -⟩ := Cond.laysFinal_spec hlay
      have e1 : c' = cf := by have := hi.symm.trans hf'; simp at this; exact this.1.symm
      rw [hdecl] at hown2
      rw [← e1]; exact Option.some.inj (hown.symm.trans hown2)
    have h6 := u_fits hfc hkC hkind (Or.inr hlay) hi hd hna hfi
    refine W.putFinK hx hb hown (mm_gw hts hlw rfl) hi hst hcf (hini hk2) (by rw [q2]; exact h6) q1 q3 (by rw [hsl]; exact k2_hasslot (q4 y hyN)) rfl rfl hdg fun H' e1 e2 e3 => ?_
    rw [hsl] at e1
    exact kk H' _ (fini H' e1) e2 e3
  · rw [if_neg hf] at hlay
    have h6 := u_store hfc hkC hkind hlay hi hd hna hfi
    refine W.putK hx hb (f := f) ⟨hown, mm_gw hts hlw rfl, ⟨_, _, _, hi⟩, hst⟩ (by rw [q2]; exact h6) q1 q3 (by rw [hsl]; exact k2_hasslot (q4 y hyN)) rfl rfl hdg fun H' e1 e2 e3 => ?_
    rw [hsl] at e1
    exact kk H' _ (fini H' e1) e2 e3
/-- a place of an int row -/
theorem mm_iast (hx : p.tables.exec = Jvm.exec) (hb : c.code = cc) (hC : mm_C g s s.heap) (hR : mm_R g μ H) {a : Nat} {i v : Int32} {rest : List Value} (ha : (mm_kd μ a).1 = 1) (hin : ¬ (i < 0 ∨ (mm_kd μ a).2 ≤ i.toNatClampNeg)) (hdg : decode cc pc = .ok (.iastore, 1))
    (kk : ∀ (H1 : Heap) (k : Nat), H1[g.2.2.1 + a]? = some (vp_cell (g.2.1 1) ((mm_kd μ a).2, .inl (fun q => if q = i.toNatClampNeg then v else μ.2.2.2 a q))) → H1.size = H.size → (∀ q : Nat, q ≠ g.2.2.1 + a → H1[q]? = H[q]?) → W p l e R s m args below meth c H1 (locs ++ [⟨g.2.2.1 + a, k⟩]) cells slots Q (F0 m (pc + 1) ls rest)) :
    W p l e R s m args below meth c H locs cells slots Q (F0 m pc ls (.int v :: .int i :: .ref (g.2.2.1 + a) :: rest)) := by
  obtain ⟨he, -⟩ := mm_cell_i hR ha
  have ht : (mm_tys g)[0]? = some (g.2.1 1, .int) := rfl
  refine W.iast hx hb (hR.2.2 (a - 1) _ he) ((hC.1.2 0 _ ht).1 (mm_kd μ a).2 (fun j => .int (μ.2.2.2 a j))) (fun q => by cases q) (by show ¬ (i < 0 ∨ (arrV _ _ _).slots.size ≤ _); rw [arrV_size]; exact hin) rfl rfl hdg fun H1 e z oq => ?_
  refine kk H1 _ ?_ z oq
  rw [e]
  show some ((vp_cell (g.2.1 1) ((mm_kd μ a).2, .inl (μ.2.2.2 a))).setSlot _ _) = some (vp_cell (g.2.1 1) ((mm_kd μ a).2, .inl (fun q => if q = i.toNatClampNeg then v else μ.2.2.2 a q)))
  rw [vp_cell_i, vp_cell_i, arrV_store]
  congr 2
  funext q
  by_cases hq : q = i.toNatClampNeg
  · subst hq
    simp [updV]
  · simp [updV, hq]
set_option maxHeartbeats 1000000 in
/-- a place of a row of references to objects of class x -/
theorem mm_aast (hx : p.tables.exec = Jvm.exec) (hb : c.code = cc) (hC : mm_C g s s.heap) (hR : mm_R g μ H) {a q0 x t : Nat} {i : Int32} {rest : List Value} (hx11 : x < 11) (ha : (mm_kd μ a).1 = t) (h2 : 2 ≤ t) (h4 : t ≤ 4) (ht : (mm_tys g)[t - 1]? = some (g.2.1 t, .object (mm_cls x).1)) (hq0 : (mm_kd μ q0).1 = 10 + x) (hin : ¬ (i < 0 ∨ (mm_kd μ a).2 ≤ i.toNatClampNeg)) (hdg : decode cc pc = .ok (.aastore, 1))
    (kk : ∀ (H1 : Heap) (k : Nat), H1[g.2.2.1 + a]? = some (vp_cell (g.2.1 t) ((mm_kd μ a).2, .inr (.inr (.inr (.inr (fun q => mm_q g (if q = i.toNatClampNeg then q0 else μ.2.2.1 a q))))))) → H1.size = H.size → (∀ q : Nat, q ≠ g.2.2.1 + a → H1[q]? = H[q]?) → W p l e R s m args below meth c H1 (locs ++ [⟨g.2.2.1 + a, k⟩]) cells slots Q (F0 m (pc + 1) ls rest)) :
    W p l e R s m args below meth c H locs cells slots Q (F0 m pc ls (.ref (g.2.2.1 + q0) :: .int i :: .ref (g.2.2.1 + a) :: rest)) := by
  subst ha
  obtain ⟨he, -⟩ := mm_cell_q hR h2 h4
  obtain ⟨hv, hrq⟩ := mm_cell_o hR hq0
  have hlt : i.toNatClampNeg < (mm_kd μ a).2 := Nat.not_le.mp fun q => hin (Or.inr q)
  have h0 : ¬ i < 0 := fun q => hin (Or.inl q)
  have hc := mm_vw x hx11
  obtain ⟨r', hr', cellV, g1, g2, g3, -⟩ := hR.2.2 (q0 - 1) _ hv
  have hcls := (hC.1.1 x _ hc).2
  obtain ⟨kA, comp, k1, k2, k3, -⟩ := (hC.1.2 _ _ ht).2
  have hcomp : comp = g.1.1 x := Option.some.inj (k3.symm.trans hcls.1)
  subst hcomp
  obtain ⟨kC, hkC, -⟩ := hcls.2
  refine W.aast hx hb (hR.2.2 (a - 1) _ he) (fun q h => by cases h) (fun h => by cases h) k1 k2 rfl hkC ⟨h0, by show _ < (arrV _ _ _).slots.size; rw [arrV_size]; exact hlt⟩ g1 (fun q h => by rw [g3] at h; cases h) (by rw [g2]; exact hkC) (by rw [g2]; exact va_assign hcls) rfl rfl hdg fun H1 e z oq => ?_
  refine kk H1 _ ?_ z oq
  rw [e]
  show some ((vp_cell (g.2.1 (mm_kd μ a).1) ((mm_kd μ a).2, .inr (.inr (.inr (.inr (fun i => mm_q g (μ.2.2.1 a i))))))).setSlot _ _) = some (vp_cell (g.2.1 (mm_kd μ a).1) ((mm_kd μ a).2, .inr (.inr (.inr (.inr (fun q => mm_q g (if q = i.toNatClampNeg then q0 else μ.2.2.1 a q)))))))
  rw [vp_cell_q, vp_cell_q, arrV_store]
  congr 2
  funext q
  by_cases hq : q = i.toNatClampNeg
  · subst hq
    have h5 : va_rf (mm_q g q0) = .ref (g.2.2.1 + q0) := hrq
    simp [updV, h5]
  · simp [updV, hq]
set_option maxHeartbeats 1000000 in
/-- System.arraycopy of int rows -/
theorem mm_copy (hx : p.tables.exec = Jvm.exec) (hb : c.code = cc) (hml : c.maxLocals = ls.size) (hown : s.vm.findClass (mm_own j) = some m.cls) (hts : ∀ w ∈ mm_gt, w.before args s = true) {index z : Nat} (hlw : lw_tbl[z]? = some (.methodLink (mm_own j) index arraycopyName)) (hC : mm_C g s s.heap) (hR : mm_R g μ H) (hS : va_S (mm_A g) s.heap H locs)
    {a a0 : Nat} {rest : List Value} (ha : (mm_kd μ a).1 = 1) (ha0 : (mm_kd μ a0).1 = 1) {sp dp n : Int32} (h1 : ¬ sp < 0) (h2 : ¬ dp < 0) (h3 : ¬ n < 0) (h4 : sp.toNatClampNeg + n.toNatClampNeg ≤ (mm_kd μ a0).2) (h5 : dp.toNatClampNeg + n.toNatClampNeg ≤ (mm_kd μ a).2) (hframes : 1 ≤ R.frames) (hlocals : (rest.map fun v => v.category).sum + (nativeFrameWords "java/lang/System" "arraycopy" 5 + 11) ≤ R.locals) (hdg : decode cc pc = .ok (.invokestatic index, 3))
    (kk : ∀ (H1 : Heap) (locs1 : List Loc), H1[g.2.2.1 + a]? = some (vp_cell (g.2.1 1) ((mm_kd μ a).2, .inl (va_cpy (μ.2.2.2 a0) (μ.2.2.2 a) sp.toNatClampNeg dp.toNatClampNeg n.toNatClampNeg))) → H1.size = H.size → (∀ q : Nat, q ≠ g.2.2.1 + a → H1[q]? = H[q]?) → va_S (mm_A g) s.heap H1 locs1 → W p l e R s m args below meth c H1 locs1 cells slots Q (F0 m (pc + 3) ls rest)) :
    W p l e R s m args below meth c H locs cells slots Q (F0 m pc ls (.int n :: .int dp :: .ref (g.2.2.1 + a) :: .int sp :: .ref (g.2.2.1 + a0) :: rest)) := by
  have nn : ∀ z : Int32, ¬ z < 0 → z.toInt = (z.toNatClampNeg : Int) := by
    intro z hz
    have hz0 : (0 : Int) ≤ z.toInt := by
      have := Int32.not_lt.mp hz
      simpa using Int32.le_iff_toInt_le.mp this
    show z.toInt = ((z.toInt.toNat : Nat) : Int)
    omega
  obtain ⟨e0, -⟩ := mm_cell_i hR ha0
  obtain ⟨e1, -⟩ := mm_cell_i hR ha
  have ht : (mm_tys g)[0]? = some (g.2.1 1, .int) := rfl
  have hA1 : 1 ≤ a := (mm_kd_in ha (Nat.le_refl 1)).1
  intro T hT X
  have hc0 : H[g.2.2.1 + a0]? = some (vp_cell (g.2.1 1) ((mm_kd μ a0).2, .inl (μ.2.2.2 a0))) := hR.2.2 _ _ e0
  have hc1 : H[g.2.2.1 + a]? = some (vp_cell (g.2.1 1) ((mm_kd μ a).2, .inl (μ.2.2.2 a))) := hR.2.2 _ _ e1
  generalize (mm_kd μ a0).2 = n0 at h4 hc0
  generalize hn1 : (mm_kd μ a).2 = n1 at h5 hc1 kk
  generalize μ.2.2.2 a0 = f at hc0 kk
  generalize μ.2.2.2 a = f1 at hc1 kk
  obtain ⟨-, k0, hk0, cm0, hkk0⟩ := (hC.1.2 0 _ ht).1 n0 (fun j => .int (f j))
  obtain ⟨-, k1, hk1, cm1, hkk1⟩ := (hC.1.2 0 _ ht).1 n1 (fun j => .int (f1 j))
  obtain ⟨vm', X', step⟩ := X.arraycopy hx hown (mm_gw hts hlw rfl) (mm_gw hts (z := 568) (by decide +kernel) rfl) (mm_gw hts (z := 567) (by decide +kernel) rfl) (mm_gw hts (z := 102) (by decide +kernel) rfl) (src := g.2.2.1 + a0) (dst := g.2.2.1 + a) (cs := vp_cell (g.2.1 1) (n0, .inl f)) (cd := vp_cell (g.2.1 1) (n1, .inl f1)) (srcPos := sp) (destPos := dp) (n := n) (by rw [hT]; exact hc0) (by rw [hT]; exact hc1)
    (fun _ h => by cases h) (fun _ h => by cases h) (fun h => by cases h) (fun h => by cases h) hk0 hk1 hkk0 hkk1 (by rfl) h1 h2 h3
    (by rw [nn sp h1, nn n h3]; show ¬ _ > ((arrV (g.2.1 1) n0 (fun j => .int (f j))).slots.size : Int); rw [arrV_size]; omega)
    (by rw [nn dp h2, nn n h3]; show ¬ _ > ((arrV (g.2.1 1) n1 (fun j => .int (f1 j))).slots.size : Int); rw [arrV_size]; omega)
    (fun vm₁ _ i hi => by
      have e : (vp_cell (g.2.1 1) (n0, .inl f)).slots.getD (sp.toNatClampNeg + i) .null = .int (f (sp.toNatClampNeg + i)) := by
        show (arrV (g.2.1 1) n0 (fun j => .int (f j))).slots.getD _ _ = _
        rw [Array.getD_eq_getD_getElem?, arrV_read _ _ (by omega)]
        rfl
      refine ⟨?_, ?_⟩
      · rw [e]
        rfl
      · rw [e]
        exact trivial)
    (g := F0 m pc ls (.int n :: .int dp :: .ref (g.2.2.1 + a) :: .int sp :: .ref (g.2.2.1 + a0) :: rest)) rfl (by rw [hml]) (rest := rest) rfl (by rw [hb]; exact hdg) hframes (by show 2 * 0 + _ + _ ≤ _; omega)
  have ec : copied (vp_cell (g.2.1 1) (n0, .inl f)) (vp_cell (g.2.1 1) (n1, .inl f1)) sp dp n = vp_cell (g.2.1 1) (n1, .inl (va_cpy f f1 sp.toNatClampNeg dp.toNatClampNeg n.toNatClampNeg)) := va_copied (fun z => .int z) (g.2.1 1) (g.2.1 1) f f1 h4
  rw [ec] at X' step
  have hl : g.2.2.1 + a < H.size := (Array.getElem?_eq_some_iff.mp hc1).1
  have hheap : ((T.setVm vm').setCell (g.2.2.1 + a) (vp_cell (g.2.1 1) (n1, .inl (va_cpy f f1 sp.toNatClampNeg dp.toNatClampNeg n.toNatClampNeg)))).heap = H.setIfInBounds (g.2.2.1 + a) (vp_cell (g.2.1 1) (n1, .inl (va_cpy f f1 sp.toNatClampNeg dp.toNatClampNeg n.toNatClampNeg))) := by rw [← hT]; rfl
  have oq : ∀ q : Nat, q ≠ g.2.2.1 + a → (H.setIfInBounds (g.2.2.1 + a) (vp_cell (g.2.1 1) (n1, .inl (va_cpy f f1 sp.toNatClampNeg dp.toNatClampNeg n.toNatClampNeg))))[q]? = H[q]? := fun q hq => by simp [Array.getElem?_setIfInBounds, Ne.symm hq]
  obtain ⟨t, a1, b1⟩ := kk _ _ (show (H.setIfInBounds (g.2.2.1 + a) _)[g.2.2.1 + a]? = some _ by simp [Array.getElem?_setIfInBounds, hl]) (by simp) oq ⟨by simp; exact hS.1, fun q g1 g2 => by
      rw [oq q (fun e => g2 (by rw [e]; show g.2.2.1 < g.2.2.1 + a; omega))]
      exact hS.2.1 q g1 g2, fun q hq => by
      rcases List.mem_append.mp hq with h | h
      · exact hS.2.2 q h
      · obtain ⟨z, -, hz⟩ := List.mem_map.mp h
        rw [← hz]
        show g.2.2.1 < g.2.2.1 + a
        omega⟩ _ hheap X'
  exact ⟨t, step t a1, b1⟩
theorem mm_Ec_oth {μ' : mm_M} {k : Nat} (h1 : μ'.2.1 k = μ.2.1 k) (h2 : μ'.2.2.1 k = μ.2.2.1 k) (h3 : μ'.2.2.2 k = μ.2.2.2 k) : mm_Ec g μ' k = mm_Ec g μ k := by
  unfold mm_Ec
  rw [h1, h2, h3]
theorem mm_up2_ne {α : Type} {f : Nat → Nat → α} {a k q : Nat} {v : α} (h : q ≠ a) : mm_up2 f a k v q = f q := by
  funext j
  simp [mm_up2, h]
theorem mm_up2_at {α : Type} {f : Nat → Nat → α} {a k : Nat} {v : α} : mm_up2 f a k v a = fun j => if j = k then v else f a j := by
  funext j
  simp [mm_up2]
theorem mm_row_ne {α : Type} {f : Nat → Nat → α} {a q : Nat} {h : Nat → α} (hq : q ≠ a) : mm_row f a h q = f q := by
  funext j
  simp [mm_row, hq]
theorem mm_row_at {α : Type} {f : Nat → Nat → α} {a : Nat} {h : Nat → α} : mm_row f a h a = h := by
  funext j
  simp [mm_row]
theorem mm_nar0 {x y : Nat} {v : Int32} (hx11 : x < 11) (hy : y < mm_N x) (hf : mm_fk x y = 0) : narrow (mm_ty x y) (.int v) = .int v ∧ fits (mm_ty x y) (.int v) = true := by
  have h := mm_ty_k x hx11 y hy
  rw [hf] at h
  cases ht : mm_ty x y <;> rw [ht] at h <;> first | exact ⟨rfl, rfl⟩ | (cases h; done)
theorem mm_nar1 {x y : Nat} {v : Int32} (hx11 : x < 11) (hy : y < mm_N x) (hf : mm_fk x y = 1) (hv : v = 0 ∨ v = 1) : narrow (mm_ty x y) (.int v) = .int v ∧ fits (mm_ty x y) (.int v) = true := by
  have h := mm_ty_k x hx11 y hy
  rw [hf] at h
  cases ht : mm_ty x y <;> rw [ht] at h <;> first | (rcases hv with rfl | rfl <;> exact ⟨rfl, rfl⟩) | (cases h; done)
theorem mm_nar2 {x y : Nat} {r : Option Nat} (hx11 : x < 11) (hy : y < mm_N x) (hf : mm_fk x y = 2) : narrow (mm_ty x y) (va_rf r) = va_rf r ∧ fits (mm_ty x y) (va_rf r) = true := by
  have h := mm_ty_k x hx11 y hy
  rw [hf] at h
  cases ht : mm_ty x y <;> rw [ht] at h <;> first | (cases r <;> exact ⟨rfl, rfl⟩) | (cases h; done)
set_option maxHeartbeats 4000000 in
theorem mm_m2_W (hx : p.tables.exec = Jvm.exec) (hb : c.code = cc) (hml : c.maxLocals = nL) (hls : ls.size = nL) (hown : s.vm.findClass (mm_own j) = some m.cls) (hts : ∀ w ∈ mm_gt, w.before args s = true) (hC : mm_C g s s.heap) (hR : mm_R g μ H) (hS : va_S (mm_A g) s.heap H locs) (hfr : mm_nu (mm_me j) 3 ≤ R.frames) (hlo : mm_nu (mm_me j) 4 ≤ R.locals) (hini : mm_nu (mm_me j) 0 = 2 → meth.name = "<init>")
    {ins : Instr} {len x y z : Nat} {st st' : List Value} {μ' : mm_M} (h : mm_m2 ins x y st μ = some (st', μ')) (hk : mm_k3 j ins len x y z = true) (hdg : decode cc pc = .ok (ins, len))
    (kk : ∀ (H1 : Heap) (locs1 : List Loc), mm_R g μ' H1 → va_S (mm_A g) s.heap H1 locs1 → W p l e R s m args below meth c H1 locs1 cells slots Q (F0 m (pc + len) ls (st'.map (mm_rl g)))) : W p l e R s m args below meth c H locs cells slots Q (F0 m pc ls (st.map (mm_rl g))) := by
  unfold mm_m2 at h
  split at h
  · -- putfield
    simp only [mm_k3, Bool.and_eq_true, Bool.or_eq_true, beq_iff_eq, decide_eq_true_eq] at hk
    obtain ⟨⟨⟨⟨rfl, hx11⟩, hy⟩, hlw⟩, hfin⟩ := hk
    split at h
    · rename_i v a st2
      split at h
      · rename_i hc
        obtain ⟨a1, a2, a3, a4⟩ := mm_kd_in hc.1 (by omega)
        rw [a4] at hc
        have key : mm_fk x y ≠ 2 → narrow (mm_ty x y) (.int v) = .int v ∧ fits (mm_ty x y) (.int v) = true → st' = st2 → μ' = (μ.1, μ.2.1, μ.2.2.1, mm_up2 μ.2.2.2 a y v) → W p l e R s m args below meth c H locs cells slots Q (F0 m pc ls ((Value.int v :: .ref a :: st2).map (mm_rl g))) := by
          intro hf hnf e1 e2
          subst e1; subst e2
          rw [List.map_cons, List.map_cons, mm_rl_dyn g a1 a3]
          refine mm_put hx hb hown hts hC hR hS hini hx11 hy hlw hfin (by rw [a4]; exact hc.1) hnf.1 hnf.2 hdg (fun H1 k hat hz ho => ?_)
          refine kk H1 _ (hR.set a1 a2 rfl (fun q hq => mm_Ec_oth rfl rfl (mm_up2_ne hq)) hz ?_ ho) (mm_S_put hS a1 hz ho)
          unfold mm_Ec
          rw [mm_E_o (show (μ.2.1 a).1 = 10 + x from hc.1)]
          have hat : va_at g.1 vwCl (g.2.2.1 + a, .inr (x, (mm_fs g x (μ.2.2.1 a) (μ.2.2.2 a)).set y (.int v))) H1 := hat
          rw [mm_fs_seti hy hf] at hat
          show va_at g.1 vwCl (g.2.2.1 + a, .inr (x, mm_fs g x (μ.2.2.1 a) (mm_up2 μ.2.2.2 a y v a))) H1
          rw [mm_up2_at]
          exact hat
        split at h
        · rename_i hf
          cases h
          exact key (by rw [hf]; decide) (mm_nar0 hx11 hy hf) rfl rfl
        · rename_i hf
          split at h
          · rename_i hv
            cases h
            exact key (by rw [hf]; decide) (mm_nar1 hx11 hy hf hv) rfl rfl
          · cases h
        · cases h
      · cases h
    · rename_i q0 a st2
      split at h
      · rename_i hc
        cases h
        obtain ⟨hc1, -, hf⟩ := hc
        obtain ⟨a1, a2, a3, a4⟩ := mm_kd_in hc1 (by omega)
        rw [a4] at hc1
        rw [List.map_cons, List.map_cons, mm_rl_dyn g a1 a3]
        have hnf := mm_nar2 (r := mm_q g q0) hx11 hy hf
        refine mm_put hx hb hown hts hC hR hS hini hx11 hy hlw hfin (by rw [a4]; exact hc1) hnf.1 hnf.2 hdg (fun H1 k hat hz ho => ?_)
        refine kk H1 _ (hR.set a1 a2 rfl (fun q hq => mm_Ec_oth rfl (mm_up2_ne hq) rfl) hz ?_ ho) (mm_S_put hS a1 hz ho)
        unfold mm_Ec
        rw [mm_E_o (show (μ.2.1 a).1 = 10 + x from hc1)]
        have hat : va_at g.1 vwCl (g.2.2.1 + a, .inr (x, (mm_fs g x (μ.2.2.1 a) (μ.2.2.2 a)).set y (va_rf (mm_q g q0)))) H1 := hat
        rw [mm_fs_setr hy hf] at hat
        show va_at g.1 vwCl (g.2.2.1 + a, .inr (x, mm_fs g x (mm_up2 μ.2.2.1 a y q0 a) (μ.2.2.2 a))) H1
        rw [mm_up2_at]
        exact hat
      · cases h
    · cases h
  · -- iastore
    simp only [mm_k3, beq_iff_eq] at hk
    subst hk
    split at h
    · rename_i v i a st2
      split at h
      · rename_i hc
        split at h
        · cases h
        · rename_i hin
          cases h
          obtain ⟨a1, a2, a3, a4⟩ := mm_kd_in hc (Nat.le_refl 1)
          rw [List.map_cons, List.map_cons, List.map_cons, mm_rl_dyn g a1 a3]
          refine mm_iast hx hb hC hR hc hin hdg (fun H1 k hat hz ho => ?_)
          refine kk H1 _ (hR.set a1 a2 rfl (fun q hq => mm_Ec_oth rfl rfl (mm_up2_ne hq)) hz ?_ ho) (mm_S_put hS a1 hz ho)
          unfold mm_Ec
          have hc' := hc
          rw [a4] at hc' hat
          rw [mm_E_i (show (μ.2.1 a).1 = 1 from hc')]
          show H1[g.2.2.1 + a]? = some (vp_cell (g.2.1 1) ((μ.2.1 a).2, .inl (mm_up2 μ.2.2.2 a i.toNatClampNeg v a)))
          rw [mm_up2_at]
          exact hat
      · cases h
    · cases h
  · -- aastore
    simp only [mm_k3, beq_iff_eq] at hk
    subst hk
    split at h
    · rename_i q0 i a st2
      split at h
      · rename_i hc
        split at h
        · cases h
        · rename_i hin
          cases h
          have key : ∀ t x, x < 11 → 2 ≤ t → t ≤ 4 → (mm_tys g)[t - 1]? = some (g.2.1 t, .object (mm_cls x).1) → (mm_kd μ a).1 = t → (mm_kd μ q0).1 = 10 + x → W p l e R s m args below meth c H locs cells slots Q (F0 m pc ls ((Value.ref q0 :: .int i :: .ref a :: st').map (mm_rl g))) := by
            intro t x hx11 h2 h4 ht ha hq
            obtain ⟨a1, a2, a3, a4⟩ := mm_kd_in ha (by omega)
            obtain ⟨b1, b2, b3, b4⟩ := mm_kd_in hq (by omega)
            rw [List.map_cons, List.map_cons, List.map_cons, mm_rl_dyn g a1 a3, mm_rl_dyn g b1 b3]
            refine mm_aast hx hb hC hR hx11 ha h2 h4 ht hq hin hdg (fun H1 k hat hz ho => ?_)
            refine kk H1 _ (hR.set a1 a2 rfl (fun q hq => mm_Ec_oth rfl (mm_up2_ne hq) rfl) hz ?_ ho) (mm_S_put hS a1 hz ho)
            unfold mm_Ec
            rw [a4] at ha hat
            rw [mm_E_q (show 2 ≤ (μ.2.1 a).1 by omega) (show (μ.2.1 a).1 ≤ 4 by omega)]
            show H1[g.2.2.1 + a]? = some (vp_cell (g.2.1 (μ.2.1 a).1) ((μ.2.1 a).2, .inr (.inr (.inr (.inr (fun k => mm_q g (mm_up2 μ.2.2.1 a i.toNatClampNeg q0 a k)))))))
            rw [mm_up2_at, ha]
            exact hat
          rcases hc with hc | hc
          · exact key 2 5 (by decide) (by decide) (by decide) rfl hc.1 hc.2
          · exact key 3 0 (by decide) (by decide) (by decide) rfl hc.1 hc.2
      · cases h
    · cases h
  · -- arraycopy
    simp only [mm_k3, Bool.and_eq_true, beq_iff_eq, decide_eq_true_eq] at hk
    obtain ⟨⟨⟨rfl, hlw⟩, h1⟩, h2⟩ := hk
    split at h
    · rename_i n dp a sp a0 st2
      split at h
      · rename_i hc
        cases h
        obtain ⟨c1, c2, c3, c4, c5, c6, c7, c8⟩ := hc
        obtain ⟨a1, a2, a3, a4⟩ := mm_kd_in c1 (Nat.le_refl 1)
        obtain ⟨b1, b2, b3, b4⟩ := mm_kd_in c2 (Nat.le_refl 1)
        rw [List.map_cons, List.map_cons, List.map_cons, List.map_cons, List.map_cons, mm_rl_dyn g a1 a3, mm_rl_dyn g b1 b3]
        refine mm_copy hx hb (by rw [hml, hls]) hown hts hlw hC hR hS c1 c2 c3 c4 c5 c6 c7 (Nat.le_trans h1 hfr) ?_ hdg (fun H1 locs1 hat hz ho hS1 => ?_)
        · rw [mm_rl_sum]
          have : nativeFrameWords "java/lang/System" "arraycopy" 5 = 7 := by decide
          rw [this]
          omega
        · refine kk H1 _ (hR.set a1 a2 rfl (fun q hq => mm_Ec_oth rfl rfl (mm_row_ne hq)) hz ?_ ho) hS1
          unfold mm_Ec
          rw [a4] at c1 hat
          rw [mm_E_i (show (μ.2.1 a).1 = 1 from c1)]
          show H1[g.2.2.1 + a]? = some (vp_cell (g.2.1 1) ((μ.2.1 a).2, .inl (mm_row μ.2.2.2 a (va_cpy (μ.2.2.2 a0) (μ.2.2.2 a) sp.toNatClampNeg dp.toNatClampNeg n.toNatClampNeg) a)))
          rw [mm_row_at]
          exact hat
      · cases h
    · cases h
  · cases h
end MMS
end
section
/-! AN INSTRUCTION THAT MAKES A CELL -/
theorem mm_outer (c : ClassId) (N h0 : Nat) : ∀ i : Nat, Jvm.Free.Multi.outerC c N h0 i = arrV c N (fun j => va_rf (if j < i then some (h0 + 1 + j) else none))
  | 0 => by
    show ({ cls := c, slots := Array.replicate N .null, vm := .none } : Cell) = _
    rw [arrV_new]
    refine congrArg (arrV c N) (funext fun j => ?_)
    simp [va_rf]
  | i + 1 => by
    show (Jvm.Free.Multi.outerC c N h0 i).setSlot i (.ref (h0 + 1 + i)) = _
    rw [mm_outer c N h0 i, arrV_store]
    refine congrArg (arrV c N) (funext fun j => ?_)
    by_cases e : j = i
    · subst e
      simp [updV, va_rf]
    · by_cases h : j < i
      · simp [updV, e, h, Nat.lt_succ_of_lt h]
      · simp [updV, e, h, show ¬ j < i + 1 by omega]
section MMN
variable {p : Program} {l : Launch} {e : Env} {R : Room} {s : State} {m : MethodId} {args : Array Value} {below : List Frame} {meth : Method} {c : Code} {H : Heap} {locs : List Loc} {cells slots : Nat} {Q : State → Prop}
variable {cc : ByteArray} {pc : Nat} {ls : Array Slot} {g : mm_G} {nL j : Nat} {μ : mm_M}
theorem mm_R.push {μ' : mm_M} {H1 : Heap} (hR : mm_R g μ H) (hn : μ'.1 = μ.1 + 1) (hk : ∀ k, k ≠ μ.1 → mm_Ec g μ' k = mm_Ec g μ k) (hz : H1.size = H.size + 1) (hat : va_at g.1 vwCl (mm_Ec g μ' μ.1) H1) (ho : ∀ q : Nat, q < H.size → H1[q]? = H[q]?) : mm_R g μ' H1 := by
  refine ⟨by rw [hn]; omega, by rw [hz, hn, hR.2.1]; rfl, ?_⟩
  rw [← mm_ws_new hR.1 hn hk]
  refine (hR.2.2.kept (fun k x hx => ho x.1 ((hR.2.2 k x hx).lt))).app (fun k x hx => ?_)
  have h0 : k < 1 := (List.getElem?_eq_some_iff.mp hx).1
  rw [show k = 0 by omega] at hx
  cases hx
  exact hat
theorem mm_S_push {H1 : Heap} (hS : va_S (mm_A g) s.heap H locs) (hz : H.size ≤ H1.size) (ho : ∀ q : Nat, q < H.size → H1[q]? = H[q]?) : va_S (mm_A g) s.heap H1 locs :=
  ⟨Nat.le_trans hS.1 hz, fun q h1 h2 => (ho q (Nat.lt_of_lt_of_le h1 hS.1)).trans (hS.2.1 q h1 h2), hS.2.2⟩
theorem mm_rl_new (hR : mm_R g μ H) (h : μ.1 < 1000000) : mm_rl g (.ref μ.1) = .ref H.size := by
  rw [mm_rl_dyn g hR.1 h, hR.2.1]
theorem mm_tyk_d {f : Nat} {t : FieldType} (h : mm_tyk f t = true) (hf : f ≠ 2) : defaultValue t = .int 0 := by
  unfold mm_tyk at h
  split at h
  · rfl
  · rfl
  · exact absurd rfl hf
  · exact absurd rfl hf
  · cases h
theorem mm_tyk_r {t : FieldType} (h : mm_tyk 2 t = true) : defaultValue t = .null := by
  cases t <;> first | rfl | (cases h; done)
theorem mm_fs_def {x : Nat} (hx11 : x < 11) : ∀ k, k < (mm_cls x).2.2 → defaultValue (mm_ty x k) = vp_V (mm_fs g x (fun _ => 0) (fun _ => 0)) k := by
  intro k hk
  rw [mm_clsN x hx11] at hk
  have h := mm_ty_k x hx11 k hk
  unfold vp_V
  rw [List.getD_eq_getElem?_getD, mm_fs_get hk]
  by_cases hf : mm_fk x k = 2
  · rw [if_pos hf]
    rw [hf] at h
    exact mm_tyk_r h
  · rw [if_neg hf]
    exact mm_tyk_d h hf
theorem mm_up1_ne {α : Type} {f : Nat → α} {a q : Nat} {v : α} (h : q ≠ a) : mm_up1 f a v q = f q := by simp [mm_up1, h]
theorem mm_up1_at {α : Type} {f : Nat → α} {a : Nat} {v : α} : mm_up1 f a v a = v := by simp [mm_up1]
set_option maxHeartbeats 4000000 in
theorem mm_newarr (hx : p.tables.exec = Jvm.exec) (hb : c.code = cc) (hown : s.vm.findClass (mm_own j) = some m.cls) (hts : ∀ w ∈ mm_gt, w.before args s = true) (hC : mm_C g s s.heap) (hR : mm_R g μ H) (hS : va_S (mm_A g) s.heap H locs) (hcc : mm_nu (mm_me j) 5 ≤ R.cells) (hss : mm_nu (mm_me j) 6 ≤ R.slots)
    {n : Int32} {st2 : List Value} {B : Nat × Nat} (c0 : ¬ n < 0) (c1 : n.toNatClampNeg ≤ 65536) (c2 : B.1 + 1 ≤ mm_nu (mm_me j) 5) (c3 : B.2 + n.toNatClampNeg ≤ mm_nu (mm_me j) 6) (c4 : μ.1 + 1 < 1000000) (hdg : decode cc pc = .ok (.newarray .int, 2))
    (kk : ∀ (H1 : Heap) (locs1 : List Loc), mm_R g (μ.1 + 1, mm_up1 μ.2.1 μ.1 (1, n.toNatClampNeg), mm_row μ.2.2.1 μ.1 (fun _ => 0), mm_row μ.2.2.2 μ.1 (fun _ => 0)) H1 → va_S (mm_A g) s.heap H1 locs1 → W p l e R s m args below meth c H1 locs1 (B.1 + 1) (B.2 + n.toNatClampNeg) Q (F0 m (pc + 2) ls (mm_rl g (.ref μ.1) :: st2))) : W p l e R s m args below meth c H locs B.1 B.2 Q (F0 m pc ls (.int n :: st2)) := by
  have harr : (Jvm.Cond.arrayClass (newarray.typeOf .int)).before args s = true := mm_gw hts (z := 132) (w := .arrayClass .int) (by decide +kernel) rfl
  have hby : n.toNatClampNeg * componentBytes (newarray.typeOf .int) ≤ 536870912 := by
    have e4 : componentBytes (newarray.typeOf .int) = 4 := rfl
    rw [e4]
    omega
  refine va_newaK (g := F0 m pc ls (.int n :: st2)) (rest := st2) (n := n) (N := n.toNatClampNeg) (h := H.size) hx hb harr rfl hdg rfl c0 rfl hby (Nat.le_trans c2 hcc) (Nat.le_trans c3 hss) rfl (fun H1 cA e1 z1 o1 hAr hNm => ?_)
  have hcA : cA = g.2.1 1 := Option.some.inj (hNm.symm.trans ((hC.1.2 0 _ (rfl : (mm_tys g)[0]? = some (g.2.1 1, .int))).2))
  subst hcA
  have key := kk H1 locs (hR.push rfl (fun q hq => mm_Ec_oth (mm_up1_ne hq) (mm_row_ne hq) (mm_row_ne hq)) z1 ?_ o1) (mm_S_push hS (by omega) o1)
  · rw [mm_rl_new hR (by omega)] at key
    exact key
  · unfold mm_Ec
    show va_at g.1 vwCl (g.2.2.1 + μ.1, mm_E g (mm_up1 μ.2.1 μ.1 (1, n.toNatClampNeg) μ.1) (mm_row μ.2.2.1 μ.1 (fun _ => 0) μ.1) (mm_row μ.2.2.2 μ.1 (fun _ => 0) μ.1)) H1
    rw [mm_up1_at, mm_row_at, mm_row_at, mm_E_i rfl, ← hR.2.1]
    exact e1
set_option maxHeartbeats 4000000 in
theorem mm_newmul (hx : p.tables.exec = Jvm.exec) (hb : c.code = cc) (hown : s.vm.findClass (mm_own j) = some m.cls) (hts : ∀ w ∈ mm_gt, w.before args s = true) (hC : mm_C g s s.heap) (hR : mm_R g μ H) (hS : va_S (mm_A g) s.heap H locs) (hcc : mm_nu (mm_me j) 5 ≤ R.cells) (hss : mm_nu (mm_me j) 6 ≤ R.slots)
    {n k : Int32} {st2 : List Value} {B : Nat × Nat} {index : Nat} (hclink0 : (Jvm.Cond.classLink (mm_own j) index "[[I").before args s = true) (c0 : ¬ n < 0) (c1 : ¬ k < 0) (c2 : n.toNatClampNeg ≤ 1000) (c3 : k.toNatClampNeg ≤ 1000) (c4 : B.1 + (1 + n.toNatClampNeg) ≤ mm_nu (mm_me j) 5) (c5 : B.2 + (n.toNatClampNeg + n.toNatClampNeg * k.toNatClampNeg) ≤ mm_nu (mm_me j) 6) (c6 : μ.1 + 1 + n.toNatClampNeg < 1000000) (hdg : decode cc pc = .ok (.multianewarray index 2, 4))
    (kk : ∀ (H1 : Heap) (locs1 : List Loc), mm_R g (μ.1 + 1 + n.toNatClampNeg, (fun q => if q = μ.1 then (4, n.toNatClampNeg) else if μ.1 < q ∧ q < μ.1 + 1 + n.toNatClampNeg then (1, k.toNatClampNeg) else μ.2.1 q), (fun q i => if q = μ.1 then (if i < n.toNatClampNeg then μ.1 + 1 + i else 0) else if μ.1 < q ∧ q < μ.1 + 1 + n.toNatClampNeg then 0 else μ.2.2.1 q i), (fun q i => if μ.1 ≤ q ∧ q < μ.1 + 1 + n.toNatClampNeg then 0 else μ.2.2.2 q i)) H1 → va_S (mm_A g) s.heap H1 locs1 → W p l e R s m args below meth c H1 locs1 (B.1 + 1 + n.toNatClampNeg) (B.2 + n.toNatClampNeg + n.toNatClampNeg * k.toNatClampNeg) Q (F0 m (pc + 4) ls (mm_rl g (.ref μ.1) :: st2))) : W p l e R s m args below meth c H locs B.1 B.2 Q (F0 m pc ls (.int k :: .int n :: st2)) := by
  have harr : (Jvm.Cond.arrayClass .int).before args s = true := mm_gw hts (z := 132) (w := .arrayClass .int) (by decide +kernel) rfl
  have hby : k.toNatClampNeg * componentBytes .int ≤ 536870912 := by
    have e4 : componentBytes .int = 4 := rfl
    rw [e4]
    omega
  intro T hT Xs
  have hclink : (Jvm.Cond.classLink (mm_own j) index ("[" ++ (FieldType.array .int).toString)).before args s = true := hclink0
  obtain ⟨vm₁, cA, comp, -, fA, fC, hO, -, X', step⟩ := Xs.multianewarray2F hx hown hclink (show (Jvm.Cond.arrayOver (.array .int)).before args s = true from hC.2.2.1.2.2) harr (g := F0 m pc ls (.int k :: .int n :: st2)) rfl (by rw [hb]; exact hdg) rfl c0 c1 (by omega) hby (by omega) rfl rfl (Nat.le_trans c4 hcc) (Nat.le_trans c5 hss)
  have e1 : comp = g.2.1 1 := Option.some.inj (fC.symm.trans ((hC.1.2 0 _ (rfl : (mm_tys g)[0]? = some (g.2.1 1, .int))).2))
  have e2 : cA = g.2.1 4 := Option.some.inj (fA.symm.trans ((hC.1.2 3 _ (rfl : (mm_tys g)[3]? = some (g.2.1 4, .array .int))).2))
  subst e1
  subst e2
  generalize hF : Jvm.Free.Multi.fill (T.setVm vm₁) (g.2.1 4) (g.2.1 1) n.toNatClampNeg k.toNatClampNeg (defaultValue .int) n.toNatClampNeg = F at X' step
  have hTh : (T.setVm vm₁).heap = H := hT
  obtain ⟨f1, f2, -, -⟩ := Jvm.Free.Multi.fill_facts (T.setVm vm₁) (g.2.1 4) (g.2.1 1) n.toNatClampNeg k.toNatClampNeg (defaultValue .int) n.toNatClampNeg
  rw [hF, hTh] at f1 f2
  have hold : ∀ x : Nat, x < H.size → F.heap[x]? = H[x]? := fun x hx => by
    have := Jvm.Free.Multi.fill_old (T.setVm vm₁) (g.2.1 4) (g.2.1 1) n.toNatClampNeg k.toNatClampNeg (defaultValue .int) (a := x) (by rw [hTh]; exact hx) n.toNatClampNeg
    rw [hF, hTh] at this
    exact this
  have hrow : ∀ j : Nat, j < n.toNatClampNeg → F.heap[H.size + 1 + j]? = some (vp_cell (g.2.1 1) (k.toNatClampNeg, .inl (fun _ => 0))) := fun j hj => by
    have := Jvm.Free.Multi.fill_inner (T.setVm vm₁) (g.2.1 4) (g.2.1 1) n.toNatClampNeg k.toNatClampNeg (defaultValue .int) n.toNatClampNeg j hj
    rw [hF, hTh] at this
    rw [this, vp_cell_i, ← arrV_new]
    rfl
  have hout : Jvm.Free.Multi.outerC (g.2.1 4) n.toNatClampNeg H.size n.toNatClampNeg = vp_cell (g.2.1 4) (n.toNatClampNeg, .inr (.inr (.inr (.inr (fun i => if i < n.toNatClampNeg then some (H.size + 1 + i) else none))))) := by
    rw [vp_cell_q]
    exact mm_outer (g.2.1 4) n.toNatClampNeg H.size n.toNatClampNeg
  rw [hout] at f2
  have hRel : mm_R g (μ.1 + 1 + n.toNatClampNeg, (fun q => if q = μ.1 then (4, n.toNatClampNeg) else if μ.1 < q ∧ q < μ.1 + 1 + n.toNatClampNeg then (1, k.toNatClampNeg) else μ.2.1 q), (fun q i => if q = μ.1 then (if i < n.toNatClampNeg then μ.1 + 1 + i else 0) else if μ.1 < q ∧ q < μ.1 + 1 + n.toNatClampNeg then 0 else μ.2.2.1 q i), (fun q i => if μ.1 ≤ q ∧ q < μ.1 + 1 + n.toNatClampNeg then 0 else μ.2.2.2 q i)) F.heap := by
    refine ⟨?_, ?_, ?_⟩
    · show 1 ≤ μ.1 + 1 + n.toNatClampNeg
      omega
    · show F.heap.size = g.2.2.1 + (μ.1 + 1 + n.toNatClampNeg)
      rw [f1, hR.2.1]
      omega
    · intro i q hq
      obtain ⟨hi, rfl⟩ := mm_ws_inv hq
      have hi : i + 1 < μ.1 + 1 + n.toNatClampNeg := hi
      unfold mm_Ec
      by_cases h1 : i + 1 < μ.1
      · have hold2 := hR.2.2 i _ (by have := mm_ws_get (g := g) (μ := μ) (a := i + 1) (by omega) h1; rw [show i + 1 - 1 = i by omega] at this; exact this)
        have hne : ¬ (i + 1 = μ.1) := by omega
        have hnb : ¬ (μ.1 < i + 1 ∧ i + 1 < μ.1 + 1 + n.toNatClampNeg) := by omega
        have hnc : ¬ (μ.1 ≤ i + 1 ∧ i + 1 < μ.1 + 1 + n.toNatClampNeg) := by omega
        simp only [hne, hnb, hnc, if_false]
        exact hold2.kept (hold _ (by show g.2.2.1 + (i + 1) < H.size; rw [hR.2.1]; omega))
      · by_cases h2 : i + 1 = μ.1
        · have hnc : μ.1 ≤ i + 1 ∧ i + 1 < μ.1 + 1 + n.toNatClampNeg := by omega
          simp only [h2, if_true, hnc]
          rw [mm_E_q (show 2 ≤ ((4 : Nat), n.toNatClampNeg).1 from (by decide : 2 ≤ 4)) (show ((4 : Nat), n.toNatClampNeg).1 ≤ 4 from Nat.le_refl 4)]
          show F.heap[g.2.2.1 + μ.1]? = some (vp_cell (g.2.1 4) (n.toNatClampNeg, _))
          rw [← hR.2.1, f2]
          congr 7
          funext i
          by_cases hi : i < n.toNatClampNeg
          · simp only [hi, if_true]
            unfold mm_q
            rw [if_neg (by omega), if_pos (by omega), hR.2.1]
            congr 1
            omega
          · simp only [hi, if_false]
            rfl
        · have hnb : μ.1 < i + 1 ∧ i + 1 < μ.1 + 1 + n.toNatClampNeg := by omega
          have hnc : μ.1 ≤ i + 1 ∧ i + 1 < μ.1 + 1 + n.toNatClampNeg := by omega
          simp only [h2, hnb, hnc, if_false, if_true, and_self]
          rw [mm_E_i rfl]
          have := hrow (i - μ.1) (by omega)
          rw [hR.2.1, show g.2.2.1 + μ.1 + 1 + (i - μ.1) = g.2.2.1 + (i + 1) by omega] at this
          exact this

  obtain ⟨t, a1, b1⟩ := kk F.heap locs hRel (mm_S_push hS (by rw [f1]; omega) hold) F rfl X'
  refine ⟨t, step t ?_, b1⟩
  have e : T.heap.size = H.size := by rw [hT]
  rw [e]
  rw [mm_rl_new hR (by omega)] at a1
  exact a1
set_option maxHeartbeats 4000000 in
theorem mm_newref (hx : p.tables.exec = Jvm.exec) (hb : c.code = cc) (hown : s.vm.findClass (mm_own j) = some m.cls) (hC : mm_C g s s.heap) (hR : mm_R g μ H) (hS : va_S (mm_A g) s.heap H locs) (hcc : mm_nu (mm_me j) 5 ≤ R.cells) (hss : mm_nu (mm_me j) 6 ≤ R.slots)
    {n : Int32} {st2 : List Value} {B : Nat × Nat} {index x : Nat} {C : String} (hx23 : x = 2 ∨ x = 3) (ht : (mm_tys g)[x - 1]? = some (g.2.1 x, .object C)) (hcl : (Jvm.Cond.classLink (mm_own j) index C).before args s = true) (hao : va_AO C s) (c0 : ¬ n < 0) (c1 : n.toNatClampNeg ≤ 65536) (c2 : B.1 + 1 ≤ mm_nu (mm_me j) 5) (c3 : B.2 + n.toNatClampNeg ≤ mm_nu (mm_me j) 6) (c4 : μ.1 + 1 < 1000000) (hdg : decode cc pc = .ok (.anewarray index, 3))
    (kk : ∀ (H1 : Heap) (locs1 : List Loc), mm_R g (μ.1 + 1, mm_up1 μ.2.1 μ.1 (x, n.toNatClampNeg), mm_row μ.2.2.1 μ.1 (fun _ => 0), mm_row μ.2.2.2 μ.1 (fun _ => 0)) H1 → va_S (mm_A g) s.heap H1 locs1 → W p l e R s m args below meth c H1 locs1 (B.1 + 1) (B.2 + n.toNatClampNeg) Q (F0 m (pc + 3) ls (mm_rl g (.ref μ.1) :: st2))) : W p l e R s m args below meth c H locs B.1 B.2 Q (F0 m pc ls (.int n :: st2)) := by
  refine W.anew hx hb hown hcl (va_AO.use hao) rfl hdg rfl c0 (by omega) (Nat.le_trans c2 hcc) (Nat.le_trans c3 hss) fun cA kA comp f1 f2 f3 f4 => ?_
  obtain ⟨kA', comp', k1, k2, k3, k4⟩ := (hC.1.2 _ _ ht).2
  have hcA : cA = g.2.1 x := Option.some.inj (f1.symm.trans k4)
  subst hcA
  generalize hH1 : H.push ({ cls := g.2.1 x, slots := Array.replicate n.toNatClampNeg .null, vm := .none } : Cell) = H1
  have z1 : H1.size = H.size + 1 := by rw [← hH1, Array.size_push]
  have e1 : H1[H.size]? = some (arrV (g.2.1 x) n.toNatClampNeg (fun _ => .null)) := by rw [← hH1, Array.getElem?_push_size, ← arrV_new]
  have o1 : ∀ q : Nat, q < H.size → H1[q]? = H[q]? := fun q hq => by rw [← hH1, Array.getElem?_push, if_neg (Nat.ne_of_lt hq)]
  have key := kk H1 locs (hR.push rfl (fun q hq => mm_Ec_oth (mm_up1_ne hq) (mm_row_ne hq) (mm_row_ne hq)) z1 ?_ o1) (mm_S_push hS (by omega) o1)
  · rw [mm_rl_new hR (by omega)] at key
    exact key
  · unfold mm_Ec
    show va_at g.1 vwCl (g.2.2.1 + μ.1, mm_E g (mm_up1 μ.2.1 μ.1 (x, n.toNatClampNeg) μ.1) (mm_row μ.2.2.1 μ.1 (fun _ => 0) μ.1) (mm_row μ.2.2.2 μ.1 (fun _ => 0) μ.1)) H1
    rw [mm_up1_at, mm_row_at, mm_row_at, mm_E_q (show 2 ≤ x by omega) (show x ≤ 4 by omega), ← hR.2.1]
    show H1[H.size]? = some (vp_cell _ _)
    rw [vp_cell_q]
    exact e1
set_option maxHeartbeats 4000000 in
theorem mm_m3_W (hx : p.tables.exec = Jvm.exec) (hb : c.code = cc) (hown : s.vm.findClass (mm_own j) = some m.cls) (hts : ∀ w ∈ mm_gt, w.before args s = true) (hC : mm_C g s s.heap) (hR : mm_R g μ H) (hS : va_S (mm_A g) s.heap H locs) (hcc : mm_nu (mm_me j) 5 ≤ R.cells) (hss : mm_nu (mm_me j) 6 ≤ R.slots)
    {ins : Instr} {len x y z : Nat} {st st' : List Value} {μ' : mm_M} {B B' : Nat × Nat} (h : mm_m3 ins x (mm_nu (mm_me j) 5, mm_nu (mm_me j) 6) st B μ = some (st', B', μ')) (hk : mm_k3 j ins len x y z = true) (hdg : decode cc pc = .ok (ins, len))
    (kk : ∀ (H1 : Heap) (locs1 : List Loc), mm_R g μ' H1 → va_S (mm_A g) s.heap H1 locs1 → B'.1 ≤ mm_nu (mm_me j) 5 → B'.2 ≤ mm_nu (mm_me j) 6 → W p l e R s m args below meth c H1 locs1 B'.1 B'.2 Q (F0 m (pc + len) ls (st'.map (mm_rl g)))) : W p l e R s m args below meth c H locs B.1 B.2 Q (F0 m pc ls (st.map (mm_rl g))) := by
  unfold mm_m3 at h
  split at h
  · -- new
    simp only [mm_k3, Bool.and_eq_true, beq_iff_eq, decide_eq_true_eq] at hk
    obtain ⟨⟨rfl, hx11⟩, hlw⟩ := hk
    split at h
    · rename_i hc
      cases h
      obtain ⟨c1, c2, c3, -⟩ := hc
      have hKn := hC.1.1 x _ (mm_vw x hx11)
      have hN := mm_clsN x hx11
      obtain ⟨w1, w2⟩ := mm_newW x hx11
      refine W.newcK hx hb hown (mm_gw hts hlw rfl) (mm_gw hts w1 rfl) (mm_gw hts w2 rfl) rfl hdg (Nat.le_trans c1 hcc) (by rw [hN]; exact Nat.le_trans c2 hss) hKn.2.1 rfl fun H1 kC hkC e1 z1 o1 => ?_
      rw [hN]
      have key := kk H1 locs (hR.push rfl (fun q hq => mm_Ec_oth (mm_up1_ne hq) (mm_row_ne hq) (mm_row_ne hq)) z1 ?_ o1) (mm_S_push hS (by omega) o1) c1 c2
      · rw [List.map_cons, mm_rl_new hR (by omega)] at key
        exact key
      · unfold mm_Ec
        show va_at g.1 vwCl (g.2.2.1 + μ.1, mm_E g (mm_up1 μ.2.1 μ.1 (10 + x, 0) μ.1) (mm_row μ.2.2.1 μ.1 (fun _ => 0) μ.1) (mm_row μ.2.2.2 μ.1 (fun _ => 0) μ.1)) H1
        rw [mm_up1_at, mm_row_at, mm_row_at, mm_E_o (x := x) rfl, ← hR.2.1]
        exact ⟨_, mm_vw x hx11, (u_born (mm_ty x) hts (mm_in x hx11) hKn hkC e1 (by rw [hN]; exact mm_ty_ok x hx11)).to (mm_fs_def hx11)⟩
    · cases h
  · -- newarray int
    simp only [mm_k3, beq_iff_eq] at hk
    subst hk
    split at h
    · rename_i n st2
      split at h
      · rename_i hc
        cases h
        obtain ⟨c0, c1, c2, c3, c4⟩ := hc
        exact mm_newarr hx hb hown hts hC hR hS hcc hss c0 c1 c2 c3 c4 hdg (fun H1 locs1 r1 r2 => kk H1 locs1 r1 r2 c2 c3)
      · cases h
    · cases h
  · -- anewarray
    simp only [mm_k3, Bool.and_eq_true, beq_iff_eq, decide_eq_true_eq] at hk
    obtain ⟨rfl, hlw⟩ := hk
    split at h
    · rename_i n st2
      split at h
      · rename_i hc
        cases h
        obtain ⟨hx23, c0, c1, c2, c3, c4⟩ := hc
        rcases hx23 with rfl | rfl
        · exact mm_newref (C := RX6) hx hb hown hC hR hS hcc hss (Or.inl rfl) rfl (mm_gw hts hlw rfl) hC.2.2.1.1 c0 c1 c2 c3 c4 hdg (fun H1 locs1 r1 r2 => kk H1 locs1 r1 r2 c2 c3)
        · exact mm_newref (C := RX0) hx hb hown hC hR hS hcc hss (Or.inr rfl) rfl (mm_gw hts hlw rfl) hC.2.2.1.2.1 c0 c1 c2 c3 c4 hdg (fun H1 locs1 r1 r2 => kk H1 locs1 r1 r2 c2 c3)
      · cases h
    · cases h
  · -- multianewarray
    simp only [mm_k3, Bool.and_eq_true, beq_iff_eq, decide_eq_true_eq] at hk
    obtain ⟨rfl, hlw⟩ := hk
    split at h
    · rename_i k n st2
      split at h
      · rename_i hc
        cases h
        obtain ⟨c0, c1, c2, c3, c4, c5, c6⟩ := hc
        exact mm_newmul hx hb hown hts hC hR hS hcc hss (mm_gw hts hlw rfl) c0 c1 c2 c3 c4 c5 c6 hdg (fun H1 locs1 r1 r2 => kk H1 locs1 r1 r2 (by show B.1 + 1 + n.toNatClampNeg ≤ _; omega) (by show B.2 + n.toNatClampNeg + n.toNatClampNeg * k.toNatClampNeg ≤ _; omega))
      · cases h
    · cases h
  · cases h
end MMN
end
section
/-! A RUN OF THE SMALL MACHINE IS A RUN OF THE MACHINE -/
def mm_rm (j : Nat) : Room := { frames := mm_nu (mm_me j) 3, cells := mm_nu (mm_me j) 5, slots := mm_nu (mm_me j) 6, locals := mm_nu (mm_me j) 4 }
def mm_wd (j : Nat) : List Jvm.Cond := .code (mm_me j).1 (mm_me j).2.1 (mm_me j).2.2.1 (mm_me j).2.2.2.1 :: mm_gt
def mm_Pc (g : mm_G) (as : List Value) (μ : mm_M) : Array Value → State → Prop := va_Pc (as.map (mm_rl g)) (fun U => mm_R g μ U.heap ∧ mm_C g U U.heap)
def mm_Qc (g : mm_G) (r : Option Value) (μ' : mm_M) : Array Value → State → Outcome → State → Prop := fun _ st oc t => oc = .returned (r.map (mm_rl g)) ∧ mm_R g μ' t.heap ∧ va_F (mm_A g) st t
/-- a method's standing facts -/
def mm_At (g : mm_G) (j : Nat) (p : Program) (R : Room) (s : State) (m : MethodId) (args : Array Value) (meth : Method) (c : Code) : Prop :=
  p.tables.exec = Jvm.exec ∧ c.code = (mm_me j).2.1 ∧ c.maxLocals = (mm_me j).2.2.1 ∧ s.vm.findClass (mm_own j) = some m.cls ∧ (∀ w ∈ mm_gt, w.before args s = true) ∧ mm_C g s s.heap ∧ (mm_nu (mm_me j) 0 = 2 → meth.name = "<init>") ∧ mm_nu (mm_me j) 3 ≤ R.frames ∧ mm_nu (mm_me j) 4 ≤ R.locals ∧ mm_nu (mm_me j) 5 ≤ R.cells ∧ mm_nu (mm_me j) 6 ≤ R.slots
/-- its end -/
def mm_End (g : mm_G) (j : Nat) (p : Program) (l : Launch) (e : Env) (R : Room) (s : State) (m : MethodId) (args : Array Value) (below : List Frame) (meth : Method) (c : Code) (Q : State → Prop) (r : Option Value) (μ' : mm_M) : Prop :=
  ∀ (pc : Nat) (ins : Instr) (H' : Heap) (locs' : List Loc) (ls' : Array Slot) (B' : Nat × Nat) (st' : List Value), decode (mm_me j).2.1 pc = .ok (ins, 1) → mm_rt j ins st' μ' = some (r, μ') → mm_R g μ' H' → va_S (mm_A g) s.heap H' locs' → B'.1 ≤ mm_nu (mm_me j) 5 → B'.2 ≤ mm_nu (mm_me j) 6 → W p l e R s m args below meth c H' locs' B'.1 B'.2 Q (F0 m pc ls' (st'.map (mm_rl g)))
def mm_Runs (l : Launch) (g : mm_G) (f : Nat) : Prop :=
  ∀ (j i : Nat) (L : mm_Lo) (st : List Value) (B : Nat × Nat) (μ : mm_M) (r : Option Value) (μ' : mm_M), j < 226 → mm_x g.2.2.2.2 f j i L st B μ = some (r, μ') →
    ∀ (p : Program) (e : Env) (R : Room) (s : State) (m : MethodId) (args : Array Value) (below : List Frame) (meth : Method) (c : Code) (H : Heap) (locs : List Loc) (ls : Array Slot) (Q : State → Prop),
      mm_At g j p R s m args meth c → B.1 ≤ mm_nu (mm_me j) 5 → B.2 ≤ mm_nu (mm_me j) 6 → mm_R g μ H → va_S (mm_A g) s.heap H locs → mm_L g ls (mm_me j).2.2.1 L → mm_End g j p l e R s m args below meth c Q r μ' →
      W p l e R s m args below meth c H locs B.1 B.2 Q (F0 m (mm_pc j i) ls (st.map (mm_rl g)))
def mm_Mets (l : Launch) (g : mm_G) (f : Nat) : Prop :=
  ∀ (j : Nat) (as : List Value) (μ : mm_M) (r : Option Value) (μ' : mm_M), j < 225 → (mm_ent as).length ≤ (mm_me j).2.2.1 → mm_x g.2.2.2.2 f j 0 (mm_ini as (mm_me j).2.2.1) [] (0, 0) μ = some (r, μ') →
    Met l (mm_me j).1 (mm_wd j) (mm_rm j) (mm_Pc g as μ) (mm_Qc g r μ') (mm_nu (mm_me j) 5) (mm_nu (mm_me j) 6) (mm_A g)
theorem mm_rt_mu {j : Nat} {ins : Instr} {st : List Value} {μ μ' : mm_M} {r : Option Value} (h : mm_rt j ins st μ = some (r, μ')) : μ' = μ := by
  unfold mm_rt at h
  split at h
  all_goals first
    | (cases h; done)
    | (split at h
       · split at h
         · cases h
           rfl
         · cases h
       · cases h)
/-- the locals at the entry -/
theorem mm_sl_cons (v : Value) (vs : List Value) : (lg_sl (v :: vs)).length = (if v.category = 2 then 2 else 1) + (lg_sl vs).length := by
  unfold lg_sl
  rw [List.flatMap_cons, List.length_append]
  split <;> rfl
theorem mm_ent_cons (v : Value) (vs : List Value) : mm_ent (v :: vs) = (if v.category = 2 then [some v, none] else [some v]) ++ mm_ent vs := by
  cases v <;> rfl
theorem mm_sl_len (g : mm_G) : ∀ as : List Value, (lg_sl (as.map (mm_rl g))).length = (mm_ent as).length := by
  intro as
  induction as with
  | nil => rfl
  | cons v vs ih =>
    rw [List.map_cons, mm_sl_cons, mm_rl_cat, ih, mm_ent_cons, List.length_append]
    split <;> rfl
/-- what the entry's locals hold: place by place -/
theorem mm_ent_at (g : mm_G) : ∀ (as : List Value) (i0 i : Nat) (v : Value), (mm_ent as)[i]? = some (some v) → (i0 + i, mm_rl g v) ∈ lv_args i0 (as.map (mm_rl g)) := by
  intro as
  induction as with
  | nil => intro i0 i v h; simp [mm_ent] at h
  | cons w vs ih =>
    intro i0 i v h
    show (i0 + i, mm_rl g v) ∈ (i0, mm_rl g w) :: lv_args (if (mm_rl g w).category = 2 then i0 + 2 else i0 + 1) (vs.map (mm_rl g))
    rw [mm_rl_cat]
    rw [mm_ent_cons] at h
    by_cases hc : w.category = 2
    · rw [if_pos hc] at h ⊢
      match i, h with
      | 0, h => cases h; exact List.mem_cons_self
      | 1, h => cases h
      | n + 2, h =>
        have := ih (i0 + 2) n v (by simpa using h)
        rw [show i0 + 2 + n = i0 + (n + 2) by omega] at this
        exact List.mem_cons_of_mem _ this
    · rw [if_neg hc] at h ⊢
      match i, h with
      | 0, h => cases h; exact List.mem_cons_self
      | n + 1, h =>
        have := ih (i0 + 1) n v (by simpa using h)
        rw [show i0 + 1 + n = i0 + (n + 1) by omega] at this
        exact List.mem_cons_of_mem _ this
theorem mm_entry (g : mm_G) {as : List Value} {n : Nat} (hn : (mm_ent as).length ≤ n) : mm_L g ((lg_sl (as.map (mm_rl g)) ++ List.replicate (n - (lg_sl (as.map (mm_rl g))).length) Slot.unset).toArray) n (mm_ini as n) := by
  have hlen := mm_sl_len g as
  have h := lv_entry (as.map (mm_rl g)) (n := n) (by rw [hlen]; exact hn)
  refine ⟨h.1, h.2.1, ?_, fun i v hv => ?_⟩
  · unfold mm_ini
    rw [List.length_append, List.length_replicate]
    omega
  · unfold mm_ini at hv
    by_cases hi : i < (mm_ent as).length
    · rw [List.getElem?_append_left hi] at hv
      have := mm_ent_at g as 0 i v hv
      rw [Nat.zero_add] at this
      exact h.2.2 _ this
    · rw [List.getElem?_append_right (by omega), List.getElem?_replicate] at hv
      split at hv
      · cases hv
      · cases hv
end
section
/-! THE INDUCTION -/
theorem mm_hd_code {j : Nat} (h : mm_hd j = true) : lw_tbl[mm_nu (mm_me j) 7]? = some (.code (mm_me j).1 (mm_me j).2.1 (mm_me j).2.2.1 (mm_me j).2.2.2.1) ∧ lw_tbl[mm_nu (mm_me j) 8]? = some (.initialized (mm_me j).1.cls) ∧ plainFor (mm_me j).1 = true ∧ (mm_me j).1.cls ≠ "java/lang/invoke/MethodHandle" ∧ (mm_me j).1.cls ≠ "java/lang/invoke/VarHandle" ∧ mm_pc j 0 = 0 := by
  simp only [mm_hd, Bool.and_eq_true, decide_eq_true_eq, beq_iff_eq] at h
  obtain ⟨⟨⟨⟨⟨⟨h1, h2⟩, h3⟩, h4⟩, h5⟩, h6⟩, -⟩ := h
  exact ⟨h1, h2, h3, h4, h5, h6⟩
theorem mm_hd_kind {j : Nat} (h : mm_hd j = true) : (match mm_nu (mm_me j) 0 with
  | 0 => decide (lw_tbl[mm_nu (mm_me j) 9]? = some (.static (mm_me j).1)) && decide ((parseMethodDescriptor (mm_me j).1.desc).map (fun d => d.parameters.length) = some (mm_nu (mm_me j) 1))
  | 1 => decide (lw_tbl[mm_nu (mm_me j) 9]? = some (.instanceMethod (mm_me j).1)) && decide (lw_tbl[mm_nu (mm_me j) 10]? = some (.selects (mm_me j).1.cls (mm_me j).1 (mm_me j).1)) && decide ((mm_cls (mm_nu (mm_me j) 2)).1 = (mm_me j).1.cls) && decide (mm_nu (mm_me j) 2 < 11) && decide ((parseMethodDescriptor (mm_me j).1.desc).map (fun d => d.parameters.length + 1) = some (mm_nu (mm_me j) 1))
  | 2 => decide (lw_tbl[mm_nu (mm_me j) 9]? = some (.instanceMethod (mm_me j).1)) && decide ((mm_me j).1.name = "<init>") && decide ((mm_me j).2.2.2.1 = none) && decide ((parseMethodDescriptor (mm_me j).1.desc).map (fun d => d.parameters.length + 1) = some (mm_nu (mm_me j) 1))
  | _ => false) = true := by
  unfold mm_hd at h
  rw [Bool.and_eq_true] at h
  exact h.2
set_option maxHeartbeats 1000000 in
theorem mm_met_of (hck : ∀ j, j < 225 → (mm_ckm j && mm_hd j) = true) (l : Launch) (g : mm_G) (f : Nat) (hrun : mm_Runs l g f) : mm_Mets l g f := by
  intro j as μ r μ' hj hlen hxx
  have hd := hck j hj
  rw [Bool.and_eq_true] at hd
  obtain ⟨w1, w2, w3, w4, w5, w6⟩ := mm_hd_code hd.2
  refine va_MetF (cc := (mm_me j).2.1) (maxL := (mm_me j).2.2.1) (ret := (mm_me j).2.2.2.1) w3 rfl ?_
  intro p e s m args below meth c s₁ B hml hpc
  obtain ⟨rfl, hR, hC⟩ := hpc
  have hts0 := atoms_spec (ws := mm_wd j) B.pre
  have hts : ∀ w ∈ mm_gt, w.before _ s = true := fun w h => hts0 w (List.mem_cons_of_mem _ h)
  have hown : s.vm.findClass (mm_own j) = some m.cls := findClass_of_methodNamed B.named
  have hini : mm_nu (mm_me j) 0 = 2 → meth.name = "<init>" := by
    intro h2
    have hk := mm_hd_kind hd.2
    rw [h2] at hk
    simp only [Bool.and_eq_true, decide_eq_true_eq] at hk
    rw [← hk.1.1.2]
    exact (name_of_methodNamed B.named B.method).1
  rw [lg_entry_eq]
  have hS : va_S (mm_A g) s.heap s.heap [] := va_S.rf
  have hL := mm_entry g (as := as) (n := (mm_me j).2.2.1) hlen
  have key := hrun j 0 (mm_ini as (mm_me j).2.2.1) [] (0, 0) μ r μ' (by omega) hxx p e (mm_rm j) s m (as.map (mm_rl g)).toArray below meth c s.heap [] _ (MQ below (mm_Qc g r μ') (as.map (mm_rl g)).toArray s (mm_nu (mm_me j) 5) (mm_nu (mm_me j) 6) (mm_A g)) ⟨B.exec, B.bytes, hml, hown, hts, hC, hini, Nat.le_refl _, Nat.le_refl _, Nat.le_refl _, Nat.le_refl _⟩ (Nat.zero_le _) (Nat.zero_le _) hR hS hL ?_
  · rw [w6] at key
    exact key
  · intro pc ins H' locs' ls' B' st' hdg hrt hR' hS' hb1 hb2
    have hr := B.returns
    have hlocks := B.notSynchronized
    refine W.widen hb1 hb2 ?_
    unfold mm_rt at hrt
    split at hrt
    · split at hrt
      · split at hrt
        · rename_i hrn
          cases hrt
          exact W.vret B.exec B.bytes (hr.trans hrn) (fun t ht hW => ⟨rfl, by rw [ht]; exact hR', hS'.F ht⟩) hS'.2.2 hdg
        · cases hrt
      · cases hrt
    · split at hrt
      · rename_i v
        split at hrt
        · rename_i hrn
          cases hrt
          rcases hrn with hrn | ⟨hrn, hv⟩
          · exact W.iret B.exec B.bytes (hr.trans hrn) (fun t ht hW => ⟨rfl, by rw [ht]; exact hR', hS'.F ht⟩) hS'.2.2 hdg
          · exact W.zret B.exec B.bytes (hr.trans hrn) (by rcases hv with rfl | rfl <;> rfl) (fun t ht hW => ⟨rfl, by rw [ht]; exact hR', hS'.F ht⟩) hS'.2.2 hdg
        · cases hrt
      · cases hrt
    · split at hrt
      · split at hrt
        · rename_i hrn
          cases hrt
          exact W.lret B.exec B.bytes (hr.trans hrn) (fun t ht hW => ⟨rfl, by rw [ht]; exact hR', hS'.F ht⟩) hS'.2.2 hdg
        · cases hrt
      · cases hrt
    · split at hrt
      · rename_i a
        split at hrt
        · rename_i hrn
          cases hrt
          exact W.aret B.exec B.bytes (hr.trans hrn.1) (Or.inl ⟨_, rfl⟩) (mm_rl_ref g a) (fun t ht hW => ⟨rfl, by rw [ht]; exact hR', hS'.F ht⟩) hS'.2.2 hdg
        · cases hrt
      · cases hrt
    · cases hrt
section MMX
variable {p : Program} {l : Launch} {e : Env} {R : Room} {s : State} {m : MethodId} {args : Array Value} {below : List Frame} {meth : Method} {c : Code} {H : Heap} {locs : List Loc} {cells slots : Nat} {Q : State → Prop}
variable {pc : Nat} {ls : Array Slot} {rest st0 : List Value} {a : Array Value} {g : mm_G} {mc ms : Nat}
theorem mm_callx {r : Option Value} {μ' : mm_M} (hr : va_Run p l e R s m args below meth c H locs cells slots mc ms (F0 m pc ls st0) rest (mm_Qc g r μ' a) (mm_A g)) (hS : va_S (mm_A g) s.heap H locs)
    (kk : ∀ (H1 : Heap) (locs1 : List Loc), mm_R g μ' H1 → va_S (mm_A g) s.heap H1 locs1 → W p l e R s m args below meth c H1 locs1 (cells + mc) (slots + ms) Q (F0 m (pc + 3) ls ((r.map (mm_rl g)).toList ++ rest))) : W p l e R s m args below meth c H locs cells slots Q (F0 m pc ls st0) := by
  intro T hT X
  obtain ⟨v, st₀, t, T', L, h0, X', hL, e1, e2, ⟨hv, hp, hz, hk⟩, st⟩ := hr T hT X
  cases hv
  rw [h0] at hz hk
  obtain ⟨t2, a1, b1⟩ := kk T'.heap (locs ++ L) (by rw [e1]; exact hp)
    ⟨Nat.le_trans hS.1 (by rw [e1]; exact hz), fun q h1 h2 => by rw [e1, hk q (Nat.lt_of_lt_of_le h1 hS.1) h2]; exact hS.2.1 q h1 h2, fun q hq => by
      rcases List.mem_append.mp hq with h | h
      · exact hS.2.2 q h
      · exact hL q h⟩ T' rfl X'
  exact ⟨t2, st t2 a1, b1⟩
theorem mm_pre {as : List Value} {μ : mm_M} (hC : mm_C g s s.heap) (hR : mm_R g μ H) (hS : va_S (mm_A g) s.heap H locs) : FrameBlind (mm_Pc g as μ) ∧ ∀ U : State, U.heap = H → s.WarmedH U.vm → mm_Pc g as μ (as.map (mm_rl g)).toArray U := by
  refine ⟨fun a U gf mk h => ⟨h.1, h.2.1, h.2.2.calls gf mk a⟩, fun U hU hW => ⟨rfl, by rw [hU]; exact hR, ?_⟩⟩
  rw [hU]
  exact hC.on hW hS.1 hS.2.1
end MMX
end
section
/-! A CALL, AND THE INDUCTION'S STEP -/
section MMY
variable {p : Program} {l : Launch} {e : Env} {R : Room} {s : State} {m : MethodId} {args : Array Value} {below : List Frame} {meth : Method} {c : Code} {H : Heap} {locs : List Loc} {Q : State → Prop}
variable {pc : Nat} {ls : Array Slot} {g : mm_G} {j : Nat} {μ : mm_M}
theorem mm_take (st : List Value) (n : Nat) : st.map (mm_rl g) = (((st.take n).reverse).map (mm_rl g)).reverse ++ (st.drop n).map (mm_rl g) := by
  rw [← List.map_reverse, List.reverse_reverse, ← List.map_append, List.take_append_drop]
set_option maxHeartbeats 4000000 in
theorem mm_call_W (hck : ∀ j, j < 225 → (mm_ckm j && mm_hd j) = true) {f : Nat} (hmet : mm_Mets l g f) (hAt : mm_At g j p R s m args meth c) (hR : mm_R g μ H) (hS : va_S (mm_A g) s.heap H locs) (hls : ls.size = (mm_me j).2.2.1)
    {ins : Instr} {x y z : Nat} {st as rest : List Value} {B B' : Nat × Nat} {r : Option Value} {μ1 : mm_M} (h : mm_cl j x st B μ = some (as, rest, B')) (hxx : mm_x g.2.2.2.2 f x 0 (mm_ini as (mm_me x).2.2.1) [] (0, 0) μ = some (r, μ1)) (hk : mm_k4 j ins x y z = true) (hdg : decode (mm_me j).2.1 pc = .ok (ins, 3))
    (kk : ∀ (H1 : Heap) (locs1 : List Loc), mm_R g μ1 H1 → va_S (mm_A g) s.heap H1 locs1 → B'.1 ≤ mm_nu (mm_me j) 5 → B'.2 ≤ mm_nu (mm_me j) 6 → W p l e R s m args below meth c H1 locs1 B'.1 B'.2 Q (F0 m (pc + 3) ls ((r.toList ++ rest).map (mm_rl g)))) : W p l e R s m args below meth c H locs B.1 B.2 Q (F0 m pc ls (st.map (mm_rl g))) := by
  obtain ⟨hx, hb, hml, hown, hts, hC, hini, hfr, hlo, hcc, hss⟩ := hAt
  unfold mm_cl at h
  simp only at h
  split at h
  · rename_i hc
    cases h
    obtain ⟨c1, c2, c3, c4, c5, c6⟩ := hc
    simp only [mm_k4, Bool.and_eq_true, decide_eq_true_eq] at hk
    obtain ⟨⟨⟨hx225, k1⟩, k2⟩, hk⟩ := hk
    have hd := hck x hx225
    rw [Bool.and_eq_true] at hd
    obtain ⟨w1, w2, w3, w4, w5, w6⟩ := mm_hd_code hd.2
    have hkd := mm_hd_kind hd.2
    have hM := hmet x ((st.take (mm_nu (mm_me x) 1)).reverse) μ r μ1 hx225 c4 hxx
    have hG : GoodIn mm_gt (mm_wd x) := mm_good (mm_mg w1 rfl)
    have hW8 : 2 * (F0 m pc ls (st.map (mm_rl g))).monitorRoom + (((st.drop (mm_nu (mm_me x) 1)).map (mm_rl g)).map fun v => v.category).sum ≤ 8 := by
      show 2 * 0 + _ ≤ 8
      rw [mm_rl_sum]
      omega
    have hroom : (mm_rm x).frames + 1 ≤ R.frames ∧ 8 + ((mm_me x).2.2.1 + 11) + (mm_rm x).locals ≤ R.locals := ⟨Nat.le_trans k1 hfr, Nat.le_trans k2 hlo⟩
    have hcell : B.1 + mm_nu (mm_me x) 5 ≤ R.cells ∧ B.2 + mm_nu (mm_me x) 6 ≤ R.slots := ⟨Nat.le_trans c5 hcc, Nat.le_trans c6 hss⟩
    have kk' : ∀ (H1 : Heap) (locs1 : List Loc), mm_R g μ1 H1 → va_S (mm_A g) s.heap H1 locs1 → W p l e R s m args below meth c H1 locs1 (B.1 + mm_nu (mm_me x) 5) (B.2 + mm_nu (mm_me x) 6) Q (F0 m (pc + 3) ls ((r.map (mm_rl g)).toList ++ (st.drop (mm_nu (mm_me x) 1)).map (mm_rl g))) := by
      intro H1 locs1 r1 r2
      have := kk H1 locs1 r1 r2 c5 c6
      rw [List.map_append] at this
      cases r with
      | none => exact this
      | some v => exact this
    have hpre := mm_pre (as := (st.take (mm_nu (mm_me x) 1)).reverse) hC hR hS
    have hlenA : ((st.take (mm_nu (mm_me x) 1)).reverse).length = mm_nu (mm_me x) 1 := by
      rw [List.length_reverse, List.length_take]
      omega
    have hst := mm_take (g := g) st (mm_nu (mm_me x) 1)
    generalize hAs : (st.take (mm_nu (mm_me x) 1)).reverse = as at *
    generalize hRs : (st.drop (mm_nu (mm_me x) 1)).map (mm_rl g) = rs at *
    generalize hStk : st.map (mm_rl g) = stk at *
    split at hk
    · -- invokestatic
      rename_i q
      rw [Bool.and_eq_true, beq_iff_eq] at hk
      obtain ⟨hk0, hk⟩ := hk
      rw [hk0] at hkd
      simp only [Bool.and_eq_true, decide_eq_true_eq] at hkd
      split at hk
      · have hlw := of_decide_eq_true hk
        have hcw : CallB R s args (mm_own j) q (mm_me x).1 (mm_me x).2.1 (mm_me x).2.2.1 (mm_me x).2.2.2.1 (mm_wd x) (mm_rm x) (mm_nu (mm_me x) 5) (mm_nu (mm_me x) 6) (mm_nu (mm_me x) 1) := callB_of (mm_nu (mm_me x) 1) hts hG rfl rfl rfl (mm_gw hts w2 rfl) (mm_gw hts hlw rfl) ⟨w4, w5, hkd.2⟩ hroom
        exact mm_callx (va_runS (As := as.map (mm_rl g)) (rest := rs) ⟨hx, hb, hml, hown, hts⟩ hM ⟨hcw, mm_gw hts hkd.1 rfl⟩ hpre rfl (by rw [List.length_map]; exact hlenA) hls hst hW8 hdg hcell) hS kk'
      · simp only [Bool.and_eq_true, decide_eq_true_eq] at hk
        have hcw : va_CN R s args (mm_own j) q (mm_me x).1 "DotSquares" (mm_me x).2.1 (mm_me x).2.2.1 (mm_me x).2.2.2.1 (mm_wd x) (mm_rm x) (mm_nu (mm_me x) 5) (mm_nu (mm_me x) 6) (mm_nu (mm_me x) 1) := va_cnB (mm_nu (mm_me x) 1) hts hG rfl rfl rfl (hC.2.1 y _ hk.1 hk.2) (mm_gw hts w2 rfl) ⟨w4, w5, hkd.2⟩ hroom
        exact mm_callx (va_runSN (As := as.map (mm_rl g)) (rest := rs) ⟨hx, hb, hml, hown, hts⟩ hM ⟨hcw, mm_gw hts hkd.1 rfl, trivial⟩ hpre rfl (by rw [List.length_map]; exact hlenA) hls hst hW8 hdg hcell) hS kk'
    · -- invokevirtual
      rename_i q
      rw [Bool.and_eq_true, beq_iff_eq] at hk
      obtain ⟨hk0, hk⟩ := hk
      rw [hk0] at hkd c3
      simp only [Bool.and_eq_true, decide_eq_true_eq] at hkd
      obtain ⟨⟨⟨⟨d1, d2⟩, d3⟩, d4⟩, d5⟩ := hkd
      unfold mm_rcv at c3
      simp only at c3
      split at c3
      · rename_i a as'
        have ha := of_decide_eq_true c3
        obtain ⟨a1, a2, a3, a4⟩ := mm_kd_in ha (by omega)
        obtain ⟨he, hrl⟩ := mm_cell_o hR ha
        have hn : ∃ n', (parseMethodDescriptor (mm_me x).1.desc).map (fun d => d.parameters.length) = some n' ∧ n' + 1 = mm_nu (mm_me x) 1 := by
          cases hp : parseMethodDescriptor (mm_me x).1.desc with
          | none => rw [hp] at d5; cases d5
          | some sg =>
            rw [hp] at d5
            exact ⟨_, rfl, Option.some.inj d5⟩
        obtain ⟨n', hn1, hn2⟩ := hn
        have hlen' : (as'.map (mm_rl g)).length = n' := by
          rw [List.length_map]
          rw [List.length_cons] at hlenA
          omega
        have hst' : stk = (as'.map (mm_rl g)).reverse ++ .ref (g.2.2.1 + a) :: rs := by
          rw [hst, List.map_cons, hrl, List.reverse_cons, List.append_assoc]
          rfl
        have harr : ((Value.ref a :: as').map (mm_rl g)) = Value.ref (g.2.2.1 + a) :: as'.map (mm_rl g) := by
          rw [List.map_cons, hrl]
        have hpreV : PreV s H (mm_me x).1.cls (g.2.2.1 + a) (mm_Pc g (Value.ref a :: as') μ) (as'.map (mm_rl g)) := by
          refine ⟨hpre.1, ?_, ?_⟩
          · have := va_recv hC.1 hR.2.2 (mm_vw _ d4) he
            rw [d3] at this
            exact this
          · rw [← harr]
            exact hpre.2
        split at hk
        · have hlw := of_decide_eq_true hk
          have hcw : CallB R s args (mm_own j) q (mm_me x).1 (mm_me x).2.1 (mm_me x).2.2.1 (mm_me x).2.2.2.1 (mm_wd x) (mm_rm x) (mm_nu (mm_me x) 5) (mm_nu (mm_me x) 6) n' := callB_of n' hts hG rfl rfl rfl (mm_gw hts w2 rfl) (mm_gw hts hlw rfl) ⟨w4, w5, hn1⟩ hroom
          exact mm_callx (va_runV (C := (mm_me x).1.cls) (As := as'.map (mm_rl g)) (rest := rs) ⟨hx, hb, hml, hown, hts⟩ hM ⟨hcw, mm_gw hts d1 rfl, mm_gw hts d2 rfl⟩ hpreV rfl hlen' hls hst' hW8 hdg hcell) hS kk'
        · simp only [Bool.and_eq_true, decide_eq_true_eq] at hk
          have hcw : va_CN R s args (mm_own j) q (mm_me x).1 "DotSquares" (mm_me x).2.1 (mm_me x).2.2.1 (mm_me x).2.2.2.1 (mm_wd x) (mm_rm x) (mm_nu (mm_me x) 5) (mm_nu (mm_me x) 6) n' := va_cnB n' hts hG rfl rfl rfl (hC.2.1 y _ hk.1 hk.2) (mm_gw hts w2 rfl) ⟨w4, w5, hn1⟩ hroom
          exact mm_callx (va_runVN (C := (mm_me x).1.cls) (As := as'.map (mm_rl g)) (rest := rs) ⟨hx, hb, hml, hown, hts⟩ hM ⟨hcw, mm_gw hts d1 rfl, mm_gw hts d2 rfl⟩ hpreV rfl hlen' hls hst' hW8 hdg hcell) hS kk'
      · cases c3
    · -- invokespecial
      rename_i q
      rw [Bool.and_eq_true, beq_iff_eq] at hk
      obtain ⟨hk0, hk⟩ := hk
      rw [hk0] at hkd c3
      simp only [Bool.and_eq_true, decide_eq_true_eq] at hkd
      obtain ⟨⟨⟨d1, d2⟩, d3⟩, d5⟩ := hkd
      unfold mm_rcv at c3
      simp only at c3
      split at c3
      · rename_i a as'
        have ha := of_decide_eq_true c3
        have hrl := mm_rl_dyn g ha.1 ha.2
        have hn : ∃ n', (parseMethodDescriptor (mm_me x).1.desc).map (fun d => d.parameters.length) = some n' ∧ n' + 1 = mm_nu (mm_me x) 1 := by
          cases hp : parseMethodDescriptor (mm_me x).1.desc with
          | none => rw [hp] at d5; cases d5
          | some sg =>
            rw [hp] at d5
            exact ⟨_, rfl, Option.some.inj d5⟩
        obtain ⟨n', hn1, hn2⟩ := hn
        have hlen' : (as'.map (mm_rl g)).length = n' := by
          rw [List.length_map]
          rw [List.length_cons] at hlenA
          omega
        have hst' : stk = (as'.map (mm_rl g)).reverse ++ .ref (g.2.2.1 + a) :: rs := by
          rw [hst, List.map_cons, hrl, List.reverse_cons, List.append_assoc]
          rfl
        have harr : ((Value.ref a :: as').map (mm_rl g)) = Value.ref (g.2.2.1 + a) :: as'.map (mm_rl g) := by
          rw [List.map_cons, hrl]
        rw [harr] at hpre
        split at hk
        · have hlw := of_decide_eq_true hk
          have hcw : CallB R s args (mm_own j) q (mm_me x).1 (mm_me x).2.1 (mm_me x).2.2.1 none (mm_wd x) (mm_rm x) (mm_nu (mm_me x) 5) (mm_nu (mm_me x) 6) n' := by
            have := callB_of (R := R) (own := mm_own j) (index := q) (y := (mm_me x).1) (bytes := (mm_me x).2.1) (maxL := (mm_me x).2.2.1) (ret := (mm_me x).2.2.2.1) (ws := mm_wd x) (rm := mm_rm x) (mc := mm_nu (mm_me x) 5) (ms := mm_nu (mm_me x) 6) n' hts hG rfl rfl rfl (mm_gw hts w2 rfl) (mm_gw hts hlw rfl) ⟨w4, w5, hn1⟩ hroom
            rw [d3] at this
            exact this
          exact mm_callx (va_runI (As := as'.map (mm_rl g)) (rest := rs) ⟨hx, hb, hml, hown, hts⟩ hM ⟨hcw, d2, mm_gw hts d1 rfl⟩ hpre rfl hlen' hls hst' hW8 hdg hcell) hS kk'
        · simp only [Bool.and_eq_true, decide_eq_true_eq] at hk
          have hcw : va_CN R s args (mm_own j) q (mm_me x).1 "DotSquares" (mm_me x).2.1 (mm_me x).2.2.1 none (mm_wd x) (mm_rm x) (mm_nu (mm_me x) 5) (mm_nu (mm_me x) 6) n' := by
            have := va_cnB (R := R) (own := mm_own j) (host := "DotSquares") (index := q) (y := (mm_me x).1) (bytes := (mm_me x).2.1) (maxL := (mm_me x).2.2.1) (ret := (mm_me x).2.2.2.1) (ws := mm_wd x) (rm := mm_rm x) (mc := mm_nu (mm_me x) 5) (ms := mm_nu (mm_me x) 6) n' hts hG rfl rfl rfl (hC.2.1 y _ hk.1 hk.2) (mm_gw hts w2 rfl) ⟨w4, w5, hn1⟩ hroom
            rw [d3] at this
            exact this
          exact mm_callx (va_runIN (As := as'.map (mm_rl g)) (rest := rs) ⟨hx, hb, hml, hown, hts⟩ hM ⟨hcw, d2, mm_gw hts d1 rfl⟩ hpre rfl hlen' hls hst' hW8 hdg hcell) hS kk'
      · cases c3
    · cases hk
  · cases h
theorem mm_sw_W (hx : p.tables.exec = Jvm.exec) (hb : c.code = (mm_me j).2.1) {ins : Instr} {i' len : Nat} {st st' : List Value} {cells slots : Nat} (h : mm_sw j pc ins st = some (i', st')) (hdg : decode (mm_me j).2.1 pc = .ok (ins, len))
    (kk : W p l e R s m args below meth c H locs cells slots Q (F0 m (mm_pc j i') ls (st'.map (mm_rl g)))) : W p l e R s m args below meth c H locs cells slots Q (F0 m pc ls (st.map (mm_rl g))) := by
  unfold mm_sw at h
  split at h
  · rename_i v st2
    split at h
    · rename_i o ho
      split at h
      · rename_i i hi
        cases h
        have hpc : (pc : Int) + o = ((mm_pc j i' : Nat) : Int) := by
          obtain ⟨hlt, hp, -⟩ := List.findIdx?_eq_some_iff_getElem.mp hi
          have e1 := of_decide_eq_true hp
          unfold mm_pc mm_en
          rw [List.getElem?_eq_getElem hlt]
          exact e1.symm
        unfold mm_off at ho
        split at ho
        · split at ho
          · rename_i hout
            cases ho
            exact lv_tableOut hx hb hdg hout hpc kk
          · rename_i hout
            exact lv_tableIn hx hb hdg (fun q => hout (Or.inl q)) (fun q => hout (Or.inr q)) ho hpc kk
        · cases ho
      · cases h
    · cases h
  · cases h
end MMY
set_option maxHeartbeats 4000000 in
theorem mm_main (hck : ∀ j, j < 225 → (mm_ckm j && mm_hd j) = true) (hlaw : mm_ckm 225 = true) (l : Launch) (g : mm_G) : ∀ f, mm_Runs l g f := by
  intro f
  induction f with
  | zero =>
    intro j i L st B μ r μ' hj hxx
    cases hxx
  | succ f ih =>
    have hmet := mm_met_of hck l g f ih
    intro j i L st B μ r μ' hj hxx p e R s m args below meth c H locs ls Q hAt hb1 hb2 hR hS hL hEnd
    have hckj : mm_ckm j = true := by
      by_cases h225 : j < 225
      · have := hck j h225
        rw [Bool.and_eq_true] at this
        exact this.1
      · rw [show j = 225 by omega]
        exact hlaw
    obtain ⟨hx, hb, hml, hown, hts, hC, hini, hfr, hlo, hcc, hss⟩ := id hAt
    unfold mm_x at hxx
    cases hen : mm_en j i with
    | none => rw [hen] at hxx; cases hxx
    | some e0 =>
      obtain ⟨tag, pc, ins, len, x, y, z⟩ := e0
      rw [hen] at hxx
      simp only at hxx
      have hi : i < (mm_tb j).length := by
        unfold mm_en at hen
        exact (List.getElem?_eq_some_iff.mp hen).1
      have hk : mm_ck j i = true := by
        unfold mm_ckm at hckj
        exact List.all_eq_true.mp hckj i (List.mem_range.mpr hi)
      unfold mm_ck at hk
      rw [hen] at hk
      simp only [Bool.and_eq_true, decide_eq_true_eq] at hk
      obtain ⟨hdg, hk⟩ := hk
      have hpci : mm_pc j i = pc := by
        unfold mm_pc
        rw [hen]
      rw [hpci]
      match tag, hxx, hk with
      | 0, hxx, hk =>
        simp only [Bool.and_eq_true, beq_iff_eq] at hxx hk
        cases hp : mm_pure ins y L st with
        | none => rw [hp] at hxx; cases hxx
        | some q =>
          obtain ⟨L', st'⟩ := q
          rw [hp] at hxx
          refine mm_pure_W hx hb hown hts hp hk.1 hdg hL (fun ls' hL' => ?_)
          rw [← hk.2]
          exact ih j (i + 1) L' st' B μ r μ' hj hxx p e R s m args below meth c H locs ls' Q hAt hb1 hb2 hR hS hL' hEnd
      | 1, hxx, hk =>
        simp only [Bool.and_eq_true, beq_iff_eq] at hxx hk
        obtain ⟨⟨hk1, rfl⟩, hk3⟩ := hk
        cases hp : mm_br ins st with
        | none => rw [hp] at hxx; cases hxx
        | some q =>
          obtain ⟨b, st'⟩ := q
          rw [hp] at hxx
          refine mm_br_W hx hb hp hk1 hdg ?_
          cases b with
          | true => exact ih j x L st' B μ r μ' hj hxx p e R s m args below meth c H locs ls Q hAt hb1 hb2 hR hS hL hEnd
          | false =>
            show W p l e R s m args below meth c H locs B.1 B.2 Q (F0 m (pc + 3) ls (st'.map (mm_rl g)))
            rw [← hk3]
            exact ih j (i + 1) L st' B μ r μ' hj hxx p e R s m args below meth c H locs ls Q hAt hb1 hb2 hR hS hL hEnd
      | 2, hxx, hk =>
        simp only [Bool.and_eq_true, beq_iff_eq] at hxx hk
        obtain ⟨hk1, rfl⟩ := hk
        have h2 : mm_x g.2.2.2.2 f j x L st B μ = some (r, μ') := hxx
        unfold mm_kg at hk1
        split at hk1
        · exact lv_goto hx hb hdg (of_decide_eq_true hk1) (ih j x L st B μ r μ' hj h2 p e R s m args below meth c H locs ls Q hAt hb1 hb2 hR hS hL hEnd)
        · cases hk1
      | 3, hxx, hk =>
        simp only [Bool.and_eq_true, beq_iff_eq] at hxx hk
        cases hp : mm_mem g.2.2.2.2 j ins x y st B μ with
        | none => rw [hp] at hxx; cases hxx
        | some q =>
          obtain ⟨st', B', μ1⟩ := q
          rw [hp] at hxx
          unfold mm_mem at hp
          cases h1 : mm_m1 g.2.2.2.2 ins x y st μ with
          | some s1 =>
            rw [h1] at hp
            cases hp
            refine mm_m1_W hx hb hml hL.1 hown hts hC hR hS hfr hlo (Nat.le_trans hb1 hcc) (Nat.le_trans hb2 hss) h1 hk.1 hdg ?_
            rw [← hk.2]
            exact ih j (i + 1) L st' B μ r μ' hj hxx p e R s m args below meth c H locs ls Q hAt hb1 hb2 hR hS hL hEnd
          | none =>
            rw [h1] at hp
            simp only at hp
            cases h2 : mm_m2 ins x y st μ with
            | some s2 =>
              obtain ⟨st2, μ2⟩ := s2
              rw [h2] at hp
              cases hp
              refine mm_m2_W hx hb hml hL.1 hown hts hC hR hS hfr hlo hini h2 hk.1 hdg (fun H1 locs1 r1 r2 => ?_)
              rw [← hk.2]
              exact ih j (i + 1) L st' B μ1 r μ' hj hxx p e R s m args below meth c H1 locs1 ls Q hAt hb1 hb2 r1 r2 hL hEnd
            | none =>
              rw [h2] at hp
              simp only at hp
              refine mm_m3_W hx hb hown hts hC hR hS hcc hss hp hk.1 hdg (fun H1 locs1 r1 r2 r3 r4 => ?_)
              rw [← hk.2]
              exact ih j (i + 1) L st' B' μ1 r μ' hj hxx p e R s m args below meth c H1 locs1 ls Q hAt r3 r4 r1 r2 hL hEnd
      | 4, hxx, hk =>
        simp only [Bool.and_eq_true, beq_iff_eq] at hxx hk
        obtain ⟨⟨hk1, rfl⟩, hk3⟩ := hk
        cases hp : mm_cl j x st B μ with
        | none => rw [hp] at hxx; cases hxx
        | some q =>
          obtain ⟨as, rest, B'⟩ := q
          rw [hp] at hxx
          simp only at hxx
          cases hc : mm_x g.2.2.2.2 f x 0 (mm_ini as (mm_me x).2.2.1) [] (0, 0) μ with
          | none => rw [hc] at hxx; cases hxx
          | some q2 =>
            obtain ⟨r1, μ1⟩ := q2
            rw [hc] at hxx
            refine mm_call_W hck hmet hAt hR hS hL.1 hp hc hk1 hdg (fun H1 locs1 s1 s2 s3 s4 => ?_)
            rw [← hk3]
            exact ih j (i + 1) L (r1.toList ++ rest) B' μ1 r μ' hj hxx p e R s m args below meth c H1 locs1 ls Q hAt s3 s4 s1 s2 hL hEnd
      | 5, hxx, hk =>
        simp only [beq_iff_eq] at hxx hk
        subst hk
        have hmu := mm_rt_mu hxx
        subst hmu
        exact hEnd pc ins H locs ls B st hdg hxx hR hS hb1 hb2
      | n + 6, hxx, hk =>
        simp only at hxx
        cases hp : mm_sw j pc ins st with
        | none => rw [hp] at hxx; cases hxx
        | some q =>
          obtain ⟨i', st'⟩ := q
          rw [hp] at hxx
          exact mm_sw_W hx hb hp hdg (ih j i' L st' B μ r μ' hj hxx p e R s m args below meth c H locs ls Q hAt hb1 hb2 hR hS hL hEnd)
end
section
/-! THE LAW'S START -/
/-! THE CLAIM OUT OF ONE WALK OF THE LAW'S BODY. Your part is whole_start (and what it stands on); all else here is the same for every law, but numbers. -/
def R_law : String := "DotSquaresLaw"
def lw_P (b : Addr) (xs : List Int32) (args : Array Value) (s : State) : Prop := args = #[.ref b] ∧ s.IntsAt b xs ∧ xs.length ≤ 3072 ∧ (Jvm.Cond.and given_1 narrow_1).before args s = true
def lw_Q (_ : Array Value) (s : State) (o : Outcome) (t : State) : Prop := o = .returned (some (.int 1)) ∧ Framed s o t [] 600000 7302250
def lw_Z (below : List Frame) (a : Array Value) (s : State) : State → Prop := fun t => ∃ o, t.status = .running ∧ Ended t below o ∧ lw_Q a s o t
/-- the law's own end, with 1 on the stack, nothing written that was there before, its room as the claim has it -/
theorem lw_ret {p : Program} {l : Launch} {e : Env} {s : State} {m : MethodId} {below : List Frame} {meth : Method} {c : Code} {b : Nat} (hx : p.tables.exec = Jvm.exec) (hb : c.code = code) (hr : meth.sig.returnType = ret) (hlocks : meth.locks = false) {pc : Nat} {H : Heap} {ls : Array Slot} (hdg : decode code pc = .ok (.ireturn, 1)) : W p l e room_1 s m #[Value.ref b] below meth c H [] 600000 7302250 (lw_Z below #[Value.ref b] s) (F0 m pc ls [.int 1]) := by
  intro T hT X
  obtain ⟨fs, hret, hrun, hended, hW, hframe⟩ := X.leave (v := some (.int 1)) (hlocks := hlocks) (fun h => by rw [hr] at h; cases h)
  have hmeth' : T.vm.method? m = some meth := X.method'
  refine ⟨T.setFrames fs, ?_, .returned (some (.int 1)), hrun, hended, rfl, ⟨_, rfl⟩, hW, hframe⟩
  jvm_step X.here [X.here.top, hx, hb, hdg, hmeth', hr, ret, narrow_b1]
  (try refine ⟨rfl, ?_⟩); (try refine ⟨rfl, ?_⟩)
  first | (intro acts; rw [hret _ acts rfl rfl rfl]) | rw [hret _ _ rfl rfl rfl]
  exact Steps.refl _
/-- what holds at the law's entry: the machine, the code, the tables' words (any of lw_tbl by 'hts w (by decide +kernel)'), the script of L ints xs at the cell b, what the Statement gives of the start (any of its parts by flat_of_before) -/
def lw_At (p : Program) (s : State) (m : MethodId) (meth : Method) (c : Code) (b L : Nat) (xs : Nat → Int32) : Prop :=
  p.tables.exec = Jvm.exec ∧ c.code = code ∧ meth.sig.returnType = ret ∧ c.maxLocals = 4 ∧ s.vm.findClass R_law = some m.cls ∧ (∀ w ∈ lw_tbl, w.before #[Value.ref b] s = true) ∧ va_X b L xs s s.heap ∧ b < s.heap.size ∧ meth.locks = false ∧ (Jvm.Cond.and given_1 narrow_1).before #[Value.ref b] s = true

def mm_narr : Jvm.Cond := Jvm.Cond.and given_1 narrow_1
def mm_tl (i : Nat) : List Nat := match i with
  | 0 => mm_t0
  | 1 => mm_t1
  | 2 => mm_t2
  | _ => mm_t3
theorem mm_n1 : ∀ i, i < 4 → (Jvm.Cond.arrayOf (.static (mm_sf i).1 (mm_sf i).2 "[I") .int) ∈ flatC mm_narr := by decide +kernel
theorem mm_n2 : ∀ i, i < 4 → (Jvm.Cond.eq (.length (.static (mm_sf i).1 (mm_sf i).2 "[I")) (.int (Int32.ofNat (mm_tl i).length))) ∈ flatC mm_narr := by decide +kernel
theorem mm_n3 : ∀ i, i < 4 → ∀ j, j < (mm_tl i).length → (Jvm.Cond.eq (.elem (.static (mm_sf i).1 (mm_sf i).2 "[I") (.int (Int32.ofNat j))) (.int (nI ((mm_tl i).getD j 0)))) ∈ flatC mm_narr := by decide +kernel
theorem mm_n4 : ∀ i, i < 4 → (Jvm.Cond.laysStatic (mm_sf i).1 (mm_sf i).2 "[I") ∈ lw_tbl ∧ (Jvm.Cond.initialized (mm_sf i).1) ∈ lw_tbl := by decide +kernel
def mm_tm : Term := .string "DotSquares$Typed" 35
def mm_tv : Term := .field mm_tm "java/lang/String" "value" "[B"
theorem mm_n5 : (Jvm.Cond.exactly mm_tm "java/lang/String") ∈ flatC mm_narr ∧ (Jvm.Cond.eq (.field mm_tm "java/lang/String" "coder" "B") (.int 0)) ∈ flatC mm_narr ∧ (Jvm.Cond.arrayOf mm_tv .byte) ∈ flatC mm_narr ∧ (Jvm.Cond.eq (.length mm_tv) (.int (Int32.ofNat 9))) ∈ flatC mm_narr := by decide +kernel
theorem mm_n6 : ∀ j, j < 9 → (Jvm.Cond.eq (.elem mm_tv (.int (Int32.ofNat j))) (.int (nI (mm_tx.getD j 0)))) ∈ flatC mm_narr := by decide +kernel
theorem mm_n7 : (Jvm.Cond.eq (.static "java/lang/String" "COMPACT_STRINGS" "Z") (.int 1)) ∈ flatC mm_narr ∧ (Jvm.Cond.isRef (.static "jdk/internal/util/Preconditions" "SIOOBE_FORMATTER" "Ljava/util/function/BiFunction;")) ∈ flatC mm_narr := by decide +kernel
theorem mm_n8 : (Jvm.Cond.laysStatic "java/lang/String" "COMPACT_STRINGS" "Z") ∈ lw_tbl ∧ (Jvm.Cond.initialized "java/lang/String") ∈ lw_tbl ∧ (Jvm.Cond.laysStatic "jdk/internal/util/Preconditions" "SIOOBE_FORMATTER" "Ljava/util/function/BiFunction;") ∈ lw_tbl ∧ (Jvm.Cond.initialized "jdk/internal/util/Preconditions") ∈ lw_tbl ∧ (Jvm.Cond.stringRef "DotSquares$Typed" 35 "lowmidtop") ∈ lw_tbl := by decide +kernel
theorem mm_n9 : (Jvm.Cond.arrayClass .int) ∈ lw_tbl ∧ (Jvm.Cond.arrayOver (.object RX6)) ∈ lw_tbl ∧ (Jvm.Cond.arrayOver (.object RX0)) ∈ lw_tbl ∧ (Jvm.Cond.arrayOver (.array .int)) ∈ lw_tbl := by decide +kernel
theorem mm_tl_S (X : Nat × (Nat → Int32)) : ∀ i, i < 4 → (mm_S X i).1 = (mm_tl i).length ∧ ∀ j, (mm_S X i).2 j = nI ((mm_tl i).getD j 0) := by
  intro i hi
  match i, hi with
  | 0, _ => exact ⟨rfl, fun j => rfl⟩
  | 1, _ => exact ⟨rfl, fun j => rfl⟩
  | 2, _ => exact ⟨rfl, fun j => rfl⟩
  | 3, _ => exact ⟨rfl, fun j => rfl⟩
  | n + 4, h => exact absurd h (by omega)
/-- the facts that hold all the run, from the law's start -/
theorem mm_C_start {p : Program} {s : State} {m : MethodId} {meth : Method} {c : Code} {b L : Nat} {xs : Nat → Int32} (C0 : lw_At p s m meth c b L xs) (hL : L < 2 ^ 31) : ∃ g : mm_G, g.2.2.1 + 1 = s.heap.size ∧ g.2.2.2.1 4 = b ∧ g.2.2.2.2 = (L, xs) ∧ mm_C g s s.heap := by
  obtain ⟨hx, hb, hr, hml, hown, hts, hX, hbl, hlocks, hgv⟩ := C0
  have hs := flat_of_before mm_narr hgv
  have htg : ∀ w ∈ mm_gt, w.before #[Value.ref b] s = true := fun w h => hts w (List.mem_filter.mp h).1
  obtain ⟨bb, hbb⟩ : ∃ bb, bb + 1 = s.heap.size := ⟨s.heap.size - 1, by omega⟩
  have hA : ∀ a : Nat, a < s.heap.size → ¬ (fun q : Nat => bb < q) a := fun a h1 h2 => by
    have : bb < a := h2
    omega
  -- classes
  have hcls : ∀ c : Nat, ∃ q : ClassId × (Nat → Nat), c < 11 → u_Kn s (mm_cls c).1 (mm_cls c).2.1 (mm_cls c).2.2 q.1 q.2 := by
    intro c
    by_cases hc : c < 11
    · obtain ⟨cC, iS, hK⟩ := u_known (C := (mm_cls c).1) (T := (mm_cls c).2.1) (N := (mm_cls c).2.2) htg (mm_in c hc) (mm_gw htg (mm_newW c hc).1 rfl)
      exact ⟨(cC, iS), fun _ => hK⟩
    · exact ⟨(0, fun _ => 0), fun h => absurd h hc⟩
  obtain ⟨dcl, hdcl⟩ := Classical.axiomOfChoice hcls
  -- array classes
  obtain ⟨cI, kI, compI, i1, i2, i3⟩ := Cond.arrayClass_spec (hts _ mm_n9.1)
  obtain ⟨compS, cS, kS, s1, s2, s3, s4, s5⟩ := Cond.arrayOver_spec (hts _ mm_n9.2.1)
  obtain ⟨compB, cB, kB, b1, b2, b3, b4, b5⟩ := Cond.arrayOver_spec (hts _ mm_n9.2.2.1)
  obtain ⟨compA, cA, kA, a1, a2, a3, a4, a5⟩ := arrayOverA_spec (hts _ mm_n9.2.2.2)
  -- tables
  have htab : ∀ i : Nat, ∃ t : Nat, i < 4 → (Term.static (mm_sf i).1 (mm_sf i).2 "[I").eval #[Value.ref b] s none [] s = some (.ref t) ∧ va_T .int t (mm_tl i).length (fun j => .int (nI ((mm_tl i).getD j 0))) (fun q : Nat => bb < q) s s.heap := by
    intro i
    by_cases hi : i < 4
    · have hlen : (mm_tl i).length < 2 ^ 31 := by
        match i, hi with
        | 0, _ => decide
        | 1, _ => decide
        | 2, _ => decide
        | 3, _ => decide
        | n + 4, h => exact absurd h (by omega)
      obtain ⟨t, h1, h2⟩ := va_Tof (f := fun j => .int (nI ((mm_tl i).getD j 0))) (A := fun q : Nat => bb < q) hlen (hs _ (mm_n1 i hi)) (va_eqt (hs _ (mm_n2 i hi))) (fun j hj => va_eqt (hs _ (mm_n3 i hi j hj))) hA
      exact ⟨t, fun _ => ⟨h1, h2⟩⟩
    · exact ⟨0, fun h => absurd h hi⟩
  obtain ⟨tb, htb⟩ := Classical.axiomOfChoice htab
  -- the text
  obtain ⟨qT, cq, cellT, kT, q1, q2, q3, q4, q5, q6, -⟩ := Cond.exactly_spec (args := #[Value.ref b]) (first := s) (o := none) (s := s) (idx := []) (t := mm_tm) (cls := "java/lang/String") (hs _ mm_n5.1)
  obtain ⟨vT, v1, v2⟩ := va_Tof (f := fun j => .int (nI (mm_tx.getD j 0))) (A := fun q : Nat => bb < q) (N := 9) (by decide) (hs _ mm_n5.2.2.1) (va_eqt (hs _ mm_n5.2.2.2)) (fun j hj => va_eqt (hs _ (mm_n6 j hj))) hA
  have hT : mm_T qT vT (fun q : Nat => bb < q) s s.heap := by
    refine ⟨⟨cellT, q3, q5, by rw [q6]; exact q2, hA _ (Array.getElem?_eq_some_iff.mp q3).1⟩, vk_OFof q1 (va_eqt (hs _ mm_n5.2.1)) hA, vk_OFof q1 v1 hA, v2, va_Zof (hts _ mm_n8.1) (hts _ mm_n8.2.1) (va_eqi (hs _ mm_n7.1)) hA, va_Zqof (hts _ mm_n8.2.2.1) (hts _ mm_n8.2.2.2.1) (hs _ mm_n7.2) hA⟩
  refine ⟨((fun c => (dcl c).1, fun c => (dcl c).2), (fun t => if t = 1 then cI else if t = 2 then cS else if t = 3 then cB else cA), bb, (fun i => if i < 4 then tb i else if i = 4 then b else qT), (L, xs)), hbb, rfl, rfl, ?_⟩
  refine ⟨⟨fun c q hq => ?_, fun k q hq => ?_⟩, fun i w hi hw => ?_, ⟨va_AO.of (hts _ mm_n9.2.1), va_AO.of (hts _ mm_n9.2.2.1), hts _ mm_n9.2.2.2⟩, fun i hi => ?_, fun i hi => ?_, ⟨vk_R.of (hts _ mm_n8.2.2.2.2) q1, vT, hT⟩, ?_⟩
  · have hc : c < 11 := (List.getElem?_eq_some_iff.mp hq).1
    have e := hq.symm.trans (mm_vw c hc)
    cases e
    exact hdcl c hc
  · match k, hq with
    | 0, hq => cases hq; exact ⟨fun n z => ⟨fun k h => (by cases h), kI, i2, compI, i3⟩, i1⟩
    | 1, hq => cases hq; exact ⟨fun n z => ⟨fun k h => (by cases h), kS, s3, compS, s4⟩, kS, compS, s3, s4, s1, s5⟩
    | 2, hq => cases hq; exact ⟨fun n z => ⟨fun k h => (by cases h), kB, b3, compB, b4⟩, kB, compB, b3, b4, b1, b5⟩
    | 3, hq => cases hq; exact ⟨fun n z => ⟨fun k h => (by cases h), kA, a3, compA, a4⟩, a5⟩
    | n + 4, hq => exact absurd hq (by simp [mm_tys])
  · have hn := mm_nestW i hi
    rw [hw] at hn
    simp only [Bool.and_eq_true] at hn
    exact va_Nw.of hn.1 (hts w (List.mem_of_getElem? hw))
  · have h := htb i hi
    show va_Z (mm_sf i).1 (mm_sf i).2 "[I" (.ref (if i < 4 then tb i else if i = 4 then b else qT)) (fun q : Nat => bb < q) s s.heap
    rw [if_pos hi]
    exact va_Zof (hts _ (mm_n4 i hi).1) (hts _ (mm_n4 i hi).2) h.1 hA
  · show va_T .int (if i < 4 then tb i else if i = 4 then b else qT) (mm_S (L, xs) i).1 (fun j => .int ((mm_S (L, xs) i).2 j)) (fun q : Nat => bb < q) s s.heap
    by_cases h4 : i < 4
    · rw [if_pos h4]
      obtain ⟨e1, e2⟩ := mm_tl_S (L, xs) i h4
      rw [e1]
      have := (htb i h4).2
      rw [show (fun j => Value.int ((mm_S (L, xs) i).2 j)) = (fun j => Value.int (nI ((mm_tl i).getD j 0))) from funext fun j => by rw [e2]]
      exact this
    · have e4 : i = 4 := by omega
      subst e4
      obtain ⟨scr, h1, h2, h3, h4', h5⟩ := hX
      exact ⟨scr, h1, h2, h3, by rw [h4']; exact Nat.le_refl _, by rw [h4']; rfl, h5, hA b hbl⟩
  · show bb < s.heap.size
    omega
/-- the memory at the start -/
def mm_0 : mm_M := (1, fun _ => (0, 0), fun _ _ => 0, fun _ _ => 0)
set_option maxHeartbeats 4000000 in
/-- THE LAW: it is enough that the small machine runs it to 1 -/
theorem mm_whole (hck : ∀ j, j < 225 → (mm_ckm j && mm_hd j) = true) (hlaw : mm_ckm 225 = true) {p : Program} {e : Env} {s : State} {m : MethodId} {below : List Frame} {meth : Method} {c : Code} (l : Launch) {b L : Nat} {xs : Nat → Int32} (hL : L ≤ 3072) (C0 : lw_At p s m meth c b L xs) (h : ∃ (f : Nat) (μ : mm_M), mm_x (L, xs) f 225 0 (mm_ini [.ref 1000004] 4) [] (0, 0) mm_0 = some (some (.int 1), μ)) : W p l e room_1 s m #[Value.ref b] below meth c s.heap [] 0 0 (lw_Z below #[Value.ref b] s) (entryFrame m ([Value.ref b] : List Value).toArray 4) := by
  obtain ⟨f, μ, hf⟩ := h
  obtain ⟨g, hg1, hg2, hg3, hC⟩ := mm_C_start C0 (Nat.lt_of_le_of_lt hL (by decide))
  obtain ⟨hx, hb, hr, hml, hown, hts, hX, hbl, hlocks, hgv⟩ := C0
  have htg : ∀ w ∈ mm_gt, w.before #[Value.ref b] s = true := fun w h => hts w (List.mem_filter.mp h).1
  have hrl : mm_rl g (.ref 1000004) = .ref b := by
    rw [mm_rl_sta g (by decide)]
    show Value.ref (g.2.2.2.1 4) = _
    rw [hg2]
  rw [lg_entry_eq]
  have hent := mm_entry g (as := [.ref 1000004]) (n := 4) (by decide)
  rw [List.map_cons, List.map_nil, hrl] at hent
  have hR : mm_R g mm_0 s.heap := by
    refine ⟨Nat.le_refl 1, hg1.symm, fun k q hq => ?_⟩
    exact absurd hq (by simp [mm_ws, mm_0])
  have key := mm_main hck hlaw l g f 225 0 (mm_ini [.ref 1000004] 4) [] (0, 0) mm_0 (some (.int 1)) μ (by decide) (by rw [hg3]; exact hf) p e room_1 s m #[Value.ref b] below meth c s.heap [] _ (lw_Z below #[Value.ref b] s) ⟨hx, hb, hml, hown, htg, hC, fun q => absurd q (by decide +kernel), by decide +kernel, by decide +kernel, by decide +kernel, by decide +kernel⟩ (Nat.zero_le _) (Nat.zero_le _) hR va_S.rf hent ?_
  · exact key
  · intro pc ins H' locs' ls' B' st' hdg hrt hR' hS' hb1 hb2
    unfold mm_rt at hrt
    split at hrt
    · split at hrt
      · split at hrt
        · cases hrt
        · cases hrt
      · cases hrt
    · split at hrt
      · split at hrt
        · cases hrt
          refine va_forget (fun q hq => ?_) ?_
          · have := hS'.2.2 q hq
            show s.heap.size ≤ q.base
            have : g.2.2.1 < q.base := this
            omega
          · refine W.widen hb1 hb2 ?_
            exact lw_ret hx hb hr hlocks hdg
        · cases hrt
      · cases hrt
    · split at hrt
      · split at hrt
        · cases hrt
        · cases hrt
      · cases hrt
    · split at hrt
      · split at hrt
        · cases hrt
        · cases hrt
      · cases hrt
    · cases hrt
end
section
/-! THE HEAP BEHIND BOTH CONSTRUCTORS (printed by wip/gen/mkheap.py): kinds, references -/
def kdL : List (Nat × Nat) := [(0, 0), (19, 0), (17, 0), (1, 14), (17, 0), (1, 14), (11, 0), (1, 15), (1, 15), (1, 60), (18, 0), (1, 225), (1, 171), (1, 171), (13, 0), (1, 6), (1, 6), (1, 7), (1, 7), (1, 7), (1, 14), (12, 0), (4, 3), (1, 14), (1, 14), (1, 14), (1, 15), (4, 4), (1, 15), (1, 15), (1, 15), (1, 15), (1, 4), (1, 15), (14, 0), (3, 3), (1, 15), (1, 15), (1, 15), (10, 0), (1, 14), (1, 14), (10, 0), (1, 14), (1, 14), (10, 0), (1, 14), (1, 14), (16, 0), (14, 0), (3, 3), (1, 15), (1, 15), (1, 15), (10, 0), (1, 14), (1, 14), (10, 0), (1, 14), (1, 14), (10, 0), (1, 14), (1, 14), (1, 14), (1, 14), (2, 4), (15, 0), (1, 60), (15, 0), (1, 60), (15, 0), (1, 60), (15, 0), (1, 60), (20, 0), (1, 4), (1, 4), (1, 240), (1, 60), (1, 15), (1, 16), (1, 256), (1, 14), (1, 3), (1, 2), (1, 42), (1, 225), (1, 225), (1, 171), (1, 7), (1, 7), (1, 225), (1, 225), (1, 60), (1, 42), (1, 3), (1, 3), (1, 6), (1, 42), (1, 14), (1, 7)]
def rvL : List (List Nat) := [[], [2, 4, 6, 10, 14, 21, 34, 48, 65], [3], [], [5], [], [7, 8, 0, 9], [], [], [], [11, 12, 13], [], [], [], [15, 16, 17, 18, 19, 20], [], [], [], [], [], [], [0, 0, 0, 0, 22, 26, 27, 32, 33], [23, 24, 25], [], [], [], [], [28, 29, 30, 31], [], [], [], [], [], [], [0, 0, 35, 36, 37, 38], [39, 42, 45], [], [], [], [40, 41], [], [], [43, 44], [], [], [46, 47], [], [], [0, 49, 63, 64], [0, 0, 50, 51, 52, 53], [54, 57, 60], [], [], [], [55, 56], [], [], [58, 59], [], [], [61, 62], [], [], [], [], [66, 68, 70, 72], [0, 0, 0, 67], [], [0, 0, 0, 69], [], [0, 0, 0, 71], [], [0, 0, 0, 73], [], [75, 76, 77, 78, 0, 79, 80, 81, 82, 83, 84, 0, 0, 0, 85, 86, 87, 88, 89, 90, 91, 92, 93, 0, 0, 0, 0, 94, 95, 96, 97, 98, 99, 100], [], [], [], [], [], [], [], [], [], [], [], [], [], [], [], [], [], [], [], [], [], [], [], [], [], []]
def kdT (a : Nat) : Nat × Nat := kdL.getD a (0, 0)
def rvT (a j : Nat) : Nat := (rvL.getD a []).getD j 0
def wyO : List Nat := [4294967295, 4294967295, 4294967295, 0, 1, 2, 3, 4, 5, 6, 7, 8, 4294967295, 4294967295, 4294967295, 4294967295, 4294967295, 4294967295, 17, 16, 15, 14, 13, 12, 11, 10, 9, 4294967295, 4294967295, 4294967295, 4294967295, 4294967295, 4294967295, 18, 19, 20, 21, 22, 23, 24, 25, 26, 4294967295, 4294967295, 4294967295, 4294967295, 4294967295, 4294967295, 4294967295, 33, 32, 31, 30, 29, 28, 27, 4294967295, 4294967295, 4294967295, 4294967295, 34, 35, 36, 37, 38, 39, 40, 41, 42, 43, 44, 45, 46, 47, 48, 63, 62, 61, 60, 59, 58, 57, 56, 55, 54, 53, 52, 51, 50, 49, 64, 65, 66, 67, 68, 69, 70, 71, 72, 73, 74, 75, 76, 77, 78, 4294967295, 4294967295, 4294967295, 4294967295, 4294967295, 4294967295, 4294967295, 4294967295, 4294967295, 4294967295, 4294967295, 4294967295, 4294967295, 4294967295, 4294967295, 79, 80, 81, 82, 83, 84, 85, 86, 87, 88, 89, 90, 91, 92, 93, 108, 107, 106, 105, 104, 103, 102, 101, 100, 99, 98, 97, 96, 95, 94, 109, 110, 111, 112, 113, 114, 115, 116, 117, 118, 119, 120, 121, 122, 123, 4294967295, 4294967295, 4294967295, 4294967295, 134, 133, 132, 131, 130, 129, 128, 127, 126, 125, 124, 4294967295, 4294967295, 4294967295, 135, 136, 137, 138, 139, 140, 141, 142, 143, 144, 145, 146, 4294967295, 4294967295, 4294967295, 158, 157, 156, 155, 154, 153, 152, 151, 150, 149, 148, 147, 4294967295, 4294967295, 4294967295, 159, 160, 161, 162, 163, 164, 165, 166, 167, 168, 169, 170]
def wyR : List Nat := [0, 0, 0, 0, 0, 0, 0, 0, 0, 1, 1, 1, 1, 1, 1, 1, 1, 1, 2, 2, 2, 2, 2, 2, 2, 2, 2, 3, 3, 3, 3, 3, 3, 3, 4, 4, 4, 4, 4, 4, 4, 4, 4, 4, 4, 4, 4, 4, 4, 5, 5, 5, 5, 5, 5, 5, 5, 5, 5, 5, 5, 5, 5, 5, 6, 6, 6, 6, 6, 6, 6, 6, 6, 6, 6, 6, 6, 6, 6, 8, 8, 8, 8, 8, 8, 8, 8, 8, 8, 8, 8, 8, 8, 8, 9, 9, 9, 9, 9, 9, 9, 9, 9, 9, 9, 9, 9, 9, 9, 10, 10, 10, 10, 10, 10, 10, 10, 10, 10, 10, 10, 10, 10, 10, 11, 11, 11, 11, 11, 11, 11, 11, 11, 11, 11, 12, 12, 12, 12, 12, 12, 12, 12, 12, 12, 12, 12, 13, 13, 13, 13, 13, 13, 13, 13, 13, 13, 13, 13, 14, 14, 14, 14, 14, 14, 14, 14, 14, 14, 14, 14]
def wyC : List Nat := [3, 4, 5, 6, 7, 8, 9, 10, 11, 11, 10, 9, 8, 7, 6, 5, 4, 3, 3, 4, 5, 6, 7, 8, 9, 10, 11, 10, 9, 8, 7, 6, 5, 4, 0, 1, 2, 3, 4, 5, 6, 7, 8, 9, 10, 11, 12, 13, 14, 14, 13, 12, 11, 10, 9, 8, 7, 6, 5, 4, 3, 2, 1, 0, 0, 1, 2, 3, 4, 5, 6, 7, 8, 9, 10, 11, 12, 13, 14, 0, 1, 2, 3, 4, 5, 6, 7, 8, 9, 10, 11, 12, 13, 14, 14, 13, 12, 11, 10, 9, 8, 7, 6, 5, 4, 3, 2, 1, 0, 0, 1, 2, 3, 4, 5, 6, 7, 8, 9, 10, 11, 12, 13, 14, 14, 13, 12, 11, 10, 9, 8, 7, 6, 5, 4, 3, 4, 5, 6, 7, 8, 9, 10, 11, 12, 13, 14, 14, 13, 12, 11, 10, 9, 8, 7, 6, 5, 4, 3, 3, 4, 5, 6, 7, 8, 9, 10, 11, 12, 13, 14]
end
section
/-! WHAT A PIECE OF CODE COMES TO: goal first -/
abbrev IV : Type := Nat → Nat → Int32
def mm_N0 (iv : IV) : mm_M := (101, kdT, rvT, iv)
/-- from row i of method j, with locals L and stack st, over the ints iv: it ends, with Q -/
def wp (X : Nat × (Nat → Int32)) (B : Nat × Nat) (j i : Nat) (L : mm_Lo) (st : List Value) (iv : IV) (Q : Option Value → IV → Prop) : Prop :=
  ∃ (f : Nat) (r : Option Value) (iv' : IV), mm_x X f j i L st B (mm_N0 iv) = some (r, mm_N0 iv') ∧ Q r iv'
/-- a call of method j -/
def wc (X : Nat × (Nat → Int32)) (j : Nat) (as : List Value) (iv : IV) (Q : Option Value → IV → Prop) : Prop :=
  wp X (0, 0) j 0 (mm_ini as (mm_me j).2.2.1) [] iv Q
theorem mm_x_mono1 (X : Nat × (Nat → Int32)) : ∀ (f j i : Nat) (L : mm_Lo) (st : List Value) (B : Nat × Nat) (μ : mm_M) (q : Option Value × mm_M), mm_x X f j i L st B μ = some q → mm_x X (f + 1) j i L st B μ = some q := by
  intro f
  induction f with
  | zero => intro j i L st B μ q h; cases h
  | succ f ih =>
    intro j i L st B μ q h
    unfold mm_x at h ⊢
    cases hen : mm_en j i with
    | none => rw [hen] at h; cases h
    | some e0 =>
      obtain ⟨tag, pc, ins, len, x, y, z⟩ := e0
      rw [hen] at h
      simp only at h ⊢
      match tag, h with
      | 0, h =>
        simp only at h ⊢
        cases hp : mm_pure ins y L st with
        | none => rw [hp] at h; cases h
        | some w => rw [hp] at h; exact ih _ _ _ _ _ _ _ h
      | 1, h =>
        simp only at h ⊢
        cases hp : mm_br ins st with
        | none => rw [hp] at h; cases h
        | some w =>
          obtain ⟨b, st'⟩ := w
          rw [hp] at h
          cases b with
          | true => exact ih _ _ _ _ _ _ _ h
          | false => exact ih _ _ _ _ _ _ _ h
      | 2, h => exact ih _ _ _ _ _ _ _ h
      | 3, h =>
        simp only at h ⊢
        cases hp : mm_mem X j ins x y st B μ with
        | none => rw [hp] at h; cases h
        | some w => rw [hp] at h; exact ih _ _ _ _ _ _ _ h
      | 4, h =>
        simp only at h ⊢
        cases hp : mm_cl j x st B μ with
        | none => rw [hp] at h; cases h
        | some w =>
          obtain ⟨as, rest, B'⟩ := w
          rw [hp] at h
          simp only at h ⊢
          cases hc : mm_x X f x 0 (mm_ini as (mm_me x).2.2.1) [] (0, 0) μ with
          | none => rw [hc] at h; cases h
          | some w2 =>
            rw [hc] at h
            rw [ih _ _ _ _ _ _ _ hc]
            exact ih _ _ _ _ _ _ _ h
      | 5, h => exact h
      | n + 6, h =>
        simp only at h ⊢
        cases hp : mm_sw j pc ins st with
        | none => rw [hp] at h; cases h
        | some w => rw [hp] at h; exact ih _ _ _ _ _ _ _ h
theorem mm_x_mono {X : Nat × (Nat → Int32)} {f g j i : Nat} {L : mm_Lo} {st : List Value} {B : Nat × Nat} {μ : mm_M} {q : Option Value × mm_M} (h : mm_x X f j i L st B μ = some q) (hg : f ≤ g) : mm_x X g j i L st B μ = some q := by
  induction hg with
  | refl => exact h
  | step _ ih => exact mm_x_mono1 X _ _ _ _ _ _ _ _ ih
section WPR
variable {X : Nat × (Nat → Int32)} {B : Nat × Nat} {j i : Nat} {L : mm_Lo} {st : List Value} {iv : IV} {Q : Option Value → IV → Prop} {T : List mm_e}
/-- one step, if it is one -/
theorem wp_step {i' : Nat} {L' : mm_Lo} {st' : List Value} {iv' : IV} (h : ∀ f, mm_x X (f + 1) j i L st B (mm_N0 iv) = mm_x X f j i' L' st' B (mm_N0 iv')) (k : wp X B j i' L' st' iv' Q) : wp X B j i L st iv Q := by
  obtain ⟨f, r, iv2, h1, h2⟩ := k
  exact ⟨f + 1, r, iv2, by rw [h]; exact h1, h2⟩
/-- rows that ask nothing: k of them at once -/
def mm_sr (X : Nat × (Nat → Int32)) (T : List mm_e) (iv : IV) : Nat → Nat → mm_Lo → List Value → Option (Nat × mm_Lo × List Value)
  | 0, i, L, st => some (i, L, st)
  | k + 1, i, L, st => match T[i]? with
    | some (0, _, ins, _, _, y, _) => match mm_pure ins y L st with
      | some (L', st') => mm_sr X T iv k (i + 1) L' st'
      | none => none
    | some (2, _, _, _, x, _, _) => mm_sr X T iv k x L st
    | some (3, _, ins, _, x, y, _) => match mm_m1 X ins x y st (mm_N0 iv) with
      | some st' => mm_sr X T iv k (i + 1) L st'
      | none => none
    | _ => none
theorem wp_s (hT : mm_tb j = T) : ∀ (k : Nat) {i : Nat} {L : mm_Lo} {st : List Value} {i' : Nat} {L' : mm_Lo} {st' : List Value}, mm_sr X T iv k i L st = some (i', L', st') → wp X B j i' L' st' iv Q → wp X B j i L st iv Q := by
  intro k
  induction k with
  | zero => intro i L st i' L' st' h hk; cases h; exact hk
  | succ k ih =>
    intro i L st i' L' st' h hk
    unfold mm_sr at h
    split at h
    · rename_i pc ins len x y z he
      split at h
      · rename_i L1 st1 hp
        refine wp_step (fun f => ?_) (ih h hk)
        show (match mm_en j i with | none => none | some (tag, pc, ins, _, x, y, _) => _) = _
        unfold mm_en
        rw [hT, he]
        simp only [hp]
      · cases h
    · rename_i pc ins len x y z he
      refine wp_step (fun f => ?_) (ih h hk)
      show (match mm_en j i with | none => none | some (tag, pc, ins, _, x, y, _) => _) = _
      unfold mm_en
      rw [hT, he]
      rfl
    · rename_i pc ins len x y z he
      split at h
      · rename_i st1 hp
        refine wp_step (fun f => ?_) (ih h hk)
        show (match mm_en j i with | none => none | some (tag, pc, ins, _, x, y, _) => _) = _
        unfold mm_en
        rw [hT, he]
        simp only [mm_mem, hp]
      · cases h
    · cases h
theorem wp_br {ins : Instr} {pc len x y z : Nat} {b : Bool} {st' : List Value} (hT : mm_tb j = T) (he : T[i]? = some (1, pc, ins, len, x, y, z)) (h : mm_br ins st = some (b, st')) (kt : b = true → wp X B j x L st' iv Q) (kf : b = false → wp X B j (i + 1) L st' iv Q) : wp X B j i L st iv Q := by
  cases b with
  | true =>
    refine wp_step (fun f => ?_) (kt rfl)
    show (match mm_en j i with | none => none | some (tag, pc, ins, _, x, y, _) => _) = _
    unfold mm_en
    rw [hT, he]
    simp only [h]
  | false =>
    refine wp_step (fun f => ?_) (kf rfl)
    show (match mm_en j i with | none => none | some (tag, pc, ins, _, x, y, _) => _) = _
    unfold mm_en
    rw [hT, he]
    simp only [h]
theorem wp_if_eq {o : Int} {pc len x y z : Nat} {v : Int32} {st : List Value} (hT : mm_tb j = T) (he : T[i]? = some (1, pc, .ifCond .eq o, len, x, y, z)) (k : (v = 0 → wp X B j x L st iv Q) ∧ (¬ v = 0 → wp X B j (i + 1) L st iv Q)) : wp X B j i L (.int v :: st) iv Q :=
  wp_br hT he rfl (fun h => k.1 (of_decide_eq_true h)) (fun h => k.2 (of_decide_eq_false h))
theorem wp_if_ne {o : Int} {pc len x y z : Nat} {v : Int32} {st : List Value} (hT : mm_tb j = T) (he : T[i]? = some (1, pc, .ifCond .ne o, len, x, y, z)) (k : (v = 0 → wp X B j (i + 1) L st iv Q) ∧ (¬ v = 0 → wp X B j x L st iv Q)) : wp X B j i L (.int v :: st) iv Q :=
  wp_br hT he rfl (fun h => k.2 (of_decide_eq_false (by simpa [mm_cmp] using h))) (fun h => k.1 (of_decide_eq_true (by simpa [mm_cmp] using h)))
theorem wp_if_lt {o : Int} {pc len x y z : Nat} {v : Int32} {st : List Value} (hT : mm_tb j = T) (he : T[i]? = some (1, pc, .ifCond .lt o, len, x, y, z)) (k : (v < 0 → wp X B j x L st iv Q) ∧ (¬ v < 0 → wp X B j (i + 1) L st iv Q)) : wp X B j i L (.int v :: st) iv Q :=
  wp_br hT he rfl (fun h => k.1 (of_decide_eq_true h)) (fun h => k.2 (of_decide_eq_false h))
theorem wp_if_ge {o : Int} {pc len x y z : Nat} {v : Int32} {st : List Value} (hT : mm_tb j = T) (he : T[i]? = some (1, pc, .ifCond .ge o, len, x, y, z)) (k : (0 ≤ v → wp X B j x L st iv Q) ∧ (¬ 0 ≤ v → wp X B j (i + 1) L st iv Q)) : wp X B j i L (.int v :: st) iv Q :=
  wp_br hT he rfl (fun h => k.1 (of_decide_eq_true h)) (fun h => k.2 (of_decide_eq_false h))
theorem wp_if_gt {o : Int} {pc len x y z : Nat} {v : Int32} {st : List Value} (hT : mm_tb j = T) (he : T[i]? = some (1, pc, .ifCond .gt o, len, x, y, z)) (k : (0 < v → wp X B j x L st iv Q) ∧ (¬ 0 < v → wp X B j (i + 1) L st iv Q)) : wp X B j i L (.int v :: st) iv Q :=
  wp_br hT he rfl (fun h => k.1 (of_decide_eq_true h)) (fun h => k.2 (of_decide_eq_false h))
theorem wp_if_le {o : Int} {pc len x y z : Nat} {v : Int32} {st : List Value} (hT : mm_tb j = T) (he : T[i]? = some (1, pc, .ifCond .le o, len, x, y, z)) (k : (v ≤ 0 → wp X B j x L st iv Q) ∧ (¬ v ≤ 0 → wp X B j (i + 1) L st iv Q)) : wp X B j i L (.int v :: st) iv Q :=
  wp_br hT he rfl (fun h => k.1 (of_decide_eq_true h)) (fun h => k.2 (of_decide_eq_false h))
theorem wp_ic_eq {o : Int} {pc len x y z : Nat} {v w : Int32} {st : List Value} (hT : mm_tb j = T) (he : T[i]? = some (1, pc, .if_icmp .eq o, len, x, y, z)) (k : (v = w → wp X B j x L st iv Q) ∧ (¬ v = w → wp X B j (i + 1) L st iv Q)) : wp X B j i L (.int w :: .int v :: st) iv Q :=
  wp_br hT he rfl (fun h => k.1 (of_decide_eq_true h)) (fun h => k.2 (of_decide_eq_false h))
theorem wp_ic_ne {o : Int} {pc len x y z : Nat} {v w : Int32} {st : List Value} (hT : mm_tb j = T) (he : T[i]? = some (1, pc, .if_icmp .ne o, len, x, y, z)) (k : (v = w → wp X B j (i + 1) L st iv Q) ∧ (¬ v = w → wp X B j x L st iv Q)) : wp X B j i L (.int w :: .int v :: st) iv Q :=
  wp_br hT he rfl (fun h => k.2 (of_decide_eq_false (by simpa [mm_cmp] using h))) (fun h => k.1 (of_decide_eq_true (by simpa [mm_cmp] using h)))
theorem wp_ic_lt {o : Int} {pc len x y z : Nat} {v w : Int32} {st : List Value} (hT : mm_tb j = T) (he : T[i]? = some (1, pc, .if_icmp .lt o, len, x, y, z)) (k : (v < w → wp X B j x L st iv Q) ∧ (¬ v < w → wp X B j (i + 1) L st iv Q)) : wp X B j i L (.int w :: .int v :: st) iv Q :=
  wp_br hT he rfl (fun h => k.1 (of_decide_eq_true h)) (fun h => k.2 (of_decide_eq_false h))
theorem wp_ic_ge {o : Int} {pc len x y z : Nat} {v w : Int32} {st : List Value} (hT : mm_tb j = T) (he : T[i]? = some (1, pc, .if_icmp .ge o, len, x, y, z)) (k : (w ≤ v → wp X B j x L st iv Q) ∧ (¬ w ≤ v → wp X B j (i + 1) L st iv Q)) : wp X B j i L (.int w :: .int v :: st) iv Q :=
  wp_br hT he rfl (fun h => k.1 (of_decide_eq_true h)) (fun h => k.2 (of_decide_eq_false h))
theorem wp_ic_gt {o : Int} {pc len x y z : Nat} {v w : Int32} {st : List Value} (hT : mm_tb j = T) (he : T[i]? = some (1, pc, .if_icmp .gt o, len, x, y, z)) (k : (w < v → wp X B j x L st iv Q) ∧ (¬ w < v → wp X B j (i + 1) L st iv Q)) : wp X B j i L (.int w :: .int v :: st) iv Q :=
  wp_br hT he rfl (fun h => k.1 (of_decide_eq_true h)) (fun h => k.2 (of_decide_eq_false h))
theorem wp_ic_le {o : Int} {pc len x y z : Nat} {v w : Int32} {st : List Value} (hT : mm_tb j = T) (he : T[i]? = some (1, pc, .if_icmp .le o, len, x, y, z)) (k : (v ≤ w → wp X B j x L st iv Q) ∧ (¬ v ≤ w → wp X B j (i + 1) L st iv Q)) : wp X B j i L (.int w :: .int v :: st) iv Q :=
  wp_br hT he rfl (fun h => k.1 (of_decide_eq_true h)) (fun h => k.2 (of_decide_eq_false h))
/-- a row of memory read, or written -/
theorem wp_m1 {ins : Instr} {pc len x y z : Nat} {st' : List Value} (hT : mm_tb j = T) (he : T[i]? = some (3, pc, ins, len, x, y, z)) (h : mm_m1 X ins x y st (mm_N0 iv) = some st') (k : wp X B j (i + 1) L st' iv Q) : wp X B j i L st iv Q := by
  refine wp_step (fun f => ?_) k
  show (match mm_en j i with | none => none | some (tag, pc, ins, _, x, y, _) => _) = _
  unfold mm_en
  rw [hT, he]
  simp only [mm_mem, h]
theorem wp_m2 {ins : Instr} {pc len x y z : Nat} {st' : List Value} {iv' : IV} (hT : mm_tb j = T) (he : T[i]? = some (3, pc, ins, len, x, y, z)) (h1 : mm_m1 X ins x y st (mm_N0 iv) = none) (h : mm_m2 ins x y st (mm_N0 iv) = some (st', mm_N0 iv')) (k : wp X B j (i + 1) L st' iv' Q) : wp X B j i L st iv Q := by
  refine wp_step (fun f => ?_) k
  show (match mm_en j i with | none => none | some (tag, pc, ins, _, x, y, _) => _) = _
  unfold mm_en
  rw [hT, he]
  simp only [mm_mem, h1, h]
theorem kd_eq (iv : IV) (a : Nat) : mm_kd (mm_N0 iv) a = if 1 ≤ a ∧ a < 101 then kdT a else (0, 0) := by
  unfold mm_kd
  by_cases h : 1 ≤ a ∧ a < 101
  · rw [if_pos h, if_pos ⟨h.1, h.2, by omega⟩]
    rfl
  · rw [if_neg h, if_neg (fun q => h ⟨q.1, q.2.1⟩)]
theorem kd_of {iv : IV} {a : Nat} {q : Nat × Nat} (h : kdT a = q) (hq : 1 ≤ q.1) : mm_kd (mm_N0 iv) a = q := by
  rw [kd_eq, if_pos, h]
  refine ⟨?_, ?_⟩
  · rcases Nat.eq_zero_or_pos a with rfl | h0
    · rw [← h] at hq
      exact absurd hq (by decide)
    · exact h0
  · rcases Nat.lt_or_ge a 101 with h1 | h1
    · exact h1
    · have : kdT a = (0, 0) := by
        unfold kdT
        rw [List.getD_eq_getElem?_getD, List.getElem?_eq_none (by exact h1)]
        rfl
      rw [this] at h
      rw [← h] at hq
      exact absurd hq (by decide)
theorem kd_lt {a : Nat} {q : Nat × Nat} (h : kdT a = q) (hq : 1 ≤ q.1) : a < 1000000 := by
  rcases Nat.lt_or_ge a 101 with h1 | h1
  · omega
  · have : kdT a = (0, 0) := by
      unfold kdT
      rw [List.getD_eq_getElem?_getD, List.getElem?_eq_none (by exact h1)]
      rfl
    rw [this] at h
    rw [← h] at hq
    exact absurd hq (by decide)
theorem wp_iald {pc len x y z a n : Nat} {v : Int32} {st : List Value} (hT : mm_tb j = T) (he : T[i]? = some (3, pc, .iaload, len, x, y, z)) (hk : kdT a = (1, n)) (k : vp_in v n ∧ wp X B j (i + 1) L (.int (iv a v.toNatClampNeg) :: st) iv Q) : wp X B j i L (.int v :: .ref a :: st) iv Q := by
  refine wp_m1 hT he ?_ k.2
  show (if a < 1000000 then (if (mm_kd (mm_N0 iv) a).1 = 1 then (if v < 0 ∨ (mm_kd (mm_N0 iv) a).2 ≤ v.toNatClampNeg then none else _) else none) else _) = _
  rw [if_pos (kd_lt hk (Nat.le_refl 1)), kd_of hk (Nat.le_refl 1), if_pos rfl, if_neg k.1]
  rfl
theorem wp_tald {pc len x y z a b : Nat} {v : Int32} {st : List Value} (hT : mm_tb j = T) (he : T[i]? = some (3, pc, .iaload, len, x, y, z)) (hb : b = 1000000 + a) (ha : a < 5) (k : vp_in v (mm_S X a).1 ∧ wp X B j (i + 1) L (.int ((mm_S X a).2 v.toNatClampNeg) :: st) iv Q) : wp X B j i L (.int v :: .ref b :: st) iv Q := by
  refine wp_m1 hT he ?_ k.2
  have e1 : ¬ b < 1000000 := by omega
  have e2 : b < 1000005 := by omega
  have e3 : b - 1000000 = a := by omega
  unfold mm_m1
  simp only [e1, e2, e3, if_false, if_true]
  exact if_neg k.1
theorem wp_aald {pc len x y z a n t : Nat} {v : Int32} {st : List Value} (hT : mm_tb j = T) (he : T[i]? = some (3, pc, .aaload, len, x, y, z)) (hk : kdT a = (t, n)) (ht : 2 ≤ t ∧ t ≤ 4) (k : vp_in v n ∧ wp X B j (i + 1) L (.ref (rvT a v.toNatClampNeg) :: st) iv Q) : wp X B j i L (.int v :: .ref a :: st) iv Q := by
  refine wp_m1 hT he ?_ k.2
  show (if 2 ≤ (mm_kd (mm_N0 iv) a).1 ∧ (mm_kd (mm_N0 iv) a).1 ≤ 4 then (if v < 0 ∨ (mm_kd (mm_N0 iv) a).2 ≤ v.toNatClampNeg then none else _) else none) = _
  rw [kd_of hk (by show 1 ≤ t; omega), if_pos ht, if_neg k.1]
  rfl
theorem wp_alen {pc len x y z a n t : Nat} {st : List Value} (hT : mm_tb j = T) (he : T[i]? = some (3, pc, .arraylength, len, x, y, z)) (hk : kdT a = (t, n)) (ht : 1 ≤ t ∧ t ≤ 4) (k : wp X B j (i + 1) L (.int (nI n) :: st) iv Q) : wp X B j i L (.ref a :: st) iv Q := by
  refine wp_m1 hT he ?_ k
  show (if a < 1000000 then (if 1 ≤ (mm_kd (mm_N0 iv) a).1 ∧ (mm_kd (mm_N0 iv) a).1 ≤ 4 then _ else none) else _) = _
  rw [if_pos (kd_lt hk ht.1), kd_of hk ht.1, if_pos ht]
theorem wp_getr {pc len x y z a n q : Nat} {st : List Value} (hT : mm_tb j = T) (he : T[i]? = some (3, pc, .getfield q, len, x, y, z)) (hk : kdT a = (10 + x, n)) (hy : y < mm_N x ∧ mm_fk x y = 2) (k : wp X B j (i + 1) L (.ref (rvT a y) :: st) iv Q) : wp X B j i L (.ref a :: st) iv Q := by
  refine wp_m1 hT he ?_ k
  show (if (mm_kd (mm_N0 iv) a).1 = 10 + x ∧ y < mm_N x then _ else none) = _
  rw [kd_of hk (by show 1 ≤ 10 + x; omega), if_pos ⟨rfl, hy.1⟩, hy.2]
  rfl
theorem wp_geti {pc len x y z a n q : Nat} {st : List Value} (hT : mm_tb j = T) (he : T[i]? = some (3, pc, .getfield q, len, x, y, z)) (hk : kdT a = (10 + x, n)) (hy : y < mm_N x ∧ mm_fk x y ≠ 2) (k : wp X B j (i + 1) L (.int (iv a y) :: st) iv Q) : wp X B j i L (.ref a :: st) iv Q := by
  refine wp_m1 hT he ?_ k
  show (if (mm_kd (mm_N0 iv) a).1 = 10 + x ∧ y < mm_N x then (match mm_fk x y with | 2 => _ | _ => _) else none) = _
  rw [kd_of hk (by show 1 ≤ 10 + x; omega), if_pos ⟨rfl, hy.1⟩]
  split
  · rename_i h; exact absurd h hy.2
  · rfl
theorem wp_puti {pc len x y z a n q : Nat} {v : Int32} {st : List Value} (hT : mm_tb j = T) (he : T[i]? = some (3, pc, .putfield q, len, x, y, z)) (hk : kdT a = (10 + x, n)) (hy : y < mm_N x ∧ mm_fk x y = 0) (k : wp X B j (i + 1) L st (mm_up2 iv a y v) Q) : wp X B j i L (.int v :: .ref a :: st) iv Q := by
  refine wp_m2 hT he rfl ?_ k
  show (if (mm_kd (mm_N0 iv) a).1 = 10 + x ∧ y < mm_N x then _ else none) = _
  rw [kd_of hk (by show 1 ≤ 10 + x; omega), if_pos ⟨rfl, hy.1⟩, hy.2]
  rfl
theorem wp_putz {pc len x y z a n q : Nat} {v : Int32} {st : List Value} (hT : mm_tb j = T) (he : T[i]? = some (3, pc, .putfield q, len, x, y, z)) (hk : kdT a = (10 + x, n)) (hy : y < mm_N x ∧ mm_fk x y = 1) (k : (v = 0 ∨ v = 1) ∧ wp X B j (i + 1) L st (mm_up2 iv a y v) Q) : wp X B j i L (.int v :: .ref a :: st) iv Q := by
  refine wp_m2 hT he rfl ?_ k.2
  show (if (mm_kd (mm_N0 iv) a).1 = 10 + x ∧ y < mm_N x then _ else none) = _
  rw [kd_of hk (by show 1 ≤ 10 + x; omega), if_pos ⟨rfl, hy.1⟩, hy.2]
  show (if v = 0 ∨ v = 1 then _ else none) = _
  rw [if_pos k.1]
  rfl
theorem wp_iast {pc len x y z a n : Nat} {v w : Int32} {st : List Value} (hT : mm_tb j = T) (he : T[i]? = some (3, pc, .iastore, len, x, y, z)) (hk : kdT a = (1, n)) (k : vp_in v n ∧ wp X B j (i + 1) L st (mm_up2 iv a v.toNatClampNeg w) Q) : wp X B j i L (.int w :: .int v :: .ref a :: st) iv Q := by
  refine wp_m2 hT he rfl ?_ k.2
  show (if (mm_kd (mm_N0 iv) a).1 = 1 then (if v < 0 ∨ (mm_kd (mm_N0 iv) a).2 ≤ v.toNatClampNeg then none else _) else none) = _
  rw [kd_of hk (Nat.le_refl 1), if_pos rfl, if_neg k.1]
  rfl
theorem wp_copy {pc len x y z a a0 n n0 q : Nat} {c sp dp : Int32} {st : List Value} (hT : mm_tb j = T) (he : T[i]? = some (3, pc, .invokestatic q, len, x, y, z)) (hk : kdT a = (1, n)) (hk0 : kdT a0 = (1, n0)) (hc : (st.map fun v => v.category).sum ≤ 8) (k : (¬ sp < 0 ∧ ¬ dp < 0 ∧ ¬ c < 0 ∧ sp.toNatClampNeg + c.toNatClampNeg ≤ n0 ∧ dp.toNatClampNeg + c.toNatClampNeg ≤ n) ∧ wp X B j (i + 1) L st (mm_row iv a (va_cpy (iv a0) (iv a) sp.toNatClampNeg dp.toNatClampNeg c.toNatClampNeg)) Q) : wp X B j i L (.int c :: .int dp :: .ref a :: .int sp :: .ref a0 :: st) iv Q := by
  refine wp_m2 hT he rfl ?_ k.2
  obtain ⟨⟨k1, k2, k3, k4, k5⟩, -⟩ := k
  show (if (mm_kd (mm_N0 iv) a).1 = 1 ∧ (mm_kd (mm_N0 iv) a0).1 = 1 ∧ ¬ sp < 0 ∧ ¬ dp < 0 ∧ ¬ c < 0 ∧ sp.toNatClampNeg + c.toNatClampNeg ≤ (mm_kd (mm_N0 iv) a0).2 ∧ dp.toNatClampNeg + c.toNatClampNeg ≤ (mm_kd (mm_N0 iv) a).2 ∧ (st.map fun v => v.category).sum ≤ 8 then _ else none) = _
  rw [kd_of hk (Nat.le_refl 1), kd_of hk0 (Nat.le_refl 1), if_pos ⟨rfl, rfl, k1, k2, k3, k4, k5, hc⟩]
  rfl
theorem wp_char {pc len x y z q : Nat} {v : Int32} {st : List Value} (hT : mm_tb j = T) (he : T[i]? = some (3, pc, .invokevirtual q, len, x, y, z)) (hc : (st.map fun v => v.category).sum ≤ 8) (k : vp_in v 9 ∧ wp X B j (i + 1) L (.int (nI (mm_tx.getD v.toNatClampNeg 0)) :: st) iv Q) : wp X B j i L (.int v :: .ref 1000005 :: st) iv Q := by
  refine wp_m1 hT he ?_ k.2
  show (if 1000005 = 1000005 ∧ (st.map fun v => v.category).sum ≤ 8 then (if v < 0 ∨ 9 ≤ v.toNatClampNeg then none else _) else none) = _
  rw [if_pos ⟨rfl, hc⟩, if_neg k.1]
theorem wp_call {ins : Instr} {pc len x y z : Nat} {as rest : List Value} (hT : mm_tb j = T) (he : T[i]? = some (4, pc, ins, len, x, y, z)) (h : mm_cl j x st B (mm_N0 iv) = some (as, rest, B)) (k : wc X x as iv (fun r iv' => wp X B j (i + 1) L (r.toList ++ rest) iv' Q)) : wp X B j i L st iv Q := by
  obtain ⟨f, r, iv1, h1, f2, r2, iv2, h2, hQ⟩ := k
  refine ⟨max f f2 + 1, r2, iv2, ?_, hQ⟩
  show (match mm_en j i with | none => none | some (tag, pc, ins, _, x, y, _) => _) = _
  unfold mm_en
  rw [hT, he]
  simp only [h]
  rw [mm_x_mono h1 (Nat.le_max_left f f2)]
  exact mm_x_mono h2 (Nat.le_max_right f f2)
theorem wp_ret {ins : Instr} {pc len x y z : Nat} {r : Option Value} (hT : mm_tb j = T) (he : T[i]? = some (5, pc, ins, len, x, y, z)) (h : mm_rt j ins st (mm_N0 iv) = some (r, mm_N0 iv)) (k : Q r iv) : wp X B j i L st iv Q := by
  refine ⟨1, r, iv, ?_, k⟩
  show (match mm_en j i with | none => none | some (tag, pc, ins, _, x, y, _) => _) = _
  unfold mm_en
  rw [hT, he]
  exact h
theorem wp_rz {pc len x y z : Nat} {v : Int32} (hT : mm_tb j = T) (he : T[i]? = some (5, pc, .ireturn, len, x, y, z)) (hr : (mm_me j).2.2.2.1 = some .boolean) (k : (v = 0 ∨ v = 1) ∧ Q (some (.int v)) iv) : wp X B j i L [.int v] iv Q := by
  refine wp_ret hT he ?_ k.2
  show (if (mm_me j).2.2.2.1 = some .int ∨ ((mm_me j).2.2.2.1 = some .boolean ∧ (v = 0 ∨ v = 1)) then _ else none) = _
  rw [if_pos (Or.inr ⟨hr, k.1⟩)]
theorem wp_ri {pc len x y z : Nat} {v : Int32} (hT : mm_tb j = T) (he : T[i]? = some (5, pc, .ireturn, len, x, y, z)) (hr : (mm_me j).2.2.2.1 = some .int) (k : Q (some (.int v)) iv) : wp X B j i L [.int v] iv Q := by
  refine wp_ret hT he ?_ k
  show (if (mm_me j).2.2.2.1 = some .int ∨ ((mm_me j).2.2.2.1 = some .boolean ∧ (v = 0 ∨ v = 1)) then _ else none) = _
  rw [if_pos (Or.inl hr)]
theorem wp_rl {pc len x y z : Nat} {v : Int64} (hT : mm_tb j = T) (he : T[i]? = some (5, pc, .lreturn, len, x, y, z)) (hr : (mm_me j).2.2.2.1 = some .long) (k : Q (some (.long v)) iv) : wp X B j i L [.long v] iv Q := by
  refine wp_ret hT he ?_ k
  show (if (mm_me j).2.2.2.1 = some .long then _ else none) = _
  rw [if_pos hr]
theorem wp_rv {pc len x y z : Nat} (hT : mm_tb j = T) (he : T[i]? = some (5, pc, .return_, len, x, y, z)) (hr : (mm_me j).2.2.2.1 = none) (k : Q none iv) : wp X B j i L [] iv Q := by
  refine wp_ret hT he ?_ k
  show (if (mm_me j).2.2.2.1 = none then _ else none) = _
  rw [if_pos hr]
theorem wp_sw {ins : Instr} {pc len x y z i' : Nat} {st' : List Value} (hT : mm_tb j = T) (he : T[i]? = some (6, pc, ins, len, x, y, z)) (h : mm_sw j pc ins st = some (i', st')) (k : wp X B j i' L st' iv Q) : wp X B j i L st iv Q := by
  refine wp_step (fun f => ?_) k
  show (match mm_en j i with | none => none | some (tag, pc, ins, _, x, y, _) => _) = _
  unfold mm_en
  rw [hT, he]
  simp only [h]
theorem wp_conseq {Q' : Option Value → IV → Prop} (h : wp X B j i L st iv Q) (hQ : ∀ r iv', Q r iv' → Q' r iv') : wp X B j i L st iv Q' := by
  obtain ⟨f, r, iv', h1, h2⟩ := h
  exact ⟨f, r, iv', h1, hQ r iv' h2⟩
end WPR
end
