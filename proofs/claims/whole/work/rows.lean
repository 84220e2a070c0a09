section
-- ===== PART A: goes FIRST, ahead of the names: the tables' words, and 'selects' of the private methods out of them =====
/-- a private method of a class that the tables say can be made, by its rows of tables_1 -/
def lw_okq (q : MethodName × Nat) : Prop := (q.1.cls ≠ "java/lang/invoke/MethodHandle" ∧ q.1.cls ≠ "java/lang/invoke/VarHandle") ∧ Cond.instantiable q.1.cls q.2 ∈ tables_1 ∧ Cond.privateMethod q.1 ∈ tables_1 ∧ Cond.instanceMethod q.1 ∈ tables_1
theorem lw_p0 : lw_okq (⟨"GlassWords", "finding", "(I)I"⟩, 12) := ⟨⟨by decide +kernel, by decide +kernel⟩, List.mem_of_getElem? (i := 21) (by decide +kernel), List.mem_of_getElem? (i := 296) (by decide +kernel), List.mem_of_getElem? (i := 297) (by decide +kernel)⟩
theorem lw_p1 : lw_okq (⟨"GlassWords", "takesAhead", "(I)I"⟩, 12) := ⟨⟨by decide +kernel, by decide +kernel⟩, List.mem_of_getElem? (i := 21) (by decide +kernel), List.mem_of_getElem? (i := 374) (by decide +kernel), List.mem_of_getElem? (i := 375) (by decide +kernel)⟩
theorem lw_p2 : lw_okq (⟨"GlassWords$Searches", "weigh", "(LGlassWords$Studio;I)V"⟩, 5) := ⟨⟨by decide +kernel, by decide +kernel⟩, List.mem_of_getElem? (i := 144) (by decide +kernel), List.mem_of_getElem? (i := 487) (by decide +kernel), List.mem_of_getElem? (i := 488) (by decide +kernel)⟩
theorem lw_p3 : lw_okq (⟨"GlassWords$Searches", "easedBy", "(II)I"⟩, 5) := ⟨⟨by decide +kernel, by decide +kernel⟩, List.mem_of_getElem? (i := 144) (by decide +kernel), List.mem_of_getElem? (i := 553) (by decide +kernel), List.mem_of_getElem? (i := 554) (by decide +kernel)⟩
theorem lw_p4 : lw_okq (⟨"GlassWords$Searches", "fitsHourWithout", "(LGlassWords$Studio;I)Z"⟩, 5) := ⟨⟨by decide +kernel, by decide +kernel⟩, List.mem_of_getElem? (i := 144) (by decide +kernel), List.mem_of_getElem? (i := 569) (by decide +kernel), List.mem_of_getElem? (i := 570) (by decide +kernel)⟩
theorem lw_p5 : lw_okq (⟨"GlassWords", "isWay", "(II)Z"⟩, 12) := ⟨⟨by decide +kernel, by decide +kernel⟩, List.mem_of_getElem? (i := 21) (by decide +kernel), List.mem_of_getElem? (i := 584) (by decide +kernel), List.mem_of_getElem? (i := 585) (by decide +kernel)⟩
theorem lw_p6 : lw_okq (⟨"GlassWords$Ways", "byJump", "(II)I"⟩, 3) := ⟨⟨by decide +kernel, by decide +kernel⟩, List.mem_of_getElem? (i := 171) (by decide +kernel), List.mem_of_getElem? (i := 593) (by decide +kernel), List.mem_of_getElem? (i := 594) (by decide +kernel)⟩
theorem lw_p7 : lw_okq (⟨"GlassWords$Ways", "shortestJump", "(II)I"⟩, 3) := ⟨⟨by decide +kernel, by decide +kernel⟩, List.mem_of_getElem? (i := 171) (by decide +kernel), List.mem_of_getElem? (i := 610) (by decide +kernel), List.mem_of_getElem? (i := 611) (by decide +kernel)⟩
theorem lw_p8 : lw_okq (⟨"GlassWords", "isSheet", "(I)Z"⟩, 12) := ⟨⟨by decide +kernel, by decide +kernel⟩, List.mem_of_getElem? (i := 21) (by decide +kernel), List.mem_of_getElem? (i := 618) (by decide +kernel), List.mem_of_getElem? (i := 619) (by decide +kernel)⟩
theorem lw_p9 : lw_okq (⟨"GlassWords$Searches", "takeJust", "(LGlassWords$Studio;LGlassWords$Sheet;)Z"⟩, 5) := ⟨⟨by decide +kernel, by decide +kernel⟩, List.mem_of_getElem? (i := 144) (by decide +kernel), List.mem_of_getElem? (i := 630) (by decide +kernel), List.mem_of_getElem? (i := 631) (by decide +kernel)⟩
theorem lw_p10 : lw_okq (⟨"GlassWords$Script", "lookOn", "()V"⟩, 6) := ⟨⟨by decide +kernel, by decide +kernel⟩, List.mem_of_getElem? (i := 203) (by decide +kernel), List.mem_of_getElem? (i := 698) (by decide +kernel), List.mem_of_getElem? (i := 699) (by decide +kernel)⟩
theorem lw_p11 : lw_okq (⟨"GlassWords$Script", "isLetter", "(I)Z"⟩, 6) := ⟨⟨by decide +kernel, by decide +kernel⟩, List.mem_of_getElem? (i := 203) (by decide +kernel), List.mem_of_getElem? (i := 702) (by decide +kernel), List.mem_of_getElem? (i := 703) (by decide +kernel)⟩
theorem lw_p12 : lw_okq (⟨"GlassWords$Script", "isDigit", "(I)Z"⟩, 6) := ⟨⟨by decide +kernel, by decide +kernel⟩, List.mem_of_getElem? (i := 203) (by decide +kernel), List.mem_of_getElem? (i := 706) (by decide +kernel), List.mem_of_getElem? (i := 707) (by decide +kernel)⟩
theorem lw_p13 : lw_okq (⟨"GlassWords$Script", "signAt", "(I)I"⟩, 6) := ⟨⟨by decide +kernel, by decide +kernel⟩, List.mem_of_getElem? (i := 203) (by decide +kernel), List.mem_of_getElem? (i := 712) (by decide +kernel), List.mem_of_getElem? (i := 713) (by decide +kernel)⟩
theorem lw_p14 : lw_okq (⟨"GlassWords$Script", "takeItem", "()Z"⟩, 6) := ⟨⟨by decide +kernel, by decide +kernel⟩, List.mem_of_getElem? (i := 203) (by decide +kernel), List.mem_of_getElem? (i := 716) (by decide +kernel), List.mem_of_getElem? (i := 717) (by decide +kernel)⟩
theorem lw_p15 : lw_okq (⟨"GlassWords$Script", "isWord", "(Ljava/lang/String;)Z"⟩, 6) := ⟨⟨by decide +kernel, by decide +kernel⟩, List.mem_of_getElem? (i := 203) (by decide +kernel), List.mem_of_getElem? (i := 730) (by decide +kernel), List.mem_of_getElem? (i := 731) (by decide +kernel)⟩
def lw_privs_1 : List (MethodName × Nat) := [(⟨"GlassWords", "finding", "(I)I"⟩, 12), (⟨"GlassWords", "takesAhead", "(I)I"⟩, 12), (⟨"GlassWords$Searches", "weigh", "(LGlassWords$Studio;I)V"⟩, 5), (⟨"GlassWords$Searches", "easedBy", "(II)I"⟩, 5), (⟨"GlassWords$Searches", "fitsHourWithout", "(LGlassWords$Studio;I)Z"⟩, 5), (⟨"GlassWords", "isWay", "(II)Z"⟩, 12), (⟨"GlassWords$Ways", "byJump", "(II)I"⟩, 3), (⟨"GlassWords$Ways", "shortestJump", "(II)I"⟩, 3), (⟨"GlassWords", "isSheet", "(I)Z"⟩, 12), (⟨"GlassWords$Searches", "takeJust", "(LGlassWords$Studio;LGlassWords$Sheet;)Z"⟩, 5), (⟨"GlassWords$Script", "lookOn", "()V"⟩, 6), (⟨"GlassWords$Script", "isLetter", "(I)Z"⟩, 6), (⟨"GlassWords$Script", "isDigit", "(I)Z"⟩, 6), (⟨"GlassWords$Script", "signAt", "(I)I"⟩, 6), (⟨"GlassWords$Script", "takeItem", "()Z"⟩, 6), (⟨"GlassWords$Script", "isWord", "(Ljava/lang/String;)Z"⟩, 6)]
theorem lw_r1 : ∀ q ∈ lw_privs_1, lw_okq q := List.forall_mem_cons.mpr ⟨lw_p0, List.forall_mem_cons.mpr ⟨lw_p1, List.forall_mem_cons.mpr ⟨lw_p2, List.forall_mem_cons.mpr ⟨lw_p3, List.forall_mem_cons.mpr ⟨lw_p4, List.forall_mem_cons.mpr ⟨lw_p5, List.forall_mem_cons.mpr ⟨lw_p6, List.forall_mem_cons.mpr ⟨lw_p7, List.forall_mem_cons.mpr ⟨lw_p8, List.forall_mem_cons.mpr ⟨lw_p9, List.forall_mem_cons.mpr ⟨lw_p10, List.forall_mem_cons.mpr ⟨lw_p11, List.forall_mem_cons.mpr ⟨lw_p12, List.forall_mem_cons.mpr ⟨lw_p13, List.forall_mem_cons.mpr ⟨lw_p14, List.forall_mem_cons.mpr ⟨lw_p15, fun _ h => absurd h List.not_mem_nil⟩⟩⟩⟩⟩⟩⟩⟩⟩⟩⟩⟩⟩⟩⟩⟩
theorem lw_p16 : lw_okq (⟨"GlassWords$Script", "takeLine", "(I)Z"⟩, 6) := ⟨⟨by decide +kernel, by decide +kernel⟩, List.mem_of_getElem? (i := 203) (by decide +kernel), List.mem_of_getElem? (i := 782) (by decide +kernel), List.mem_of_getElem? (i := 783) (by decide +kernel)⟩
theorem lw_p17 : lw_okq (⟨"GlassWords$Script", "takeFeature", "(Ljava/lang/String;II)Z"⟩, 6) := ⟨⟨by decide +kernel, by decide +kernel⟩, List.mem_of_getElem? (i := 203) (by decide +kernel), List.mem_of_getElem? (i := 789) (by decide +kernel), List.mem_of_getElem? (i := 790) (by decide +kernel)⟩
theorem lw_p18 : lw_okq (⟨"GlassWords$Script", "isNumber", "(II)Z"⟩, 6) := ⟨⟨by decide +kernel, by decide +kernel⟩, List.mem_of_getElem? (i := 203) (by decide +kernel), List.mem_of_getElem? (i := 795) (by decide +kernel), List.mem_of_getElem? (i := 796) (by decide +kernel)⟩
theorem lw_p19 : lw_okq (⟨"GlassWords$Script", "takePace", "(I)Z"⟩, 6) := ⟨⟨by decide +kernel, by decide +kernel⟩, List.mem_of_getElem? (i := 203) (by decide +kernel), List.mem_of_getElem? (i := 803) (by decide +kernel), List.mem_of_getElem? (i := 804) (by decide +kernel)⟩
theorem lw_p20 : lw_okq (⟨"GlassWords$Script", "takeRule", "(I)Z"⟩, 6) := ⟨⟨by decide +kernel, by decide +kernel⟩, List.mem_of_getElem? (i := 203) (by decide +kernel), List.mem_of_getElem? (i := 807) (by decide +kernel), List.mem_of_getElem? (i := 808) (by decide +kernel)⟩
theorem lw_p21 : lw_okq (⟨"GlassWords$Script", "takeDrift", "(I)Z"⟩, 6) := ⟨⟨by decide +kernel, by decide +kernel⟩, List.mem_of_getElem? (i := 203) (by decide +kernel), List.mem_of_getElem? (i := 815) (by decide +kernel), List.mem_of_getElem? (i := 816) (by decide +kernel)⟩
theorem lw_p22 : lw_okq (⟨"GlassWords", "firstWrongTime", "(LGlassWords$Sheet;)I"⟩, 12) := ⟨⟨by decide +kernel, by decide +kernel⟩, List.mem_of_getElem? (i := 21) (by decide +kernel), List.mem_of_getElem? (i := 880) (by decide +kernel), List.mem_of_getElem? (i := 881) (by decide +kernel)⟩
theorem lw_p23 : lw_okq (⟨"GlassWordsModel", "finding", "(I)I"⟩, 28) := ⟨⟨by decide +kernel, by decide +kernel⟩, List.mem_of_getElem? (i := 912) (by decide +kernel), List.mem_of_getElem? (i := 1023) (by decide +kernel), List.mem_of_getElem? (i := 1024) (by decide +kernel)⟩
theorem lw_p24 : lw_okq (⟨"GlassWordsModel", "comes", "(III)I"⟩, 28) := ⟨⟨by decide +kernel, by decide +kernel⟩, List.mem_of_getElem? (i := 912) (by decide +kernel), List.mem_of_getElem? (i := 1028) (by decide +kernel), List.mem_of_getElem? (i := 1029) (by decide +kernel)⟩
theorem lw_p25 : lw_okq (⟨"GlassWordsModel", "isLine", "(I)Z"⟩, 28) := ⟨⟨by decide +kernel, by decide +kernel⟩, List.mem_of_getElem? (i := 912) (by decide +kernel), List.mem_of_getElem? (i := 1039) (by decide +kernel), List.mem_of_getElem? (i := 1040) (by decide +kernel)⟩
theorem lw_p26 : lw_okq (⟨"GlassWordsModel", "lineIs", "(II)I"⟩, 28) := ⟨⟨by decide +kernel, by decide +kernel⟩, List.mem_of_getElem? (i := 912) (by decide +kernel), List.mem_of_getElem? (i := 1043) (by decide +kernel), List.mem_of_getElem? (i := 1044) (by decide +kernel)⟩
theorem lw_p27 : lw_okq (⟨"GlassWordsModel", "takes", "(I)I"⟩, 28) := ⟨⟨by decide +kernel, by decide +kernel⟩, List.mem_of_getElem? (i := 912) (by decide +kernel), List.mem_of_getElem? (i := 1047) (by decide +kernel), List.mem_of_getElem? (i := 1048) (by decide +kernel)⟩
theorem lw_p28 : lw_okq (⟨"GlassWordsModel", "trips", "(I)I"⟩, 28) := ⟨⟨by decide +kernel, by decide +kernel⟩, List.mem_of_getElem? (i := 912) (by decide +kernel), List.mem_of_getElem? (i := 1052) (by decide +kernel), List.mem_of_getElem? (i := 1053) (by decide +kernel)⟩
theorem lw_p29 : lw_okq (⟨"GlassWordsModel", "seen", "(I)I"⟩, 28) := ⟨⟨by decide +kernel, by decide +kernel⟩, List.mem_of_getElem? (i := 912) (by decide +kernel), List.mem_of_getElem? (i := 1056) (by decide +kernel), List.mem_of_getElem? (i := 1057) (by decide +kernel)⟩
theorem lw_p30 : lw_okq (⟨"GlassWordsModel", "become", "(II)I"⟩, 28) := ⟨⟨by decide +kernel, by decide +kernel⟩, List.mem_of_getElem? (i := 912) (by decide +kernel), List.mem_of_getElem? (i := 1064) (by decide +kernel), List.mem_of_getElem? (i := 1065) (by decide +kernel)⟩
theorem lw_p31 : lw_okq (⟨"GlassWordsModel", "left", "()I"⟩, 28) := ⟨⟨by decide +kernel, by decide +kernel⟩, List.mem_of_getElem? (i := 912) (by decide +kernel), List.mem_of_getElem? (i := 1090) (by decide +kernel), List.mem_of_getElem? (i := 1091) (by decide +kernel)⟩
def lw_privs_2 : List (MethodName × Nat) := [(⟨"GlassWords$Script", "takeLine", "(I)Z"⟩, 6), (⟨"GlassWords$Script", "takeFeature", "(Ljava/lang/String;II)Z"⟩, 6), (⟨"GlassWords$Script", "isNumber", "(II)Z"⟩, 6), (⟨"GlassWords$Script", "takePace", "(I)Z"⟩, 6), (⟨"GlassWords$Script", "takeRule", "(I)Z"⟩, 6), (⟨"GlassWords$Script", "takeDrift", "(I)Z"⟩, 6), (⟨"GlassWords", "firstWrongTime", "(LGlassWords$Sheet;)I"⟩, 12), (⟨"GlassWordsModel", "finding", "(I)I"⟩, 28), (⟨"GlassWordsModel", "comes", "(III)I"⟩, 28), (⟨"GlassWordsModel", "isLine", "(I)Z"⟩, 28), (⟨"GlassWordsModel", "lineIs", "(II)I"⟩, 28), (⟨"GlassWordsModel", "takes", "(I)I"⟩, 28), (⟨"GlassWordsModel", "trips", "(I)I"⟩, 28), (⟨"GlassWordsModel", "seen", "(I)I"⟩, 28), (⟨"GlassWordsModel", "become", "(II)I"⟩, 28), (⟨"GlassWordsModel", "left", "()I"⟩, 28)]
theorem lw_r2 : ∀ q ∈ lw_privs_2, lw_okq q := List.forall_mem_cons.mpr ⟨lw_p16, List.forall_mem_cons.mpr ⟨lw_p17, List.forall_mem_cons.mpr ⟨lw_p18, List.forall_mem_cons.mpr ⟨lw_p19, List.forall_mem_cons.mpr ⟨lw_p20, List.forall_mem_cons.mpr ⟨lw_p21, List.forall_mem_cons.mpr ⟨lw_p22, List.forall_mem_cons.mpr ⟨lw_p23, List.forall_mem_cons.mpr ⟨lw_p24, List.forall_mem_cons.mpr ⟨lw_p25, List.forall_mem_cons.mpr ⟨lw_p26, List.forall_mem_cons.mpr ⟨lw_p27, List.forall_mem_cons.mpr ⟨lw_p28, List.forall_mem_cons.mpr ⟨lw_p29, List.forall_mem_cons.mpr ⟨lw_p30, List.forall_mem_cons.mpr ⟨lw_p31, fun _ h => absurd h List.not_mem_nil⟩⟩⟩⟩⟩⟩⟩⟩⟩⟩⟩⟩⟩⟩⟩⟩
theorem lw_p32 : lw_okq (⟨"GlassWordsModel", "readsOn", "(I)I"⟩, 28) := ⟨⟨by decide +kernel, by decide +kernel⟩, List.mem_of_getElem? (i := 912) (by decide +kernel), List.mem_of_getElem? (i := 1098) (by decide +kernel), List.mem_of_getElem? (i := 1099) (by decide +kernel)⟩
theorem lw_p33 : lw_okq (⟨"GlassWordsModel", "reads", "()I"⟩, 28) := ⟨⟨by decide +kernel, by decide +kernel⟩, List.mem_of_getElem? (i := 912) (by decide +kernel), List.mem_of_getElem? (i := 1102) (by decide +kernel), List.mem_of_getElem? (i := 1103) (by decide +kernel)⟩
theorem lw_p34 : lw_okq (⟨"GlassWordsModel", "turns", "()I"⟩, 28) := ⟨⟨by decide +kernel, by decide +kernel⟩, List.mem_of_getElem? (i := 912) (by decide +kernel), List.mem_of_getElem? (i := 1106) (by decide +kernel), List.mem_of_getElem? (i := 1107) (by decide +kernel)⟩
theorem lw_p35 : lw_okq (⟨"GlassWordsModel", "putBack", "(I)I"⟩, 28) := ⟨⟨by decide +kernel, by decide +kernel⟩, List.mem_of_getElem? (i := 912) (by decide +kernel), List.mem_of_getElem? (i := 1115) (by decide +kernel), List.mem_of_getElem? (i := 1116) (by decide +kernel)⟩
theorem lw_p36 : lw_okq (⟨"GlassWordsModel", "restTakes", "()I"⟩, 28) := ⟨⟨by decide +kernel, by decide +kernel⟩, List.mem_of_getElem? (i := 912) (by decide +kernel), List.mem_of_getElem? (i := 1135) (by decide +kernel), List.mem_of_getElem? (i := 1136) (by decide +kernel)⟩
theorem lw_p37 : lw_okq (⟨"GlassWordsModel", "restTrips", "()I"⟩, 28) := ⟨⟨by decide +kernel, by decide +kernel⟩, List.mem_of_getElem? (i := 912) (by decide +kernel), List.mem_of_getElem? (i := 1139) (by decide +kernel), List.mem_of_getElem? (i := 1140) (by decide +kernel)⟩
theorem lw_p38 : lw_okq (⟨"GlassWordsModel", "restSeen", "()I"⟩, 28) := ⟨⟨by decide +kernel, by decide +kernel⟩, List.mem_of_getElem? (i := 912) (by decide +kernel), List.mem_of_getElem? (i := 1143) (by decide +kernel), List.mem_of_getElem? (i := 1144) (by decide +kernel)⟩
theorem lw_p39 : lw_okq (⟨"GlassWordsModel", "paceThen", "(II)I"⟩, 28) := ⟨⟨by decide +kernel, by decide +kernel⟩, List.mem_of_getElem? (i := 912) (by decide +kernel), List.mem_of_getElem? (i := 1147) (by decide +kernel), List.mem_of_getElem? (i := 1148) (by decide +kernel)⟩
theorem lw_p40 : lw_okq (⟨"GlassWordsModel", "signThen", "()I"⟩, 28) := ⟨⟨by decide +kernel, by decide +kernel⟩, List.mem_of_getElem? (i := 912) (by decide +kernel), List.mem_of_getElem? (i := 1159) (by decide +kernel), List.mem_of_getElem? (i := 1160) (by decide +kernel)⟩
theorem lw_p41 : lw_okq (⟨"GlassWordsModel", "findWeights", "()I"⟩, 28) := ⟨⟨by decide +kernel, by decide +kernel⟩, List.mem_of_getElem? (i := 912) (by decide +kernel), List.mem_of_getElem? (i := 1176) (by decide +kernel), List.mem_of_getElem? (i := 1177) (by decide +kernel)⟩
theorem lw_p42 : lw_okq (⟨"GlassWordsModel", "findGrid", "()I"⟩, 28) := ⟨⟨by decide +kernel, by decide +kernel⟩, List.mem_of_getElem? (i := 912) (by decide +kernel), List.mem_of_getElem? (i := 1189) (by decide +kernel), List.mem_of_getElem? (i := 1190) (by decide +kernel)⟩
theorem lw_p43 : lw_okq (⟨"GlassWordsModel", "eases", "(I)I"⟩, 28) := ⟨⟨by decide +kernel, by decide +kernel⟩, List.mem_of_getElem? (i := 912) (by decide +kernel), List.mem_of_getElem? (i := 1213) (by decide +kernel), List.mem_of_getElem? (i := 1214) (by decide +kernel)⟩
theorem lw_p44 : lw_okq (⟨"GlassWordsModel", "findFit", "()I"⟩, 28) := ⟨⟨by decide +kernel, by decide +kernel⟩, List.mem_of_getElem? (i := 912) (by decide +kernel), List.mem_of_getElem? (i := 1224) (by decide +kernel), List.mem_of_getElem? (i := 1225) (by decide +kernel)⟩
theorem lw_p45 : lw_okq (⟨"GlassWordsModel", "takesWithout", "(I)I"⟩, 28) := ⟨⟨by decide +kernel, by decide +kernel⟩, List.mem_of_getElem? (i := 912) (by decide +kernel), List.mem_of_getElem? (i := 1228) (by decide +kernel), List.mem_of_getElem? (i := 1229) (by decide +kernel)⟩
theorem lw_p46 : lw_okq (⟨"GlassWordsModel", "isWay", "(II)Z"⟩, 28) := ⟨⟨by decide +kernel, by decide +kernel⟩, List.mem_of_getElem? (i := 912) (by decide +kernel), List.mem_of_getElem? (i := 1240) (by decide +kernel), List.mem_of_getElem? (i := 1241) (by decide +kernel)⟩
theorem lw_p47 : lw_okq (⟨"GlassWordsModel", "findWays", "(II)I"⟩, 28) := ⟨⟨by decide +kernel, by decide +kernel⟩, List.mem_of_getElem? (i := 912) (by decide +kernel), List.mem_of_getElem? (i := 1244) (by decide +kernel), List.mem_of_getElem? (i := 1245) (by decide +kernel)⟩
def lw_privs_3 : List (MethodName × Nat) := [(⟨"GlassWordsModel", "readsOn", "(I)I"⟩, 28), (⟨"GlassWordsModel", "reads", "()I"⟩, 28), (⟨"GlassWordsModel", "turns", "()I"⟩, 28), (⟨"GlassWordsModel", "putBack", "(I)I"⟩, 28), (⟨"GlassWordsModel", "restTakes", "()I"⟩, 28), (⟨"GlassWordsModel", "restTrips", "()I"⟩, 28), (⟨"GlassWordsModel", "restSeen", "()I"⟩, 28), (⟨"GlassWordsModel", "paceThen", "(II)I"⟩, 28), (⟨"GlassWordsModel", "signThen", "()I"⟩, 28), (⟨"GlassWordsModel", "findWeights", "()I"⟩, 28), (⟨"GlassWordsModel", "findGrid", "()I"⟩, 28), (⟨"GlassWordsModel", "eases", "(I)I"⟩, 28), (⟨"GlassWordsModel", "findFit", "()I"⟩, 28), (⟨"GlassWordsModel", "takesWithout", "(I)I"⟩, 28), (⟨"GlassWordsModel", "isWay", "(II)Z"⟩, 28), (⟨"GlassWordsModel", "findWays", "(II)I"⟩, 28)]
theorem lw_r3 : ∀ q ∈ lw_privs_3, lw_okq q := List.forall_mem_cons.mpr ⟨lw_p32, List.forall_mem_cons.mpr ⟨lw_p33, List.forall_mem_cons.mpr ⟨lw_p34, List.forall_mem_cons.mpr ⟨lw_p35, List.forall_mem_cons.mpr ⟨lw_p36, List.forall_mem_cons.mpr ⟨lw_p37, List.forall_mem_cons.mpr ⟨lw_p38, List.forall_mem_cons.mpr ⟨lw_p39, List.forall_mem_cons.mpr ⟨lw_p40, List.forall_mem_cons.mpr ⟨lw_p41, List.forall_mem_cons.mpr ⟨lw_p42, List.forall_mem_cons.mpr ⟨lw_p43, List.forall_mem_cons.mpr ⟨lw_p44, List.forall_mem_cons.mpr ⟨lw_p45, List.forall_mem_cons.mpr ⟨lw_p46, List.forall_mem_cons.mpr ⟨lw_p47, fun _ h => absurd h List.not_mem_nil⟩⟩⟩⟩⟩⟩⟩⟩⟩⟩⟩⟩⟩⟩⟩⟩
theorem lw_p48 : lw_okq (⟨"GlassWordsModel", "jumpFrom", "(III)I"⟩, 28) := ⟨⟨by decide +kernel, by decide +kernel⟩, List.mem_of_getElem? (i := 912) (by decide +kernel), List.mem_of_getElem? (i := 1248) (by decide +kernel), List.mem_of_getElem? (i := 1249) (by decide +kernel)⟩
theorem lw_p49 : lw_okq (⟨"GlassWordsModel", "findLed", "(I)I"⟩, 28) := ⟨⟨by decide +kernel, by decide +kernel⟩, List.mem_of_getElem? (i := 912) (by decide +kernel), List.mem_of_getElem? (i := 1264) (by decide +kernel), List.mem_of_getElem? (i := 1265) (by decide +kernel)⟩
theorem lw_p50 : lw_okq (⟨"GlassWordsModel", "leavesIn", "(I)I"⟩, 28) := ⟨⟨by decide +kernel, by decide +kernel⟩, List.mem_of_getElem? (i := 912) (by decide +kernel), List.mem_of_getElem? (i := 1288) (by decide +kernel), List.mem_of_getElem? (i := 1289) (by decide +kernel)⟩
theorem lw_p51 : lw_okq (⟨"GlassWordsModel", "drawn", "(I)I"⟩, 28) := ⟨⟨by decide +kernel, by decide +kernel⟩, List.mem_of_getElem? (i := 912) (by decide +kernel), List.mem_of_getElem? (i := 1292) (by decide +kernel), List.mem_of_getElem? (i := 1293) (by decide +kernel)⟩
theorem lw_p52 : lw_okq (⟨"GlassWordsModel", "next", "()V"⟩, 28) := ⟨⟨by decide +kernel, by decide +kernel⟩, List.mem_of_getElem? (i := 912) (by decide +kernel), List.mem_of_getElem? (i := 1317) (by decide +kernel), List.mem_of_getElem? (i := 1318) (by decide +kernel)⟩
theorem lw_p53 : lw_okq (⟨"GlassWordsModel", "byteAt", "(I)I"⟩, 28) := ⟨⟨by decide +kernel, by decide +kernel⟩, List.mem_of_getElem? (i := 912) (by decide +kernel), List.mem_of_getElem? (i := 1321) (by decide +kernel), List.mem_of_getElem? (i := 1322) (by decide +kernel)⟩
theorem lw_p54 : lw_okq (⟨"GlassWordsModel", "readItem", "()V"⟩, 28) := ⟨⟨by decide +kernel, by decide +kernel⟩, List.mem_of_getElem? (i := 912) (by decide +kernel), List.mem_of_getElem? (i := 1326) (by decide +kernel), List.mem_of_getElem? (i := 1327) (by decide +kernel)⟩
theorem lw_p55 : lw_okq (⟨"GlassWordsModel", "kindTold", "()I"⟩, 28) := ⟨⟨by decide +kernel, by decide +kernel⟩, List.mem_of_getElem? (i := 912) (by decide +kernel), List.mem_of_getElem? (i := 1330) (by decide +kernel), List.mem_of_getElem? (i := 1331) (by decide +kernel)⟩
theorem lw_p56 : lw_okq (⟨"GlassWordsModel", "isWord", "(Ljava/lang/String;)Z"⟩, 28) := ⟨⟨by decide +kernel, by decide +kernel⟩, List.mem_of_getElem? (i := 912) (by decide +kernel), List.mem_of_getElem? (i := 1334) (by decide +kernel), List.mem_of_getElem? (i := 1335) (by decide +kernel)⟩
theorem lw_p57 : lw_okq (⟨"GlassWordsModel", "must", "(Z)V"⟩, 28) := ⟨⟨by decide +kernel, by decide +kernel⟩, List.mem_of_getElem? (i := 912) (by decide +kernel), List.mem_of_getElem? (i := 1340) (by decide +kernel), List.mem_of_getElem? (i := 1341) (by decide +kernel)⟩
theorem lw_p58 : lw_okq (⟨"GlassWordsModel", "isNext", "(Ljava/lang/String;)Z"⟩, 28) := ⟨⟨by decide +kernel, by decide +kernel⟩, List.mem_of_getElem? (i := 912) (by decide +kernel), List.mem_of_getElem? (i := 1345) (by decide +kernel), List.mem_of_getElem? (i := 1346) (by decide +kernel)⟩
theorem lw_p59 : lw_okq (⟨"GlassWordsModel", "number", "(II)I"⟩, 28) := ⟨⟨by decide +kernel, by decide +kernel⟩, List.mem_of_getElem? (i := 912) (by decide +kernel), List.mem_of_getElem? (i := 1349) (by decide +kernel), List.mem_of_getElem? (i := 1350) (by decide +kernel)⟩
theorem lw_p60 : lw_okq (⟨"GlassWordsModel", "item", "(IIII)V"⟩, 28) := ⟨⟨by decide +kernel, by decide +kernel⟩, List.mem_of_getElem? (i := 912) (by decide +kernel), List.mem_of_getElem? (i := 1354) (by decide +kernel), List.mem_of_getElem? (i := 1355) (by decide +kernel)⟩
theorem lw_p61 : lw_okq (⟨"GlassWordsModel", "readPace", "(I)V"⟩, 28) := ⟨⟨by decide +kernel, by decide +kernel⟩, List.mem_of_getElem? (i := 912) (by decide +kernel), List.mem_of_getElem? (i := 1359) (by decide +kernel), List.mem_of_getElem? (i := 1360) (by decide +kernel)⟩
theorem lw_p62 : lw_okq (⟨"GlassWordsModel", "drift", "()I"⟩, 28) := ⟨⟨by decide +kernel, by decide +kernel⟩, List.mem_of_getElem? (i := 912) (by decide +kernel), List.mem_of_getElem? (i := 1365) (by decide +kernel), List.mem_of_getElem? (i := 1366) (by decide +kernel)⟩
theorem lw_p63 : lw_okq (⟨"GlassWordsModel", "readRule", "(I)V"⟩, 28) := ⟨⟨by decide +kernel, by decide +kernel⟩, List.mem_of_getElem? (i := 912) (by decide +kernel), List.mem_of_getElem? (i := 1371) (by decide +kernel), List.mem_of_getElem? (i := 1372) (by decide +kernel)⟩
def lw_privs_4 : List (MethodName × Nat) := [(⟨"GlassWordsModel", "jumpFrom", "(III)I"⟩, 28), (⟨"GlassWordsModel", "findLed", "(I)I"⟩, 28), (⟨"GlassWordsModel", "leavesIn", "(I)I"⟩, 28), (⟨"GlassWordsModel", "drawn", "(I)I"⟩, 28), (⟨"GlassWordsModel", "next", "()V"⟩, 28), (⟨"GlassWordsModel", "byteAt", "(I)I"⟩, 28), (⟨"GlassWordsModel", "readItem", "()V"⟩, 28), (⟨"GlassWordsModel", "kindTold", "()I"⟩, 28), (⟨"GlassWordsModel", "isWord", "(Ljava/lang/String;)Z"⟩, 28), (⟨"GlassWordsModel", "must", "(Z)V"⟩, 28), (⟨"GlassWordsModel", "isNext", "(Ljava/lang/String;)Z"⟩, 28), (⟨"GlassWordsModel", "number", "(II)I"⟩, 28), (⟨"GlassWordsModel", "item", "(IIII)V"⟩, 28), (⟨"GlassWordsModel", "readPace", "(I)V"⟩, 28), (⟨"GlassWordsModel", "drift", "()I"⟩, 28), (⟨"GlassWordsModel", "readRule", "(I)V"⟩, 28)]
theorem lw_r4 : ∀ q ∈ lw_privs_4, lw_okq q := List.forall_mem_cons.mpr ⟨lw_p48, List.forall_mem_cons.mpr ⟨lw_p49, List.forall_mem_cons.mpr ⟨lw_p50, List.forall_mem_cons.mpr ⟨lw_p51, List.forall_mem_cons.mpr ⟨lw_p52, List.forall_mem_cons.mpr ⟨lw_p53, List.forall_mem_cons.mpr ⟨lw_p54, List.forall_mem_cons.mpr ⟨lw_p55, List.forall_mem_cons.mpr ⟨lw_p56, List.forall_mem_cons.mpr ⟨lw_p57, List.forall_mem_cons.mpr ⟨lw_p58, List.forall_mem_cons.mpr ⟨lw_p59, List.forall_mem_cons.mpr ⟨lw_p60, List.forall_mem_cons.mpr ⟨lw_p61, List.forall_mem_cons.mpr ⟨lw_p62, List.forall_mem_cons.mpr ⟨lw_p63, fun _ h => absurd h List.not_mem_nil⟩⟩⟩⟩⟩⟩⟩⟩⟩⟩⟩⟩⟩⟩⟩⟩
theorem lw_p64 : lw_okq (⟨"GlassWordsModel", "isSo", "(I)I"⟩, 28) := ⟨⟨by decide +kernel, by decide +kernel⟩, List.mem_of_getElem? (i := 912) (by decide +kernel), List.mem_of_getElem? (i := 1378) (by decide +kernel), List.mem_of_getElem? (i := 1379) (by decide +kernel)⟩
theorem lw_p65 : lw_okq (⟨"GlassWordsModel", "becomesTold", "(II)V"⟩, 28) := ⟨⟨by decide +kernel, by decide +kernel⟩, List.mem_of_getElem? (i := 912) (by decide +kernel), List.mem_of_getElem? (i := 1382) (by decide +kernel), List.mem_of_getElem? (i := 1383) (by decide +kernel)⟩
def lw_privs_5 : List (MethodName × Nat) := [(⟨"GlassWordsModel", "isSo", "(I)I"⟩, 28), (⟨"GlassWordsModel", "becomesTold", "(II)V"⟩, 28)]
theorem lw_r5 : ∀ q ∈ lw_privs_5, lw_okq q := List.forall_mem_cons.mpr ⟨lw_p64, List.forall_mem_cons.mpr ⟨lw_p65, fun _ h => absurd h List.not_mem_nil⟩⟩
def lw_privs : List (MethodName × Nat) := lw_privs_1 ++ (lw_privs_2 ++ (lw_privs_3 ++ (lw_privs_4 ++ (lw_privs_5))))
def lw_tbl : List Cond := k2_sels lw_privs ++ tables_1
theorem lw_privs_ok : ∀ q ∈ lw_privs, lw_okq q := by
  show ∀ q ∈ lw_privs_1 ++ (lw_privs_2 ++ (lw_privs_3 ++ (lw_privs_4 ++ (lw_privs_5)))), lw_okq q
  exact List.forall_mem_append.mpr ⟨lw_r1, List.forall_mem_append.mpr ⟨lw_r2, List.forall_mem_append.mpr ⟨lw_r3, List.forall_mem_append.mpr ⟨lw_r4, lw_r5⟩⟩⟩⟩
-- ===== end of PART A; then your names; then what follows =====
/-! THE CLAIM OUT OF ONE WALK OF THE LAW'S BODY. Your part is whole_start (and what it stands on); all else here is the same for every law, but numbers. -/
def R_law : String := "GlassWordsLaw"
def lw_P (b : Addr) (xs : List Int32) (args : Array Value) (s : State) : Prop := args = #[.ref b] ∧ s.IntsAt b xs ∧ xs.length ≤ 3072 ∧ (Jvm.Cond.and given_1 narrow_1).before args s = true
def lw_Q (_ : Array Value) (s : State) (o : Outcome) (t : State) : Prop := o = .returned (some (.int 1)) ∧ Framed s o t [] 600000 7302250
def lw_Z (below : List Frame) (a : Array Value) (s : State) : State → Prop := fun t => ∃ o, t.status = .running ∧ Ended t below o ∧ lw_Q a s o t
/-- the law's own end, with 1 on the stack, nothing written that was there before, its room as the claim has it -/
theorem lw_ret {p : Program} {l : Launch} {e : Env} {s : State} {m : MethodId} {below : List Frame} {meth : Method} {c : Code} {b : Nat} (hx : p.tables.exec = Jvm.exec) (hb : c.code = code) (hr : meth.sig.returnType = ret) (hlocks : meth.locks = false) {pc : Nat} {H : Heap} {ls : Array Slot} (hdg : decode code pc = .ok (.ireturn, 1)) : W p l e room_1 s m #[Value.ref b] below meth c H [] 600000 7302250 (lw_Z below #[Value.ref b] s) (F0 m pc ls [.int 1]) := by
  intro T hT X
  obtain ⟨fs, hret, hrun, hended, hW, hframe⟩ := X.leave (v := some (.int 1)) (hlocks := hlocks) (fun h => by rw [hr] at h; cases h)
  have hmeth' : T.vm.method? m = some meth := X.method'
  refine ⟨T.setFrames fs, ?_, .returned (some (.int 1)), hrun, hended, rfl, ⟨_, rfl⟩, hW, hframe⟩
  jvm_step X.here [X.here.top, hx, hb, hdg, hmeth', hr, ret, narrow_b1]
  (try refine ⟨rfl, ?_⟩); (try refine ⟨rfl, ?_⟩)
  first | (intro acts; rw [hret _ acts rfl rfl rfl]) | rw [hret _ _ rfl rfl rfl]
  exact Steps.refl _
/-- what holds at the law's entry: the machine, the code, the tables' words (any of lw_tbl by 'hts w (by decide +kernel)'), the script of L ints xs at the cell b, what the Statement gives of the start (any of its parts by flat_of_before) -/
def lw_At (p : Program) (s : State) (m : MethodId) (meth : Method) (c : Code) (b L : Nat) (xs : Nat → Int32) : Prop :=
  p.tables.exec = Jvm.exec ∧ c.code = code ∧ meth.sig.returnType = ret ∧ c.maxLocals = 4 ∧ s.vm.findClass R_law = some m.cls ∧ (∀ w ∈ lw_tbl, w.before #[Value.ref b] s = true) ∧ va_X b L xs s s.heap ∧ b < s.heap.size ∧ meth.locks = false ∧ (Jvm.Cond.and given_1 narrow_1).before #[Value.ref b] s = true
end
section
def RX0 : String := "GlassWords$Kinds"
def TX0 : u_T := fun k => match k with
  | _ => ("", "", "", false)
def tyX0 : Nat → FieldType := fun k => match k with
  | _ => .int
theorem nmX0 : ∀ a, a < 0 → ∀ b, b < 0 → a ≠ b → (TX0 a).2.1 ≠ (TX0 b).2.1 := by decide +kernel
theorem tyX0_ok : ∀ k, k < 0 → parseFieldDescriptor (TX0 k).2.2.1 = some (tyX0 k) := by decide +kernel
abbrev cX0_takes : ByteArray := prog_2_method_2_code
def yX0_takes : MethodName := ⟨RX0, "takes", "(IIII)I"⟩
abbrev cX0_tripsBy : ByteArray := prog_2_method_3_code
def yX0_tripsBy : MethodName := ⟨RX0, "tripsBy", "(IIII)I"⟩
abbrev cX0_seenBy : ByteArray := prog_2_method_4_code
def yX0_seenBy : MethodName := ⟨RX0, "seenBy", "(III)I"⟩
abbrev cX0_isOrIsUnder : ByteArray := prog_2_method_5_code
def yX0_isOrIsUnder : MethodName := ⟨RX0, "isOrIsUnder", "(II)Z"⟩
def RX1 : String := "GlassWords$Paces"
def TX1 : u_T := fun k => match k with
  | 0 => ("GlassWords$Paces", "reader", "I", false)
  | 1 => ("GlassWords$Paces", "knob", "I", false)
  | 2 => ("GlassWords$Paces", "readerWeight", "I", false)
  | 3 => ("GlassWords$Paces", "knobWeight", "I", false)
  | 4 => ("GlassWords$Paces", "readerDrift", "I", false)
  | _ => ("GlassWords$Paces", "knobDrift", "I", false)
def tyX1 : Nat → FieldType := fun k => match k with
  | 0 => .int
  | 1 => .int
  | 2 => .int
  | 3 => .int
  | 4 => .int
  | _ => .int
theorem nmX1 : ∀ a, a < 6 → ∀ b, b < 6 → a ≠ b → (TX1 a).2.1 ≠ (TX1 b).2.1 := by decide +kernel
theorem tyX1_ok : ∀ k, k < 6 → parseFieldDescriptor (TX1 k).2.2.1 = some (tyX1 k) := by decide +kernel
abbrev cX1_init : ByteArray := prog_3_method_1_code
def yX1_init : MethodName := ⟨RX1, "<init>", "()V"⟩
abbrev cX1_takeFrom : ByteArray := prog_3_method_2_code
def yX1_takeFrom : MethodName := ⟨RX1, "takeFrom", "([I)V"⟩
abbrev cX1_step : ByteArray := prog_3_method_3_code
def yX1_step : MethodName := ⟨RX1, "step", "(I)V"⟩
abbrev cX1_are : ByteArray := prog_3_method_4_code
def yX1_are : MethodName := ⟨RX1, "are", "(II)Z"⟩
abbrev cX1_habit : ByteArray := prog_3_method_5_code
def yX1_habit : MethodName := ⟨RX1, "habit", "()I"⟩
abbrev cX1_held : ByteArray := prog_3_method_6_code
def yX1_held : MethodName := ⟨RX1, "held", "(I)I"⟩
def RX2 : String := "GlassWords$Rounds"
def TX2 : u_T := fun k => match k with
  | 0 => ("GlassWords$Rounds", "slow", "LGlassWords$Paces;", true)
  | _ => ("GlassWords$Rounds", "quick", "LGlassWords$Paces;", true)
def tyX2 : Nat → FieldType := fun k => match k with
  | 0 => .object "GlassWords$Paces"
  | _ => .object "GlassWords$Paces"
theorem nmX2 : ∀ a, a < 2 → ∀ b, b < 2 → a ≠ b → (TX2 a).2.1 ≠ (TX2 b).2.1 := by decide +kernel
theorem tyX2_ok : ∀ k, k < 2 → parseFieldDescriptor (TX2 k).2.2.1 = some (tyX2 k) := by decide +kernel
abbrev cX2_init : ByteArray := prog_4_method_1_code
def yX2_init : MethodName := ⟨RX2, "<init>", "()V"⟩
abbrev cX2_lengthFrom : ByteArray := prog_4_method_2_code
def yX2_lengthFrom : MethodName := ⟨RX2, "lengthFrom", "([I)I"⟩
abbrev cX2_beginFrom : ByteArray := prog_4_method_3_code
def yX2_beginFrom : MethodName := ⟨RX2, "beginFrom", "([II)I"⟩
def RX3 : String := "GlassWords$Script"
def TX3 : u_T := fun k => match k with
  | 0 => ("GlassWords$Script", "tape", "LGlassWords$Tape;", false)
  | 1 => ("GlassWords$Script", "studio", "LGlassWords$Studio;", false)
  | 2 => ("GlassWords$Script", "token", "I", false)
  | 3 => ("GlassWords$Script", "start", "I", false)
  | 4 => ("GlassWords$Script", "next", "I", false)
  | _ => ("GlassWords$Script", "value", "I", false)
def tyX3 : Nat → FieldType := fun k => match k with
  | 0 => .object "GlassWords$Tape"
  | 1 => .object "GlassWords$Studio"
  | 2 => .int
  | 3 => .int
  | 4 => .int
  | _ => .int
theorem nmX3 : ∀ a, a < 6 → ∀ b, b < 6 → a ≠ b → (TX3 a).2.1 ≠ (TX3 b).2.1 := by decide +kernel
theorem tyX3_ok : ∀ k, k < 6 → parseFieldDescriptor (TX3 k).2.2.1 = some (tyX3 k) := by decide +kernel
abbrev cX3_init : ByteArray := prog_5_method_1_code
def yX3_init : MethodName := ⟨RX3, "<init>", "()V"⟩
abbrev cX3_tellTo : ByteArray := prog_5_method_2_code
def yX3_tellTo : MethodName := ⟨RX3, "tellTo", "(LGlassWords$Studio;LGlassWords$Tape;)I"⟩
abbrev cX3_takeItem : ByteArray := prog_5_method_3_code
def yX3_takeItem : MethodName := ⟨RX3, "takeItem", "()Z"⟩
abbrev cX3_takeLine : ByteArray := prog_5_method_4_code
def yX3_takeLine : MethodName := ⟨RX3, "takeLine", "(I)Z"⟩
abbrev cX3_takeFeature : ByteArray := prog_5_method_5_code
def yX3_takeFeature : MethodName := ⟨RX3, "takeFeature", "(Ljava/lang/String;II)Z"⟩
abbrev cX3_takePace : ByteArray := prog_5_method_6_code
def yX3_takePace : MethodName := ⟨RX3, "takePace", "(I)Z"⟩
abbrev cX3_takeRule : ByteArray := prog_5_method_7_code
def yX3_takeRule : MethodName := ⟨RX3, "takeRule", "(I)Z"⟩
abbrev cX3_takeDrift : ByteArray := prog_5_method_8_code
def yX3_takeDrift : MethodName := ⟨RX3, "takeDrift", "(I)Z"⟩
abbrev cX3_isNumber : ByteArray := prog_5_method_9_code
def yX3_isNumber : MethodName := ⟨RX3, "isNumber", "(II)Z"⟩
abbrev cX3_isWord : ByteArray := prog_5_method_10_code
def yX3_isWord : MethodName := ⟨RX3, "isWord", "(Ljava/lang/String;)Z"⟩
abbrev cX3_nameOf : ByteArray := prog_5_method_11_code
def yX3_nameOf : MethodName := ⟨RX3, "nameOf", "(I)Ljava/lang/String;"⟩
abbrev cX3_lookOn : ByteArray := prog_5_method_12_code
def yX3_lookOn : MethodName := ⟨RX3, "lookOn", "()V"⟩
abbrev cX3_signAt : ByteArray := prog_5_method_13_code
def yX3_signAt : MethodName := ⟨RX3, "signAt", "(I)I"⟩
abbrev cX3_isLetter : ByteArray := prog_5_method_14_code
def yX3_isLetter : MethodName := ⟨RX3, "isLetter", "(I)Z"⟩
abbrev cX3_isDigit : ByteArray := prog_5_method_15_code
def yX3_isDigit : MethodName := ⟨RX3, "isDigit", "(I)Z"⟩
def RX4 : String := "GlassWords$Searches"
def TX4 : u_T := fun k => match k with
  | 0 => ("GlassWords$Searches", "paces", "LGlassWords$Paces;", true)
  | 1 => ("GlassWords$Searches", "eased", "[I", true)
  | 2 => ("GlassWords$Searches", "fitting", "I", false)
  | 3 => ("GlassWords$Searches", "fittingByReader", "I", false)
  | _ => ("GlassWords$Searches", "firstFitting", "I", false)
def tyX4 : Nat → FieldType := fun k => match k with
  | 0 => .object "GlassWords$Paces"
  | 1 => .array .int
  | 2 => .int
  | 3 => .int
  | _ => .int
theorem nmX4 : ∀ a, a < 5 → ∀ b, b < 5 → a ≠ b → (TX4 a).2.1 ≠ (TX4 b).2.1 := by decide +kernel
theorem tyX4_ok : ∀ k, k < 5 → parseFieldDescriptor (TX4 k).2.2.1 = some (tyX4 k) := by decide +kernel
abbrev cX4_init : ByteArray := prog_6_method_1_code
def yX4_init : MethodName := ⟨RX4, "<init>", "()V"⟩
abbrev cX4_nearestWeights : ByteArray := prog_6_method_2_code
def yX4_nearestWeights : MethodName := ⟨RX4, "nearestWeights", "(LGlassWords$Studio;)I"⟩
abbrev cX4_offHour : ByteArray := prog_6_method_3_code
def yX4_offHour : MethodName := ⟨RX4, "offHour", "(LGlassWords$Studio;I)I"⟩
abbrev cX4_weigh : ByteArray := prog_6_method_4_code
def yX4_weigh : MethodName := ⟨RX4, "weigh", "(LGlassWords$Studio;I)V"⟩
abbrev cX4_calmestEyes : ByteArray := prog_6_method_5_code
def yX4_calmestEyes : MethodName := ⟨RX4, "calmestEyes", "(LGlassWords$Studio;)I"⟩
abbrev cX4_mostTripping : ByteArray := prog_6_method_6_code
def yX4_mostTripping : MethodName := ⟨RX4, "mostTripping", "(LGlassWords$Studio;)I"⟩
abbrev cX4_quickestKind : ByteArray := prog_6_method_7_code
def yX4_quickestKind : MethodName := ⟨RX4, "quickestKind", "(LGlassWords$Studio;I)I"⟩
abbrev cX4_fewestEased : ByteArray := prog_6_method_8_code
def yX4_fewestEased : MethodName := ⟨RX4, "fewestEased", "(LGlassWords$Studio;I)I"⟩
abbrev cX4_easedBy : ByteArray := prog_6_method_9_code
def yX4_easedBy : MethodName := ⟨RX4, "easedBy", "(II)I"⟩
abbrev cX4_bestLeftOut : ByteArray := prog_6_method_10_code
def yX4_bestLeftOut : MethodName := ⟨RX4, "bestLeftOut", "(LGlassWords$Studio;)I"⟩
abbrev cX4_fitsHourWithout : ByteArray := prog_6_method_11_code
def yX4_fitsHourWithout : MethodName := ⟨RX4, "fitsHourWithout", "(LGlassWords$Studio;I)Z"⟩
abbrev cX4_tallyFits : ByteArray := prog_6_method_12_code
def yX4_tallyFits : MethodName := ⟨RX4, "tallyFits", "(LGlassWords$Studio;LGlassWords$Sheet;)V"⟩
abbrev cX4_takeJust : ByteArray := prog_6_method_13_code
def yX4_takeJust : MethodName := ⟨RX4, "takeJust", "(LGlassWords$Studio;LGlassWords$Sheet;)Z"⟩
def RX5 : String := "GlassWords$Sheet"
def TX5 : u_T := fun k => match k with
  | 0 => ("GlassWords$Sheet", "numbers", "[I", true)
  | 1 => ("GlassWords$Sheet", "bits", "I", false)
  | _ => ("GlassWords$Sheet", "size", "I", false)
def tyX5 : Nat → FieldType := fun k => match k with
  | 0 => .array .int
  | 1 => .int
  | _ => .int
theorem nmX5 : ∀ a, a < 3 → ∀ b, b < 3 → a ≠ b → (TX5 a).2.1 ≠ (TX5 b).2.1 := by decide +kernel
theorem tyX5_ok : ∀ k, k < 3 → parseFieldDescriptor (TX5 k).2.2.1 = some (tyX5 k) := by decide +kernel
abbrev cX5_init : ByteArray := prog_7_method_1_code
def yX5_init : MethodName := ⟨RX5, "<init>", "()V"⟩
abbrev cX5_canHave : ByteArray := prog_7_method_2_code
def yX5_canHave : MethodName := ⟨RX5, "canHave", "(I)Z"⟩
abbrev cX5_isMissing : ByteArray := prog_7_method_3_code
def yX5_isMissing : MethodName := ⟨RX5, "isMissing", "()Z"⟩
abbrev cX5_begin : ByteArray := prog_7_method_4_code
def yX5_begin : MethodName := ⟨RX5, "begin", "(II)V"⟩
abbrev cX5_hasPart : ByteArray := prog_7_method_5_code
def yX5_hasPart : MethodName := ⟨RX5, "hasPart", "(II)Z"⟩
abbrev cX5_put : ByteArray := prog_7_method_6_code
def yX5_put : MethodName := ⟨RX5, "put", "(II)V"⟩
def RX6 : String := "GlassWords$Studio"
def TX6 : u_T := fun k => match k with
  | 0 => ("GlassWords$Studio", "kinds", "[I", true)
  | 1 => ("GlassWords$Studio", "words", "[I", true)
  | 2 => ("GlassWords$Studio", "hards", "[I", true)
  | 3 => ("GlassWords$Studio", "rules", "[I", true)
  | 4 => ("GlassWords$Studio", "spots", "[I", true)
  | 5 => ("GlassWords$Studio", "lines", "I", false)
  | 6 => ("GlassWords$Studio", "at", "I", false)
  | 7 => ("GlassWords$Studio", "clock", "I", false)
  | 8 => ("GlassWords$Studio", "tripped", "I", false)
  | 9 => ("GlassWords$Studio", "looked", "I", false)
  | _ => ("GlassWords$Studio", "z", "I", false)
def tyX6 : Nat → FieldType := fun k => match k with
  | 0 => .array .int
  | 1 => .array .int
  | 2 => .array .int
  | 3 => .array .int
  | 4 => .array .int
  | 5 => .int
  | 6 => .int
  | 7 => .int
  | 8 => .int
  | 9 => .int
  | _ => .int
theorem nmX6 : ∀ a, a < 11 → ∀ b, b < 11 → a ≠ b → (TX6 a).2.1 ≠ (TX6 b).2.1 := by decide +kernel
theorem tyX6_ok : ∀ k, k < 11 → parseFieldDescriptor (TX6 k).2.2.1 = some (tyX6 k) := by decide +kernel
abbrev cX6_init : ByteArray := prog_8_method_1_code
def yX6_init : MethodName := ⟨RX6, "<init>", "()V"⟩
abbrev cX6_become : ByteArray := prog_8_method_2_code
def yX6_become : MethodName := ⟨RX6, "become", "(LGlassWords$Studio;)V"⟩
abbrev cX6_isLine : ByteArray := prog_8_method_3_code
def yX6_isLine : MethodName := ⟨RX6, "isLine", "(I)Z"⟩
abbrev cX6_hasRoom : ByteArray := prog_8_method_4_code
def yX6_hasRoom : MethodName := ⟨RX6, "hasRoom", "()Z"⟩
abbrev cX6_addLine : ByteArray := prog_8_method_5_code
def yX6_addLine : MethodName := ⟨RX6, "addLine", "(I)I"⟩
abbrev cX6_features : ByteArray := prog_8_method_6_code
def yX6_features : MethodName := ⟨RX6, "features", "(I)[I"⟩
abbrev cX6_sumOf : ByteArray := prog_8_method_7_code
def yX6_sumOf : MethodName := ⟨RX6, "sumOf", "([I)I"⟩
abbrev cX6_spotsHeld : ByteArray := prog_8_method_8_code
def yX6_spotsHeld : MethodName := ⟨RX6, "spotsHeld", "()I"⟩
abbrev cX6_linesAhead : ByteArray := prog_8_method_9_code
def yX6_linesAhead : MethodName := ⟨RX6, "linesAhead", "()I"⟩
abbrev cX6_takesOf : ByteArray := prog_8_method_10_code
def yX6_takesOf : MethodName := ⟨RX6, "takesOf", "(II)I"⟩
abbrev cX6_tripsOf : ByteArray := prog_8_method_11_code
def yX6_tripsOf : MethodName := ⟨RX6, "tripsOf", "(I)I"⟩
abbrev cX6_seenOf : ByteArray := prog_8_method_12_code
def yX6_seenOf : MethodName := ⟨RX6, "seenOf", "(I)I"⟩
abbrev cX6_takesAhead : ByteArray := prog_8_method_13_code
def yX6_takesAhead : MethodName := ⟨RX6, "takesAhead", "(ILGlassWords$Paces;)I"⟩
abbrev cX6_tripsAhead : ByteArray := prog_8_method_14_code
def yX6_tripsAhead : MethodName := ⟨RX6, "tripsAhead", "()I"⟩
abbrev cX6_seenAhead : ByteArray := prog_8_method_15_code
def yX6_seenAhead : MethodName := ⟨RX6, "seenAhead", "()I"⟩
abbrev cX6_unrestAhead : ByteArray := prog_8_method_16_code
def yX6_unrestAhead : MethodName := ⟨RX6, "unrestAhead", "(II)I"⟩
abbrev cX6_wordsAheadWithout : ByteArray := prog_8_method_17_code
def yX6_wordsAheadWithout : MethodName := ⟨RX6, "wordsAheadWithout", "(I)I"⟩
abbrev cX6_takeWords : ByteArray := prog_8_method_18_code
def yX6_takeWords : MethodName := ⟨RX6, "takeWords", "(LGlassWords$Sheet;)I"⟩
abbrev cX6_turnPaces : ByteArray := prog_8_method_19_code
def yX6_turnPaces : MethodName := ⟨RX6, "turnPaces", "(LGlassWords$Paces;)V"⟩
abbrev cX6_readOne : ByteArray := prog_8_method_20_code
def yX6_readOne : MethodName := ⟨RX6, "readOne", "(LGlassWords$Paces;)V"⟩
abbrev cX6_draw : ByteArray := prog_8_method_21_code
def yX6_draw : MethodName := ⟨RX6, "draw", "()I"⟩
abbrev cX6_spendEvening : ByteArray := prog_8_method_22_code
def yX6_spendEvening : MethodName := ⟨RX6, "spendEvening", "(ILGlassWords$Paces;)I"⟩
def RX7 : String := "GlassWords$Tape"
def TX7 : u_T := fun k => match k with
  | 0 => ("GlassWords$Tape", "bytes", "[I", true)
  | _ => ("GlassWords$Tape", "size", "I", false)
def tyX7 : Nat → FieldType := fun k => match k with
  | 0 => .array .int
  | _ => .int
theorem nmX7 : ∀ a, a < 2 → ∀ b, b < 2 → a ≠ b → (TX7 a).2.1 ≠ (TX7 b).2.1 := by decide +kernel
theorem tyX7_ok : ∀ k, k < 2 → parseFieldDescriptor (TX7 k).2.2.1 = some (tyX7 k) := by decide +kernel
abbrev cX7_init : ByteArray := prog_9_method_1_code
def yX7_init : MethodName := ⟨RX7, "<init>", "()V"⟩
abbrev cX7_append : ByteArray := prog_9_method_2_code
def yX7_append : MethodName := ⟨RX7, "append", "(II)V"⟩
def RX8 : String := "GlassWords$Ways"
def TX8 : u_T := fun k => match k with
  | 0 => ("GlassWords$Ways", "reading", "[I", true)
  | 1 => ("GlassWords$Ways", "best", "[I", true)
  | _ => ("GlassWords$Ways", "behindJump", "[I", true)
def tyX8 : Nat → FieldType := fun k => match k with
  | 0 => .array .int
  | 1 => .array .int
  | _ => .array .int
theorem nmX8 : ∀ a, a < 3 → ∀ b, b < 3 → a ≠ b → (TX8 a).2.1 ≠ (TX8 b).2.1 := by decide +kernel
theorem tyX8_ok : ∀ k, k < 3 → parseFieldDescriptor (TX8 k).2.2.1 = some (tyX8 k) := by decide +kernel
abbrev cX8_init : ByteArray := prog_10_method_1_code
def yX8_init : MethodName := ⟨RX8, "<init>", "()V"⟩
abbrev cX8_measure : ByteArray := prog_10_method_2_code
def yX8_measure : MethodName := ⟨RX8, "measure", "(LGlassWords$Studio;II)V"⟩
abbrev cX8_shortest : ByteArray := prog_10_method_3_code
def yX8_shortest : MethodName := ⟨RX8, "shortest", "(I)I"⟩
abbrev cX8_linesRead : ByteArray := prog_10_method_4_code
def yX8_linesRead : MethodName := ⟨RX8, "linesRead", "(II)I"⟩
abbrev cX8_shortestJump : ByteArray := prog_10_method_5_code
def yX8_shortestJump : MethodName := ⟨RX8, "shortestJump", "(II)I"⟩
abbrev cX8_byJump : ByteArray := prog_10_method_6_code
def yX8_byJump : MethodName := ⟨RX8, "byJump", "(II)I"⟩
def RX9 : String := "GlassWords"
def TX9 : u_T := fun k => match k with
  | 0 => ("GlassWords", "studio", "LGlassWords$Studio;", true)
  | 1 => ("GlassWords", "keptStudio", "LGlassWords$Studio;", true)
  | 2 => ("GlassWords", "draft", "LGlassWords$Studio;", true)
  | 3 => ("GlassWords", "paces", "LGlassWords$Paces;", true)
  | 4 => ("GlassWords", "rounds", "LGlassWords$Rounds;", true)
  | 5 => ("GlassWords", "searches", "LGlassWords$Searches;", true)
  | 6 => ("GlassWords", "ways", "LGlassWords$Ways;", true)
  | 7 => ("GlassWords", "tape", "LGlassWords$Tape;", true)
  | 8 => ("GlassWords", "script", "LGlassWords$Script;", true)
  | 9 => ("GlassWords", "sheets", "[LGlassWords$Sheet;", true)
  | 10 => ("GlassWords", "findings", "[I", true)
  | _ => ("GlassWords", "imageIsKept", "Z", false)
def tyX9 : Nat → FieldType := fun k => match k with
  | 0 => .object "GlassWords$Studio"
  | 1 => .object "GlassWords$Studio"
  | 2 => .object "GlassWords$Studio"
  | 3 => .object "GlassWords$Paces"
  | 4 => .object "GlassWords$Rounds"
  | 5 => .object "GlassWords$Searches"
  | 6 => .object "GlassWords$Ways"
  | 7 => .object "GlassWords$Tape"
  | 8 => .object "GlassWords$Script"
  | 9 => .array (.object "GlassWords$Sheet")
  | 10 => .array .int
  | _ => .boolean
theorem nmX9 : ∀ a, a < 12 → ∀ b, b < 12 → a ≠ b → (TX9 a).2.1 ≠ (TX9 b).2.1 := by decide +kernel
theorem tyX9_ok : ∀ k, k < 12 → parseFieldDescriptor (TX9 k).2.2.1 = some (tyX9 k) := by decide +kernel
abbrev cX9_init : ByteArray := prog_1_method_1_code
def yX9_init : MethodName := ⟨RX9, "<init>", "()V"⟩
abbrev cX9_line : ByteArray := prog_1_method_2_code
def yX9_line : MethodName := ⟨RX9, "line", "(I)I"⟩
abbrev cX9_of : ByteArray := prog_1_method_3_code
def yX9_of : MethodName := ⟨RX9, "of", "(II)I"⟩
abbrev cX9_change : ByteArray := prog_1_method_4_code
def yX9_change : MethodName := ⟨RX9, "change", "(III)I"⟩
abbrev cX9_rule : ByteArray := prog_1_method_5_code
def yX9_rule : MethodName := ⟨RX9, "rule", "(II)I"⟩
abbrev cX9_ruled : ByteArray := prog_1_method_6_code
def yX9_ruled : MethodName := ⟨RX9, "ruled", "(I)I"⟩
abbrev cX9_read : ByteArray := prog_1_method_7_code
def yX9_read : MethodName := ⟨RX9, "read", "(I)I"⟩
abbrev cX9_go : ByteArray := prog_1_method_8_code
def yX9_go : MethodName := ⟨RX9, "go", "(I)I"⟩
abbrev cX9_turn : ByteArray := prog_1_method_9_code
def yX9_turn : MethodName := ⟨RX9, "turn", "()I"⟩
abbrev cX9_now : ByteArray := prog_1_method_10_code
def yX9_now : MethodName := ⟨RX9, "now", "(I)I"⟩
abbrev cX9_rest : ByteArray := prog_1_method_11_code
def yX9_rest : MethodName := ⟨RX9, "rest", "(I)I"⟩
abbrev cX9_pace : ByteArray := prog_1_method_12_code
def yX9_pace : MethodName := ⟨RX9, "pace", "(II)I"⟩
abbrev cX9_sign : ByteArray := prog_1_method_13_code
def yX9_sign : MethodName := ⟨RX9, "sign", "()I"⟩
abbrev cX9_round : ByteArray := prog_1_method_14_code
def yX9_round : MethodName := ⟨RX9, "round", "(I)I"⟩
abbrev cX9_leads : ByteArray := prog_1_method_15_code
def yX9_leads : MethodName := ⟨RX9, "leads", "()I"⟩
abbrev cX9_found : ByteArray := prog_1_method_16_code
def yX9_found : MethodName := ⟨RX9, "found", "()I"⟩
abbrev cX9_off : ByteArray := prog_1_method_17_code
def yX9_off : MethodName := ⟨RX9, "off", "()I"⟩
abbrev cX9_grid : ByteArray := prog_1_method_18_code
def yX9_grid : MethodName := ⟨RX9, "grid", "()I"⟩
abbrev cX9_worst : ByteArray := prog_1_method_19_code
def yX9_worst : MethodName := ⟨RX9, "worst", "()I"⟩
abbrev cX9_trips : ByteArray := prog_1_method_20_code
def yX9_trips : MethodName := ⟨RX9, "trips", "()I"⟩
abbrev cX9_kindFor : ByteArray := prog_1_method_21_code
def yX9_kindFor : MethodName := ⟨RX9, "kindFor", "(I)I"⟩
abbrev cX9_ease : ByteArray := prog_1_method_22_code
def yX9_ease : MethodName := ⟨RX9, "ease", "(I)I"⟩
abbrev cX9_fit : ByteArray := prog_1_method_23_code
def yX9_fit : MethodName := ⟨RX9, "fit", "()I"⟩
abbrev cX9_kept : ByteArray := prog_1_method_24_code
def yX9_kept : MethodName := ⟨RX9, "kept", "()I"⟩
abbrev cX9_jump : ByteArray := prog_1_method_25_code
def yX9_jump : MethodName := ⟨RX9, "jump", "(II)I"⟩
abbrev cX9_jumped : ByteArray := prog_1_method_26_code
def yX9_jumped : MethodName := ⟨RX9, "jumped", "(II)I"⟩
abbrev cX9_fits : ByteArray := prog_1_method_27_code
def yX9_fits : MethodName := ⟨RX9, "fits", "(I)I"⟩
abbrev cX9_led : ByteArray := prog_1_method_28_code
def yX9_led : MethodName := ⟨RX9, "led", "(I)I"⟩
abbrev cX9_part : ByteArray := prog_1_method_29_code
def yX9_part : MethodName := ⟨RX9, "part", "(II)I"⟩
abbrev cX9_stays : ByteArray := prog_1_method_30_code
def yX9_stays : MethodName := ⟨RX9, "stays", "(II)J"⟩
abbrev cX9_evening : ByteArray := prog_1_method_31_code
def yX9_evening : MethodName := ⟨RX9, "evening", "(I)I"⟩
abbrev cX9_ahead : ByteArray := prog_1_method_32_code
def yX9_ahead : MethodName := ⟨RX9, "ahead", "(I)I"⟩
abbrev cX9_seed : ByteArray := prog_1_method_33_code
def yX9_seed : MethodName := ⟨RX9, "seed", "(I)I"⟩
abbrev cX9_feed : ByteArray := prog_1_method_34_code
def yX9_feed : MethodName := ⟨RX9, "feed", "(II)I"⟩
abbrev cX9_wipe : ByteArray := prog_1_method_35_code
def yX9_wipe : MethodName := ⟨RX9, "wipe", "()I"⟩
abbrev cX9_text : ByteArray := prog_1_method_36_code
def yX9_text : MethodName := ⟨RX9, "text", "()I"⟩
abbrev cX9_hold : ByteArray := prog_1_method_37_code
def yX9_hold : MethodName := ⟨RX9, "hold", "(II)I"⟩
abbrev cX9_as : ByteArray := prog_1_method_38_code
def yX9_as : MethodName := ⟨RX9, "as", "(II)I"⟩
abbrev cX9_sheet : ByteArray := prog_1_method_39_code
def yX9_sheet : MethodName := ⟨RX9, "sheet", "(III)I"⟩
abbrev cX9_write : ByteArray := prog_1_method_40_code
def yX9_write : MethodName := ⟨RX9, "write", "(III)I"⟩
abbrev cX9_copy : ByteArray := prog_1_method_41_code
def yX9_copy : MethodName := ⟨RX9, "copy", "(IIIII)I"⟩
abbrev cX9_load : ByteArray := prog_1_method_42_code
def yX9_load : MethodName := ⟨RX9, "load", "(I)I"⟩
abbrev cX9_judge : ByteArray := prog_1_method_43_code
def yX9_judge : MethodName := ⟨RX9, "judge", "(I)I"⟩
abbrev cX9_image : ByteArray := prog_1_method_44_code
def yX9_image : MethodName := ⟨RX9, "image", "()I"⟩
abbrev cX9_undo : ByteArray := prog_1_method_45_code
def yX9_undo : MethodName := ⟨RX9, "undo", "()I"⟩
abbrev cX9_tear : ByteArray := prog_1_method_46_code
def yX9_tear : MethodName := ⟨RX9, "tear", "()I"⟩
abbrev cX9_count : ByteArray := prog_1_method_47_code
def yX9_count : MethodName := ⟨RX9, "count", "(I)I"⟩
abbrev cX9_status : ByteArray := prog_1_method_48_code
def yX9_status : MethodName := ⟨RX9, "status", "(I)I"⟩
abbrev cX9_finding : ByteArray := prog_1_method_49_code
def yX9_finding : MethodName := ⟨RX9, "finding", "(I)I"⟩
abbrev cX9_isSheet : ByteArray := prog_1_method_50_code
def yX9_isSheet : MethodName := ⟨RX9, "isSheet", "(I)Z"⟩
abbrev cX9_isWay : ByteArray := prog_1_method_51_code
def yX9_isWay : MethodName := ⟨RX9, "isWay", "(II)Z"⟩
abbrev cX9_takesAhead : ByteArray := prog_1_method_52_code
def yX9_takesAhead : MethodName := ⟨RX9, "takesAhead", "(I)I"⟩
abbrev cX9_firstWrongTime : ByteArray := prog_1_method_53_code
def yX9_firstWrongTime : MethodName := ⟨RX9, "firstWrongTime", "(LGlassWords$Sheet;)I"⟩
abbrev cX9_isWithin : ByteArray := prog_1_method_54_code
def yX9_isWithin : MethodName := ⟨RX9, "isWithin", "(III)Z"⟩
abbrev cX9_commonDivisor : ByteArray := prog_1_method_55_code
def yX9_commonDivisor : MethodName := ⟨RX9, "commonDivisor", "(II)I"⟩
def RX10 : String := "GlassWordsModel"
def TX10 : u_T := fun k => match k with
  | 0 => ("GlassWordsModel", "now", "[I", true)
  | 1 => ("GlassWordsModel", "kept", "[I", true)
  | 2 => ("GlassWordsModel", "aside", "[I", true)
  | 3 => ("GlassWordsModel", "isKept", "Z", false)
  | 4 => ("GlassWordsModel", "found", "[I", true)
  | 5 => ("GlassWordsModel", "there", "[I", true)
  | 6 => ("GlassWordsModel", "offFound", "I", false)
  | 7 => ("GlassWordsModel", "worstFound", "I", false)
  | 8 => ("GlassWordsModel", "wordsFound", "I", false)
  | 9 => ("GlassWordsModel", "mostWords", "I", false)
  | 10 => ("GlassWordsModel", "ways", "[I", true)
  | 11 => ("GlassWordsModel", "manyLead", "I", false)
  | 12 => ("GlassWordsModel", "firstLed", "I", false)
  | 13 => ("GlassWordsModel", "tape", "[I", true)
  | 14 => ("GlassWordsModel", "taped", "I", false)
  | 15 => ("GlassWordsModel", "begins", "I", false)
  | 16 => ("GlassWordsModel", "ends", "I", false)
  | 17 => ("GlassWordsModel", "sort", "I", false)
  | 18 => ("GlassWordsModel", "value", "I", false)
  | 19 => ("GlassWordsModel", "isWrong", "Z", false)
  | 20 => ("GlassWordsModel", "kinds", "[Ljava/lang/String;", true)
  | 21 => ("GlassWordsModel", "items", "[I", true)
  | 22 => ("GlassWordsModel", "itemMany", "I", false)
  | 23 => ("GlassWordsModel", "lineThen", "I", false)
  | 24 => ("GlassWordsModel", "widths", "[I", true)
  | 25 => ("GlassWordsModel", "sizes", "[I", true)
  | 26 => ("GlassWordsModel", "numbers", "[I", true)
  | _ => ("GlassWordsModel", "moved", "[I", true)
def tyX10 : Nat → FieldType := fun k => match k with
  | 0 => .array .int
  | 1 => .array .int
  | 2 => .array .int
  | 3 => .boolean
  | 4 => .array .int
  | 5 => .array .int
  | 6 => .int
  | 7 => .int
  | 8 => .int
  | 9 => .int
  | 10 => .array .int
  | 11 => .int
  | 12 => .int
  | 13 => .array .int
  | 14 => .int
  | 15 => .int
  | 16 => .int
  | 17 => .int
  | 18 => .int
  | 19 => .boolean
  | 20 => .array (.object "java/lang/String")
  | 21 => .array .int
  | 22 => .int
  | 23 => .int
  | 24 => .array .int
  | 25 => .array .int
  | 26 => .array .int
  | _ => .array .int
theorem nmX10 : ∀ a, a < 28 → ∀ b, b < 28 → a ≠ b → (TX10 a).2.1 ≠ (TX10 b).2.1 := by decide +kernel
theorem tyX10_ok : ∀ k, k < 28 → parseFieldDescriptor (TX10 k).2.2.1 = some (tyX10 k) := by decide +kernel
abbrev cX10_init : ByteArray := prog_12_method_1_code
def yX10_init : MethodName := ⟨RX10, "<init>", "()V"⟩
abbrev cX10_finding : ByteArray := prog_12_method_2_code
def yX10_finding : MethodName := ⟨RX10, "finding", "(I)I"⟩
abbrev cX10_within : ByteArray := prog_12_method_3_code
def yX10_within : MethodName := ⟨RX10, "within", "(III)Z"⟩
abbrev cX10_become : ByteArray := prog_12_method_4_code
def yX10_become : MethodName := ⟨RX10, "become", "(II)I"⟩
abbrev cX10_copyRow : ByteArray := prog_12_method_5_code
def yX10_copyRow : MethodName := ⟨RX10, "copyRow", "([I[I)V"⟩
abbrev cX10_putBack : ByteArray := prog_12_method_6_code
def yX10_putBack : MethodName := ⟨RX10, "putBack", "(I)I"⟩
abbrev cX10_has : ByteArray := prog_12_method_7_code
def yX10_has : MethodName := ⟨RX10, "has", "(II)Z"⟩
abbrev cX10_bits : ByteArray := prog_12_method_8_code
def yX10_bits : MethodName := ⟨RX10, "bits", "(I)I"⟩
abbrev cX10_isLine : ByteArray := prog_12_method_9_code
def yX10_isLine : MethodName := ⟨RX10, "isLine", "(I)Z"⟩
abbrev cX10_isKind : ByteArray := prog_12_method_10_code
def yX10_isKind : MethodName := ⟨RX10, "isKind", "(I)Z"⟩
abbrev cX10_at : ByteArray := prog_12_method_11_code
def yX10_at : MethodName := ⟨RX10, "at", "(II)I"⟩
abbrev cX10_lineIs : ByteArray := prog_12_method_12_code
def yX10_lineIs : MethodName := ⟨RX10, "lineIs", "(II)I"⟩
abbrev cX10_comes : ByteArray := prog_12_method_13_code
def yX10_comes : MethodName := ⟨RX10, "comes", "(III)I"⟩
abbrev cX10_line : ByteArray := prog_12_method_14_code
def yX10_line : MethodName := ⟨RX10, "line", "(I)I"⟩
abbrev cX10_above : ByteArray := prog_12_method_15_code
def yX10_above : MethodName := ⟨RX10, "above", "(I)I"⟩
abbrev cX10_isUnder : ByteArray := prog_12_method_16_code
def yX10_isUnder : MethodName := ⟨RX10, "isUnder", "(II)Z"⟩
abbrev cX10_takes : ByteArray := prog_12_method_17_code
def yX10_takes : MethodName := ⟨RX10, "takes", "(I)I"⟩
abbrev cX10_trips : ByteArray := prog_12_method_18_code
def yX10_trips : MethodName := ⟨RX10, "trips", "(I)I"⟩
abbrev cX10_seen : ByteArray := prog_12_method_19_code
def yX10_seen : MethodName := ⟨RX10, "seen", "(I)I"⟩
abbrev cX10_of : ByteArray := prog_12_method_20_code
def yX10_of : MethodName := ⟨RX10, "of", "(II)I"⟩
abbrev cX10_change : ByteArray := prog_12_method_21_code
def yX10_change : MethodName := ⟨RX10, "change", "(III)I"⟩
abbrev cX10_isRule : ByteArray := prog_12_method_22_code
def yX10_isRule : MethodName := ⟨RX10, "isRule", "(I)Z"⟩
abbrev cX10_least : ByteArray := prog_12_method_23_code
def yX10_least : MethodName := ⟨RX10, "least", "(I)I"⟩
abbrev cX10_most : ByteArray := prog_12_method_24_code
def yX10_most : MethodName := ⟨RX10, "most", "(I)I"⟩
abbrev cX10_rule : ByteArray := prog_12_method_25_code
def yX10_rule : MethodName := ⟨RX10, "rule", "(II)I"⟩
abbrev cX10_ruled : ByteArray := prog_12_method_26_code
def yX10_ruled : MethodName := ⟨RX10, "ruled", "(I)I"⟩
abbrev cX10_held : ByteArray := prog_12_method_27_code
def yX10_held : MethodName := ⟨RX10, "held", "(I)I"⟩
abbrev cX10_turns : ByteArray := prog_12_method_28_code
def yX10_turns : MethodName := ⟨RX10, "turns", "()I"⟩
abbrev cX10_reads : ByteArray := prog_12_method_29_code
def yX10_reads : MethodName := ⟨RX10, "reads", "()I"⟩
abbrev cX10_readsOn : ByteArray := prog_12_method_30_code
def yX10_readsOn : MethodName := ⟨RX10, "readsOn", "(I)I"⟩
abbrev cX10_left : ByteArray := prog_12_method_31_code
def yX10_left : MethodName := ⟨RX10, "left", "()I"⟩
abbrev cX10_read : ByteArray := prog_12_method_32_code
def yX10_read : MethodName := ⟨RX10, "read", "(I)I"⟩
abbrev cX10_go : ByteArray := prog_12_method_33_code
def yX10_go : MethodName := ⟨RX10, "go", "(I)I"⟩
abbrev cX10_turn : ByteArray := prog_12_method_34_code
def yX10_turn : MethodName := ⟨RX10, "turn", "()I"⟩
abbrev cX10_now : ByteArray := prog_12_method_35_code
def yX10_now : MethodName := ⟨RX10, "now", "(I)I"⟩
abbrev cX10_restTakes : ByteArray := prog_12_method_36_code
def yX10_restTakes : MethodName := ⟨RX10, "restTakes", "()I"⟩
abbrev cX10_restTrips : ByteArray := prog_12_method_37_code
def yX10_restTrips : MethodName := ⟨RX10, "restTrips", "()I"⟩
abbrev cX10_restSeen : ByteArray := prog_12_method_38_code
def yX10_restSeen : MethodName := ⟨RX10, "restSeen", "()I"⟩
abbrev cX10_rest : ByteArray := prog_12_method_39_code
def yX10_rest : MethodName := ⟨RX10, "rest", "(I)I"⟩
abbrev cX10_paceThen : ByteArray := prog_12_method_40_code
def yX10_paceThen : MethodName := ⟨RX10, "paceThen", "(II)I"⟩
abbrev cX10_pace : ByteArray := prog_12_method_41_code
def yX10_pace : MethodName := ⟨RX10, "pace", "(II)I"⟩
abbrev cX10_signThen : ByteArray := prog_12_method_42_code
def yX10_signThen : MethodName := ⟨RX10, "signThen", "()I"⟩
abbrev cX10_sign : ByteArray := prog_12_method_43_code
def yX10_sign : MethodName := ⟨RX10, "sign", "()I"⟩
abbrev cX10_round : ByteArray := prog_12_method_44_code
def yX10_round : MethodName := ⟨RX10, "round", "(I)I"⟩
abbrev cX10_leads : ByteArray := prog_12_method_45_code
def yX10_leads : MethodName := ⟨RX10, "leads", "()I"⟩
abbrev cX10_findWeights : ByteArray := prog_12_method_46_code
def yX10_findWeights : MethodName := ⟨RX10, "findWeights", "()I"⟩
abbrev cX10_found : ByteArray := prog_12_method_47_code
def yX10_found : MethodName := ⟨RX10, "found", "()I"⟩
abbrev cX10_off : ByteArray := prog_12_method_48_code
def yX10_off : MethodName := ⟨RX10, "off", "()I"⟩
abbrev cX10_findGrid : ByteArray := prog_12_method_49_code
def yX10_findGrid : MethodName := ⟨RX10, "findGrid", "()I"⟩
abbrev cX10_grid : ByteArray := prog_12_method_50_code
def yX10_grid : MethodName := ⟨RX10, "grid", "()I"⟩
abbrev cX10_worst : ByteArray := prog_12_method_51_code
def yX10_worst : MethodName := ⟨RX10, "worst", "()I"⟩
abbrev cX10_trips_ : ByteArray := prog_12_method_52_code
def yX10_trips_ : MethodName := ⟨RX10, "trips", "()I"⟩
abbrev cX10_kindFor : ByteArray := prog_12_method_53_code
def yX10_kindFor : MethodName := ⟨RX10, "kindFor", "(I)I"⟩
abbrev cX10_eases : ByteArray := prog_12_method_54_code
def yX10_eases : MethodName := ⟨RX10, "eases", "(I)I"⟩
abbrev cX10_ease : ByteArray := prog_12_method_55_code
def yX10_ease : MethodName := ⟨RX10, "ease", "(I)I"⟩
abbrev cX10_takesWithout : ByteArray := prog_12_method_56_code
def yX10_takesWithout : MethodName := ⟨RX10, "takesWithout", "(I)I"⟩
abbrev cX10_findFit : ByteArray := prog_12_method_57_code
def yX10_findFit : MethodName := ⟨RX10, "findFit", "()I"⟩
abbrev cX10_fit : ByteArray := prog_12_method_58_code
def yX10_fit : MethodName := ⟨RX10, "fit", "()I"⟩
abbrev cX10_kept : ByteArray := prog_12_method_59_code
def yX10_kept : MethodName := ⟨RX10, "kept", "()I"⟩
abbrev cX10_jumpFrom : ByteArray := prog_12_method_60_code
def yX10_jumpFrom : MethodName := ⟨RX10, "jumpFrom", "(III)I"⟩
abbrev cX10_findWays : ByteArray := prog_12_method_61_code
def yX10_findWays : MethodName := ⟨RX10, "findWays", "(II)I"⟩
abbrev cX10_isWay : ByteArray := prog_12_method_62_code
def yX10_isWay : MethodName := ⟨RX10, "isWay", "(II)Z"⟩
abbrev cX10_jump : ByteArray := prog_12_method_63_code
def yX10_jump : MethodName := ⟨RX10, "jump", "(II)I"⟩
abbrev cX10_jumped : ByteArray := prog_12_method_64_code
def yX10_jumped : MethodName := ⟨RX10, "jumped", "(II)I"⟩
abbrev cX10_findLed : ByteArray := prog_12_method_65_code
def yX10_findLed : MethodName := ⟨RX10, "findLed", "(I)I"⟩
abbrev cX10_fits : ByteArray := prog_12_method_66_code
def yX10_fits : MethodName := ⟨RX10, "fits", "(I)I"⟩
abbrev cX10_led : ByteArray := prog_12_method_67_code
def yX10_led : MethodName := ⟨RX10, "led", "(I)I"⟩
abbrev cX10_common : ByteArray := prog_12_method_68_code
def yX10_common : MethodName := ⟨RX10, "common", "(II)I"⟩
abbrev cX10_part : ByteArray := prog_12_method_69_code
def yX10_part : MethodName := ⟨RX10, "part", "(II)I"⟩
abbrev cX10_stays : ByteArray := prog_12_method_70_code
def yX10_stays : MethodName := ⟨RX10, "stays", "(II)J"⟩
abbrev cX10_drawn : ByteArray := prog_12_method_71_code
def yX10_drawn : MethodName := ⟨RX10, "drawn", "(I)I"⟩
abbrev cX10_leavesIn : ByteArray := prog_12_method_72_code
def yX10_leavesIn : MethodName := ⟨RX10, "leavesIn", "(I)I"⟩
abbrev cX10_evening : ByteArray := prog_12_method_73_code
def yX10_evening : MethodName := ⟨RX10, "evening", "(I)I"⟩
abbrev cX10_ahead : ByteArray := prog_12_method_74_code
def yX10_ahead : MethodName := ⟨RX10, "ahead", "(I)I"⟩
abbrev cX10_seed : ByteArray := prog_12_method_75_code
def yX10_seed : MethodName := ⟨RX10, "seed", "(I)I"⟩
abbrev cX10_feed : ByteArray := prog_12_method_76_code
def yX10_feed : MethodName := ⟨RX10, "feed", "(II)I"⟩
abbrev cX10_wipe : ByteArray := prog_12_method_77_code
def yX10_wipe : MethodName := ⟨RX10, "wipe", "()I"⟩
abbrev cX10_byteAt : ByteArray := prog_12_method_78_code
def yX10_byteAt : MethodName := ⟨RX10, "byteAt", "(I)I"⟩
abbrev cX10_next : ByteArray := prog_12_method_79_code
def yX10_next : MethodName := ⟨RX10, "next", "()V"⟩
abbrev cX10_isWord : ByteArray := prog_12_method_80_code
def yX10_isWord : MethodName := ⟨RX10, "isWord", "(Ljava/lang/String;)Z"⟩
abbrev cX10_must : ByteArray := prog_12_method_81_code
def yX10_must : MethodName := ⟨RX10, "must", "(Z)V"⟩
abbrev cX10_number : ByteArray := prog_12_method_82_code
def yX10_number : MethodName := ⟨RX10, "number", "(II)I"⟩
abbrev cX10_item : ByteArray := prog_12_method_83_code
def yX10_item : MethodName := ⟨RX10, "item", "(IIII)V"⟩
abbrev cX10_kindTold : ByteArray := prog_12_method_84_code
def yX10_kindTold : MethodName := ⟨RX10, "kindTold", "()I"⟩
abbrev cX10_isNext : ByteArray := prog_12_method_85_code
def yX10_isNext : MethodName := ⟨RX10, "isNext", "(Ljava/lang/String;)Z"⟩
abbrev cX10_drift : ByteArray := prog_12_method_86_code
def yX10_drift : MethodName := ⟨RX10, "drift", "()I"⟩
abbrev cX10_readPace : ByteArray := prog_12_method_87_code
def yX10_readPace : MethodName := ⟨RX10, "readPace", "(I)V"⟩
abbrev cX10_readRule : ByteArray := prog_12_method_88_code
def yX10_readRule : MethodName := ⟨RX10, "readRule", "(I)V"⟩
abbrev cX10_readItem : ByteArray := prog_12_method_89_code
def yX10_readItem : MethodName := ⟨RX10, "readItem", "()V"⟩
abbrev cX10_becomesTold : ByteArray := prog_12_method_90_code
def yX10_becomesTold : MethodName := ⟨RX10, "becomesTold", "(II)V"⟩
abbrev cX10_isSo : ByteArray := prog_12_method_91_code
def yX10_isSo : MethodName := ⟨RX10, "isSo", "(I)I"⟩
abbrev cX10_text : ByteArray := prog_12_method_92_code
def yX10_text : MethodName := ⟨RX10, "text", "()I"⟩
abbrev cX10_isSpot : ByteArray := prog_12_method_93_code
def yX10_isSpot : MethodName := ⟨RX10, "isSpot", "(I)Z"⟩
abbrev cX10_hold : ByteArray := prog_12_method_94_code
def yX10_hold : MethodName := ⟨RX10, "hold", "(II)I"⟩
abbrev cX10_as : ByteArray := prog_12_method_95_code
def yX10_as : MethodName := ⟨RX10, "as", "(II)I"⟩
abbrev cX10_isSheet : ByteArray := prog_12_method_96_code
def yX10_isSheet : MethodName := ⟨RX10, "isSheet", "(I)Z"⟩
abbrev cX10_cutTo : ByteArray := prog_12_method_97_code
def yX10_cutTo : MethodName := ⟨RX10, "cutTo", "(II)I"⟩
abbrev cX10_sheet : ByteArray := prog_12_method_98_code
def yX10_sheet : MethodName := ⟨RX10, "sheet", "(III)I"⟩
abbrev cX10_write : ByteArray := prog_12_method_99_code
def yX10_write : MethodName := ⟨RX10, "write", "(III)I"⟩
abbrev cX10_copy : ByteArray := prog_12_method_100_code
def yX10_copy : MethodName := ⟨RX10, "copy", "(IIIII)I"⟩
abbrev cX10_load : ByteArray := prog_12_method_101_code
def yX10_load : MethodName := ⟨RX10, "load", "(I)I"⟩
abbrev cX10_judge : ByteArray := prog_12_method_102_code
def yX10_judge : MethodName := ⟨RX10, "judge", "(I)I"⟩
abbrev cX10_image : ByteArray := prog_12_method_103_code
def yX10_image : MethodName := ⟨RX10, "image", "()I"⟩
abbrev cX10_undo : ByteArray := prog_12_method_104_code
def yX10_undo : MethodName := ⟨RX10, "undo", "()I"⟩
abbrev cX10_tear : ByteArray := prog_12_method_105_code
def yX10_tear : MethodName := ⟨RX10, "tear", "()I"⟩
abbrev cX10_count : ByteArray := prog_12_method_106_code
def yX10_count : MethodName := ⟨RX10, "count", "(I)I"⟩
abbrev cX10_status : ByteArray := prog_12_method_107_code
def yX10_status : MethodName := ⟨RX10, "status", "(I)I"⟩
def RJ6 : String := "java/lang/Integer"
def TJ6 : u_T := fun k => match k with
  | _ => ("", "", "", false)
def tyJ6 : Nat → FieldType := fun k => match k with
  | _ => .int
abbrev cJ6_bitCount_0f7a4 : ByteArray := prog_13_method_49_code
def yJ6_bitCount_0f7a4 : MethodName := ⟨RJ6, "bitCount", "(I)I"⟩
def RJ9 : String := "java/lang/Math"
def TJ9 : u_T := fun k => match k with
  | _ => ("", "", "", false)
def tyJ9 : Nat → FieldType := fun k => match k with
  | _ => .int
abbrev cJ9_abs_0f7a4 : ByteArray := prog_14_method_59_code
def yJ9_abs_0f7a4 : MethodName := ⟨RJ9, "abs", "(I)I"⟩
abbrev cJ9_max_7cf53 : ByteArray := prog_14_method_65_code
def yJ9_max_7cf53 : MethodName := ⟨RJ9, "max", "(II)I"⟩
abbrev cJ9_min_7cf53 : ByteArray := prog_14_method_69_code
def yJ9_min_7cf53 : MethodName := ⟨RJ9, "min", "(II)I"⟩
def RJ0 : String := "java/lang/String"
def TJ0 : u_T := fun k => match k with
  | _ => ("", "", "", false)
def tyJ0 : Nat → FieldType := fun k => match k with
  | _ => .int
abbrev cJ0_length_8abf5 : ByteArray := prog_15_method_54_code
def yJ0_length_8abf5 : MethodName := ⟨RJ0, "length", "()I"⟩
abbrev cJ0_charAt_5068e : ByteArray := prog_15_method_56_code
def yJ0_charAt_5068e : MethodName := ⟨RJ0, "charAt", "(I)C"⟩
abbrev cJ0_coder_7d493 : ByteArray := prog_15_method_152_code
def yJ0_coder_7d493 : MethodName := ⟨RJ0, "coder", "()B"⟩
abbrev cJ0_isLatin1_aae02 : ByteArray := prog_15_method_154_code
def yJ0_isLatin1_aae02 : MethodName := ⟨RJ0, "isLatin1", "()Z"⟩
abbrev cJ0_checkIndex_df160 : ByteArray := prog_15_method_155_code
def yJ0_checkIndex_df160 : MethodName := ⟨RJ0, "checkIndex", "(II)V"⟩
def RJ1 : String := "java/lang/StringLatin1"
def TJ1 : u_T := fun k => match k with
  | _ => ("", "", "", false)
def tyJ1 : Nat → FieldType := fun k => match k with
  | _ => .int
abbrev cJ1_charAt_3b067 : ByteArray := prog_16_method_2_code
def yJ1_charAt_3b067 : MethodName := ⟨RJ1, "charAt", "([BI)C"⟩
def RJ2 : String := "java/lang/StringUTF16"
def TJ2 : u_T := fun k => match k with
  | _ => ("", "", "", false)
def tyJ2 : Nat → FieldType := fun k => match k with
  | _ => .int
abbrev cJ2_getChar_3b067 : ByteArray := prog_17_method_5_code
def yJ2_getChar_3b067 : MethodName := ⟨RJ2, "getChar", "([BI)C"⟩
abbrev cJ2_length_9d52b : ByteArray := prog_17_method_6_code
def yJ2_length_9d52b : MethodName := ⟨RJ2, "length", "([B)I"⟩
abbrev cJ2_charAt_3b067 : ByteArray := prog_17_method_83_code
def yJ2_charAt_3b067 : MethodName := ⟨RJ2, "charAt", "([BI)C"⟩
abbrev cJ2_checkIndex_2214a : ByteArray := prog_17_method_91_code
def yJ2_checkIndex_2214a : MethodName := ⟨RJ2, "checkIndex", "(I[B)V"⟩
def RJ10 : String := "java/lang/System"
def TJ10 : u_T := fun k => match k with
  | _ => ("", "", "", false)
def tyJ10 : Nat → FieldType := fun k => match k with
  | _ => .int
def RJ7 : String := "java/util/Arrays"
def TJ7 : u_T := fun k => match k with
  | _ => ("", "", "", false)
def tyJ7 : Nat → FieldType := fun k => match k with
  | _ => .int
abbrev cJ7_fill_53178 : ByteArray := prog_19_method_103_code
def yJ7_fill_53178 : MethodName := ⟨RJ7, "fill", "([II)V"⟩
def RJ3 : String := "jdk/internal/util/Preconditions"
def TJ3 : u_T := fun k => match k with
  | _ => ("", "", "", false)
def tyJ3 : Nat → FieldType := fun k => match k with
  | _ => .int
abbrev cJ3_checkIndex_8e157 : ByteArray := prog_20_method_11_code
def yJ3_checkIndex_8e157 : MethodName := ⟨RJ3, "checkIndex", "(IILjava/util/function/BiFunction;)I"⟩
def RL : String := "GlassWordsLaw"
abbrev cL_law : ByteArray := code
def yL_law : MethodName := ⟨RL, "law", "([I)Z"⟩
abbrev vwCl : List vw_C := [(RX1, TX1, 6), (RX2, TX2, 2), (RX3, TX3, 6), (RX4, TX4, 5), (RX5, TX5, 3), (RX6, TX6, 11), (RX7, TX7, 2), (RX8, TX8, 3), (RX9, TX9, 12), (RX10, TX10, 28)]
end
section
/-! THE WORLD of both objects: 57 cells by key; the numbers in them are a memory 'Mem' (key, place); references never change after the making -/
abbrev Mem : Type := Nat → Nat → Int32
def gm_st (h : Mem) (k j : Nat) (v : Int32) : Mem := fun a => if a = k then upd (h a) j v else h a
abbrev Xt : Type := (Nat → Nat) × va_G × ClassId × ClassId × ClassId
/-- class number (place in vwCl) of a key; 20 an int row, 21 the row of sheets, 22 the row of texts -/
def gm_clsL : List Nat := [8, 5, 20, 20, 20, 20, 20, 5, 20, 20, 20, 20, 20, 5, 20, 20, 20, 20, 20, 0, 1, 0, 0, 3, 0, 20, 7, 20, 20, 20, 6, 20, 2, 21, 4, 20, 4, 20, 4, 20, 4, 20, 20, 9, 20, 20, 20, 20, 20, 20, 20, 22, 20, 20, 20, 20, 20]
def gm_cls (k : Nat) : Nat := gm_clsL.getD k 99
def gm_lenL : List Nat := [0, 0, 12, 12, 12, 10, 10, 0, 12, 12, 12, 10, 10, 0, 12, 12, 12, 10, 10, 0, 0, 0, 0, 0, 0, 12, 0, 12, 13, 13, 0, 120, 0, 4, 0, 40, 0, 40, 0, 40, 0, 40, 7, 0, 62, 62, 62, 8, 10000, 26, 120, 7, 480, 4, 4, 160, 40]
def gm_len (k : Nat) : Nat := gm_lenL.getD k 0
/-- the kinds of a class's fields: 0 a number, 1 a reference, 2 a reference or null -/
def gm_fkL : List (List Nat) := [[0, 0, 0, 0, 0, 0], [1, 1], [2, 2, 0, 0, 0, 0], [1, 1, 0, 0, 0], [1, 0, 0], [1, 1, 1, 1, 1, 0, 0, 0, 0, 0, 0], [1, 0], [1, 1, 1], [1, 1, 1, 1, 1, 1, 1, 1, 1, 1, 1, 0], [1, 1, 1, 0, 1, 1, 0, 0, 0, 0, 1, 0, 0, 1, 0, 0, 0, 0, 0, 0, 1, 1, 0, 0, 1, 1, 1, 1]]
def gm_fk (c j : Nat) : Nat := (gm_fkL.getD c []).getD j 9
def gm_nf (c : Nat) : Nat := (gm_fkL.getD c []).length
def gm_rf (k j : Nat) : Nat := match gm_cls k with
  | 8 => [1, 7, 13, 19, 20, 23, 26, 30, 32, 33, 42].getD j 0
  | 9 => [44, 45, 46, 0, 47, 48, 0, 0, 0, 0, 49, 0, 0, 50, 0, 0, 0, 0, 0, 0, 51, 52, 0, 0, 53, 54, 55, 56].getD j 0
  | 2 => [30, 13].getD j 0
  | 21 => 34 + 2 * j
  | 22 => 100 + j
  | _ => k + 1 + j
def gm_tv (r : Nat → Nat) (v : Value) : Value := match v with
  | .ref k => .ref (r k)
  | w => w
def gm_tp (r : Nat → Nat) (q : Nat × Value) : Nat × Value := (q.1, gm_tv r q.2)
def gm_fv (r : Nat → Nat) (k j : Nat) (v : Int32) : Value := match gm_fk (gm_cls k) j with
  | 0 => .int v
  | 1 => .ref (r (gm_rf k j))
  | _ => if v = 0 then .null else .ref (r (gm_rf k j))
def gm_cell (X : Xt) (k : Nat) (f : Nat → Int32) : va_E := match gm_cls k with
  | 20 => .inl (X.2.2.1, gm_len k, .inl f)
  | 21 => .inl (X.2.2.2.1, 4, .inr (.inr (.inr (.inr (fun i => some (X.1 (34 + 2 * i)))))))
  | 22 => .inl (X.2.2.2.2, 7, .inr (.inr (.inr (.inr (fun i => some (X.1 (100 + i)))))))
  | c => .inr (c, (List.range (gm_nf c)).map (fun j => gm_fv X.1 k j (f j)))
def gm_W (X : Xt) (h : Mem) : va_W := (List.range 57).map (fun k => (X.1 k, gm_cell X k (h k)))
def gm_A (X : Xt) : Nat → Prop := fun q => ∃ k, k < 57 ∧ q = X.1 k
def gm_inj (X : Xt) : Prop := ∀ i j, i < 57 → j < 57 → X.1 i = X.1 j → i = j
def gm_tys (X : Xt) : List (ClassId × FieldType) := [(X.2.2.1, .int), (X.2.2.2.1, .object "GlassWords$Sheet"), (X.2.2.2.2, .object "java/lang/String")]
theorem gm_W_at {X : Xt} {h : Mem} {k : Nat} (hk : k < 57) : (gm_W X h)[k]? = some (X.1 k, gm_cell X k (h k)) := by
  unfold gm_W
  rw [List.getElem?_map, List.getElem?_range hk]
  rfl
theorem gm_W_set {X : Xt} {h h' : Mem} {k : Nat} (hk : k < 57) {e : va_E} (he : gm_cell X k (h' k) = e) (ho : ∀ a, a ≠ k → h' a = h a) : (gm_W X h).set k (X.1 k, e) = gm_W X h' := by
  refine List.ext_getElem? (fun a => ?_)
  by_cases ha : a = k
  · subst ha
    rw [List.getElem?_set_self (by simp [gm_W]; exact hk), gm_W_at hk, he]
  · rw [List.getElem?_set_ne (Ne.symm ha)]
    unfold gm_W
    rw [List.getElem?_map, List.getElem?_map]
    by_cases hl : a < 57
    · rw [List.getElem?_range hl]
      simp [ho a ha]
    · rw [List.getElem?_eq_none (by simp; omega)]
      rfl
theorem gm_D {X : Xt} (hI : gm_inj X) (h : Mem) : va_D (gm_A X) (gm_W X h) := by
  have key : ∀ (k : Nat) (q : Nat × va_E), (gm_W X h)[k]? = some q → k < 57 ∧ q.1 = X.1 k := by
    intro k q hq
    have hl : k < 57 := by
      have := (List.getElem?_eq_some_iff.mp hq).1
      simpa [gm_W] using this
    rw [gm_W_at hl] at hq
    cases hq
    exact ⟨hl, rfl⟩
  refine ⟨fun i j p q hi hj e => ?_, fun k q hk => ⟨k, (key k q hk).1, (key k q hk).2⟩⟩
  obtain ⟨a1, a2⟩ := key i p hi
  obtain ⟨b1, b2⟩ := key j q hj
  exact hI i j a1 b1 (by rw [← a2, ← b2]; exact e)
theorem gm_lt {k : Nat} (h : gm_cls k ≠ 99) : k < 57 := by
  rcases Nat.lt_or_ge k 57 with q | q
  · exact q
  · exact absurd (by unfold gm_cls; rw [List.getD_eq_getElem?_getD, List.getElem?_eq_none (by simpa [gm_clsL] using q)]; rfl) h
/-- an int row of n places at key k -/
def gm_arr (k n : Nat) : Prop := gm_cls k = 20 ∧ gm_len k = n
theorem gm_st_o {h : Mem} {k j : Nat} {v : Int32} (a : Nat) (ha : a ≠ k) : gm_st h k j v a = h a := if_neg ha
theorem gm_st_s {h : Mem} {k j : Nat} {v : Int32} : gm_st h k j v k = upd (h k) j v := if_pos rfl
/-! what was there before, and is never written: words of nest mates, tables, texts -/
def gm_nest : Cond → Bool
  | .fieldLinkNest .. => true
  | .methodLinkNest .. => true
  | _ => false
def gm_stN : List String := ["FIRST_RULE", "KIND_ABOVE", "LEAST_FEATURE", "MOST_FEATURE", "LEAST_RULE", "MOST_RULE"]
def gm_stV : List (List Int32) := [[4, 4, 5, 5, 0, 0, 3, 3, 0, 600], [-1, 0, 0, 2, 0, 4, 5], [0, 1, 0], [6, 20, 9], [1, 1, 0, 0, -9, -9, 0, 1, 0, 0], [99, 99, 10, 10, 9, 9, 9, 6, 10, 99999]]
def gm_tab (i : Nat) : List Int32 := gm_stV.getD i []
def gm_bytL : List (List Int32) := [[108, 105, 110, 101], [108, 101, 118, 101, 108], [115, 105, 110, 107, 105, 110, 103], [114, 105, 115, 105, 110, 103], [115, 116, 111, 112, 112, 101, 100], [111, 102, 102], [98, 108, 97, 110, 107], [114, 101, 97, 100, 101, 114], [107, 110, 111, 98], [108, 101, 116, 116, 101, 114, 115], [97, 104, 101, 97, 100], [108, 101, 97, 118, 101, 115], [104, 111, 117, 114], [119, 111, 114, 100, 115], [104, 97, 114, 100], [119, 101, 105, 103, 104, 116], [100, 114, 105, 102, 116]]
/-- a text's bytes: line, level, sinking, rising, stopped, off, blank, reader, knob, letters, ahead, leaves, hour, words, hard, weight, drift -/
def gm_byt (i : Nat) : List Int32 := gm_bytL.getD i []
/-- the places of texts in the pools -/
def gm_ldc : List (String × Nat × String × Nat) := [("GlassWords$Script", 136, "level", 1), ("GlassWords$Script", 138, "sinking", 2), ("GlassWords$Script", 140, "rising", 3), ("GlassWords$Script", 142, "stopped", 4), ("GlassWords$Script", 144, "off", 5), ("GlassWords$Script", 146, "blank", 6), ("GlassWords$Script", 148, "line", 0), ("GlassWords$Script", 75, "words", 13), ("GlassWords$Script", 81, "hard", 14), ("GlassWords$Script", 48, "reader", 7), ("GlassWords$Script", 101, "weight", 15), ("GlassWords$Script", 103, "drift", 16), ("GlassWords$Script", 53, "knob", 8), ("GlassWords$Script", 55, "letters", 9), ("GlassWords$Script", 60, "ahead", 10), ("GlassWords$Script", 62, "leaves", 11), ("GlassWords$Script", 64, "hour", 12), ("GlassWordsModel", 33, "line", 0), ("GlassWordsModel", 35, "level", 1), ("GlassWordsModel", 37, "sinking", 2), ("GlassWordsModel", 39, "rising", 3), ("GlassWordsModel", 41, "stopped", 4), ("GlassWordsModel", 43, "off", 5), ("GlassWordsModel", 45, "blank", 6), ("GlassWordsModel", 306, "words", 13), ("GlassWordsModel", 308, "hard", 14), ("GlassWordsModel", 310, "reader", 7), ("GlassWordsModel", 287, "weight", 15), ("GlassWordsModel", 292, "drift", 16), ("GlassWordsModel", 316, "knob", 8), ("GlassWordsModel", 318, "letters", 9), ("GlassWordsModel", 323, "ahead", 10), ("GlassWordsModel", 325, "leaves", 11), ("GlassWordsModel", 327, "hour", 12)]
def gm_old (X : Xt) (U : State) (H : Heap) : Prop :=
  (∀ w ∈ lw_tbl, gm_nest w = true → va_Nw w U) ∧
  (∀ i, i < 6 → va_Z "GlassWords" (gm_stN.getD i "") "[I" (.ref (X.1 (200 + i))) (gm_A X) U H ∧ va_T .int (X.1 (200 + i)) (gm_tab i).length (fun j => .int ((gm_tab i).getD j 0)) (gm_A X) U H) ∧
  (∀ q ∈ gm_ldc, vk_R q.1 q.2.1 q.2.2.1 (X.1 (100 + q.2.2.2)) U) ∧
  (∀ i, i < 17 → va_O "java/lang/String" (X.1 (100 + i)) (gm_A X) U H ∧ va_OF "java/lang/String" "coder" "B" (.int 0) (X.1 (100 + i)) (gm_A X) U H ∧ va_OF "java/lang/String" "value" "[B" (.ref (X.1 (150 + i))) (X.1 (100 + i)) (gm_A X) U H ∧ va_T .byte (X.1 (150 + i)) (gm_byt i).length (fun j => .int ((gm_byt i).getD j 0)) (gm_A X) U H) ∧
  va_Z "java/lang/String" "COMPACT_STRINGS" "Z" (.int 1) (gm_A X) U H ∧ (va_Z "jdk/internal/util/Preconditions" "SIOOBE_FORMATTER" "Ljava/util/function/BiFunction;" .null (gm_A X) U H ∨ va_Z "jdk/internal/util/Preconditions" "SIOOBE_FORMATTER" "Ljava/util/function/BiFunction;" (.ref (X.1 180)) (gm_A X) U H)
theorem gm_old.kept {X : Xt} {U : State} {H H1 : Heap} (h : gm_old X U H) (hq : ∀ a : Nat, a < H.size → ¬ gm_A X a → H1[a]? = H[a]?) : gm_old X U H1 :=
  ⟨h.1, fun i hi => ⟨(h.2.1 i hi).1.kept hq, (h.2.1 i hi).2.kept hq⟩, h.2.2.1, fun i hi => ⟨(h.2.2.2.1 i hi).1.kept hq, (h.2.2.2.1 i hi).2.1.kept hq, (h.2.2.2.1 i hi).2.2.1.kept hq, (h.2.2.2.1 i hi).2.2.2.kept hq⟩, h.2.2.2.2.1.kept hq, h.2.2.2.2.2.imp (fun z => z.kept hq) (fun z => z.kept hq)⟩
theorem gm_old.mv {X : Xt} {u U : State} {H : Heap} (ha : u.vm.Alike U.vm) (h : gm_old X u H) (h1 : ∀ w ∈ lw_tbl, gm_nest w = true → va_Nw w U) (h3 : ∀ q ∈ gm_ldc, vk_R q.1 q.2.1 q.2.2.1 (X.1 (100 + q.2.2.2)) U) : gm_old X U H :=
  ⟨h1, fun i hi => ⟨va_Z.moved ha (h.2.1 i hi).1, va_T.moved ha (h.2.1 i hi).2⟩, h3, fun i hi => ⟨va_O.moved ha (h.2.2.2.1 i hi).1, va_OF.moved ha (h.2.2.2.1 i hi).2.1, va_OF.moved ha (h.2.2.2.1 i hi).2.2.1, va_T.moved ha (h.2.2.2.1 i hi).2.2.2⟩, va_Z.moved ha h.2.2.2.2.1, h.2.2.2.2.2.imp (fun z => va_Z.moved ha z) (fun z => va_Z.moved ha z)⟩
theorem gm_nest_on {w : Cond} (h : gm_nest w = true) : w.onTables = true := by
  cases w <;> first | rfl | (simp [gm_nest] at h)
theorem gm_nest_warm {w : Cond} (hn : gm_nest w = true) {s U : State} (hW : s.WarmedH U.vm) (h : va_Nw w s) : va_Nw w U := by
  cases w <;> first | exact va_Nw.warmF hW h | exact va_Nw.warmM hW h | (simp [gm_nest] at hn)
theorem gm_old.same {X : Xt} {u U : State} {H : Heap} (hv : u.vm = U.vm) (h : gm_old X u H) : gm_old X U H :=
  gm_old.mv (by rw [hv]; exact Vm.Alike.refl _) h (fun w hw hn => va_Nw.same (gm_nest_on hn) hv (h.1 w hw hn)) (fun q hq => vk_R.same hv.symm (h.2.2.1 q hq))
theorem gm_old.warm {X : Xt} {s U : State} {H : Heap} (hW : s.WarmedH U.vm) (h : gm_old X s H) : gm_old X U H :=
  gm_old.mv hW.alike h (fun w hw hn => gm_nest_warm hn hW (h.1 w hw hn)) (fun q hq => vk_R.warm hW (h.2.2.1 q hq))
end
section
/-! THE JUDGEMENT of a method's body over the memory -/
def gm_ws : List Cond := lw_tbl.filter goodWord
/-- a method: name, code, locals, answer, room -/
abbrev Mt : Type := MethodName × ByteArray × Nat × Option FieldType × Room
abbrev gm_words (M : Mt) : List Cond := .code M.1 M.2.1 M.2.2.1 M.2.2.2.1 :: gm_ws
def gm_wd (X : Xt) (h : Mem) (U : State) : Prop := gm_inj X ∧ va_P X.2.1 vwCl (gm_W X h) U.heap ∧ va_K X.2.1 vwCl (gm_tys X) U ∧ gm_old X U U.heap
def gm_wp (X : Xt) (h : Mem) (t : State) : Prop := va_P X.2.1 vwCl (gm_W X h) t.heap
def gm_cx (M : Mt) (p : Program) (s : State) (m : MethodId) (args : Array Value) (meth : Method) (c : Code) (X : Xt) : Prop :=
  (p.tables.exec = Jvm.exec ∧ c.code = M.2.1 ∧ meth.sig.returnType = M.2.2.2.1 ∧ c.maxLocals = M.2.2.1 ∧ s.vm.findClass M.1.cls = some m.cls ∧ (∀ w ∈ gm_ws, w.before args s = true) ∧ meth.locks = false) ∧ gm_inj X ∧ va_K X.2.1 vwCl (gm_tys X) s ∧ gm_old X s s.heap
def EV (M : Mt) (G : Xt → Array Value → State → Outcome → State → Prop) (pc : Nat) (lv : List (Nat × Value)) (st : List Value) (h : Mem) : Prop :=
  ∀ (p : Program) (l : Launch) (e : Env) (s : State) (m : MethodId) (args : Array Value) (below : List Frame) (meth : Method) (c : Code) (X : Xt) (H : Heap) (locs : List Loc) (ls : Array Slot),
    gm_cx M p s m args meth c X → va_P X.2.1 vwCl (gm_W X h) H → va_S (gm_A X) s.heap H locs → lv_has ls M.2.2.1 (lv.map (gm_tp X.1)) →
    W p l e M.2.2.2.2 s m args below meth c H locs 0 0 (MQ below (G X) args s 0 0 (gm_A X)) (F0 m pc ls (st.map (gm_tv X.1)))
/-- what an instruction is, and where the next one stands -/
def At (M : Mt) (pc : Nat) (i : Instr) (n pc' : Nat) : Prop := decode M.2.1 pc = .ok (i, n) ∧ pc + n = pc'
def AtJ (M : Mt) (pc : Nat) (i : Instr) (off : Int) (tgt pc' : Nat) : Prop := decode M.2.1 pc = .ok (i, 3) ∧ (pc : Int) + off = (tgt : Int) ∧ pc + 3 = pc'
theorem at_i {M : Mt} {pc n pc' : Nat} {i : Instr} (h1 : decode M.2.1 pc = .ok (i, n)) (h2 : pc + n = pc') : At M pc i n pc' := ⟨h1, h2⟩
theorem at_j {M : Mt} {pc tgt pc' : Nat} {off : Int} {i : Instr} (h1 : decode M.2.1 pc = .ok (i, 3)) (h2 : (pc : Int) + off = (tgt : Int)) (h3 : pc + 3 = pc') : AtJ M pc i off tgt pc' := ⟨h1, h2, h3⟩
/-- contracts: a number, nothing, a long, a reference by key -/
def GI (Q : Int32 → Mem → Prop) (X : Xt) : Array Value → State → Outcome → State → Prop := va_Qi Q (gm_wp X) (gm_A X)
def GV (Q : Mem → Prop) (X : Xt) : Array Value → State → Outcome → State → Prop := va_Qv Q (gm_wp X) (gm_A X)
def GL (Q : Int64 → Mem → Prop) (X : Xt) : Array Value → State → Outcome → State → Prop := va_Ql Q (gm_wp X) (gm_A X)
def GR (Q : Nat → Mem → Prop) (X : Xt) : Array Value → State → Outcome → State → Prop := va_Qr (S := Nat × Mem) (fun u => Q u.1 u.2) (fun u a t => a = X.1 u.1 ∧ gm_wp X u.2 t) (gm_A X)
def Cn (M : Mt) (args : List Value) (h : Mem) (G : Xt → Array Value → State → Outcome → State → Prop) : Prop :=
  ∀ (l : Launch) (X : Xt), Met l M.1 (gm_words M) M.2.2.2.2 (va_Pc (args.map (gm_tv X.1)) (gm_wd X h)) (G X) 0 0 (gm_A X)
theorem gm_args (r : Nat → Nat) : ∀ (vs : List Value) (i : Nat), lv_args i (vs.map (gm_tv r)) = (lv_args i vs).map (gm_tp r)
  | [], _ => rfl
  | v :: vs, i => by
    have hc : (gm_tv r v).category = v.category := by cases v <;> rfl
    show (i, gm_tv r v) :: lv_args (if (gm_tv r v).category = 2 then i + 2 else i + 1) (vs.map (gm_tv r)) = gm_tp r (i, v) :: (lv_args (if v.category = 2 then i + 2 else i + 1) vs).map (gm_tp r)
    rw [hc, gm_args r vs]
    rfl
theorem gm_sl (r : Nat → Nat) (vs : List Value) : (lg_sl (vs.map (gm_tv r))).length = (lg_sl vs).length := by
  induction vs with
  | nil => rfl
  | cons v vs ih =>
    have hc : (gm_tv r v).category = v.category := by cases v <;> rfl
    simp only [lg_sl, List.map_cons, List.flatMap_cons, hc, List.length_append] at ih ⊢
    rw [ih]
    by_cases h : v.category = 2
    · rw [if_pos h, if_pos h]; rfl
    · rw [if_neg h, if_neg h]; rfl
theorem ge_entry {M : Mt} {args : List Value} {lv : List (Nat × Value)} {h : Mem} {G : Xt → Array Value → State → Outcome → State → Prop} (hy : plainName M.1.cls = true) (hn : (lg_sl args).length ≤ M.2.2.1) (hlv : lv_args 0 args = lv) (body : EV M G 0 lv [] h) : Cn M args h G := by
  intro l X
  refine Met.ofW (cc := M.2.1) (maxL := M.2.2.1) (ret := M.2.2.2.1) hy rfl ?_
  intro p e s m args' below meth c s₁ B hml hv
  obtain ⟨rfl, hI, hP, hK, hO⟩ := hv
  have hts := atoms_spec (ws := gm_words M) B.pre
  have hl := lv_entry (args.map (gm_tv X.1)) (n := M.2.2.1) (by rw [gm_sl]; exact hn)
  rw [lg_entry_eq]
  rw [gm_args, hlv] at hl
  exact body p l e s m _ below meth c X s.heap [] _ ⟨⟨B.exec, B.bytes, B.returns, hml, findClass_of_methodNamed B.named, fun w hw => hts w (List.mem_cons_of_mem _ hw), B.notSynchronized⟩, hI, hK, hO⟩ hP va_S.rf hl
/-! rows -/
section
variable {M : Mt} {G : Xt → Array Value → State → Outcome → State → Prop} {pc pc' tgt : Nat} {lv : List (Nat × Value)} {st : List Value} {h : Mem}
theorem ge_iconst {n : Int} {v : Int32} (hd : At M pc (.iconst n) 1 pc') (hv : Int32.ofInt n = v) (k : EV M G pc' lv (.int v :: st) h) : EV M G pc lv st h := by
  obtain ⟨d, rfl⟩ := hd
  exact fun p l e s m args below meth c X H locs ls C hP hS hl => lv_iconst C.1.1 C.1.2.1 d hv (k p l e s m args below meth c X H locs ls C hP hS hl)
theorem ge_bipush {n : Int} {v : Int32} (hd : At M pc (.bipush n) 2 pc') (hv : (Int8.ofInt n).toInt32 = v) (k : EV M G pc' lv (.int v :: st) h) : EV M G pc lv st h := by
  obtain ⟨d, rfl⟩ := hd
  exact fun p l e s m args below meth c X H locs ls C hP hS hl => lv_bipush C.1.1 C.1.2.1 d hv (k p l e s m args below meth c X H locs ls C hP hS hl)
theorem ge_sipush {n : Int} {v : Int32} (hd : At M pc (.sipush n) 3 pc') (hv : (Int16.ofInt n).toInt32 = v) (k : EV M G pc' lv (.int v :: st) h) : EV M G pc lv st h := by
  obtain ⟨d, rfl⟩ := hd
  exact fun p l e s m args below meth c X H locs ls C hP hS hl => lv_sipush C.1.1 C.1.2.1 d hv (k p l e s m args below meth c X H locs ls C hP hS hl)
theorem ge_lconst {n : Fin 2} {v : Int64} (hd : At M pc (.lconst n) 1 pc') (hv : Int64.ofNat (n : Nat) = v) (k : EV M G pc' lv (.long v :: st) h) : EV M G pc lv st h := by
  obtain ⟨d, rfl⟩ := hd
  exact fun p l e s m args below meth c X H locs ls C hP hS hl => lv_lconst C.1.1 C.1.2.1 d hv (k p l e s m args below meth c X H locs ls C hP hS hl)
theorem gm_lvat {r : Nat → Nat} {lv : List (Nat × Value)} {ls : Array Slot} {nL : Nat} (hl : lv_has ls nL (lv.map (gm_tp r))) (q : Nat) {i : Nat} {v : Value} (hk : lv[q]? = some (i, v)) : ls[i]? = some (.val (gm_tv r v)) :=
  lv_at hl q (by rw [List.getElem?_map, hk]; rfl)
theorem ge_iload_n {k4 : Fin 4} {i : Nat} {x : Int32} (hd : At M pc (.iload_n k4) 1 pc') (hi : (k4 : Nat) = i) (q : Nat) (hq : lv[q]? = some (i, .int x)) (k : EV M G pc' lv (.int x :: st) h) : EV M G pc lv st h := by
  obtain ⟨d, rfl⟩ := hd
  exact fun p l e s m args below meth c X H locs ls C hP hS hl => lv_iload_n C.1.1 C.1.2.1 d hi (gm_lvat hl q hq) (k p l e s m args below meth c X H locs ls C hP hS hl)
theorem ge_iload {i : Nat} {x : Int32} (hd : At M pc (.iload i) 2 pc') (q : Nat) (hq : lv[q]? = some (i, .int x)) (k : EV M G pc' lv (.int x :: st) h) : EV M G pc lv st h := by
  obtain ⟨d, rfl⟩ := hd
  exact fun p l e s m args below meth c X H locs ls C hP hS hl => lv_iload C.1.1 C.1.2.1 d (gm_lvat hl q hq) (k p l e s m args below meth c X H locs ls C hP hS hl)
theorem ge_lload_n {k4 : Fin 4} {i : Nat} {x : Int64} (hd : At M pc (.lload_n k4) 1 pc') (hi : (k4 : Nat) = i) (q : Nat) (hq : lv[q]? = some (i, .long x)) (k : EV M G pc' lv (.long x :: st) h) : EV M G pc lv st h := by
  obtain ⟨d, rfl⟩ := hd
  exact fun p l e s m args below meth c X H locs ls C hP hS hl => lv_lload_n C.1.1 C.1.2.1 d hi (gm_lvat hl q hq) (k p l e s m args below meth c X H locs ls C hP hS hl)
theorem ge_lload {i : Nat} {x : Int64} (hd : At M pc (.lload i) 2 pc') (q : Nat) (hq : lv[q]? = some (i, .long x)) (k : EV M G pc' lv (.long x :: st) h) : EV M G pc lv st h := by
  obtain ⟨d, rfl⟩ := hd
  exact fun p l e s m args below meth c X H locs ls C hP hS hl => lv_lload C.1.1 C.1.2.1 d (gm_lvat hl q hq) (k p l e s m args below meth c X H locs ls C hP hS hl)
theorem ge_aload_n {k4 : Fin 4} {i x : Nat} (hd : At M pc (.aload_n k4) 1 pc') (hi : (k4 : Nat) = i) (q : Nat) (hq : lv[q]? = some (i, .ref x)) (k : EV M G pc' lv (.ref x :: st) h) : EV M G pc lv st h := by
  obtain ⟨d, rfl⟩ := hd
  exact fun p l e s m args below meth c X H locs ls C hP hS hl => lv_aload_n C.1.1 C.1.2.1 d hi (gm_lvat hl q hq) (k p l e s m args below meth c X H locs ls C hP hS hl)
theorem ge_aload {i x : Nat} (hd : At M pc (.aload i) 2 pc') (q : Nat) (hq : lv[q]? = some (i, .ref x)) (k : EV M G pc' lv (.ref x :: st) h) : EV M G pc lv st h := by
  obtain ⟨d, rfl⟩ := hd
  exact fun p l e s m args below meth c X H locs ls C hP hS hl => lv_aload C.1.1 C.1.2.1 d (gm_lvat hl q hq) (k p l e s m args below meth c X H locs ls C hP hS hl)
/-- the locals behind a store of one slot, of two -/
def gm_put1 (i : Nat) (v : Value) (lv : List (Nat × Value)) : List (Nat × Value) := (i, v) :: lv.filter (fun q => !(q.1 == i) && !(q.1 + 1 == i && q.2.category == 2))
def gm_put2 (i : Nat) (v : Value) (lv : List (Nat × Value)) : List (Nat × Value) := (i, v) :: lv.filter (fun q => !(q.1 == i) && (!(q.1 == i + 1) && !(q.1 + 1 == i && q.2.category == 2)))
theorem gm_tvc (r : Nat → Nat) (v : Value) : (gm_tv r v).category = v.category := by cases v <;> rfl
theorem gm_put1_map (r : Nat → Nat) (i : Nat) (v : Value) (lv : List (Nat × Value)) : (i, gm_tv r v) :: (lv.map (gm_tp r)).filter (fun q => !(q.1 == i) && !(q.1 + 1 == i && q.2.category == 2)) = (gm_put1 i v lv).map (gm_tp r) := by
  unfold gm_put1
  rw [List.map_cons, List.filter_map]
  congr 2
  refine List.filter_congr (fun q _ => ?_)
  simp [gm_tp, gm_tvc]
theorem gm_put2_map (r : Nat → Nat) (i : Nat) (v : Value) (lv : List (Nat × Value)) : (i, gm_tv r v) :: (lv.map (gm_tp r)).filter (fun q => !(q.1 == i) && (!(q.1 == i + 1) && !(q.1 + 1 == i && q.2.category == 2))) = (gm_put2 i v lv).map (gm_tp r) := by
  unfold gm_put2
  rw [List.map_cons, List.filter_map]
  congr 2
  refine List.filter_congr (fun q _ => ?_)
  simp [gm_tp, gm_tvc]
theorem ge_istore_n {k4 : Fin 4} {i : Nat} {x : Int32} {lv' : List (Nat × Value)} (hd : At M pc (.istore_n k4) 1 pc') (hi : (k4 : Nat) = i) (hn : i < M.2.2.1) (hl' : gm_put1 i (.int x) lv = lv') (k : EV M G pc' lv' st h) : EV M G pc lv (.int x :: st) h := by
  obtain ⟨d, rfl⟩ := hd
  subst hl'
  exact fun p l e s m args below meth c X H locs ls C hP hS hl => lv_istore_n C.1.1 C.1.2.1 d hi hl hn (gm_put1_map X.1 i (.int x) lv) (fun ls' hl2 => k p l e s m args below meth c X H locs ls' C hP hS hl2)
theorem ge_istore {i : Nat} {x : Int32} {lv' : List (Nat × Value)} (hd : At M pc (.istore i) 2 pc') (hn : i < M.2.2.1) (hl' : gm_put1 i (.int x) lv = lv') (k : EV M G pc' lv' st h) : EV M G pc lv (.int x :: st) h := by
  obtain ⟨d, rfl⟩ := hd
  subst hl'
  exact fun p l e s m args below meth c X H locs ls C hP hS hl => lv_istore C.1.1 C.1.2.1 d hl hn (gm_put1_map X.1 i (.int x) lv) (fun ls' hl2 => k p l e s m args below meth c X H locs ls' C hP hS hl2)
theorem ge_astore_n {k4 : Fin 4} {i x : Nat} {lv' : List (Nat × Value)} (hd : At M pc (.astore_n k4) 1 pc') (hi : (k4 : Nat) = i) (hn : i < M.2.2.1) (hl' : gm_put1 i (.ref x) lv = lv') (k : EV M G pc' lv' st h) : EV M G pc lv (.ref x :: st) h := by
  obtain ⟨d, rfl⟩ := hd
  subst hl'
  exact fun p l e s m args below meth c X H locs ls C hP hS hl => lv_astore_n C.1.1 C.1.2.1 d hi hl hn (gm_put1_map X.1 i (.ref x) lv) (fun ls' hl2 => k p l e s m args below meth c X H locs ls' C hP hS hl2)
theorem ge_astore {i x : Nat} {lv' : List (Nat × Value)} (hd : At M pc (.astore i) 2 pc') (hn : i < M.2.2.1) (hl' : gm_put1 i (.ref x) lv = lv') (k : EV M G pc' lv' st h) : EV M G pc lv (.ref x :: st) h := by
  obtain ⟨d, rfl⟩ := hd
  subst hl'
  exact fun p l e s m args below meth c X H locs ls C hP hS hl => lv_astore C.1.1 C.1.2.1 d hl hn (gm_put1_map X.1 i (.ref x) lv) (fun ls' hl2 => k p l e s m args below meth c X H locs ls' C hP hS hl2)
theorem ge_lstore_n {k4 : Fin 4} {i : Nat} {x : Int64} {lv' : List (Nat × Value)} (hd : At M pc (.lstore_n k4) 1 pc') (hi : (k4 : Nat) = i) (hn : i + 1 < M.2.2.1) (hl' : gm_put2 i (.long x) lv = lv') (k : EV M G pc' lv' st h) : EV M G pc lv (.long x :: st) h := by
  obtain ⟨d, rfl⟩ := hd
  subst hl'
  exact fun p l e s m args below meth c X H locs ls C hP hS hl => lv_lstore_n C.1.1 C.1.2.1 d hi hl hn (gm_put2_map X.1 i (.long x) lv) (fun ls' hl2 => k p l e s m args below meth c X H locs ls' C hP hS hl2)
theorem ge_lstore {i : Nat} {x : Int64} {lv' : List (Nat × Value)} (hd : At M pc (.lstore i) 2 pc') (hn : i + 1 < M.2.2.1) (hl' : gm_put2 i (.long x) lv = lv') (k : EV M G pc' lv' st h) : EV M G pc lv (.long x :: st) h := by
  obtain ⟨d, rfl⟩ := hd
  subst hl'
  exact fun p l e s m args below meth c X H locs ls C hP hS hl => lv_lstore C.1.1 C.1.2.1 d hl hn (gm_put2_map X.1 i (.long x) lv) (fun ls' hl2 => k p l e s m args below meth c X H locs ls' C hP hS hl2)
theorem ge_iinc {i : Nat} {n : Int} {x v : Int32} {lv' : List (Nat × Value)} (hd : At M pc (.iinc i n) 3 pc') (q : Nat) (hq : lv[q]? = some (i, .int x)) (hv : x + Int32.ofInt n = v) (hn : i < M.2.2.1) (hl' : gm_put1 i (.int v) lv = lv') (k : EV M G pc' lv' st h) : EV M G pc lv st h := by
  obtain ⟨d, rfl⟩ := hd
  subst hl'
  exact fun p l e s m args below meth c X H locs ls C hP hS hl => lv_iinc (k := q) C.1.1 C.1.2.1 d hl (by rw [List.getElem?_map, hq]; rfl) hv hn (gm_put1_map X.1 i (.int v) lv) (fun ls' hl2 => k p l e s m args below meth c X H locs ls' C hP hS hl2)
end
end
section
/-! rows: arithmetic, branches, fields, rows of numbers, answers -/
section
variable {M : Mt} {G : Xt → Array Value → State → Outcome → State → Prop} {pc pc' tgt : Nat} {lv : List (Nat × Value)} {st : List Value} {h : Mem}
theorem ge_iadd {x y : Int32} (hd : At M pc .iadd 1 pc')  (k : EV M G pc' lv (.int (x + y) :: st) h) : EV M G pc lv (.int y :: .int x :: st) h := by
  obtain ⟨d, rfl⟩ := hd
  exact fun p l e s m args below meth c X H locs ls C hP hS hl => lv_iadd C.1.1 C.1.2.1 d  (k p l e s m args below meth c X H locs ls C hP hS hl)
theorem ge_isub {x y : Int32} (hd : At M pc .isub 1 pc')  (k : EV M G pc' lv (.int (x - y) :: st) h) : EV M G pc lv (.int y :: .int x :: st) h := by
  obtain ⟨d, rfl⟩ := hd
  exact fun p l e s m args below meth c X H locs ls C hP hS hl => lv_isub C.1.1 C.1.2.1 d  (k p l e s m args below meth c X H locs ls C hP hS hl)
theorem ge_imul {x y : Int32} (hd : At M pc .imul 1 pc')  (k : EV M G pc' lv (.int (x * y) :: st) h) : EV M G pc lv (.int y :: .int x :: st) h := by
  obtain ⟨d, rfl⟩ := hd
  exact fun p l e s m args below meth c X H locs ls C hP hS hl => lv_imul C.1.1 C.1.2.1 d  (k p l e s m args below meth c X H locs ls C hP hS hl)
theorem ge_iand {x y : Int32} (hd : At M pc .iand 1 pc')  (k : EV M G pc' lv (.int (x &&& y) :: st) h) : EV M G pc lv (.int y :: .int x :: st) h := by
  obtain ⟨d, rfl⟩ := hd
  exact fun p l e s m args below meth c X H locs ls C hP hS hl => lv_iand C.1.1 C.1.2.1 d  (k p l e s m args below meth c X H locs ls C hP hS hl)
theorem ge_ior {x y : Int32} (hd : At M pc .ior 1 pc')  (k : EV M G pc' lv (.int (x ||| y) :: st) h) : EV M G pc lv (.int y :: .int x :: st) h := by
  obtain ⟨d, rfl⟩ := hd
  exact fun p l e s m args below meth c X H locs ls C hP hS hl => lv_ior C.1.1 C.1.2.1 d  (k p l e s m args below meth c X H locs ls C hP hS hl)
theorem ge_idiv {x y : Int32} (hd : At M pc .idiv 1 pc') (hne : ¬ y = 0) (k : EV M G pc' lv (.int (x / y) :: st) h) : EV M G pc lv (.int y :: .int x :: st) h := by
  obtain ⟨d, rfl⟩ := hd
  exact fun p l e s m args below meth c X H locs ls C hP hS hl => lv_idiv C.1.1 C.1.2.1 d hne (k p l e s m args below meth c X H locs ls C hP hS hl)
theorem ge_irem {x y : Int32} (hd : At M pc .irem 1 pc') (hne : ¬ y = 0) (k : EV M G pc' lv (.int (x - x / y * y) :: st) h) : EV M G pc lv (.int y :: .int x :: st) h := by
  obtain ⟨d, rfl⟩ := hd
  exact fun p l e s m args below meth c X H locs ls C hP hS hl => lv_irem C.1.1 C.1.2.1 d hne (k p l e s m args below meth c X H locs ls C hP hS hl)
theorem ge_ineg {x : Int32} (hd : At M pc .ineg 1 pc')  (k : EV M G pc' lv (.int (-x) :: st) h) : EV M G pc lv (.int x :: st) h := by
  obtain ⟨d, rfl⟩ := hd
  exact fun p l e s m args below meth c X H locs ls C hP hS hl => lv_ineg C.1.1 C.1.2.1 d  (k p l e s m args below meth c X H locs ls C hP hS hl)
theorem ge_ishl {x y : Int32} (hd : At M pc .ishl 1 pc')  (k : EV M G pc' lv (.int (x <<< (y &&& 31)) :: st) h) : EV M G pc lv (.int y :: .int x :: st) h := by
  obtain ⟨d, rfl⟩ := hd
  exact fun p l e s m args below meth c X H locs ls C hP hS hl => lv_ishl C.1.1 C.1.2.1 d  (k p l e s m args below meth c X H locs ls C hP hS hl)
theorem ge_ishr {x y : Int32} (hd : At M pc .ishr 1 pc')  (k : EV M G pc' lv (.int (x >>> (y &&& 31)) :: st) h) : EV M G pc lv (.int y :: .int x :: st) h := by
  obtain ⟨d, rfl⟩ := hd
  exact fun p l e s m args below meth c X H locs ls C hP hS hl => lv_ishr C.1.1 C.1.2.1 d  (k p l e s m args below meth c X H locs ls C hP hS hl)
theorem ge_iushr {x y : Int32} (hd : At M pc .iushr 1 pc')  (k : EV M G pc' lv (.int ((x.toUInt32 >>> (y.toUInt32 &&& Int32.toUInt32 31)).toInt32) :: st) h) : EV M G pc lv (.int y :: .int x :: st) h := by
  obtain ⟨d, rfl⟩ := hd
  exact fun p l e s m args below meth c X H locs ls C hP hS hl => lv_iushr C.1.1 C.1.2.1 d rfl (k p l e s m args below meth c X H locs ls C hP hS hl)
theorem ge_i2l {x : Int32} (hd : At M pc .i2l 1 pc')  (k : EV M G pc' lv (.long x.toInt64 :: st) h) : EV M G pc lv (.int x :: st) h := by
  obtain ⟨d, rfl⟩ := hd
  exact fun p l e s m args below meth c X H locs ls C hP hS hl => lv_i2l C.1.1 C.1.2.1 d rfl (k p l e s m args below meth c X H locs ls C hP hS hl)
theorem ge_i2b {x : Int32} (hd : At M pc .i2b 1 pc')  (k : EV M G pc' lv (.int x.toInt8.toInt32 :: st) h) : EV M G pc lv (.int x :: st) h := by
  obtain ⟨d, rfl⟩ := hd
  exact fun p l e s m args below meth c X H locs ls C hP hS hl => lv_i2b C.1.1 C.1.2.1 d rfl (k p l e s m args below meth c X H locs ls C hP hS hl)
theorem ge_i2s {x : Int32} (hd : At M pc .i2s 1 pc')  (k : EV M G pc' lv (.int x.toInt16.toInt32 :: st) h) : EV M G pc lv (.int x :: st) h := by
  obtain ⟨d, rfl⟩ := hd
  exact fun p l e s m args below meth c X H locs ls C hP hS hl => lv_i2s C.1.1 C.1.2.1 d rfl (k p l e s m args below meth c X H locs ls C hP hS hl)
theorem ge_i2c {x : Int32} (hd : At M pc .i2c 1 pc')  (k : EV M G pc' lv (.int (x.toUInt32 % 65536).toInt32 :: st) h) : EV M G pc lv (.int x :: st) h := by
  obtain ⟨d, rfl⟩ := hd
  exact fun p l e s m args below meth c X H locs ls C hP hS hl => lv_i2c C.1.1 C.1.2.1 d rfl (k p l e s m args below meth c X H locs ls C hP hS hl)
theorem ge_lmul {x y : Int64} (hd : At M pc .lmul 1 pc')  (k : EV M G pc' lv (.long (x * y) :: st) h) : EV M G pc lv (.long y :: .long x :: st) h := by
  obtain ⟨d, rfl⟩ := hd
  exact fun p l e s m args below meth c X H locs ls C hP hS hl => lv_lmul C.1.1 C.1.2.1 d  (k p l e s m args below meth c X H locs ls C hP hS hl)
theorem ge_ladd {x y : Int64} (hd : At M pc .ladd 1 pc')  (k : EV M G pc' lv (.long (x + y) :: st) h) : EV M G pc lv (.long y :: .long x :: st) h := by
  obtain ⟨d, rfl⟩ := hd
  exact fun p l e s m args below meth c X H locs ls C hP hS hl => lv_ladd C.1.1 C.1.2.1 d  (k p l e s m args below meth c X H locs ls C hP hS hl)
theorem ge_lcmp {x y : Int64} (hd : At M pc .lcmp 1 pc')  (k : EV M G pc' lv (.int (lg_cmp x y) :: st) h) : EV M G pc lv (.long y :: .long x :: st) h := by
  obtain ⟨d, rfl⟩ := hd
  exact fun p l e s m args below meth c X H locs ls C hP hS hl => W.lcmp C.1.1 C.1.2.1 d  (k p l e s m args below meth c X H locs ls C hP hS hl)
theorem ge_dup {v : Value} (hd : At M pc .dup 1 pc') (hv : v.category = 1) (k : EV M G pc' lv (v :: v :: st) h) : EV M G pc lv (v :: st) h := by
  obtain ⟨d, rfl⟩ := hd
  exact fun p l e s m args below meth c X H locs ls C hP hS hl => lv_dup C.1.1 C.1.2.1 d (by rw [gm_tvc]; exact hv) (k p l e s m args below meth c X H locs ls C hP hS hl)
theorem ge_pop {v : Value} (hd : At M pc .pop 1 pc') (hv : v.category = 1) (k : EV M G pc' lv (st) h) : EV M G pc lv (v :: st) h := by
  obtain ⟨d, rfl⟩ := hd
  exact fun p l e s m args below meth c X H locs ls C hP hS hl => lv_pop C.1.1 C.1.2.1 d (by rw [gm_tvc]; exact hv) (k p l e s m args below meth c X H locs ls C hP hS hl)
theorem ge_dup2 {v w : Value} (hd : At M pc .dup2 1 pc') (hv : v.category = 1) (hw : w.category = 1) (k : EV M G pc' lv (v :: w :: v :: w :: st) h) : EV M G pc lv (v :: w :: st) h := by
  obtain ⟨d, rfl⟩ := hd
  exact fun p l e s m args below meth c X H locs ls C hP hS hl => lv_dup2_11 C.1.1 C.1.2.1 d (by rw [gm_tvc]; exact hv) (by rw [gm_tvc]; exact hw) (k p l e s m args below meth c X H locs ls C hP hS hl)
theorem ge_if_eq {x : Int32} {off : Int} (hd : AtJ M pc (.ifCond .eq off) off tgt pc') (kt : x = 0 → EV M G tgt lv st h) (kf : ¬ x = 0 → EV M G pc' lv st h) : EV M G pc lv (.int x :: st) h := by
  obtain ⟨d, ht, rfl⟩ := hd
  exact fun p l e s m args below meth c X H locs ls C hP hS hl => lv_if_eq C.1.1 C.1.2.1 d ht (fun q => kt q p l e s m args below meth c X H locs ls C hP hS hl) (fun q => kf q p l e s m args below meth c X H locs ls C hP hS hl)
theorem ge_icmp_eq {x y : Int32} {off : Int} (hd : AtJ M pc (.if_icmp .eq off) off tgt pc') (kt : x = y → EV M G tgt lv st h) (kf : ¬ x = y → EV M G pc' lv st h) : EV M G pc lv (.int y :: .int x :: st) h := by
  obtain ⟨d, ht, rfl⟩ := hd
  exact fun p l e s m args below meth c X H locs ls C hP hS hl => lv_icmp_eq C.1.1 C.1.2.1 d ht (fun q => kt q p l e s m args below meth c X H locs ls C hP hS hl) (fun q => kf q p l e s m args below meth c X H locs ls C hP hS hl)
theorem ge_if_ne {x : Int32} {off : Int} (hd : AtJ M pc (.ifCond .ne off) off tgt pc') (kt : ¬ x = 0 → EV M G tgt lv st h) (kf : x = 0 → EV M G pc' lv st h) : EV M G pc lv (.int x :: st) h := by
  obtain ⟨d, ht, rfl⟩ := hd
  exact fun p l e s m args below meth c X H locs ls C hP hS hl => lv_if_ne C.1.1 C.1.2.1 d ht (fun q => kt q p l e s m args below meth c X H locs ls C hP hS hl) (fun q => kf q p l e s m args below meth c X H locs ls C hP hS hl)
theorem ge_icmp_ne {x y : Int32} {off : Int} (hd : AtJ M pc (.if_icmp .ne off) off tgt pc') (kt : ¬ x = y → EV M G tgt lv st h) (kf : x = y → EV M G pc' lv st h) : EV M G pc lv (.int y :: .int x :: st) h := by
  obtain ⟨d, ht, rfl⟩ := hd
  exact fun p l e s m args below meth c X H locs ls C hP hS hl => lv_icmp_ne C.1.1 C.1.2.1 d ht (fun q => kt q p l e s m args below meth c X H locs ls C hP hS hl) (fun q => kf q p l e s m args below meth c X H locs ls C hP hS hl)
theorem ge_if_lt {x : Int32} {off : Int} (hd : AtJ M pc (.ifCond .lt off) off tgt pc') (kt : x < 0 → EV M G tgt lv st h) (kf : ¬ x < 0 → EV M G pc' lv st h) : EV M G pc lv (.int x :: st) h := by
  obtain ⟨d, ht, rfl⟩ := hd
  exact fun p l e s m args below meth c X H locs ls C hP hS hl => lv_if_lt C.1.1 C.1.2.1 d ht (fun q => kt q p l e s m args below meth c X H locs ls C hP hS hl) (fun q => kf q p l e s m args below meth c X H locs ls C hP hS hl)
theorem ge_icmp_lt {x y : Int32} {off : Int} (hd : AtJ M pc (.if_icmp .lt off) off tgt pc') (kt : x < y → EV M G tgt lv st h) (kf : ¬ x < y → EV M G pc' lv st h) : EV M G pc lv (.int y :: .int x :: st) h := by
  obtain ⟨d, ht, rfl⟩ := hd
  exact fun p l e s m args below meth c X H locs ls C hP hS hl => lv_icmp_lt C.1.1 C.1.2.1 d ht (fun q => kt q p l e s m args below meth c X H locs ls C hP hS hl) (fun q => kf q p l e s m args below meth c X H locs ls C hP hS hl)
theorem ge_if_ge {x : Int32} {off : Int} (hd : AtJ M pc (.ifCond .ge off) off tgt pc') (kt : 0 ≤ x → EV M G tgt lv st h) (kf : ¬ 0 ≤ x → EV M G pc' lv st h) : EV M G pc lv (.int x :: st) h := by
  obtain ⟨d, ht, rfl⟩ := hd
  exact fun p l e s m args below meth c X H locs ls C hP hS hl => lv_if_ge C.1.1 C.1.2.1 d ht (fun q => kt q p l e s m args below meth c X H locs ls C hP hS hl) (fun q => kf q p l e s m args below meth c X H locs ls C hP hS hl)
theorem ge_icmp_ge {x y : Int32} {off : Int} (hd : AtJ M pc (.if_icmp .ge off) off tgt pc') (kt : y ≤ x → EV M G tgt lv st h) (kf : ¬ y ≤ x → EV M G pc' lv st h) : EV M G pc lv (.int y :: .int x :: st) h := by
  obtain ⟨d, ht, rfl⟩ := hd
  exact fun p l e s m args below meth c X H locs ls C hP hS hl => lv_icmp_ge C.1.1 C.1.2.1 d ht (fun q => kt q p l e s m args below meth c X H locs ls C hP hS hl) (fun q => kf q p l e s m args below meth c X H locs ls C hP hS hl)
theorem ge_if_gt {x : Int32} {off : Int} (hd : AtJ M pc (.ifCond .gt off) off tgt pc') (kt : 0 < x → EV M G tgt lv st h) (kf : ¬ 0 < x → EV M G pc' lv st h) : EV M G pc lv (.int x :: st) h := by
  obtain ⟨d, ht, rfl⟩ := hd
  exact fun p l e s m args below meth c X H locs ls C hP hS hl => lv_if_gt C.1.1 C.1.2.1 d ht (fun q => kt q p l e s m args below meth c X H locs ls C hP hS hl) (fun q => kf q p l e s m args below meth c X H locs ls C hP hS hl)
theorem ge_icmp_gt {x y : Int32} {off : Int} (hd : AtJ M pc (.if_icmp .gt off) off tgt pc') (kt : y < x → EV M G tgt lv st h) (kf : ¬ y < x → EV M G pc' lv st h) : EV M G pc lv (.int y :: .int x :: st) h := by
  obtain ⟨d, ht, rfl⟩ := hd
  exact fun p l e s m args below meth c X H locs ls C hP hS hl => lv_icmp_gt C.1.1 C.1.2.1 d ht (fun q => kt q p l e s m args below meth c X H locs ls C hP hS hl) (fun q => kf q p l e s m args below meth c X H locs ls C hP hS hl)
theorem ge_if_le {x : Int32} {off : Int} (hd : AtJ M pc (.ifCond .le off) off tgt pc') (kt : x ≤ 0 → EV M G tgt lv st h) (kf : ¬ x ≤ 0 → EV M G pc' lv st h) : EV M G pc lv (.int x :: st) h := by
  obtain ⟨d, ht, rfl⟩ := hd
  exact fun p l e s m args below meth c X H locs ls C hP hS hl => lv_if_le C.1.1 C.1.2.1 d ht (fun q => kt q p l e s m args below meth c X H locs ls C hP hS hl) (fun q => kf q p l e s m args below meth c X H locs ls C hP hS hl)
theorem ge_icmp_le {x y : Int32} {off : Int} (hd : AtJ M pc (.if_icmp .le off) off tgt pc') (kt : x ≤ y → EV M G tgt lv st h) (kf : ¬ x ≤ y → EV M G pc' lv st h) : EV M G pc lv (.int y :: .int x :: st) h := by
  obtain ⟨d, ht, rfl⟩ := hd
  exact fun p l e s m args below meth c X H locs ls C hP hS hl => lv_icmp_le C.1.1 C.1.2.1 d ht (fun q => kt q p l e s m args below meth c X H locs ls C hP hS hl) (fun q => kf q p l e s m args below meth c X H locs ls C hP hS hl)
theorem ge_goto {off : Int} (hd : AtJ M pc (.goto off) off tgt pc') (k : EV M G tgt lv st h) : EV M G pc lv st h := by
  obtain ⟨d, ht, -⟩ := hd
  exact fun p l e s m args below meth c X H locs ls C hP hS hl => lv_goto C.1.1 C.1.2.1 d ht (k p l e s m args below meth c X H locs ls C hP hS hl)
/-- a switch over lo, lo + 1 ..: the road of each place, and of all others -/
theorem ge_table {x : Int32} {dflt lo hi : Int} {offs : Array Int} {len : Nat} (hd : decode M.2.1 pc = .ok (.tableswitch dflt lo hi offs, len)) (hin : ∀ off, offs[(x.toInt - lo).toNat]? = some off → ¬ x.toInt < lo → ¬ hi < x.toInt → ∃ tgt : Nat, (pc : Int) + off = (tgt : Int) ∧ EV M G tgt lv st h) (hsz : offs.size = (hi - lo + 1).toNat) (tgt : Nat) (ht : (pc : Int) + dflt = (tgt : Int)) (hout : (x.toInt < lo ∨ hi < x.toInt) → EV M G tgt lv st h) : EV M G pc lv (.int x :: st) h := by
  intro p l e s m args below meth c X H locs ls C hP hS hl
  by_cases h0 : x.toInt < lo ∨ hi < x.toInt
  · exact lv_tableOut C.1.1 C.1.2.1 hd h0 ht (hout h0 p l e s m args below meth c X H locs ls C hP hS hl)
  · have h1 : ¬ x.toInt < lo := fun q => h0 (Or.inl q)
    have h2 : ¬ hi < x.toInt := fun q => h0 (Or.inr q)
    have hlt : (x.toInt - lo).toNat < offs.size := by rw [hsz]; omega
    obtain ⟨t2, e1, e2⟩ := hin offs[(x.toInt - lo).toNat] (Array.getElem?_eq_getElem hlt) h1 h2
    exact lv_tableIn C.1.1 C.1.2.1 hd h1 h2 (Array.getElem?_eq_getElem hlt) e1 (e2 p l e s m args below meth c X H locs ls C hP hS hl)
/-- constants out of the pool -/
theorem ge_ldc {idx : Nat} {v : Int32} (hd : At M pc (.ldc idx) 2 pc') (hw : Cond.constant M.1.cls idx v ∈ gm_ws) (k : EV M G pc' lv (.int v :: st) h) : EV M G pc lv st h := by
  obtain ⟨d, rfl⟩ := hd
  exact fun p l e s m args below meth c X H locs ls C hP hS hl => lv_ldc C.1.1 C.1.2.1 C.1.2.2.2.2.1 (C.1.2.2.2.2.2.1 _ hw) d (k p l e s m args below meth c X H locs ls C hP hS hl)
theorem ge_ldcw {idx : Nat} {v : Int32} (hd : At M pc (.ldc_w idx) 3 pc') (hw : Cond.constant M.1.cls idx v ∈ gm_ws) (k : EV M G pc' lv (.int v :: st) h) : EV M G pc lv st h := by
  obtain ⟨d, rfl⟩ := hd
  exact fun p l e s m args below meth c X H locs ls C hP hS hl => lv_ldcw C.1.1 C.1.2.1 C.1.2.2.2.2.1 (C.1.2.2.2.2.2.1 _ hw) d (k p l e s m args below meth c X H locs ls C hP hS hl)
theorem ge_ldcS {idx i : Nat} {tx : String} (hd : At M pc (.ldc idx) 2 pc') (hw : (M.1.cls, idx, tx, i) ∈ gm_ldc) (k : EV M G pc' lv (.ref (100 + i) :: st) h) : EV M G pc lv st h := by
  obtain ⟨d, rfl⟩ := hd
  exact fun p l e s m args below meth c X H locs ls C hP hS hl => va_ldcS C.1.1 C.1.2.1 C.1.2.2.2.2.1 (C.2.2.2.2.2.1 _ hw) d (k p l e s m args below meth c X H locs ls C hP hS hl)
/-- answers -/
theorem gm_frame {X : Xt} {s t : State} {H : Heap} {locs : List Loc} (hS : va_S (gm_A X) s.heap H locs) (ht : t.heap = H) : va_F (gm_A X) s t := hS.F ht
theorem ge_iret {Q : Int32 → Mem → Prop} {v : Int32} (hr : M.2.2.2.1 = some .int) (hd : At M pc .ireturn 1 pc') (hq : Q v h) : EV M (GI Q) pc lv [.int v] h := by
  obtain ⟨d, rfl⟩ := hd
  exact fun p l e s m args below meth c X H locs ls C hP hS hl => W.iret C.1.1 C.1.2.1 (C.1.2.2.1.trans hr) (fun t ht _ => ⟨⟨v, h, rfl, hq, by show va_P _ _ _ t.heap; rw [ht]; exact hP⟩, gm_frame hS ht⟩) hS.2.2 d (hlocks := C.1.2.2.2.2.2.2)
theorem ge_zret {Q : Int32 → Mem → Prop} {v : Int32} {ty : FieldType} (hr : M.2.2.2.1 = some ty) (hn : narrow ty (.int v) = .int v) (hd : At M pc .ireturn 1 pc') (hq : Q v h) : EV M (GI Q) pc lv [.int v] h := by
  obtain ⟨d, rfl⟩ := hd
  exact fun p l e s m args below meth c X H locs ls C hP hS hl => W.zret C.1.1 C.1.2.1 (C.1.2.2.1.trans hr) hn (fun t ht _ => ⟨⟨v, h, rfl, hq, by show va_P _ _ _ t.heap; rw [ht]; exact hP⟩, gm_frame hS ht⟩) hS.2.2 d (hlocks := C.1.2.2.2.2.2.2)
theorem ge_vret {Q : Mem → Prop} (hr : M.2.2.2.1 = none) (hd : At M pc .return_ 1 pc') (hq : Q h) : EV M (GV Q) pc lv [] h := by
  obtain ⟨d, rfl⟩ := hd
  exact fun p l e s m args below meth c X H locs ls C hP hS hl => W.vret C.1.1 C.1.2.1 (C.1.2.2.1.trans hr) (fun t ht _ => ⟨⟨h, rfl, hq, by show va_P _ _ _ t.heap; rw [ht]; exact hP⟩, gm_frame hS ht⟩) hS.2.2 d (hlocks := C.1.2.2.2.2.2.2)
theorem ge_lret {Q : Int64 → Mem → Prop} {v : Int64} (hr : M.2.2.2.1 = some .long) (hd : At M pc .lreturn 1 pc') (hq : Q v h) : EV M (GL Q) pc lv [.long v] h := by
  obtain ⟨d, rfl⟩ := hd
  exact fun p l e s m args below meth c X H locs ls C hP hS hl => W.lret C.1.1 C.1.2.1 (C.1.2.2.1.trans hr) (fun t ht _ => ⟨⟨v, h, rfl, hq, by show va_P _ _ _ t.heap; rw [ht]; exact hP⟩, gm_frame hS ht⟩) hS.2.2 d (hlocks := C.1.2.2.2.2.2.2)
theorem ge_aret {Q : Nat → Mem → Prop} {k : Nat} {rt : FieldType} (hr : M.2.2.2.1 = some rt) (hrt : (∃ n, rt = .object n) ∨ ∃ t, rt = .array t) (hd : At M pc .areturn 1 pc') (hq : Q k h) : EV M (GR Q) pc lv [.ref k] h := by
  obtain ⟨d, rfl⟩ := hd
  exact fun p l e s m args below meth c X H locs ls C hP hS hl => W.aret C.1.1 C.1.2.1 (C.1.2.2.1.trans hr) hrt (Or.inr ⟨_, rfl⟩) (fun t ht _ => ⟨⟨(k, h), X.1 k, rfl, hq, rfl, by show va_P _ _ _ t.heap; rw [ht]; exact hP⟩, gm_frame hS ht⟩) hS.2.2 d (hlocks := C.1.2.2.2.2.2.2)
end
end
section
/-! rows: fields, rows of numbers, tables, calls -/
theorem inX1 : ∀ w ∈ u_ws RX1 TX1 6, w ∈ gm_ws := by decide +kernel
theorem inX2 : ∀ w ∈ u_ws RX2 TX2 2, w ∈ gm_ws := by decide +kernel
theorem inX3 : ∀ w ∈ u_ws RX3 TX3 6, w ∈ gm_ws := by decide +kernel
theorem inX4 : ∀ w ∈ u_ws RX4 TX4 5, w ∈ gm_ws := by decide +kernel
theorem inX5 : ∀ w ∈ u_ws RX5 TX5 3, w ∈ gm_ws := by decide +kernel
theorem inX6 : ∀ w ∈ u_ws RX6 TX6 11, w ∈ gm_ws := by decide +kernel
theorem inX7 : ∀ w ∈ u_ws RX7 TX7 2, w ∈ gm_ws := by decide +kernel
theorem inX8 : ∀ w ∈ u_ws RX8 TX8 3, w ∈ gm_ws := by decide +kernel
theorem inX9 : ∀ w ∈ u_ws RX9 TX9 12, w ∈ gm_ws := by decide +kernel
theorem inX10 : ∀ w ∈ u_ws RX10 TX10 28, w ∈ gm_ws := by decide +kernel
theorem gm_mem {w : Cond} (i : Nat) (h : lw_tbl[i]? = some w) (hg : goodWord w = true) : w ∈ gm_ws := List.mem_filter.mpr ⟨List.mem_of_getElem? h, hg⟩
theorem gm_memN {w : Cond} (i : Nat) (h : lw_tbl[i]? = some w) : w ∈ lw_tbl := List.mem_of_getElem? h
/-- field j of class number c, read through pool entry idx of class own; kd its kind -/
def FdOk (own : String) (idx c j kd : Nat) : Prop := ∃ (C : String) (T : u_T) (N : Nat), vwCl[c]? = some (C, T, N) ∧ j < N ∧ Cond.fieldLink own idx (T j).1 (T j).2.1 (T j).2.2.1 ∈ gm_ws ∧ (∀ w ∈ u_ws C T N, w ∈ gm_ws) ∧ gm_fk c j = kd ∧ gm_nf c = N ∧ c < 10
def PdOk (own : String) (idx c j kd : Nat) (ty : FieldType) : Prop := ∃ (C : String) (T : u_T) (N : Nat) (ty0 : Nat → FieldType), vwCl[c]? = some (C, T, N) ∧ j < N ∧ Cond.fieldLink own idx (T j).1 (T j).2.1 (T j).2.2.1 ∈ gm_ws ∧ (∀ w ∈ u_ws C T N, w ∈ gm_ws) ∧ gm_fk c j = kd ∧ gm_nf c = N ∧ c < 10 ∧
  (∀ k, k < N → parseFieldDescriptor (T k).2.2.1 = some (ty0 k)) ∧ (∀ a, a < N → ∀ b, b < N → a ≠ b → (T a).2.1 ≠ (T b).2.1) ∧ (T j).2.2.2 = false ∧ parseFieldDescriptor (T j).2.2.1 = some ty
theorem gm_cell_obj {X : Xt} {k c : Nat} {f : Nat → Int32} (hc : gm_cls k = c) (h10 : c < 10) : gm_cell X k f = .inr (c, (List.range (gm_nf c)).map (fun j => gm_fv X.1 k j (f j))) := by
  unfold gm_cell
  rw [hc]
  match c, h10 with
  | 0, _ => rfl
  | 1, _ => rfl
  | 2, _ => rfl
  | 3, _ => rfl
  | 4, _ => rfl
  | 5, _ => rfl
  | 6, _ => rfl
  | 7, _ => rfl
  | 8, _ => rfl
  | 9, _ => rfl
theorem gm_cell_arr {X : Xt} {k n : Nat} {f : Nat → Int32} (ha : gm_arr k n) : gm_cell X k f = .inl (X.2.2.1, n, .inl f) := by
  unfold gm_cell
  rw [ha.1, ← ha.2]
  rfl
theorem gm_lt10 {k c : Nat} (hc : gm_cls k = c) (h10 : c < 10) : k < 57 := gm_lt (by omega)
theorem gm_arr_lt {k n : Nat} (ha : gm_arr k n) : k < 57 := gm_lt (by rw [ha.1]; decide)
theorem gm_W_obj {X : Xt} {h : Mem} {k c : Nat} (hc : gm_cls k = c) (h10 : c < 10) : (gm_W X h)[k]? = some (X.1 k, .inr (c, (List.range (gm_nf c)).map (fun j => gm_fv X.1 k j (h k j)))) := by
  rw [gm_W_at (gm_lt10 hc h10), gm_cell_obj hc h10]
theorem gm_W_arr {X : Xt} {h : Mem} {k n : Nat} (ha : gm_arr k n) : (gm_W X h)[k]? = some (X.1 k, .inl (X.2.2.1, n, .inl (h k))) := by
  rw [gm_W_at (gm_arr_lt ha), gm_cell_arr ha]
theorem gm_set_map {N j : Nat} (hj : j < N) (f : Nat → Value) (g : Nat → Value) (hg : ∀ i, i ≠ j → g i = f i) : ((List.range N).map f).set j (g j) = (List.range N).map g := by
  refine List.ext_getElem? (fun i => ?_)
  by_cases hi : i = j
  · subst hi
    rw [List.getElem?_set_self (by simpa using hj), List.getElem?_map, List.getElem?_range hj]
    rfl
  · rw [List.getElem?_set_ne (Ne.symm hi), List.getElem?_map, List.getElem?_map]
    by_cases hl : i < N
    · rw [List.getElem?_range hl]
      simp [hg i hi]
    · rw [List.getElem?_eq_none (by simp; omega)]
      rfl
/-- a field of the memory written: the world -/
theorem gm_W_put {X : Xt} {h : Mem} {k c j : Nat} {v : Int32} {w : Value} (hc : gm_cls k = c) (h10 : c < 10) (hj : j < gm_nf c) (hw : gm_fv X.1 k j v = w) : (gm_W X h).set k (X.1 k, .inr (c, ((List.range (gm_nf c)).map (fun j => gm_fv X.1 k j (h k j))).set j w)) = gm_W X (gm_st h k j v) := by
  refine gm_W_set (gm_lt10 hc h10) ?_ (fun a ha => gm_st_o a ha)
  rw [gm_cell_obj hc h10]
  congr 2
  subst hw
  rw [← gm_set_map hj (fun j => gm_fv X.1 k j (h k j)) (fun i => gm_fv X.1 k i (gm_st h k j v k i)) (fun i hi => by show gm_fv X.1 k i (gm_st h k j v k i) = gm_fv X.1 k i (h k i); rw [gm_st_s, pk_un hi])]
  congr 1
  show gm_fv X.1 k j (gm_st h k j v k j) = _
  rw [gm_st_s, pk_us]
theorem gm_W_ast {X : Xt} {h : Mem} {k n : Nat} (ha : gm_arr k n) (j : Nat) (v : Int32) : (gm_W X h).set k (X.1 k, .inl (X.2.2.1, n, .inl (upd (h k) j v))) = gm_W X (gm_st h k j v) :=
  gm_W_set (gm_arr_lt ha) (by rw [gm_cell_arr ha, gm_st_s]) (fun a h9 => gm_st_o a h9)
def gm_b (v : Int32) : Prop := v = 0 ∨ v = 1
theorem gm_b_nar {v : Int32} (h : gm_b v) : narrow .boolean (.int v) = .int v := by rcases h with rfl | rfl <;> rfl
theorem gm_b_fit {v : Int32} (h : gm_b v) : fits .boolean (.int v) = true := by rcases h with rfl | rfl <;> rfl
theorem gm_b0 : gm_b 0 := Or.inl rfl
theorem gm_b1 : gm_b 1 := Or.inr rfl
section
variable {M : Mt} {G : Xt → Array Value → State → Outcome → State → Prop} {pc pc' tgt : Nat} {lv : List (Nat × Value)} {st : List Value} {h : Mem}
theorem ge_getV {k j cn idx kd : Nat} {v : Int32 → Value} (hd : At M pc (.getfield idx) 3 pc') (hf : FdOk M.1.cls idx cn j kd) (hk : gm_cls k = cn) (hv : ∀ r : Nat → Nat, gm_fv r k j (h k j) = gm_tv r (v (h k j))) (kk : EV M G pc' lv (v (h k j) :: st) h) : EV M G pc lv (.ref k :: st) h := by
  obtain ⟨d, rfl⟩ := hd
  obtain ⟨CC, T, N, h1, h2, h3, h4, h5, h6, h7⟩ := hf
  exact fun p l e s m args below meth c X H locs ls C hP hS hl => va_get (D := X.2.1) (ci := cn) (C := CC) (T := T) (N := N) C.1.1 C.1.2.1 C.1.2.2.2.2.2.1 h4 C.1.2.2.2.2.1 C.2.2.1 hP k (gm_W_obj hk h7) h1 j h2 (C.1.2.2.2.2.2.1 _ h3) (fun _ h9 => h9) (by rw [List.getElem?_map, List.getElem?_range (by rw [h6]; exact h2)]; exact congrArg some (hv X.1)) d (kk p l e s m args below meth c X H locs ls C hP hS hl)
theorem ge_getI {k j c idx : Nat} (hd : At M pc (.getfield idx) 3 pc') (hf : FdOk M.1.cls idx c j 0) (hk : gm_cls k = c) (kk : EV M G pc' lv (.int (h k j) :: st) h) : EV M G pc lv (.ref k :: st) h :=
  ge_getV (v := .int) hd hf hk (fun r => by unfold gm_fv; rw [hk, hf.choose_spec.choose_spec.choose_spec.2.2.2.2.1]; rfl) kk
theorem ge_getR {k j c idx q : Nat} (hd : At M pc (.getfield idx) 3 pc') (hf : FdOk M.1.cls idx c j 1) (hk : gm_cls k = c) (hq : gm_rf k j = q) (kk : EV M G pc' lv (.ref q :: st) h) : EV M G pc lv (.ref k :: st) h :=
  ge_getV (v := fun _ => .ref q) hd hf hk (fun r => by unfold gm_fv; rw [hk, hf.choose_spec.choose_spec.choose_spec.2.2.2.2.1, hq]; rfl) kk
theorem ge_getO {k j c idx q : Nat} (hd : At M pc (.getfield idx) 3 pc') (hf : FdOk M.1.cls idx c j 2) (hk : gm_cls k = c) (hq : gm_rf k j = q) (hne : ¬ h k j = 0) (kk : EV M G pc' lv (.ref q :: st) h) : EV M G pc lv (.ref k :: st) h :=
  ge_getV (v := fun _ => .ref q) hd hf hk (fun r => by unfold gm_fv; rw [hk, hf.choose_spec.choose_spec.choose_spec.2.2.2.2.1, hq]; show (if h k j = 0 then Value.null else Value.ref (r q)) = _; rw [if_neg hne]; rfl) kk
theorem ge_putV {k j c idx kd : Nat} {ty : FieldType} {v : Value} {x : Int32} (hd : At M pc (.putfield idx) 3 pc') (hf : PdOk M.1.cls idx c j kd ty) (hk : gm_cls k = c) (hv : ∀ r : Nat → Nat, gm_fv r k j x = gm_tv r v) (hn : ∀ r : Nat → Nat, narrow ty (gm_tv r v) = gm_tv r v ∧ fits ty (gm_tv r v) = true) (kk : EV M G pc' lv st (gm_st h k j x)) : EV M G pc lv (v :: .ref k :: st) h := by
  obtain ⟨d, rfl⟩ := hd
  obtain ⟨CC, T, N, ty0, h1, h2, h3, h4, h5, h6, h7, h8, h9, h10, h11⟩ := hf
  exact fun p l e s m args below meth c_1 X H locs ls C hP hS hl => va_put (D := X.2.1) (ci := c) (C := CC) (T := T) (N := N) C.1.1 C.1.2.1 C.1.2.2.2.2.2.1 h4 ty0 h8 h9 C.1.2.2.2.2.1 C.2.2.1 hP (gm_D C.2.1 h) hS k (gm_W_obj hk h7) h1 j h2 (C.1.2.2.2.2.2.1 _ h3) (fun _ h9 => h9) h10 h11 (hn X.1).1 (hn X.1).2 (by rw [List.length_map, List.length_range, h6]; exact h2) d
    (fun H1 locs1 hP1 _ hS1 => kk p l e s m args below meth c_1 X H1 locs1 ls C (by rw [← gm_W_put hk h7 (by rw [h6]; exact h2) (hv X.1)]; exact hP1) hS1 hl)
theorem ge_putI {k j c idx : Nat} {x : Int32} (hd : At M pc (.putfield idx) 3 pc') (hf : PdOk M.1.cls idx c j 0 .int) (hk : gm_cls k = c) (kk : EV M G pc' lv st (gm_st h k j x)) : EV M G pc lv (.int x :: .ref k :: st) h :=
  ge_putV hd hf hk (fun r => by unfold gm_fv; rw [hk, hf.choose_spec.choose_spec.choose_spec.choose_spec.2.2.2.2.1]; rfl) (fun r => ⟨rfl, rfl⟩) kk
theorem ge_putZ {k j c idx : Nat} {x : Int32} (hd : At M pc (.putfield idx) 3 pc') (hf : PdOk M.1.cls idx c j 0 .boolean) (hk : gm_cls k = c) (hb : gm_b x) (kk : EV M G pc' lv st (gm_st h k j x)) : EV M G pc lv (.int x :: .ref k :: st) h :=
  ge_putV hd hf hk (fun r => by unfold gm_fv; rw [hk, hf.choose_spec.choose_spec.choose_spec.choose_spec.2.2.2.2.1]; rfl) (fun r => ⟨gm_b_nar hb, gm_b_fit hb⟩) kk
theorem ge_putR {k j c idx q : Nat} {C0 : String} (hd : At M pc (.putfield idx) 3 pc') (hf : PdOk M.1.cls idx c j 2 (.object C0)) (hk : gm_cls k = c) (hq : gm_rf k j = q) (kk : EV M G pc' lv st (gm_st h k j 1)) : EV M G pc lv (.ref q :: .ref k :: st) h :=
  ge_putV hd hf hk (fun r => by unfold gm_fv; rw [hk, hf.choose_spec.choose_spec.choose_spec.choose_spec.2.2.2.2.1, hq]; rfl) (fun r => ⟨rfl, rfl⟩) kk
theorem ge_iald {k n j : Nat} {i : Int32} (hd : At M pc .iaload 1 pc') (ha : gm_arr k n) (hi : vp_in i n) (hj : i.toNatClampNeg = j) (kk : EV M G pc' lv (.int (h k j) :: st) h) : EV M G pc lv (.int i :: .ref k :: st) h := by
  obtain ⟨d, rfl⟩ := hd
  subst hj
  exact fun p l e s m args below meth c X H locs ls C hP hS hl => va_iald C.1.1 C.1.2.1 C.2.2.1 hP k 0 (gm_W_arr ha) rfl hi d (kk p l e s m args below meth c X H locs ls C hP hS hl)
theorem ge_iast {k n j : Nat} {i x : Int32} (hd : At M pc .iastore 1 pc') (ha : gm_arr k n) (hi : vp_in i n) (hj : i.toNatClampNeg = j) (kk : EV M G pc' lv st (gm_st h k j x)) : EV M G pc lv (.int x :: .int i :: .ref k :: st) h := by
  obtain ⟨d, rfl⟩ := hd
  subst hj
  exact fun p l e s m args below meth c X H locs ls C hP hS hl => va_iast C.1.1 C.1.2.1 C.2.2.1 hP (gm_D C.2.1 h) hS k 0 (gm_W_arr ha) rfl hi d (fun H1 locs1 hP1 _ hS1 => kk p l e s m args below meth c X H1 locs1 ls C (by rw [← gm_W_ast ha]; exact hP1) hS1 hl)
theorem ge_alen {k n : Nat} {v : Int32} (hd : At M pc .arraylength 1 pc') (ha : gm_arr k n) (hv : Int32.ofNat n = v) (kk : EV M G pc' lv (.int v :: st) h) : EV M G pc lv (.ref k :: st) h := by
  obtain ⟨d, rfl⟩ := hd
  exact fun p l e s m args below meth c X H locs ls C hP hS hl => va_alen C.1.1 C.1.2.1 C.2.2.1 hP k 0 (gm_W_arr ha) rfl hv d (kk p l e s m args below meth c X H locs ls C hP hS hl)
theorem gm_W_33 {X : Xt} {h : Mem} : (gm_W X h)[33]? = some (X.1 33, .inl (X.2.2.2.1, 4, .inr (.inr (.inr (.inr (fun i => some (X.1 (34 + 2 * i)))))))) := gm_W_at (by decide)
theorem gm_W_51 {X : Xt} {h : Mem} : (gm_W X h)[51]? = some (X.1 51, .inl (X.2.2.2.2, 7, .inr (.inr (.inr (.inr (fun i => some (X.1 (100 + i)))))))) := gm_W_at (by decide)
theorem ge_ald33 {i : Int32} (hd : At M pc .aaload 1 pc') (hi : vp_in i 4) (kk : EV M G pc' lv (.ref (34 + 2 * i.toNatClampNeg) :: st) h) : EV M G pc lv (.int i :: .ref 33 :: st) h := by
  obtain ⟨d, rfl⟩ := hd
  exact fun p l e s m args below meth c X H locs ls C hP hS hl => va_aldq C.1.1 C.1.2.1 C.2.2.1 hP 33 1 gm_W_33 rfl hi d (kk p l e s m args below meth c X H locs ls C hP hS hl)
theorem ge_ald51 {i : Int32} (hd : At M pc .aaload 1 pc') (hi : vp_in i 7) (kk : EV M G pc' lv (.ref (100 + i.toNatClampNeg) :: st) h) : EV M G pc lv (.int i :: .ref 51 :: st) h := by
  obtain ⟨d, rfl⟩ := hd
  exact fun p l e s m args below meth c X H locs ls C hP hS hl => va_aldq C.1.1 C.1.2.1 C.2.2.1 hP 51 2 gm_W_51 rfl hi d (kk p l e s m args below meth c X H locs ls C hP hS hl)
theorem ge_alen51 (hd : At M pc .arraylength 1 pc') (kk : EV M G pc' lv (.int 7 :: st) h) : EV M G pc lv (.ref 51 :: st) h := by
  obtain ⟨d, rfl⟩ := hd
  exact fun p l e s m args below meth c X H locs ls C hP hS hl => va_alen C.1.1 C.1.2.1 C.2.2.1 hP 51 2 gm_W_51 rfl rfl d (kk p l e s m args below meth c X H locs ls C hP hS hl)
/-- a table that is a static: read through an entry of its own class, or of a nest mate -/
theorem ge_gets {i idx : Nat} {nm : String} (hd : At M pc (.getstatic idx) 3 pc') (hi : i < 6) (hnm : gm_stN.getD i "" = nm) (hw : Cond.fieldLink M.1.cls idx "GlassWords" nm "[I" ∈ gm_ws) (kk : EV M G pc' lv (.ref (200 + i) :: st) h) : EV M G pc lv st h := by
  obtain ⟨d, rfl⟩ := hd
  subst hnm
  exact fun p l e s m args below meth c X H locs ls C hP hS hl => va_gets C.1.1 C.1.2.1 (C.2.2.2.2.1 i hi).1 hS C.1.2.2.2.2.1 (C.1.2.2.2.2.2.1 _ hw) (fun _ h9 => h9) d (kk p l e s m args below meth c X H locs ls C hP hS hl)
theorem ge_getsN {i idx : Nat} {nm host : String} (hd : At M pc (.getstatic idx) 3 pc') (hi : i < 6) (hnm : gm_stN.getD i "" = nm) (hw : Cond.fieldLinkNest M.1.cls idx "GlassWords" nm "[I" host ∈ lw_tbl) (kk : EV M G pc' lv (.ref (200 + i) :: st) h) : EV M G pc lv st h := by
  obtain ⟨d, rfl⟩ := hd
  subst hnm
  exact fun p l e s m args below meth c X H locs ls C hP hS hl => va_getsN C.1.1 C.1.2.1 (C.2.2.2.2.1 i hi).1 hS C.1.2.2.2.2.1 (va_Nw.use rfl (C.2.2.2.1 _ hw rfl)) (fun _ h9 => h9) d (kk p l e s m args below meth c X H locs ls C hP hS hl)
theorem ge_tld {i n : Nat} {x : Int32} (hd : At M pc .iaload 1 pc') (hi : i < 6) (hn : (gm_tab i).length = n) (hx : vp_in x n) (kk : EV M G pc' lv (.int ((gm_tab i).getD x.toNatClampNeg 0) :: st) h) : EV M G pc lv (.int x :: .ref (200 + i) :: st) h := by
  obtain ⟨d, rfl⟩ := hd
  subst hn
  exact fun p l e s m args below meth c X H locs ls C hP hS hl => va_ti C.1.1 C.1.2.1 (C.2.2.2.2.1 i hi).2 hS hx rfl d (kk p l e s m args below meth c X H locs ls C hP hS hl)
end
end
section
theorem gm_wMath : Cond.initialized "java/lang/Math" ∈ gm_ws := by decide +kernel
theorem gm_wmax : Cond.static Lib.Math.max.name ∈ gm_ws ∧ Cond.code Lib.Math.max.name Lib.Math.max.code 2 (some .int) ∈ gm_ws := by decide +kernel
theorem gm_wmin : Cond.static Lib.Math.min.name ∈ gm_ws ∧ Cond.code Lib.Math.min.name Lib.Math.min.code 2 (some .int) ∈ gm_ws := by decide +kernel
theorem gm_wabs : Cond.static Lib.Math.abs.name ∈ gm_ws ∧ Cond.code Lib.Math.abs.name Lib.Math.abs.code 1 (some .int) ∈ gm_ws := by decide +kernel
theorem gm_wcpy : Cond.native arraycopyName ∈ gm_ws ∧ Cond.static arraycopyName ∈ gm_ws ∧ Cond.initialized "java/lang/System" ∈ gm_ws := by decide +kernel
/-! rows: calls -/
theorem gm_good {w : Cond} (h : w ∈ gm_ws) : w ∈ gm_ws ∧ ((w.onTables && w.keeps) = true ∨ ∃ ty, w = .arrayClass ty) := ⟨h, good_of_word (List.mem_filter.mp h).2⟩
/-- a method that can be called: its words, n parameters -/
def NOk (N : Mt) (n : Nat) : Prop := Cond.code N.1 N.2.1 N.2.2.1 N.2.2.2.1 ∈ gm_ws ∧ Cond.initialized N.1.cls ∈ gm_ws ∧ (N.1.cls ≠ "java/lang/invoke/MethodHandle" ∧ N.1.cls ≠ "java/lang/invoke/VarHandle" ∧ (parseMethodDescriptor N.1.desc).map (fun d => d.parameters.length) = some n) ∧ N.2.2.2.2.cells = 0 ∧ N.2.2.2.2.slots = 0
def VOk (N : Mt) (n : Nat) : Prop := NOk N n ∧ Cond.instanceMethod N.1 ∈ gm_ws ∧ Cond.selects N.1.cls N.1 N.1 ∈ gm_ws
def SOk (N : Mt) (n : Nat) : Prop := NOk N n ∧ Cond.static N.1 ∈ gm_ws
def RmOk (M N : Mt) : Prop := N.2.2.2.2.frames + 1 ≤ M.2.2.2.2.frames ∧ 8 + (N.2.2.1 + 11) + N.2.2.2.2.locals ≤ M.2.2.2.2.locals
theorem gm_goodN {N : Mt} {n : Nat} (hN : NOk N n) : GoodIn gm_ws (gm_words N) := fun w hw => by
  rcases List.mem_cons.mp hw with rfl | h
  · exact gm_good hN.1
  · exact gm_good h
theorem gm_blind {X : Xt} {h : Mem} {av : List Value} : FrameBlind (va_Pc av (gm_wd X h)) := fun a U g mk q => ⟨q.1, q.2.1, q.2.2.1, va_K.moved (u := U) (U := U.calling g mk a) (Vm.Alike.refl U.vm) q.2.2.2.1, gm_old.same (u := U) (U := U.calling g mk a) rfl q.2.2.2.2⟩
theorem gm_pre {X : Xt} {h : Mem} {av : List Value} {M : Mt} {p : Program} {s : State} {m : MethodId} {args : Array Value} {meth : Method} {c : Code} {H : Heap} {locs : List Loc} (C : gm_cx M p s m args meth c X) (hP : va_P X.2.1 vwCl (gm_W X h) H) (hS : va_S (gm_A X) s.heap H locs) (U : State) (hU : U.heap = H) (hW : s.WarmedH U.vm) : va_Pc av (gm_wd X h) av.toArray U := by
  refine ⟨rfl, C.2.1, by rw [hU]; exact hP, va_K.moved hW.alike C.2.2.1, ?_⟩
  rw [hU]
  exact gm_old.warm hW (C.2.2.2.kept hS.2.1)
theorem gm_catsum (r : Nat → Nat) (st : List Value) : ((st.map (gm_tv r)).map fun v => v.category) = st.map fun v => v.category := by
  rw [List.map_map]
  exact List.map_congr_left (fun v _ => gm_tvc r v)
section
variable {M N : Mt} {G G' : Xt → Array Value → State → Outcome → State → Prop} {pc pc' tgt n idx : Nat} {lv : List (Nat × Value)} {st rest as : List Value} {h : Mem}
variable {p : Program} {l : Launch} {e : Env} {s : State} {m : MethodId} {args : Array Value} {below : List Frame} {meth : Method} {c : Code} {X : Xt} {H : Heap} {locs : List Loc} {ls : Array Slot}
theorem gm_runV {k cn : Nat} (hN : Cn N (.ref k :: as) h G') (hV : VOk N n) (hR : RmOk M N) (hlink : Cond.methodLink M.1.cls idx N.1 ∈ gm_ws) (hk : gm_cls k = cn) (hc : ∃ T w, vwCl[cn]? = some (N.1.cls, T, w)) (h10 : cn < 10) (hn : as.length = n) (hst : as.reverse ++ .ref k :: rest = st) (hw : (rest.map fun v => v.category).sum ≤ 8)
    (C : gm_cx M p s m args meth c X) (hP : va_P X.2.1 vwCl (gm_W X h) H) (hS : va_S (gm_A X) s.heap H locs) (hl : lv_has ls M.2.2.1 (lv.map (gm_tp X.1))) (d : decode M.2.1 pc = .ok (.invokevirtual idx, 3)) :
    va_Run p l e M.2.2.2.2 s m args below meth c H locs 0 0 0 0 (F0 m pc ls (st.map (gm_tv X.1))) (rest.map (gm_tv X.1)) (G' X ((Value.ref k :: as).map (gm_tv X.1)).toArray) (gm_A X) := by
  obtain ⟨T, w, hc⟩ := hc
  subst hst
  refine va_runV (C := N.1.cls) (b := X.1 k) (As := as.map (gm_tv X.1)) (Ts := gm_ws) (own := M.1.cls) ⟨C.1.1, C.1.2.1, C.1.2.2.2.1, C.1.2.2.2.2.1, C.1.2.2.2.2.2.1⟩ (hN l X) ⟨callB_of n C.1.2.2.2.2.2.1 (gm_goodN hV.1) rfl hV.1.2.2.2.1 hV.1.2.2.2.2 (C.1.2.2.2.2.2.1 _ hV.1.2.1) (C.1.2.2.2.2.2.1 _ hlink) hV.1.2.2.1 hR, C.1.2.2.2.2.2.1 _ hV.2.1, C.1.2.2.2.2.2.1 _ hV.2.2⟩ ⟨gm_blind, va_recv C.2.2.1 hP hc (gm_W_obj hk h10), fun U hU hW => gm_pre C hP hS U hU hW⟩ rfl (by rw [List.length_map]; exact hn) hl.1 ?_ (lv_room (by rw [gm_catsum]; exact hw)) d ⟨Nat.zero_le _, Nat.zero_le _⟩
  show (as.reverse ++ .ref k :: rest).map (gm_tv X.1) = _
  rw [List.map_append, List.map_reverse]
  rfl
theorem gm_runS (hN : Cn N as h G') (hV : SOk N n) (hR : RmOk M N) (hlink : Cond.methodLink M.1.cls idx N.1 ∈ gm_ws) (hn : as.length = n) (hst : as.reverse ++ rest = st) (hw : (rest.map fun v => v.category).sum ≤ 8)
    (C : gm_cx M p s m args meth c X) (hP : va_P X.2.1 vwCl (gm_W X h) H) (hS : va_S (gm_A X) s.heap H locs) (hl : lv_has ls M.2.2.1 (lv.map (gm_tp X.1))) (d : decode M.2.1 pc = .ok (.invokestatic idx, 3)) :
    va_Run p l e M.2.2.2.2 s m args below meth c H locs 0 0 0 0 (F0 m pc ls (st.map (gm_tv X.1))) (rest.map (gm_tv X.1)) (G' X (as.map (gm_tv X.1)).toArray) (gm_A X) := by
  subst hst
  refine va_runS (As := as.map (gm_tv X.1)) (Ts := gm_ws) (own := M.1.cls) ⟨C.1.1, C.1.2.1, C.1.2.2.2.1, C.1.2.2.2.2.1, C.1.2.2.2.2.2.1⟩ (hN l X) ⟨callB_of n C.1.2.2.2.2.2.1 (gm_goodN hV.1) rfl hV.1.2.2.2.1 hV.1.2.2.2.2 (C.1.2.2.2.2.2.1 _ hV.1.2.1) (C.1.2.2.2.2.2.1 _ hlink) hV.1.2.2.1 hR, C.1.2.2.2.2.2.1 _ hV.2⟩ ⟨gm_blind, fun U hU hW => gm_pre C hP hS U hU hW⟩ rfl (by rw [List.length_map]; exact hn) hl.1 ?_ (lv_room (by rw [gm_catsum]; exact hw)) d ⟨Nat.zero_le _, Nat.zero_le _⟩
  show (as.reverse ++ rest).map (gm_tv X.1) = _
  rw [List.map_append, List.map_reverse]
theorem gm_runSN {host : String} (hN : Cn N as h G') (hV : SOk N n) (hR : RmOk M N) (hlink : Cond.methodLinkNest M.1.cls idx N.1 host ∈ lw_tbl) (hn : as.length = n) (hst : as.reverse ++ rest = st) (hw : (rest.map fun v => v.category).sum ≤ 8)
    (C : gm_cx M p s m args meth c X) (hP : va_P X.2.1 vwCl (gm_W X h) H) (hS : va_S (gm_A X) s.heap H locs) (hl : lv_has ls M.2.2.1 (lv.map (gm_tp X.1))) (d : decode M.2.1 pc = .ok (.invokestatic idx, 3)) :
    va_Run p l e M.2.2.2.2 s m args below meth c H locs 0 0 0 0 (F0 m pc ls (st.map (gm_tv X.1))) (rest.map (gm_tv X.1)) (G' X (as.map (gm_tv X.1)).toArray) (gm_A X) := by
  subst hst
  refine va_runSN (As := as.map (gm_tv X.1)) (Ts := gm_ws) (own := M.1.cls) (host := host) ⟨C.1.1, C.1.2.1, C.1.2.2.2.1, C.1.2.2.2.2.1, C.1.2.2.2.2.2.1⟩ (hN l X) ⟨va_cnB n C.1.2.2.2.2.2.1 (gm_goodN hV.1) rfl hV.1.2.2.2.1 hV.1.2.2.2.2 (C.2.2.2.1 _ hlink rfl) (C.1.2.2.2.2.2.1 _ hV.1.2.1) hV.1.2.2.1 hR, C.1.2.2.2.2.2.1 _ hV.2, trivial⟩ ⟨gm_blind, fun U hU hW => gm_pre C hP hS U hU hW⟩ rfl (by rw [List.length_map]; exact hn) hl.1 ?_ (lv_room (by rw [gm_catsum]; exact hw)) d ⟨Nat.zero_le _, Nat.zero_le _⟩
  show (as.reverse ++ rest).map (gm_tv X.1) = _
  rw [List.map_append, List.map_reverse]
end
section
variable {M N : Mt} {G : Xt → Array Value → State → Outcome → State → Prop} {pc pc' tgt n idx : Nat} {lv : List (Nat × Value)} {st rest : List Value} {h : Mem}
theorem ge_cVI {k cn : Nat} (as : List Value) {Q : Int32 → Mem → Prop} (hd : At M pc (.invokevirtual idx) 3 pc') (hV : VOk N n) (hlink : Cond.methodLink M.1.cls idx N.1 ∈ gm_ws) (hR : RmOk M N) (hk : gm_cls k = cn) (hc : ∃ T w, vwCl[cn]? = some (N.1.cls, T, w)) (h10 : cn < 10) (hn : as.length = n) (hst : as.reverse ++ .ref k :: rest = st) (hw : (rest.map fun v => v.category).sum ≤ 8) (hN : Cn N (.ref k :: as) h (GI Q)) (kk : ∀ r h', Q r h' → EV M G pc' lv (.int r :: rest) h') : EV M G pc lv st h := by
  obtain ⟨d, rfl⟩ := hd
  intro p l e s m args below meth c X H locs ls C hP hS hl
  exact va_calli (gm_runV hN hV hR hlink hk hc h10 hn hst hw C hP hS hl d) hS (fun _ _ q => q) (fun _ q => q) (fun r u t H1 locs1 ht _ hq hb _ _ hS1 => kk r u hq p l e s m args below meth c X H1 locs1 ls C (by rw [← ht]; exact hb) hS1 hl)
theorem ge_cVL {k cn : Nat} (as : List Value) {Q : Int64 → Mem → Prop} (hd : At M pc (.invokevirtual idx) 3 pc') (hV : VOk N n) (hlink : Cond.methodLink M.1.cls idx N.1 ∈ gm_ws) (hR : RmOk M N) (hk : gm_cls k = cn) (hc : ∃ T w, vwCl[cn]? = some (N.1.cls, T, w)) (h10 : cn < 10) (hn : as.length = n) (hst : as.reverse ++ .ref k :: rest = st) (hw : (rest.map fun v => v.category).sum ≤ 8) (hN : Cn N (.ref k :: as) h (GL Q)) (kk : ∀ r h', Q r h' → EV M G pc' lv (.long r :: rest) h') : EV M G pc lv st h := by
  obtain ⟨d, rfl⟩ := hd
  intro p l e s m args below meth c X H locs ls C hP hS hl
  exact va_calll (gm_runV hN hV hR hlink hk hc h10 hn hst hw C hP hS hl d) hS (fun _ _ q => q) (fun _ q => q) (fun r u t H1 locs1 ht _ hq hb _ _ hS1 => kk r u hq p l e s m args below meth c X H1 locs1 ls C (by rw [← ht]; exact hb) hS1 hl)
theorem ge_cVV {k cn : Nat} (as : List Value) {Q : Mem → Prop} (hd : At M pc (.invokevirtual idx) 3 pc') (hV : VOk N n) (hlink : Cond.methodLink M.1.cls idx N.1 ∈ gm_ws) (hR : RmOk M N) (hk : gm_cls k = cn) (hc : ∃ T w, vwCl[cn]? = some (N.1.cls, T, w)) (h10 : cn < 10) (hn : as.length = n) (hst : as.reverse ++ .ref k :: rest = st) (hw : (rest.map fun v => v.category).sum ≤ 8) (hN : Cn N (.ref k :: as) h (GV Q)) (kk : ∀ h', Q h' → EV M G pc' lv rest h') : EV M G pc lv st h := by
  obtain ⟨d, rfl⟩ := hd
  intro p l e s m args below meth c X H locs ls C hP hS hl
  exact va_callv (gm_runV hN hV hR hlink hk hc h10 hn hst hw C hP hS hl d) hS (fun _ _ q => q) (fun _ q => q) (fun u t H1 locs1 ht _ hq hb _ _ hS1 => kk u hq p l e s m args below meth c X H1 locs1 ls C (by rw [← ht]; exact hb) hS1 hl)
theorem ge_cVR {k cn : Nat} (as : List Value) {Q : Nat → Mem → Prop} (hd : At M pc (.invokevirtual idx) 3 pc') (hV : VOk N n) (hlink : Cond.methodLink M.1.cls idx N.1 ∈ gm_ws) (hR : RmOk M N) (hk : gm_cls k = cn) (hc : ∃ T w, vwCl[cn]? = some (N.1.cls, T, w)) (h10 : cn < 10) (hn : as.length = n) (hst : as.reverse ++ .ref k :: rest = st) (hw : (rest.map fun v => v.category).sum ≤ 8) (hN : Cn N (.ref k :: as) h (GR Q)) (kk : ∀ r h', Q r h' → EV M G pc' lv (.ref r :: rest) h') : EV M G pc lv st h := by
  obtain ⟨d, rfl⟩ := hd
  intro p l e s m args below meth c X H locs ls C hP hS hl
  exact va_callr (gm_runV hN hV hR hlink hk hc h10 hn hst hw C hP hS hl d) hS (fun _ _ q => q) (fun _ q => q) (fun u ra t H1 locs1 ht _ hq hb _ _ hS1 => by
    obtain ⟨e1, e2⟩ := hb
    rw [e1]
    exact kk u.1 u.2 hq p l e s m args below meth c X H1 locs1 ls C (by rw [← ht]; exact e2) hS1 hl)
theorem ge_cSI (as : List Value) {Q : Int32 → Mem → Prop} (hd : At M pc (.invokestatic idx) 3 pc') (hV : SOk N n) (hlink : Cond.methodLink M.1.cls idx N.1 ∈ gm_ws) (hR : RmOk M N)  (hn : as.length = n) (hst : as.reverse ++ rest = st) (hw : (rest.map fun v => v.category).sum ≤ 8) (hN : Cn N as h (GI Q)) (kk : ∀ r h', Q r h' → EV M G pc' lv (.int r :: rest) h') : EV M G pc lv st h := by
  obtain ⟨d, rfl⟩ := hd
  intro p l e s m args below meth c X H locs ls C hP hS hl
  exact va_calli (gm_runS hN hV hR hlink hn hst hw C hP hS hl d) hS (fun _ _ q => q) (fun _ q => q) (fun r u t H1 locs1 ht _ hq hb _ _ hS1 => kk r u hq p l e s m args below meth c X H1 locs1 ls C (by rw [← ht]; exact hb) hS1 hl)
theorem ge_cSL (as : List Value) {Q : Int64 → Mem → Prop} (hd : At M pc (.invokestatic idx) 3 pc') (hV : SOk N n) (hlink : Cond.methodLink M.1.cls idx N.1 ∈ gm_ws) (hR : RmOk M N)  (hn : as.length = n) (hst : as.reverse ++ rest = st) (hw : (rest.map fun v => v.category).sum ≤ 8) (hN : Cn N as h (GL Q)) (kk : ∀ r h', Q r h' → EV M G pc' lv (.long r :: rest) h') : EV M G pc lv st h := by
  obtain ⟨d, rfl⟩ := hd
  intro p l e s m args below meth c X H locs ls C hP hS hl
  exact va_calll (gm_runS hN hV hR hlink hn hst hw C hP hS hl d) hS (fun _ _ q => q) (fun _ q => q) (fun r u t H1 locs1 ht _ hq hb _ _ hS1 => kk r u hq p l e s m args below meth c X H1 locs1 ls C (by rw [← ht]; exact hb) hS1 hl)
theorem ge_cSV (as : List Value) {Q : Mem → Prop} (hd : At M pc (.invokestatic idx) 3 pc') (hV : SOk N n) (hlink : Cond.methodLink M.1.cls idx N.1 ∈ gm_ws) (hR : RmOk M N)  (hn : as.length = n) (hst : as.reverse ++ rest = st) (hw : (rest.map fun v => v.category).sum ≤ 8) (hN : Cn N as h (GV Q)) (kk : ∀ h', Q h' → EV M G pc' lv rest h') : EV M G pc lv st h := by
  obtain ⟨d, rfl⟩ := hd
  intro p l e s m args below meth c X H locs ls C hP hS hl
  exact va_callv (gm_runS hN hV hR hlink hn hst hw C hP hS hl d) hS (fun _ _ q => q) (fun _ q => q) (fun u t H1 locs1 ht _ hq hb _ _ hS1 => kk u hq p l e s m args below meth c X H1 locs1 ls C (by rw [← ht]; exact hb) hS1 hl)
theorem ge_cSR (as : List Value) {Q : Nat → Mem → Prop} (hd : At M pc (.invokestatic idx) 3 pc') (hV : SOk N n) (hlink : Cond.methodLink M.1.cls idx N.1 ∈ gm_ws) (hR : RmOk M N)  (hn : as.length = n) (hst : as.reverse ++ rest = st) (hw : (rest.map fun v => v.category).sum ≤ 8) (hN : Cn N as h (GR Q)) (kk : ∀ r h', Q r h' → EV M G pc' lv (.ref r :: rest) h') : EV M G pc lv st h := by
  obtain ⟨d, rfl⟩ := hd
  intro p l e s m args below meth c X H locs ls C hP hS hl
  exact va_callr (gm_runS hN hV hR hlink hn hst hw C hP hS hl d) hS (fun _ _ q => q) (fun _ q => q) (fun u ra t H1 locs1 ht _ hq hb _ _ hS1 => by
    obtain ⟨e1, e2⟩ := hb
    rw [e1]
    exact kk u.1 u.2 hq p l e s m args below meth c X H1 locs1 ls C (by rw [← ht]; exact e2) hS1 hl)
theorem ge_cNI {host : String} (as : List Value) {Q : Int32 → Mem → Prop} (hd : At M pc (.invokestatic idx) 3 pc') (hV : SOk N n) (hlink : Cond.methodLinkNest M.1.cls idx N.1 host ∈ lw_tbl) (hR : RmOk M N)  (hn : as.length = n) (hst : as.reverse ++ rest = st) (hw : (rest.map fun v => v.category).sum ≤ 8) (hN : Cn N as h (GI Q)) (kk : ∀ r h', Q r h' → EV M G pc' lv (.int r :: rest) h') : EV M G pc lv st h := by
  obtain ⟨d, rfl⟩ := hd
  intro p l e s m args below meth c X H locs ls C hP hS hl
  exact va_calli (gm_runSN hN hV hR hlink hn hst hw C hP hS hl d) hS (fun _ _ q => q) (fun _ q => q) (fun r u t H1 locs1 ht _ hq hb _ _ hS1 => kk r u hq p l e s m args below meth c X H1 locs1 ls C (by rw [← ht]; exact hb) hS1 hl)
theorem ge_cNL {host : String} (as : List Value) {Q : Int64 → Mem → Prop} (hd : At M pc (.invokestatic idx) 3 pc') (hV : SOk N n) (hlink : Cond.methodLinkNest M.1.cls idx N.1 host ∈ lw_tbl) (hR : RmOk M N)  (hn : as.length = n) (hst : as.reverse ++ rest = st) (hw : (rest.map fun v => v.category).sum ≤ 8) (hN : Cn N as h (GL Q)) (kk : ∀ r h', Q r h' → EV M G pc' lv (.long r :: rest) h') : EV M G pc lv st h := by
  obtain ⟨d, rfl⟩ := hd
  intro p l e s m args below meth c X H locs ls C hP hS hl
  exact va_calll (gm_runSN hN hV hR hlink hn hst hw C hP hS hl d) hS (fun _ _ q => q) (fun _ q => q) (fun r u t H1 locs1 ht _ hq hb _ _ hS1 => kk r u hq p l e s m args below meth c X H1 locs1 ls C (by rw [← ht]; exact hb) hS1 hl)
theorem ge_cNV {host : String} (as : List Value) {Q : Mem → Prop} (hd : At M pc (.invokestatic idx) 3 pc') (hV : SOk N n) (hlink : Cond.methodLinkNest M.1.cls idx N.1 host ∈ lw_tbl) (hR : RmOk M N)  (hn : as.length = n) (hst : as.reverse ++ rest = st) (hw : (rest.map fun v => v.category).sum ≤ 8) (hN : Cn N as h (GV Q)) (kk : ∀ h', Q h' → EV M G pc' lv rest h') : EV M G pc lv st h := by
  obtain ⟨d, rfl⟩ := hd
  intro p l e s m args below meth c X H locs ls C hP hS hl
  exact va_callv (gm_runSN hN hV hR hlink hn hst hw C hP hS hl d) hS (fun _ _ q => q) (fun _ q => q) (fun u t H1 locs1 ht _ hq hb _ _ hS1 => kk u hq p l e s m args below meth c X H1 locs1 ls C (by rw [← ht]; exact hb) hS1 hl)
theorem ge_cNR {host : String} (as : List Value) {Q : Nat → Mem → Prop} (hd : At M pc (.invokestatic idx) 3 pc') (hV : SOk N n) (hlink : Cond.methodLinkNest M.1.cls idx N.1 host ∈ lw_tbl) (hR : RmOk M N)  (hn : as.length = n) (hst : as.reverse ++ rest = st) (hw : (rest.map fun v => v.category).sum ≤ 8) (hN : Cn N as h (GR Q)) (kk : ∀ r h', Q r h' → EV M G pc' lv (.ref r :: rest) h') : EV M G pc lv st h := by
  obtain ⟨d, rfl⟩ := hd
  intro p l e s m args below meth c X H locs ls C hP hS hl
  exact va_callr (gm_runSN hN hV hR hlink hn hst hw C hP hS hl d) hS (fun _ _ q => q) (fun _ q => q) (fun u ra t H1 locs1 ht _ hq hb _ _ hS1 => by
    obtain ⟨e1, e2⟩ := hb
    rw [e1]
    exact kk u.1 u.2 hq p l e s m args below meth c X H1 locs1 ls C (by rw [← ht]; exact e2) hS1 hl)
theorem ge_mmax {x y : Int32} (hd : At M pc (.invokestatic idx) 3 pc') (hlink : Cond.methodLink M.1.cls idx Lib.Math.max.name ∈ gm_ws) (hf : 1 ≤ M.2.2.2.2.frames) (hw : (rest.map fun v => v.category).sum + 13 ≤ M.2.2.2.2.locals) (k : EV M G pc' lv (.int (if x < y then y else x) :: rest) h) : EV M G pc lv (.int y :: .int x :: rest) h := by
  obtain ⟨d, rfl⟩ := hd
  exact fun p l e s m args below meth c X H locs ls C hP hS hl => va_mmax C.1.1 C.1.2.1 (C.1.2.2.2.1.trans hl.1.symm) C.1.2.2.2.2.1 (C.1.2.2.2.2.2.1 _ hlink) (C.1.2.2.2.2.2.1 _ gm_wmax.1) (C.1.2.2.2.2.2.1 _ gm_wMath) (C.1.2.2.2.2.2.1 _ gm_wmax.2) hf (by rw [gm_catsum]; exact hw) (Nat.zero_le _) (Nat.zero_le _) d (k p l e s m args below meth c X H locs ls C hP hS hl)
theorem ge_mmin {x y : Int32} (hd : At M pc (.invokestatic idx) 3 pc') (hlink : Cond.methodLink M.1.cls idx Lib.Math.min.name ∈ gm_ws) (hf : 1 ≤ M.2.2.2.2.frames) (hw : (rest.map fun v => v.category).sum + 13 ≤ M.2.2.2.2.locals) (k : EV M G pc' lv (.int (if y < x then y else x) :: rest) h) : EV M G pc lv (.int y :: .int x :: rest) h := by
  obtain ⟨d, rfl⟩ := hd
  exact fun p l e s m args below meth c X H locs ls C hP hS hl => va_mmin C.1.1 C.1.2.1 (C.1.2.2.2.1.trans hl.1.symm) C.1.2.2.2.2.1 (C.1.2.2.2.2.2.1 _ hlink) (C.1.2.2.2.2.2.1 _ gm_wmin.1) (C.1.2.2.2.2.2.1 _ gm_wMath) (C.1.2.2.2.2.2.1 _ gm_wmin.2) hf (by rw [gm_catsum]; exact hw) (Nat.zero_le _) (Nat.zero_le _) d (k p l e s m args below meth c X H locs ls C hP hS hl)
theorem ge_mabs {x : Int32} (hd : At M pc (.invokestatic idx) 3 pc') (hlink : Cond.methodLink M.1.cls idx Lib.Math.abs.name ∈ gm_ws) (hf : 1 ≤ M.2.2.2.2.frames) (hw : (rest.map fun v => v.category).sum + 13 ≤ M.2.2.2.2.locals) (k : EV M G pc' lv (.int (if 0 ≤ x then x else 0 - x) :: rest) h) : EV M G pc lv (.int x :: rest) h := by
  obtain ⟨d, rfl⟩ := hd
  exact fun p l e s m args below meth c X H locs ls C hP hS hl => va_mabs C.1.1 C.1.2.1 (C.1.2.2.2.1.trans hl.1.symm) C.1.2.2.2.2.1 (C.1.2.2.2.2.2.1 _ hlink) (C.1.2.2.2.2.2.1 _ gm_wabs.1) (C.1.2.2.2.2.2.1 _ gm_wMath) (C.1.2.2.2.2.2.1 _ gm_wabs.2) hf (by rw [gm_catsum]; exact hw) (Nat.zero_le _) (Nat.zero_le _) d (k p l e s m args below meth c X H locs ls C hP hS hl)
/-- a stretch of numbers copied between rows -/
def gm_cpy (h : Mem) (a b sp dp n : Nat) : Mem := fun q => if q = b then va_cpy (h a) (h b) sp dp n else h q
theorem gm_W_cpy {X : Xt} {h : Mem} {a b n sp dp cnt : Nat} (hb : gm_arr b n) : (gm_W X h).set b (X.1 b, .inl (X.2.2.1, n, .inl (va_cpy (h a) (h b) sp dp cnt))) = gm_W X (gm_cpy h a b sp dp cnt) :=
  gm_W_set (gm_arr_lt hb) (by rw [gm_cell_arr hb]; unfold gm_cpy; rw [if_pos rfl]) (fun q h9 => if_neg h9)
theorem ge_copy {k1 k2 n1 n2 : Nat} {sp dp cnt : Int32} (hd : At M pc (.invokestatic idx) 3 pc') (hlink : Cond.methodLink M.1.cls idx arraycopyName ∈ gm_ws) (ha : gm_arr k1 n1) (hb : gm_arr k2 n2) (h1 : ¬ sp < 0) (h2 : ¬ dp < 0) (h3 : ¬ cnt < 0) (h4 : sp.toNatClampNeg + cnt.toNatClampNeg ≤ n1) (h5 : dp.toNatClampNeg + cnt.toNatClampNeg ≤ n2) (hf : 1 ≤ M.2.2.2.2.frames) (hw : (rest.map fun v => v.category).sum + (nativeFrameWords "java/lang/System" "arraycopy" 5 + 11) ≤ M.2.2.2.2.locals) (kk : EV M G pc' lv rest (gm_cpy h k1 k2 sp.toNatClampNeg dp.toNatClampNeg cnt.toNatClampNeg)) : EV M G pc lv (.int cnt :: .int dp :: .ref k2 :: .int sp :: .ref k1 :: rest) h := by
  obtain ⟨d, rfl⟩ := hd
  exact fun p l e s m args below meth c X H locs ls C hP hS hl => va_copyi C.1.1 C.1.2.1 (C.1.2.2.2.1.trans hl.1.symm) C.1.2.2.2.2.1 (C.1.2.2.2.2.2.1 _ hlink) (C.1.2.2.2.2.2.1 _ gm_wcpy.1) (C.1.2.2.2.2.2.1 _ gm_wcpy.2.1) (C.1.2.2.2.2.2.1 _ gm_wcpy.2.2) C.2.2.1 hP (gm_D C.2.1 h) hS k1 k2 0 0 (ty := .int) (gm_W_arr ha) (gm_W_arr hb) rfl rfl rfl h1 h2 h3 h4 h5 (fun _ _ => rfl) hf (by rw [gm_catsum]; exact hw) d
    (fun H1 locs1 hP1 _ hS1 => kk p l e s m args below meth c X H1 locs1 ls C (by rw [← gm_W_cpy hb]; exact hP1) hS1 hl)
end
end
section
/-! rows: names, fewer locals, switches, loops, texts -/
section
variable {M : Mt} {G : Xt → Array Value → State → Outcome → State → Prop} {pc pc' tgt idx : Nat} {lv : List (Nat × Value)} {st : List Value} {h : Mem}
theorem ge_nm {m0 : Mem} (k : ∀ h1, h1 = m0 → EV M G pc lv st h1) : EV M G pc lv st m0 := k _ rfl
theorem ge_topi {x : Int32} (k : ∀ y, y = x → EV M G pc lv (.int y :: st) h) : EV M G pc lv (.int x :: st) h := k _ rfl
theorem ge_topl {x : Int64} (k : ∀ y, y = x → EV M G pc lv (.long y :: st) h) : EV M G pc lv (.long x :: st) h := k _ rfl
theorem ge_sub {lv' : List (Nat × Value)} (ks : List Nat) (hp : lv_pick lv ks = lv') (k : EV M G pc lv' st h) : EV M G pc lv st h := by
  subst hp
  refine fun p l e s m args below meth c X H locs ls C hP hS hl => k p l e s m args below meth c X H locs ls C hP hS (lv_sub hl ks ?_)
  unfold lv_pick
  rw [List.map_filterMap]
  congr 1
  funext q
  rw [List.getElem?_map]
theorem ge_ite {c A B : Prop} [Decidable c] (a : c → A) (b : ¬ c → B) : if c then A else B := by
  by_cases h : c
  · rw [if_pos h]; exact a h
  · rw [if_neg h]; exact b h
/-- a switch as tests one by one: (value, place) rows -/
def gm_SW (P : Nat → Prop) (x : Int32) (d : Nat) : List (Int32 × Nat) → Prop
  | [] => P d
  | q :: r => if x = q.1 then P q.2 else gm_SW P x d r
theorem gm_SW_out {P : Nat → Prop} {x : Int32} {d : Nat} : ∀ (cs : List (Int32 × Nat)), (∀ q ∈ cs, ¬ x = q.1) → gm_SW P x d cs → P d
  | [], _, hs => hs
  | q :: r, hn, hs => gm_SW_out r (fun z hz => hn z (List.mem_cons_of_mem _ hz)) (by rw [gm_SW, if_neg (hn q List.mem_cons_self)] at hs; exact hs)
theorem gm_SW_in {P : Nat → Prop} {x : Int32} {d : Nat} : ∀ (cs : List (Int32 × Nat)), gm_SW P x d cs → (∃ q ∈ cs, x = q.1 ∧ P q.2) ∨ (∀ q ∈ cs, ¬ x = q.1)
  | [], _ => Or.inr (fun q h => absurd h List.not_mem_nil)
  | q :: r, hs => by
    by_cases hx : x = q.1
    · rw [gm_SW, if_pos hx] at hs
      exact Or.inl ⟨q, List.mem_cons_self, hx, hs⟩
    · rw [gm_SW, if_neg hx] at hs
      rcases gm_SW_in r hs with ⟨z, h1, h2⟩ | h1
      · exact Or.inl ⟨z, List.mem_cons_of_mem _ h1, h2⟩
      · exact Or.inr (fun z hz => (List.mem_cons.mp hz).elim (fun e => e ▸ hx) (h1 z))
/-- the rows are the table's -/
def gm_tabOk (pc : Nat) (lo hi : Int) (offs : Array Int) (cs : List (Int32 × Nat)) : Bool :=
  decide (offs.size = (hi - lo + 1).toNat) && cs.all (fun q => decide (lo ≤ q.1.toInt) && decide (q.1.toInt ≤ hi) && decide (offs[(q.1.toInt - lo).toNat]? = some ((q.2 : Int) - (pc : Int)))) && (List.range offs.size).all (fun i => cs.any (fun q => decide (q.1.toInt = lo + i)))
theorem ge_sw {x : Int32} {dflt lo hi : Int} {offs : Array Int} {len dt : Nat} (cs : List (Int32 × Nat)) (hd : decode M.2.1 pc = .ok (.tableswitch dflt lo hi offs, len)) (hok : gm_tabOk pc lo hi offs cs = true) (ht : (pc : Int) + dflt = (dt : Int)) (k : gm_SW (fun t => EV M G t lv st h) x dt cs) : EV M G pc lv (.int x :: st) h := by
  simp only [gm_tabOk, Bool.and_eq_true, decide_eq_true_eq, List.all_eq_true, List.any_eq_true, List.mem_range] at hok
  obtain ⟨⟨h1, h2⟩, h3⟩ := hok
  rcases gm_SW_in cs k with ⟨q, g1, g2, g3⟩ | g
  · obtain ⟨⟨a1, a2⟩, a3⟩ := h2 q g1
    refine ge_table hd (fun off ho _ _ => ⟨q.2, ?_, g3⟩) h1 dt ht (fun ho => ?_)
    · rw [g2] at ho
      rw [a3] at ho
      cases ho
      omega
    · rw [g2] at ho
      omega
  · have hout : x.toInt < lo ∨ hi < x.toInt := by
      rcases Int.lt_or_le x.toInt lo with z | z
      · exact Or.inl z
      · rcases Int.lt_or_le hi x.toInt with y | y
        · exact Or.inr y
        · obtain ⟨q, e1, e2⟩ := h3 (x.toInt - lo).toNat (by rw [h1]; omega)
          exact absurd (Int32.toInt_inj.mp (by rw [e2]; omega)) (g q e1)
    exact ge_table hd (fun off _ u1 u2 => absurd hout (fun z => z.elim u1 u2)) h1 dt ht (fun _ => gm_SW_out cs g k)
theorem ge_ldcwS {i : Nat} {tx : String} (hd : At M pc (.ldc_w idx) 3 pc') (hw : (M.1.cls, idx, tx, i) ∈ gm_ldc) (k : EV M G pc' lv (.ref (100 + i) :: st) h) : EV M G pc lv st h := by
  obtain ⟨d, rfl⟩ := hd
  intro p l e s m args below meth c X H locs ls C hP hS hl
  intro T hT X0
  obtain ⟨t, a1, b1⟩ := k p l e s m args below meth c X H locs ls C hP hS hl T hT X0
  have hZ := C.2.2.2.2.2.1 _ hw
  exact ⟨t, Jvm.Stand.ldcStringW X0 C.1.1 C.1.2.2.2.2.1 (text := tx) (a := X.1 (100 + i)) hZ.1 hZ.2 (g := F0 m pc ls (st.map (gm_tv X.1))) rfl (by rw [C.1.2.1]; exact d) t a1, b1⟩
/-- a text's key -/
def gm_str (k : Nat) : Prop := ∃ i, i < 17 ∧ k = 100 + i
theorem ge_strval {i : Nat} (hd : At M pc (.getfield idx) 3 pc') (hi : i < 17) (hw : Cond.fieldLink M.1.cls idx "java/lang/String" "value" "[B" ∈ gm_ws) (k : EV M G pc' lv (.ref (150 + i) :: st) h) : EV M G pc lv (.ref (100 + i) :: st) h := by
  obtain ⟨d, rfl⟩ := hd
  exact fun p l e s m args below meth c X H locs ls C hP hS hl => vk_getf C.1.1 C.1.2.1 (C.2.2.2.2.2.2.1 i hi).2.2.1 hS C.1.2.2.2.2.1 (C.1.2.2.2.2.2.1 _ hw) (fun _ h9 => h9) d (k p l e s m args below meth c X H locs ls C hP hS hl)
theorem ge_strcoder {i : Nat} (hd : At M pc (.getfield idx) 3 pc') (hi : i < 17) (hw : Cond.fieldLink M.1.cls idx "java/lang/String" "coder" "B" ∈ gm_ws) (k : EV M G pc' lv (.int 0 :: st) h) : EV M G pc lv (.ref (100 + i) :: st) h := by
  obtain ⟨d, rfl⟩ := hd
  exact fun p l e s m args below meth c X H locs ls C hP hS hl => vk_getf C.1.1 C.1.2.1 (C.2.2.2.2.2.2.1 i hi).2.1 hS C.1.2.2.2.2.1 (C.1.2.2.2.2.2.1 _ hw) (fun _ h9 => h9) d (k p l e s m args below meth c X H locs ls C hP hS hl)
theorem ge_blen {i : Nat} (hd : At M pc .arraylength 1 pc') (hi : i < 17) (k : EV M G pc' lv (.int (nI (gm_byt i).length) :: st) h) : EV M G pc lv (.ref (150 + i) :: st) h := by
  obtain ⟨d, rfl⟩ := hd
  exact fun p l e s m args below meth c X H locs ls C hP hS hl => va_tlen C.1.1 C.1.2.1 (C.2.2.2.2.2.2.1 i hi).2.2.2 hS rfl d (k p l e s m args below meth c X H locs ls C hP hS hl)
theorem ge_bald {i : Nat} {x : Int32} (hd : At M pc .baload 1 pc') (hi : i < 17) (hx : vp_in x (gm_byt i).length) (k : EV M G pc' lv (.int ((gm_byt i).getD x.toNatClampNeg 0) :: st) h) : EV M G pc lv (.int x :: .ref (150 + i) :: st) h := by
  obtain ⟨d, rfl⟩ := hd
  exact fun p l e s m args below meth c X H locs ls C hP hS hl => va_tb C.1.1 C.1.2.1 (C.2.2.2.2.2.2.1 i hi).2.2.2 hS hx rfl d (k p l e s m args below meth c X H locs ls C hP hS hl)
theorem ge_compact (hd : At M pc (.getstatic idx) 3 pc') (hw : Cond.fieldLink M.1.cls idx "java/lang/String" "COMPACT_STRINGS" "Z" ∈ gm_ws) (k : EV M G pc' lv (.int 1 :: st) h) : EV M G pc lv st h := by
  obtain ⟨d, rfl⟩ := hd
  exact fun p l e s m args below meth c X H locs ls C hP hS hl => va_gets C.1.1 C.1.2.1 C.2.2.2.2.2.2.2.1 hS C.1.2.2.2.2.1 (C.1.2.2.2.2.2.1 _ hw) (fun _ h9 => h9) d (k p l e s m args below meth c X H locs ls C hP hS hl)
theorem ge_formatter (hd : At M pc (.getstatic idx) 3 pc') (hw : Cond.fieldLink M.1.cls idx "jdk/internal/util/Preconditions" "SIOOBE_FORMATTER" "Ljava/util/function/BiFunction;" ∈ gm_ws) (k1 : EV M G pc' lv (.null :: st) h) (k2 : EV M G pc' lv (.ref 180 :: st) h) : EV M G pc lv st h := by
  obtain ⟨d, rfl⟩ := hd
  intro p l e s m args below meth c X H locs ls C hP hS hl
  rcases C.2.2.2.2.2.2.2.2 with z | z
  · exact va_gets C.1.1 C.1.2.1 z hS C.1.2.2.2.2.1 (C.1.2.2.2.2.2.1 _ hw) (fun _ h9 => h9) d (k1 p l e s m args below meth c X H locs ls C hP hS hl)
  · exact va_gets C.1.1 C.1.2.1 z hS C.1.2.2.2.2.1 (C.1.2.2.2.2.2.1 _ hw) (fun _ h9 => h9) d (k2 p l e s m args below meth c X H locs ls C hP hS hl)
end
theorem ge_cTI {M N : Mt} {G : Xt → Array Value → State → Outcome → State → Prop} {pc pc' n idx : Nat} {lv : List (Nat × Value)} {st rest : List Value} {h : Mem} {i : Nat} (as : List Value) {Q : Int32 → Mem → Prop} (hd : At M pc (.invokevirtual idx) 3 pc') (hV : VOk N n) (hC : N.1.cls = "java/lang/String") (hlink : Cond.methodLink M.1.cls idx N.1 ∈ gm_ws) (hR : RmOk M N) (hi : i < 17) (hn : as.length = n) (hst : as.reverse ++ .ref (100 + i) :: rest = st) (hw : (rest.map fun v => v.category).sum ≤ 8) (hN : Cn N (.ref (100 + i) :: as) h (GI Q)) (kk : ∀ r h', Q r h' → EV M G pc' lv (.int r :: rest) h') : EV M G pc lv st h := by
  obtain ⟨d, rfl⟩ := hd
  subst hst
  intro p l e s m args below meth c X H locs ls C hP hS hl
  refine va_calli (va_runV (C := N.1.cls) (b := X.1 (100 + i)) (As := as.map (gm_tv X.1)) (Ts := gm_ws) (own := M.1.cls) (rest := rest.map (gm_tv X.1)) ⟨C.1.1, C.1.2.1, C.1.2.2.2.1, C.1.2.2.2.2.1, C.1.2.2.2.2.2.1⟩ (hN l X) ⟨callB_of n C.1.2.2.2.2.2.1 (gm_goodN hV.1) rfl hV.1.2.2.2.1 hV.1.2.2.2.2 (C.1.2.2.2.2.2.1 _ hV.1.2.1) (C.1.2.2.2.2.2.1 _ hlink) hV.1.2.2.1 hR, C.1.2.2.2.2.2.1 _ hV.2.1, C.1.2.2.2.2.2.1 _ hV.2.2⟩ ⟨gm_blind, ?_, fun U hU hW => gm_pre C hP hS U hU hW⟩ rfl (by rw [List.length_map]; exact hn) hl.1 ?_ (lv_room (by rw [gm_catsum]; exact hw)) d ⟨Nat.zero_le _, Nat.zero_le _⟩) hS (fun _ _ q => q) (fun _ q => q) (fun r u t H1 locs1 ht _ hq hb _ _ hS1 => kk r u hq p l e s m args below meth c X H1 locs1 ls C (by rw [← ht]; exact hb) hS1 hl)
  · obtain ⟨cell, h1, h2, h3, -⟩ := (C.2.2.2.2.2.2.1 i hi).1.kept hS.2.1
    exact ⟨cell, h1, h2, by rw [hC]; exact h3⟩
  · show (as.reverse ++ .ref (100 + i) :: rest).map (gm_tv X.1) = _
    rw [List.map_append, List.map_reverse]
    rfl
def gm_it0 (B : (Mem → Prop) → Mem → Prop) : Nat → Mem → Prop
  | 0, _ => False
  | n + 1, h => B (gm_it0 B n) h
theorem ge_loop0 {B : (Mem → Prop) → Mem → Prop} {P : Mem → Prop} (hB : ∀ K : Mem → Prop, (∀ h, K h → P h) → ∀ h, B K h → P h) : ∀ n h, gm_it0 B n h → P h
  | 0, _, q => q.elim
  | n + 1, h, q => hB (gm_it0 B n) (ge_loop0 hB n) h q
def gm_it1 {T0 : Type} (B : (T0 → Mem → Prop) → T0 → Mem → Prop) : Nat → T0 → Mem → Prop
  | 0, _, _ => False
  | n + 1, x0, h => B (gm_it1 B n) x0 h
theorem ge_loop1 {T0 : Type} {B : (T0 → Mem → Prop) → T0 → Mem → Prop} {P : T0 → Mem → Prop} (hB : ∀ K : T0 → Mem → Prop, (∀ x0 h, K x0 h → P x0 h) → ∀ x0 h, B K x0 h → P x0 h) : ∀ n x0 h, gm_it1 B n x0 h → P x0 h
  | 0, _, _, q => q.elim
  | n + 1, x0, h, q => hB (gm_it1 B n) (ge_loop1 hB n) x0 h q
def gm_it2 {T0 T1 : Type} (B : (T0 → T1 → Mem → Prop) → T0 → T1 → Mem → Prop) : Nat → T0 → T1 → Mem → Prop
  | 0, _, _, _ => False
  | n + 1, x0, x1, h => B (gm_it2 B n) x0 x1 h
theorem ge_loop2 {T0 T1 : Type} {B : (T0 → T1 → Mem → Prop) → T0 → T1 → Mem → Prop} {P : T0 → T1 → Mem → Prop} (hB : ∀ K : T0 → T1 → Mem → Prop, (∀ x0 x1 h, K x0 x1 h → P x0 x1 h) → ∀ x0 x1 h, B K x0 x1 h → P x0 x1 h) : ∀ n x0 x1 h, gm_it2 B n x0 x1 h → P x0 x1 h
  | 0, _, _, _, q => q.elim
  | n + 1, x0, x1, h, q => hB (gm_it2 B n) (ge_loop2 hB n) x0 x1 h q
def gm_it3 {T0 T1 T2 : Type} (B : (T0 → T1 → T2 → Mem → Prop) → T0 → T1 → T2 → Mem → Prop) : Nat → T0 → T1 → T2 → Mem → Prop
  | 0, _, _, _, _ => False
  | n + 1, x0, x1, x2, h => B (gm_it3 B n) x0 x1 x2 h
theorem ge_loop3 {T0 T1 T2 : Type} {B : (T0 → T1 → T2 → Mem → Prop) → T0 → T1 → T2 → Mem → Prop} {P : T0 → T1 → T2 → Mem → Prop} (hB : ∀ K : T0 → T1 → T2 → Mem → Prop, (∀ x0 x1 x2 h, K x0 x1 x2 h → P x0 x1 x2 h) → ∀ x0 x1 x2 h, B K x0 x1 x2 h → P x0 x1 x2 h) : ∀ n x0 x1 x2 h, gm_it3 B n x0 x1 x2 h → P x0 x1 x2 h
  | 0, _, _, _, _, q => q.elim
  | n + 1, x0, x1, x2, h, q => hB (gm_it3 B n) (ge_loop3 hB n) x0 x1 x2 h q
def gm_it4 {T0 T1 T2 T3 : Type} (B : (T0 → T1 → T2 → T3 → Mem → Prop) → T0 → T1 → T2 → T3 → Mem → Prop) : Nat → T0 → T1 → T2 → T3 → Mem → Prop
  | 0, _, _, _, _, _ => False
  | n + 1, x0, x1, x2, x3, h => B (gm_it4 B n) x0 x1 x2 x3 h
theorem ge_loop4 {T0 T1 T2 T3 : Type} {B : (T0 → T1 → T2 → T3 → Mem → Prop) → T0 → T1 → T2 → T3 → Mem → Prop} {P : T0 → T1 → T2 → T3 → Mem → Prop} (hB : ∀ K : T0 → T1 → T2 → T3 → Mem → Prop, (∀ x0 x1 x2 x3 h, K x0 x1 x2 x3 h → P x0 x1 x2 x3 h) → ∀ x0 x1 x2 x3 h, B K x0 x1 x2 x3 h → P x0 x1 x2 x3 h) : ∀ n x0 x1 x2 x3 h, gm_it4 B n x0 x1 x2 x3 h → P x0 x1 x2 x3 h
  | 0, _, _, _, _, _, q => q.elim
  | n + 1, x0, x1, x2, x3, h, q => hB (gm_it4 B n) (ge_loop4 hB n) x0 x1 x2 x3 h q
def gm_it5 {T0 T1 T2 T3 T4 : Type} (B : (T0 → T1 → T2 → T3 → T4 → Mem → Prop) → T0 → T1 → T2 → T3 → T4 → Mem → Prop) : Nat → T0 → T1 → T2 → T3 → T4 → Mem → Prop
  | 0, _, _, _, _, _, _ => False
  | n + 1, x0, x1, x2, x3, x4, h => B (gm_it5 B n) x0 x1 x2 x3 x4 h
theorem ge_loop5 {T0 T1 T2 T3 T4 : Type} {B : (T0 → T1 → T2 → T3 → T4 → Mem → Prop) → T0 → T1 → T2 → T3 → T4 → Mem → Prop} {P : T0 → T1 → T2 → T3 → T4 → Mem → Prop} (hB : ∀ K : T0 → T1 → T2 → T3 → T4 → Mem → Prop, (∀ x0 x1 x2 x3 x4 h, K x0 x1 x2 x3 x4 h → P x0 x1 x2 x3 x4 h) → ∀ x0 x1 x2 x3 x4 h, B K x0 x1 x2 x3 x4 h → P x0 x1 x2 x3 x4 h) : ∀ n x0 x1 x2 x3 x4 h, gm_it5 B n x0 x1 x2 x3 x4 h → P x0 x1 x2 x3 x4 h
  | 0, _, _, _, _, _, _, q => q.elim
  | n + 1, x0, x1, x2, x3, x4, h, q => hB (gm_it5 B n) (ge_loop5 hB n) x0 x1 x2 x3 x4 h q
def gm_it6 {T0 T1 T2 T3 T4 T5 : Type} (B : (T0 → T1 → T2 → T3 → T4 → T5 → Mem → Prop) → T0 → T1 → T2 → T3 → T4 → T5 → Mem → Prop) : Nat → T0 → T1 → T2 → T3 → T4 → T5 → Mem → Prop
  | 0, _, _, _, _, _, _, _ => False
  | n + 1, x0, x1, x2, x3, x4, x5, h => B (gm_it6 B n) x0 x1 x2 x3 x4 x5 h
theorem ge_loop6 {T0 T1 T2 T3 T4 T5 : Type} {B : (T0 → T1 → T2 → T3 → T4 → T5 → Mem → Prop) → T0 → T1 → T2 → T3 → T4 → T5 → Mem → Prop} {P : T0 → T1 → T2 → T3 → T4 → T5 → Mem → Prop} (hB : ∀ K : T0 → T1 → T2 → T3 → T4 → T5 → Mem → Prop, (∀ x0 x1 x2 x3 x4 x5 h, K x0 x1 x2 x3 x4 x5 h → P x0 x1 x2 x3 x4 x5 h) → ∀ x0 x1 x2 x3 x4 x5 h, B K x0 x1 x2 x3 x4 x5 h → P x0 x1 x2 x3 x4 x5 h) : ∀ n x0 x1 x2 x3 x4 x5 h, gm_it6 B n x0 x1 x2 x3 x4 x5 h → P x0 x1 x2 x3 x4 x5 h
  | 0, _, _, _, _, _, _, _, q => q.elim
  | n + 1, x0, x1, x2, x3, x4, x5, h, q => hB (gm_it6 B n) (ge_loop6 hB n) x0 x1 x2 x3 x4 x5 h q
def gm_it7 {T0 T1 T2 T3 T4 T5 T6 : Type} (B : (T0 → T1 → T2 → T3 → T4 → T5 → T6 → Mem → Prop) → T0 → T1 → T2 → T3 → T4 → T5 → T6 → Mem → Prop) : Nat → T0 → T1 → T2 → T3 → T4 → T5 → T6 → Mem → Prop
  | 0, _, _, _, _, _, _, _, _ => False
  | n + 1, x0, x1, x2, x3, x4, x5, x6, h => B (gm_it7 B n) x0 x1 x2 x3 x4 x5 x6 h
theorem ge_loop7 {T0 T1 T2 T3 T4 T5 T6 : Type} {B : (T0 → T1 → T2 → T3 → T4 → T5 → T6 → Mem → Prop) → T0 → T1 → T2 → T3 → T4 → T5 → T6 → Mem → Prop} {P : T0 → T1 → T2 → T3 → T4 → T5 → T6 → Mem → Prop} (hB : ∀ K : T0 → T1 → T2 → T3 → T4 → T5 → T6 → Mem → Prop, (∀ x0 x1 x2 x3 x4 x5 x6 h, K x0 x1 x2 x3 x4 x5 x6 h → P x0 x1 x2 x3 x4 x5 x6 h) → ∀ x0 x1 x2 x3 x4 x5 x6 h, B K x0 x1 x2 x3 x4 x5 x6 h → P x0 x1 x2 x3 x4 x5 x6 h) : ∀ n x0 x1 x2 x3 x4 x5 x6 h, gm_it7 B n x0 x1 x2 x3 x4 x5 x6 h → P x0 x1 x2 x3 x4 x5 x6 h
  | 0, _, _, _, _, _, _, _, _, q => q.elim
  | n + 1, x0, x1, x2, x3, x4, x5, x6, h, q => hB (gm_it7 B n) (ge_loop7 hB n) x0 x1 x2 x3 x4 x5 x6 h q
/-- how often a loop may go round in the telling: far above what any run needs -/
def gm_F : Nat := 1000000
end
section
theorem ge_tldL {M : Mt} {G : Xt → Array Value → State → Outcome → State → Prop} {pc pc' : Nat} {lv : List (Nat × Value)} {st : List Value} {h : Mem} {i n : Nat} {x v : Int32} (hd : At M pc .iaload 1 pc') (hi : i < 6) (hn : (gm_tab i).length = n) (hx : vp_in x n) (hv : (gm_tab i).getD x.toNatClampNeg 0 = v) (kk : EV M G pc' lv (.int v :: st) h) : EV M G pc lv (.int x :: .ref (200 + i) :: st) h :=
  ge_tld hd hi hn hx (by rw [hv]; exact kk)
end
section
def m_X0_takes : Mt := (yX0_takes, cX0_takes, 5, some (.int), { frames := 1, cells := 0, slots := 0, locals := 21 })
def m_X0_tripsBy : Mt := (yX0_tripsBy, cX0_tripsBy, 5, some (.int), { frames := 1, cells := 0, slots := 0, locals := 21 })
def m_X0_seenBy : Mt := (yX0_seenBy, cX0_seenBy, 4, some (.int), { frames := 1, cells := 0, slots := 0, locals := 21 })
def m_X0_isOrIsUnder : Mt := (yX0_isOrIsUnder, cX0_isOrIsUnder, 4, some (.boolean), { frames := 0, cells := 0, slots := 0, locals := 0 })
def m_X1_takeFrom : Mt := (yX1_takeFrom, cX1_takeFrom, 2, none, { frames := 0, cells := 0, slots := 0, locals := 0 })
def m_X1_held : Mt := (yX1_held, cX1_held, 1, some (.int), { frames := 1, cells := 0, slots := 0, locals := 21 })
def m_X1_step : Mt := (yX1_step, cX1_step, 4, none, { frames := 2, cells := 0, slots := 0, locals := 41 })
def m_X1_are : Mt := (yX1_are, cX1_are, 3, some (.boolean), { frames := 0, cells := 0, slots := 0, locals := 0 })
def m_X1_habit : Mt := (yX1_habit, cX1_habit, 4, some (.int), { frames := 3, cells := 0, slots := 0, locals := 64 })
def m_X2_lengthFrom : Mt := (yX2_lengthFrom, cX2_lengthFrom, 5, some (.int), { frames := 3, cells := 0, slots := 0, locals := 64 })
def m_X2_beginFrom : Mt := (yX2_beginFrom, cX2_beginFrom, 4, some (.int), { frames := 3, cells := 0, slots := 0, locals := 64 })
def m_X3_isDigit : Mt := (yX3_isDigit, cX3_isDigit, 2, some (.boolean), { frames := 0, cells := 0, slots := 0, locals := 0 })
def m_X3_isLetter : Mt := (yX3_isLetter, cX3_isLetter, 2, some (.boolean), { frames := 0, cells := 0, slots := 0, locals := 0 })
def m_X3_signAt : Mt := (yX3_signAt, cX3_signAt, 2, some (.int), { frames := 0, cells := 0, slots := 0, locals := 0 })
def m_X3_lookOn : Mt := (yX3_lookOn, cX3_lookOn, 1, none, { frames := 1, cells := 0, slots := 0, locals := 21 })
def m_J0_isLatin1_aae02 : Mt := (yJ0_isLatin1_aae02, cJ0_isLatin1_aae02, 1, some (.boolean), { frames := 0, cells := 0, slots := 0, locals := 0 })
def m_J3_checkIndex_8e157 : Mt := (yJ3_checkIndex_8e157, cJ3_checkIndex_8e157, 3, some (.int), { frames := 0, cells := 0, slots := 0, locals := 0 })
def m_J0_checkIndex_df160 : Mt := (yJ0_checkIndex_df160, cJ0_checkIndex_df160, 2, none, { frames := 1, cells := 0, slots := 0, locals := 22 })
def m_J1_charAt_3b067 : Mt := (yJ1_charAt_3b067, cJ1_charAt_3b067, 2, some (.char), { frames := 2, cells := 0, slots := 0, locals := 43 })
def m_J0_charAt_5068e : Mt := (yJ0_charAt_5068e, cJ0_charAt_5068e, 2, some (.char), { frames := 3, cells := 0, slots := 0, locals := 64 })
def m_J0_coder_7d493 : Mt := (yJ0_coder_7d493, cJ0_coder_7d493, 1, some (.byte), { frames := 0, cells := 0, slots := 0, locals := 0 })
def m_J0_length_8abf5 : Mt := (yJ0_length_8abf5, cJ0_length_8abf5, 1, some (.int), { frames := 1, cells := 0, slots := 0, locals := 20 })
def m_X3_isWord : Mt := (yX3_isWord, cX3_isWord, 3, some (.boolean), { frames := 4, cells := 0, slots := 0, locals := 85 })
def m_X3_nameOf : Mt := (yX3_nameOf, cX3_nameOf, 1, some (.object "java/lang/String"), { frames := 0, cells := 0, slots := 0, locals := 0 })
def m_X9_isWithin : Mt := (yX9_isWithin, cX9_isWithin, 3, some (.boolean), { frames := 0, cells := 0, slots := 0, locals := 0 })
def m_X3_isNumber : Mt := (yX3_isNumber, cX3_isNumber, 3, some (.boolean), { frames := 1, cells := 0, slots := 0, locals := 22 })
def m_X6_features : Mt := (yX6_features, cX6_features, 2, some (.array .int), { frames := 0, cells := 0, slots := 0, locals := 0 })
def m_X3_takeFeature : Mt := (yX3_takeFeature, cX3_takeFeature, 4, some (.boolean), { frames := 5, cells := 0, slots := 0, locals := 107 })
def m_X6_addLine : Mt := (yX6_addLine, cX6_addLine, 2, some (.int), { frames := 0, cells := 0, slots := 0, locals := 0 })
def m_X6_hasRoom : Mt := (yX6_hasRoom, cX6_hasRoom, 1, some (.boolean), { frames := 0, cells := 0, slots := 0, locals := 0 })
def m_X3_takeLine : Mt := (yX3_takeLine, cX3_takeLine, 3, some (.boolean), { frames := 6, cells := 0, slots := 0, locals := 130 })
def m_X3_takeDrift : Mt := (yX3_takeDrift, cX3_takeDrift, 3, some (.boolean), { frames := 2, cells := 0, slots := 0, locals := 44 })
def m_X3_takeRule : Mt := (yX3_takeRule, cX3_takeRule, 2, some (.boolean), { frames := 2, cells := 0, slots := 0, locals := 44 })
def m_X3_takePace : Mt := (yX3_takePace, cX3_takePace, 2, some (.boolean), { frames := 5, cells := 0, slots := 0, locals := 107 })
def m_X3_takeItem : Mt := (yX3_takeItem, cX3_takeItem, 2, some (.boolean), { frames := 7, cells := 0, slots := 0, locals := 152 })
def m_X3_tellTo : Mt := (yX3_tellTo, cX3_tellTo, 4, some (.int), { frames := 8, cells := 0, slots := 0, locals := 173 })
def m_X4_weigh : Mt := (yX4_weigh, cX4_weigh, 3, none, { frames := 1, cells := 0, slots := 0, locals := 21 })
def m_X6_linesAhead : Mt := (yX6_linesAhead, cX6_linesAhead, 1, some (.int), { frames := 0, cells := 0, slots := 0, locals := 0 })
def m_X6_takesOf : Mt := (yX6_takesOf, cX6_takesOf, 3, some (.int), { frames := 2, cells := 0, slots := 0, locals := 45 })
def m_X6_takesAhead : Mt := (yX6_takesAhead, cX6_takesAhead, 5, some (.int), { frames := 3, cells := 0, slots := 0, locals := 67 })
def m_X4_offHour : Mt := (yX4_offHour, cX4_offHour, 3, some (.int), { frames := 4, cells := 0, slots := 0, locals := 91 })
def m_X4_nearestWeights : Mt := (yX4_nearestWeights, cX4_nearestWeights, 6, some (.int), { frames := 5, cells := 0, slots := 0, locals := 113 })
def m_X6_unrestAhead : Mt := (yX6_unrestAhead, cX6_unrestAhead, 5, some (.int), { frames := 2, cells := 0, slots := 0, locals := 45 })
def m_X4_calmestEyes : Mt := (yX4_calmestEyes, cX4_calmestEyes, 7, some (.int), { frames := 3, cells := 0, slots := 0, locals := 69 })
def m_X6_tripsOf : Mt := (yX6_tripsOf, cX6_tripsOf, 2, some (.int), { frames := 2, cells := 0, slots := 0, locals := 45 })
def m_X4_mostTripping : Mt := (yX4_mostTripping, cX4_mostTripping, 6, some (.int), { frames := 3, cells := 0, slots := 0, locals := 66 })
def m_X4_quickestKind : Mt := (yX4_quickestKind, cX4_quickestKind, 8, some (.int), { frames := 4, cells := 0, slots := 0, locals := 91 })
def m_J6_bitCount_0f7a4 : Mt := (yJ6_bitCount_0f7a4, cJ6_bitCount_0f7a4, 1, some (.int), { frames := 0, cells := 0, slots := 0, locals := 0 })
def m_X4_easedBy : Mt := (yX4_easedBy, cX4_easedBy, 5, some (.int), { frames := 0, cells := 0, slots := 0, locals := 0 })
def m_X6_tripsAhead : Mt := (yX6_tripsAhead, cX6_tripsAhead, 3, some (.int), { frames := 3, cells := 0, slots := 0, locals := 66 })
def m_X4_fewestEased : Mt := (yX4_fewestEased, cX4_fewestEased, 9, some (.int), { frames := 4, cells := 0, slots := 0, locals := 88 })
def m_X4_fitsHourWithout : Mt := (yX4_fitsHourWithout, cX4_fitsHourWithout, 5, some (.boolean), { frames := 3, cells := 0, slots := 0, locals := 67 })
def m_X6_wordsAheadWithout : Mt := (yX6_wordsAheadWithout, cX6_wordsAheadWithout, 4, some (.int), { frames := 0, cells := 0, slots := 0, locals := 0 })
def m_X4_bestLeftOut : Mt := (yX4_bestLeftOut, cX4_bestLeftOut, 8, some (.int), { frames := 4, cells := 0, slots := 0, locals := 91 })
def m_X4_takeJust : Mt := (yX4_takeJust, cX4_takeJust, 5, some (.boolean), { frames := 3, cells := 0, slots := 0, locals := 67 })
def m_X4_tallyFits : Mt := (yX4_tallyFits, cX4_tallyFits, 4, none, { frames := 4, cells := 0, slots := 0, locals := 91 })
def m_X5_canHave : Mt := (yX5_canHave, cX5_canHave, 1, some (.boolean), { frames := 0, cells := 0, slots := 0, locals := 0 })
def m_X5_isMissing : Mt := (yX5_isMissing, cX5_isMissing, 1, some (.boolean), { frames := 0, cells := 0, slots := 0, locals := 0 })
def m_J7_fill_53178 : Mt := (yJ7_fill_53178, cJ7_fill_53178, 4, none, { frames := 0, cells := 0, slots := 0, locals := 0 })
def m_X5_begin : Mt := (yX5_begin, cX5_begin, 3, none, { frames := 1, cells := 0, slots := 0, locals := 23 })
def m_X5_hasPart : Mt := (yX5_hasPart, cX5_hasPart, 3, some (.boolean), { frames := 0, cells := 0, slots := 0, locals := 0 })
def m_X5_put : Mt := (yX5_put, cX5_put, 3, none, { frames := 0, cells := 0, slots := 0, locals := 0 })
def m_X6_become : Mt := (yX6_become, cX6_become, 2, none, { frames := 1, cells := 0, slots := 0, locals := 48 })
def m_X6_isLine : Mt := (yX6_isLine, cX6_isLine, 2, some (.boolean), { frames := 0, cells := 0, slots := 0, locals := 0 })
def m_X6_sumOf : Mt := (yX6_sumOf, cX6_sumOf, 4, some (.int), { frames := 0, cells := 0, slots := 0, locals := 0 })
def m_X6_spotsHeld : Mt := (yX6_spotsHeld, cX6_spotsHeld, 3, some (.int), { frames := 0, cells := 0, slots := 0, locals := 0 })
def m_X6_seenOf : Mt := (yX6_seenOf, cX6_seenOf, 2, some (.int), { frames := 2, cells := 0, slots := 0, locals := 44 })
def m_X6_seenAhead : Mt := (yX6_seenAhead, cX6_seenAhead, 3, some (.int), { frames := 3, cells := 0, slots := 0, locals := 65 })
def m_X6_takeWords : Mt := (yX6_takeWords, cX6_takeWords, 3, some (.int), { frames := 1, cells := 0, slots := 0, locals := 22 })
def m_X6_turnPaces : Mt := (yX6_turnPaces, cX6_turnPaces, 2, none, { frames := 3, cells := 0, slots := 0, locals := 64 })
def m_X6_readOne : Mt := (yX6_readOne, cX6_readOne, 2, none, { frames := 4, cells := 0, slots := 0, locals := 85 })
def m_X6_draw : Mt := (yX6_draw, cX6_draw, 1, some (.int), { frames := 0, cells := 0, slots := 0, locals := 0 })
def m_X6_spendEvening : Mt := (yX6_spendEvening, cX6_spendEvening, 5, some (.int), { frames := 5, cells := 0, slots := 0, locals := 106 })
def m_X7_append : Mt := (yX7_append, cX7_append, 4, none, { frames := 0, cells := 0, slots := 0, locals := 0 })
def m_X8_byJump : Mt := (yX8_byJump, cX8_byJump, 3, some (.int), { frames := 0, cells := 0, slots := 0, locals := 0 })
def m_X8_measure : Mt := (yX8_measure, cX8_measure, 6, none, { frames := 3, cells := 0, slots := 0, locals := 67 })
def m_X8_shortest : Mt := (yX8_shortest, cX8_shortest, 2, some (.int), { frames := 0, cells := 0, slots := 0, locals := 0 })
def m_X8_shortestJump : Mt := (yX8_shortestJump, cX8_shortestJump, 4, some (.int), { frames := 1, cells := 0, slots := 0, locals := 22 })
def m_X8_linesRead : Mt := (yX8_linesRead, cX8_linesRead, 6, some (.int), { frames := 2, cells := 0, slots := 0, locals := 45 })
def m_X9_finding : Mt := (yX9_finding, cX9_finding, 2, some (.int), { frames := 0, cells := 0, slots := 0, locals := 0 })
def m_X9_line : Mt := (yX9_line, cX9_line, 2, some (.int), { frames := 1, cells := 0, slots := 0, locals := 22 })
def m_X9_of : Mt := (yX9_of, cX9_of, 3, some (.int), { frames := 3, cells := 0, slots := 0, locals := 67 })
def m_X9_change : Mt := (yX9_change, cX9_change, 6, some (.int), { frames := 1, cells := 0, slots := 0, locals := 22 })
def m_X9_rule : Mt := (yX9_rule, cX9_rule, 4, some (.int), { frames := 1, cells := 0, slots := 0, locals := 22 })
def m_X9_ruled : Mt := (yX9_ruled, cX9_ruled, 2, some (.int), { frames := 1, cells := 0, slots := 0, locals := 22 })
def m_X9_takesAhead : Mt := (yX9_takesAhead, cX9_takesAhead, 2, some (.int), { frames := 4, cells := 0, slots := 0, locals := 91 })
def m_X9_read : Mt := (yX9_read, cX9_read, 3, some (.int), { frames := 5, cells := 0, slots := 0, locals := 112 })
def m_X9_go : Mt := (yX9_go, cX9_go, 3, some (.int), { frames := 1, cells := 0, slots := 0, locals := 22 })
def m_X9_turn : Mt := (yX9_turn, cX9_turn, 1, some (.int), { frames := 4, cells := 0, slots := 0, locals := 85 })
def m_X9_now : Mt := (yX9_now, cX9_now, 2, some (.int), { frames := 1, cells := 0, slots := 0, locals := 21 })
def m_X9_rest : Mt := (yX9_rest, cX9_rest, 3, some (.int), { frames := 5, cells := 0, slots := 0, locals := 112 })
def m_X9_pace : Mt := (yX9_pace, cX9_pace, 3, some (.int), { frames := 3, cells := 0, slots := 0, locals := 64 })
def m_X9_sign : Mt := (yX9_sign, cX9_sign, 1, some (.int), { frames := 4, cells := 0, slots := 0, locals := 87 })
def m_X9_round : Mt := (yX9_round, cX9_round, 3, some (.int), { frames := 4, cells := 0, slots := 0, locals := 88 })
def m_X9_leads : Mt := (yX9_leads, cX9_leads, 4, some (.int), { frames := 3, cells := 0, slots := 0, locals := 64 })
def m_X9_found : Mt := (yX9_found, cX9_found, 1, some (.int), { frames := 6, cells := 0, slots := 0, locals := 138 })
def m_X9_off : Mt := (yX9_off, cX9_off, 1, some (.int), { frames := 6, cells := 0, slots := 0, locals := 138 })
def m_X9_grid : Mt := (yX9_grid, cX9_grid, 1, some (.int), { frames := 4, cells := 0, slots := 0, locals := 95 })
def m_X9_worst : Mt := (yX9_worst, cX9_worst, 2, some (.int), { frames := 4, cells := 0, slots := 0, locals := 95 })
def m_X9_trips : Mt := (yX9_trips, cX9_trips, 1, some (.int), { frames := 4, cells := 0, slots := 0, locals := 91 })
def m_X9_kindFor : Mt := (yX9_kindFor, cX9_kindFor, 2, some (.int), { frames := 5, cells := 0, slots := 0, locals := 118 })
def m_X9_ease : Mt := (yX9_ease, cX9_ease, 3, some (.int), { frames := 5, cells := 0, slots := 0, locals := 116 })
def m_X9_fit : Mt := (yX9_fit, cX9_fit, 1, some (.int), { frames := 5, cells := 0, slots := 0, locals := 118 })
def m_X9_kept : Mt := (yX9_kept, cX9_kept, 1, some (.int), { frames := 5, cells := 0, slots := 0, locals := 118 })
def m_X9_isWay : Mt := (yX9_isWay, cX9_isWay, 3, some (.boolean), { frames := 1, cells := 0, slots := 0, locals := 21 })
def m_X9_jump : Mt := (yX9_jump, cX9_jump, 3, some (.int), { frames := 4, cells := 0, slots := 0, locals := 92 })
def m_X9_jumped : Mt := (yX9_jumped, cX9_jumped, 3, some (.int), { frames := 4, cells := 0, slots := 0, locals := 92 })
def m_X9_isSheet : Mt := (yX9_isSheet, cX9_isSheet, 2, some (.boolean), { frames := 1, cells := 0, slots := 0, locals := 22 })
def m_X9_fits : Mt := (yX9_fits, cX9_fits, 2, some (.int), { frames := 5, cells := 0, slots := 0, locals := 114 })
def m_X9_led : Mt := (yX9_led, cX9_led, 2, some (.int), { frames := 5, cells := 0, slots := 0, locals := 114 })
def m_X9_commonDivisor : Mt := (yX9_commonDivisor, cX9_commonDivisor, 3, some (.int), { frames := 0, cells := 0, slots := 0, locals := 0 })
def m_X9_part : Mt := (yX9_part, cX9_part, 4, some (.int), { frames := 5, cells := 0, slots := 0, locals := 114 })
def m_X9_stays : Mt := (yX9_stays, cX9_stays, 8, some (.long), { frames := 1, cells := 0, slots := 0, locals := 22 })
def m_X9_evening : Mt := (yX9_evening, cX9_evening, 2, some (.int), { frames := 6, cells := 0, slots := 0, locals := 130 })
def m_X9_ahead : Mt := (yX9_ahead, cX9_ahead, 5, some (.int), { frames := 6, cells := 0, slots := 0, locals := 130 })
def m_X9_seed : Mt := (yX9_seed, cX9_seed, 3, some (.int), { frames := 0, cells := 0, slots := 0, locals := 0 })
def m_X9_feed : Mt := (yX9_feed, cX9_feed, 3, some (.int), { frames := 1, cells := 0, slots := 0, locals := 23 })
def m_X9_wipe : Mt := (yX9_wipe, cX9_wipe, 2, some (.int), { frames := 0, cells := 0, slots := 0, locals := 0 })
def m_X9_text : Mt := (yX9_text, cX9_text, 2, some (.int), { frames := 9, cells := 0, slots := 0, locals := 196 })
def m_X9_hold : Mt := (yX9_hold, cX9_hold, 3, some (.int), { frames := 1, cells := 0, slots := 0, locals := 22 })
def m_X9_as : Mt := (yX9_as, cX9_as, 4, some (.int), { frames := 1, cells := 0, slots := 0, locals := 23 })
def m_X9_sheet : Mt := (yX9_sheet, cX9_sheet, 4, some (.int), { frames := 2, cells := 0, slots := 0, locals := 45 })
def m_X9_write : Mt := (yX9_write, cX9_write, 4, some (.int), { frames := 2, cells := 0, slots := 0, locals := 43 })
def m_X9_copy : Mt := (yX9_copy, cX9_copy, 8, some (.int), { frames := 2, cells := 0, slots := 0, locals := 48 })
def m_X9_load : Mt := (yX9_load, cX9_load, 2, some (.int), { frames := 2, cells := 0, slots := 0, locals := 44 })
def m_X9_firstWrongTime : Mt := (yX9_firstWrongTime, cX9_firstWrongTime, 5, some (.int), { frames := 3, cells := 0, slots := 0, locals := 67 })
def m_X9_judge : Mt := (yX9_judge, cX9_judge, 2, some (.int), { frames := 4, cells := 0, slots := 0, locals := 91 })
def m_X9_image : Mt := (yX9_image, cX9_image, 1, some (.int), { frames := 2, cells := 0, slots := 0, locals := 69 })
def m_X9_undo : Mt := (yX9_undo, cX9_undo, 1, some (.int), { frames := 2, cells := 0, slots := 0, locals := 69 })
def m_X9_tear : Mt := (yX9_tear, cX9_tear, 2, some (.int), { frames := 0, cells := 0, slots := 0, locals := 0 })
def m_X9_count : Mt := (yX9_count, cX9_count, 2, some (.int), { frames := 1, cells := 0, slots := 0, locals := 23 })
def m_X9_status : Mt := (yX9_status, cX9_status, 4, some (.int), { frames := 1, cells := 0, slots := 0, locals := 22 })
def m_X10_finding : Mt := (yX10_finding, cX10_finding, 2, some (.int), { frames := 0, cells := 0, slots := 0, locals := 0 })
def m_X10_within : Mt := (yX10_within, cX10_within, 3, some (.boolean), { frames := 0, cells := 0, slots := 0, locals := 0 })
def m_X10_become : Mt := (yX10_become, cX10_become, 4, some (.int), { frames := 0, cells := 0, slots := 0, locals := 0 })
def m_X10_copyRow : Mt := (yX10_copyRow, cX10_copyRow, 3, none, { frames := 0, cells := 0, slots := 0, locals := 0 })
def m_X10_putBack : Mt := (yX10_putBack, cX10_putBack, 2, some (.int), { frames := 1, cells := 0, slots := 0, locals := 22 })
def m_X10_has : Mt := (yX10_has, cX10_has, 2, some (.boolean), { frames := 0, cells := 0, slots := 0, locals := 0 })
def m_X10_bits : Mt := (yX10_bits, cX10_bits, 3, some (.int), { frames := 0, cells := 0, slots := 0, locals := 0 })
def m_X10_isLine : Mt := (yX10_isLine, cX10_isLine, 2, some (.boolean), { frames := 1, cells := 0, slots := 0, locals := 22 })
def m_X10_isKind : Mt := (yX10_isKind, cX10_isKind, 1, some (.boolean), { frames := 1, cells := 0, slots := 0, locals := 22 })
def m_X10_at : Mt := (yX10_at, cX10_at, 2, some (.int), { frames := 0, cells := 0, slots := 0, locals := 0 })
def m_X10_lineIs : Mt := (yX10_lineIs, cX10_lineIs, 3, some (.int), { frames := 1, cells := 0, slots := 0, locals := 21 })
def m_X10_comes : Mt := (yX10_comes, cX10_comes, 5, some (.int), { frames := 1, cells := 0, slots := 0, locals := 21 })
def m_X10_line : Mt := (yX10_line, cX10_line, 2, some (.int), { frames := 2, cells := 0, slots := 0, locals := 45 })
def m_X10_above : Mt := (yX10_above, cX10_above, 1, some (.int), { frames := 0, cells := 0, slots := 0, locals := 0 })
def m_X10_isUnder : Mt := (yX10_isUnder, cX10_isUnder, 3, some (.boolean), { frames := 1, cells := 0, slots := 0, locals := 20 })
def m_X10_takes : Mt := (yX10_takes, cX10_takes, 4, some (.int), { frames := 2, cells := 0, slots := 0, locals := 43 })
def m_X10_trips : Mt := (yX10_trips, cX10_trips, 4, some (.int), { frames := 2, cells := 0, slots := 0, locals := 43 })
def m_X10_seen : Mt := (yX10_seen, cX10_seen, 3, some (.int), { frames := 2, cells := 0, slots := 0, locals := 43 })
def m_X10_of : Mt := (yX10_of, cX10_of, 3, some (.int), { frames := 3, cells := 0, slots := 0, locals := 66 })
def m_X10_change : Mt := (yX10_change, cX10_change, 5, some (.int), { frames := 2, cells := 0, slots := 0, locals := 43 })
def m_X10_isRule : Mt := (yX10_isRule, cX10_isRule, 1, some (.boolean), { frames := 1, cells := 0, slots := 0, locals := 22 })
def m_X10_least : Mt := (yX10_least, cX10_least, 1, some (.int), { frames := 0, cells := 0, slots := 0, locals := 0 })
def m_X10_most : Mt := (yX10_most, cX10_most, 1, some (.int), { frames := 0, cells := 0, slots := 0, locals := 0 })
def m_X10_rule : Mt := (yX10_rule, cX10_rule, 3, some (.int), { frames := 2, cells := 0, slots := 0, locals := 42 })
def m_X10_ruled : Mt := (yX10_ruled, cX10_ruled, 2, some (.int), { frames := 2, cells := 0, slots := 0, locals := 42 })
def m_X10_held : Mt := (yX10_held, cX10_held, 1, some (.int), { frames := 1, cells := 0, slots := 0, locals := 21 })
def m_X10_turns : Mt := (yX10_turns, cX10_turns, 3, some (.int), { frames := 2, cells := 0, slots := 0, locals := 41 })
def m_X10_reads : Mt := (yX10_reads, cX10_reads, 3, some (.int), { frames := 3, cells := 0, slots := 0, locals := 66 })
def m_X10_readsOn : Mt := (yX10_readsOn, cX10_readsOn, 4, some (.int), { frames := 4, cells := 0, slots := 0, locals := 88 })
def m_X10_left : Mt := (yX10_left, cX10_left, 1, some (.int), { frames := 0, cells := 0, slots := 0, locals := 0 })
def m_X10_read : Mt := (yX10_read, cX10_read, 3, some (.int), { frames := 5, cells := 0, slots := 0, locals := 111 })
def m_X10_go : Mt := (yX10_go, cX10_go, 2, some (.int), { frames := 1, cells := 0, slots := 0, locals := 23 })
def m_X10_turn : Mt := (yX10_turn, cX10_turn, 1, some (.int), { frames := 3, cells := 0, slots := 0, locals := 63 })
def m_X10_now : Mt := (yX10_now, cX10_now, 2, some (.int), { frames := 1, cells := 0, slots := 0, locals := 21 })
def m_X10_restTakes : Mt := (yX10_restTakes, cX10_restTakes, 1, some (.int), { frames := 5, cells := 0, slots := 0, locals := 111 })
def m_X10_restTrips : Mt := (yX10_restTrips, cX10_restTrips, 3, some (.int), { frames := 3, cells := 0, slots := 0, locals := 66 })
def m_X10_restSeen : Mt := (yX10_restSeen, cX10_restSeen, 3, some (.int), { frames := 3, cells := 0, slots := 0, locals := 65 })
def m_X10_paceThen : Mt := (yX10_paceThen, cX10_paceThen, 6, some (.int), { frames := 3, cells := 0, slots := 0, locals := 63 })
def m_X10_rest : Mt := (yX10_rest, cX10_rest, 2, some (.int), { frames := 6, cells := 0, slots := 0, locals := 131 })
def m_X10_pace : Mt := (yX10_pace, cX10_pace, 3, some (.int), { frames := 4, cells := 0, slots := 0, locals := 88 })
def m_X10_signThen : Mt := (yX10_signThen, cX10_signThen, 5, some (.int), { frames := 3, cells := 0, slots := 0, locals := 63 })
def m_X10_sign : Mt := (yX10_sign, cX10_sign, 4, some (.int), { frames := 4, cells := 0, slots := 0, locals := 87 })
def m_X10_round : Mt := (yX10_round, cX10_round, 6, some (.int), { frames := 3, cells := 0, slots := 0, locals := 63 })
def m_X10_leads : Mt := (yX10_leads, cX10_leads, 4, some (.int), { frames := 4, cells := 0, slots := 0, locals := 88 })
def m_X10_findWeights : Mt := (yX10_findWeights, cX10_findWeights, 6, some (.int), { frames := 6, cells := 0, slots := 0, locals := 131 })
def m_X10_found : Mt := (yX10_found, cX10_found, 1, some (.int), { frames := 7, cells := 0, slots := 0, locals := 156 })
def m_X10_off : Mt := (yX10_off, cX10_off, 2, some (.int), { frames := 7, cells := 0, slots := 0, locals := 156 })
def m_X10_findGrid : Mt := (yX10_findGrid, cX10_findGrid, 6, some (.int), { frames := 4, cells := 0, slots := 0, locals := 88 })
def m_X10_grid : Mt := (yX10_grid, cX10_grid, 1, some (.int), { frames := 5, cells := 0, slots := 0, locals := 113 })
def m_X10_worst : Mt := (yX10_worst, cX10_worst, 2, some (.int), { frames := 5, cells := 0, slots := 0, locals := 113 })
def m_X10_trips_ : Mt := (yX10_trips_, cX10_trips_, 4, some (.int), { frames := 3, cells := 0, slots := 0, locals := 66 })
def m_X10_kindFor : Mt := (yX10_kindFor, cX10_kindFor, 7, some (.int), { frames := 6, cells := 0, slots := 0, locals := 131 })
def m_X10_eases : Mt := (yX10_eases, cX10_eases, 5, some (.int), { frames := 3, cells := 0, slots := 0, locals := 66 })
def m_X10_ease : Mt := (yX10_ease, cX10_ease, 7, some (.int), { frames := 4, cells := 0, slots := 0, locals := 90 })
def m_X10_takesWithout : Mt := (yX10_takesWithout, cX10_takesWithout, 6, some (.int), { frames := 3, cells := 0, slots := 0, locals := 66 })
def m_X10_findFit : Mt := (yX10_findFit, cX10_findFit, 4, some (.int), { frames := 4, cells := 0, slots := 0, locals := 91 })
def m_X10_fit : Mt := (yX10_fit, cX10_fit, 1, some (.int), { frames := 5, cells := 0, slots := 0, locals := 114 })
def m_X10_kept : Mt := (yX10_kept, cX10_kept, 2, some (.int), { frames := 5, cells := 0, slots := 0, locals := 114 })
def m_X10_jumpFrom : Mt := (yX10_jumpFrom, cX10_jumpFrom, 4, some (.int), { frames := 0, cells := 0, slots := 0, locals := 0 })
def m_X10_findWays : Mt := (yX10_findWays, cX10_findWays, 6, some (.int), { frames := 3, cells := 0, slots := 0, locals := 66 })
def m_X10_isWay : Mt := (yX10_isWay, cX10_isWay, 3, some (.boolean), { frames := 2, cells := 0, slots := 0, locals := 43 })
def m_X10_jump : Mt := (yX10_jump, cX10_jump, 3, some (.int), { frames := 4, cells := 0, slots := 0, locals := 91 })
def m_X10_jumped : Mt := (yX10_jumped, cX10_jumped, 7, some (.int), { frames := 4, cells := 0, slots := 0, locals := 91 })
def m_X10_findLed : Mt := (yX10_findLed, cX10_findLed, 7, some (.int), { frames := 4, cells := 0, slots := 0, locals := 88 })
def m_X10_isSheet : Mt := (yX10_isSheet, cX10_isSheet, 1, some (.boolean), { frames := 1, cells := 0, slots := 0, locals := 22 })
def m_X10_fits : Mt := (yX10_fits, cX10_fits, 2, some (.int), { frames := 5, cells := 0, slots := 0, locals := 114 })
def m_X10_led : Mt := (yX10_led, cX10_led, 2, some (.int), { frames := 5, cells := 0, slots := 0, locals := 114 })
def m_X10_common : Mt := (yX10_common, cX10_common, 5, some (.int), { frames := 0, cells := 0, slots := 0, locals := 0 })
def m_X10_part : Mt := (yX10_part, cX10_part, 5, some (.int), { frames := 5, cells := 0, slots := 0, locals := 114 })
def m_X10_stays : Mt := (yX10_stays, cX10_stays, 9, some (.long), { frames := 1, cells := 0, slots := 0, locals := 24 })
def m_X10_drawn : Mt := (yX10_drawn, cX10_drawn, 2, some (.int), { frames := 0, cells := 0, slots := 0, locals := 0 })
def m_X10_leavesIn : Mt := (yX10_leavesIn, cX10_leavesIn, 5, some (.int), { frames := 4, cells := 0, slots := 0, locals := 88 })
def m_X10_evening : Mt := (yX10_evening, cX10_evening, 2, some (.int), { frames := 5, cells := 0, slots := 0, locals := 112 })
def m_X10_ahead : Mt := (yX10_ahead, cX10_ahead, 5, some (.int), { frames := 5, cells := 0, slots := 0, locals := 112 })
def m_X10_seed : Mt := (yX10_seed, cX10_seed, 2, some (.int), { frames := 1, cells := 0, slots := 0, locals := 23 })
def m_X10_feed : Mt := (yX10_feed, cX10_feed, 4, some (.int), { frames := 1, cells := 0, slots := 0, locals := 22 })
def m_X10_wipe : Mt := (yX10_wipe, cX10_wipe, 2, some (.int), { frames := 0, cells := 0, slots := 0, locals := 0 })
def m_X10_byteAt : Mt := (yX10_byteAt, cX10_byteAt, 2, some (.int), { frames := 0, cells := 0, slots := 0, locals := 0 })
def m_X10_next : Mt := (yX10_next, cX10_next, 2, none, { frames := 1, cells := 0, slots := 0, locals := 22 })
def m_X10_isWord : Mt := (yX10_isWord, cX10_isWord, 4, some (.boolean), { frames := 4, cells := 0, slots := 0, locals := 85 })
def m_X10_must : Mt := (yX10_must, cX10_must, 2, none, { frames := 2, cells := 0, slots := 0, locals := 43 })
def m_X10_number : Mt := (yX10_number, cX10_number, 4, some (.int), { frames := 3, cells := 0, slots := 0, locals := 64 })
def m_X10_item : Mt := (yX10_item, cX10_item, 6, none, { frames := 0, cells := 0, slots := 0, locals := 0 })
def m_X10_kindTold : Mt := (yX10_kindTold, cX10_kindTold, 3, some (.int), { frames := 5, cells := 0, slots := 0, locals := 108 })
def m_X10_isNext : Mt := (yX10_isNext, cX10_isNext, 3, some (.boolean), { frames := 5, cells := 0, slots := 0, locals := 108 })
def m_X10_drift : Mt := (yX10_drift, cX10_drift, 3, some (.int), { frames := 4, cells := 0, slots := 0, locals := 87 })
def m_X10_readPace : Mt := (yX10_readPace, cX10_readPace, 4, none, { frames := 6, cells := 0, slots := 0, locals := 130 })
def m_X10_readRule : Mt := (yX10_readRule, cX10_readRule, 2, none, { frames := 4, cells := 0, slots := 0, locals := 87 })
def m_X10_readItem : Mt := (yX10_readItem, cX10_readItem, 3, none, { frames := 7, cells := 0, slots := 0, locals := 153 })
def m_X10_becomesTold : Mt := (yX10_becomesTold, cX10_becomesTold, 3, none, { frames := 0, cells := 0, slots := 0, locals := 0 })
def m_X10_isSo : Mt := (yX10_isSo, cX10_isSo, 5, some (.int), { frames := 2, cells := 0, slots := 0, locals := 45 })
def m_X10_text : Mt := (yX10_text, cX10_text, 3, some (.int), { frames := 8, cells := 0, slots := 0, locals := 175 })
def m_X10_isSpot : Mt := (yX10_isSpot, cX10_isSpot, 1, some (.boolean), { frames := 1, cells := 0, slots := 0, locals := 22 })
def m_X10_hold : Mt := (yX10_hold, cX10_hold, 3, some (.int), { frames := 2, cells := 0, slots := 0, locals := 43 })
def m_X10_as : Mt := (yX10_as, cX10_as, 4, some (.int), { frames := 2, cells := 0, slots := 0, locals := 43 })
def m_X10_cutTo : Mt := (yX10_cutTo, cX10_cutTo, 2, some (.int), { frames := 0, cells := 0, slots := 0, locals := 0 })
def m_X10_sheet : Mt := (yX10_sheet, cX10_sheet, 5, some (.int), { frames := 2, cells := 0, slots := 0, locals := 42 })
def m_X10_write : Mt := (yX10_write, cX10_write, 4, some (.int), { frames := 2, cells := 0, slots := 0, locals := 42 })
def m_X10_copy : Mt := (yX10_copy, cX10_copy, 7, some (.int), { frames := 2, cells := 0, slots := 0, locals := 42 })
def m_X10_load : Mt := (yX10_load, cX10_load, 3, some (.int), { frames := 2, cells := 0, slots := 0, locals := 43 })
def m_X10_judge : Mt := (yX10_judge, cX10_judge, 4, some (.int), { frames := 4, cells := 0, slots := 0, locals := 88 })
def m_X10_image : Mt := (yX10_image, cX10_image, 1, some (.int), { frames := 1, cells := 0, slots := 0, locals := 22 })
def m_X10_undo : Mt := (yX10_undo, cX10_undo, 1, some (.int), { frames := 1, cells := 0, slots := 0, locals := 22 })
def m_X10_tear : Mt := (yX10_tear, cX10_tear, 2, some (.int), { frames := 0, cells := 0, slots := 0, locals := 0 })
def m_X10_count : Mt := (yX10_count, cX10_count, 4, some (.int), { frames := 2, cells := 0, slots := 0, locals := 43 })
def m_X10_status : Mt := (yX10_status, cX10_status, 2, some (.int), { frames := 1, cells := 0, slots := 0, locals := 22 })
theorem pn_J0 : plainName RJ0 = true := by decide
theorem pn_J1 : plainName RJ1 = true := by decide
theorem pn_J3 : plainName RJ3 = true := by decide
theorem pn_J6 : plainName RJ6 = true := by decide
theorem pn_J7 : plainName RJ7 = true := by decide
theorem pn_X0 : plainName RX0 = true := by decide
theorem pn_X1 : plainName RX1 = true := by decide
theorem pn_X10 : plainName RX10 = true := by decide
theorem pn_X2 : plainName RX2 = true := by decide
theorem pn_X3 : plainName RX3 = true := by decide
theorem pn_X4 : plainName RX4 = true := by decide
theorem pn_X5 : plainName RX5 = true := by decide
theorem pn_X6 : plainName RX6 = true := by decide
theorem pn_X7 : plainName RX7 = true := by decide
theorem pn_X8 : plainName RX8 = true := by decide
theorem pn_X9 : plainName RX9 = true := by decide
theorem ok_X0_takes : SOk m_X0_takes 4 := ⟨⟨gm_mem 388 (by decide +kernel) rfl, gm_mem 79 (by decide +kernel) rfl, by decide +kernel, rfl, rfl⟩, gm_mem 387 (by decide +kernel) rfl⟩
theorem ok_X0_tripsBy : SOk m_X0_tripsBy 4 := ⟨⟨gm_mem 398 (by decide +kernel) rfl, gm_mem 79 (by decide +kernel) rfl, by decide +kernel, rfl, rfl⟩, gm_mem 397 (by decide +kernel) rfl⟩
theorem ok_X0_seenBy : SOk m_X0_seenBy 3 := ⟨⟨gm_mem 405 (by decide +kernel) rfl, gm_mem 79 (by decide +kernel) rfl, by decide +kernel, rfl, rfl⟩, gm_mem 404 (by decide +kernel) rfl⟩
theorem ok_X0_isOrIsUnder : SOk m_X0_isOrIsUnder 2 := ⟨⟨gm_mem 900 (by decide +kernel) rfl, gm_mem 79 (by decide +kernel) rfl, by decide +kernel, rfl, rfl⟩, gm_mem 899 (by decide +kernel) rfl⟩
theorem ok_X1_takeFrom : VOk m_X1_takeFrom 1 := ⟨⟨gm_mem 446 (by decide +kernel) rfl, gm_mem 71 (by decide +kernel) rfl, by decide +kernel, rfl, rfl⟩, gm_mem 444 (by decide +kernel) rfl, gm_mem 445 (by decide +kernel) rfl⟩
theorem ok_X1_held : SOk m_X1_held 1 := ⟨⟨gm_mem 458 (by decide +kernel) rfl, gm_mem 71 (by decide +kernel) rfl, by decide +kernel, rfl, rfl⟩, gm_mem 457 (by decide +kernel) rfl⟩
theorem ok_X1_step : VOk m_X1_step 1 := ⟨⟨gm_mem 455 (by decide +kernel) rfl, gm_mem 71 (by decide +kernel) rfl, by decide +kernel, rfl, rfl⟩, gm_mem 453 (by decide +kernel) rfl, gm_mem 454 (by decide +kernel) rfl⟩
theorem ok_X1_are : VOk m_X1_are 2 := ⟨⟨gm_mem 516 (by decide +kernel) rfl, gm_mem 71 (by decide +kernel) rfl, by decide +kernel, rfl, rfl⟩, gm_mem 514 (by decide +kernel) rfl, gm_mem 515 (by decide +kernel) rfl⟩
theorem ok_X1_habit : VOk m_X1_habit 0 := ⟨⟨gm_mem 511 (by decide +kernel) rfl, gm_mem 71 (by decide +kernel) rfl, by decide +kernel, rfl, rfl⟩, gm_mem 509 (by decide +kernel) rfl, gm_mem 510 (by decide +kernel) rfl⟩
theorem ok_X2_lengthFrom : VOk m_X2_lengthFrom 1 := ⟨⟨gm_mem 524 (by decide +kernel) rfl, gm_mem 72 (by decide +kernel) rfl, by decide +kernel, rfl, rfl⟩, gm_mem 522 (by decide +kernel) rfl, gm_mem 523 (by decide +kernel) rfl⟩
theorem ok_X2_beginFrom : VOk m_X2_beginFrom 2 := ⟨⟨gm_mem 532 (by decide +kernel) rfl, gm_mem 72 (by decide +kernel) rfl, by decide +kernel, rfl, rfl⟩, gm_mem 530 (by decide +kernel) rfl, gm_mem 531 (by decide +kernel) rfl⟩
theorem ok_X3_isDigit : VOk m_X3_isDigit 1 := ⟨⟨gm_mem 774 (by decide +kernel) rfl, gm_mem 76 (by decide +kernel) rfl, by decide +kernel, rfl, rfl⟩, gm_mem 773 (by decide +kernel) rfl, gm_mem 12 (by decide +kernel) rfl⟩
theorem ok_X3_isLetter : VOk m_X3_isLetter 1 := ⟨⟨gm_mem 770 (by decide +kernel) rfl, gm_mem 76 (by decide +kernel) rfl, by decide +kernel, rfl, rfl⟩, gm_mem 769 (by decide +kernel) rfl, gm_mem 11 (by decide +kernel) rfl⟩
theorem ok_X3_signAt : VOk m_X3_signAt 1 := ⟨⟨gm_mem 780 (by decide +kernel) rfl, gm_mem 76 (by decide +kernel) rfl, by decide +kernel, rfl, rfl⟩, gm_mem 779 (by decide +kernel) rfl, gm_mem 13 (by decide +kernel) rfl⟩
theorem ok_X3_lookOn : VOk m_X3_lookOn 0 := ⟨⟨gm_mem 766 (by decide +kernel) rfl, gm_mem 76 (by decide +kernel) rfl, by decide +kernel, rfl, rfl⟩, gm_mem 765 (by decide +kernel) rfl, gm_mem 10 (by decide +kernel) rfl⟩
theorem ok_J0_isLatin1_aae02 : VOk m_J0_isLatin1_aae02 0 := ⟨⟨gm_mem 816 (by decide +kernel) rfl, gm_mem 82 (by decide +kernel) rfl, by decide +kernel, rfl, rfl⟩, gm_mem 814 (by decide +kernel) rfl, gm_mem 815 (by decide +kernel) rfl⟩
theorem ok_J3_checkIndex_8e157 : SOk m_J3_checkIndex_8e157 3 := ⟨⟨gm_mem 827 (by decide +kernel) rfl, gm_mem 84 (by decide +kernel) rfl, by decide +kernel, rfl, rfl⟩, gm_mem 826 (by decide +kernel) rfl⟩
theorem ok_J0_checkIndex_df160 : SOk m_J0_checkIndex_df160 2 := ⟨⟨gm_mem 822 (by decide +kernel) rfl, gm_mem 82 (by decide +kernel) rfl, by decide +kernel, rfl, rfl⟩, gm_mem 821 (by decide +kernel) rfl⟩
theorem ok_J1_charAt_3b067 : SOk m_J1_charAt_3b067 2 := ⟨⟨gm_mem 819 (by decide +kernel) rfl, gm_mem 83 (by decide +kernel) rfl, by decide +kernel, rfl, rfl⟩, gm_mem 818 (by decide +kernel) rfl⟩
theorem ok_J0_charAt_5068e : VOk m_J0_charAt_5068e 1 := ⟨⟨gm_mem 812 (by decide +kernel) rfl, gm_mem 82 (by decide +kernel) rfl, by decide +kernel, rfl, rfl⟩, gm_mem 810 (by decide +kernel) rfl, gm_mem 811 (by decide +kernel) rfl⟩
theorem ok_J0_coder_7d493 : VOk m_J0_coder_7d493 0 := ⟨⟨gm_mem 806 (by decide +kernel) rfl, gm_mem 82 (by decide +kernel) rfl, by decide +kernel, rfl, rfl⟩, gm_mem 804 (by decide +kernel) rfl, gm_mem 805 (by decide +kernel) rfl⟩
theorem ok_J0_length_8abf5 : VOk m_J0_length_8abf5 0 := ⟨⟨gm_mem 802 (by decide +kernel) rfl, gm_mem 82 (by decide +kernel) rfl, by decide +kernel, rfl, rfl⟩, gm_mem 800 (by decide +kernel) rfl, gm_mem 801 (by decide +kernel) rfl⟩
theorem ok_X3_isWord : VOk m_X3_isWord 1 := ⟨⟨gm_mem 798 (by decide +kernel) rfl, gm_mem 76 (by decide +kernel) rfl, by decide +kernel, rfl, rfl⟩, gm_mem 797 (by decide +kernel) rfl, gm_mem 15 (by decide +kernel) rfl⟩
theorem ok_X3_nameOf : SOk m_X3_nameOf 1 := ⟨⟨gm_mem 787 (by decide +kernel) rfl, gm_mem 76 (by decide +kernel) rfl, by decide +kernel, rfl, rfl⟩, gm_mem 786 (by decide +kernel) rfl⟩
theorem ok_X9_isWithin : SOk m_X9_isWithin 3 := ⟨⟨gm_mem 360 (by decide +kernel) rfl, gm_mem 67 (by decide +kernel) rfl, by decide +kernel, rfl, rfl⟩, gm_mem 359 (by decide +kernel) rfl⟩
theorem ok_X3_isNumber : VOk m_X3_isNumber 2 := ⟨⟨gm_mem 863 (by decide +kernel) rfl, gm_mem 76 (by decide +kernel) rfl, by decide +kernel, rfl, rfl⟩, gm_mem 862 (by decide +kernel) rfl, gm_mem 18 (by decide +kernel) rfl⟩
theorem ok_X6_features : VOk m_X6_features 1 := ⟨⟨gm_mem 409 (by decide +kernel) rfl, gm_mem 68 (by decide +kernel) rfl, by decide +kernel, rfl, rfl⟩, gm_mem 407 (by decide +kernel) rfl, gm_mem 408 (by decide +kernel) rfl⟩
theorem ok_X3_takeFeature : VOk m_X3_takeFeature 3 := ⟨⟨gm_mem 857 (by decide +kernel) rfl, gm_mem 76 (by decide +kernel) rfl, by decide +kernel, rfl, rfl⟩, gm_mem 856 (by decide +kernel) rfl, gm_mem 17 (by decide +kernel) rfl⟩
theorem ok_X6_addLine : VOk m_X6_addLine 1 := ⟨⟨gm_mem 373 (by decide +kernel) rfl, gm_mem 68 (by decide +kernel) rfl, by decide +kernel, rfl, rfl⟩, gm_mem 371 (by decide +kernel) rfl, gm_mem 372 (by decide +kernel) rfl⟩
theorem ok_X6_hasRoom : VOk m_X6_hasRoom 0 := ⟨⟨gm_mem 369 (by decide +kernel) rfl, gm_mem 68 (by decide +kernel) rfl, by decide +kernel, rfl, rfl⟩, gm_mem 367 (by decide +kernel) rfl, gm_mem 368 (by decide +kernel) rfl⟩
theorem ok_X3_takeLine : VOk m_X3_takeLine 1 := ⟨⟨gm_mem 850 (by decide +kernel) rfl, gm_mem 76 (by decide +kernel) rfl, by decide +kernel, rfl, rfl⟩, gm_mem 849 (by decide +kernel) rfl, gm_mem 16 (by decide +kernel) rfl⟩
theorem ok_X3_takeDrift : VOk m_X3_takeDrift 1 := ⟨⟨gm_mem 883 (by decide +kernel) rfl, gm_mem 76 (by decide +kernel) rfl, by decide +kernel, rfl, rfl⟩, gm_mem 882 (by decide +kernel) rfl, gm_mem 21 (by decide +kernel) rfl⟩
theorem ok_X3_takeRule : VOk m_X3_takeRule 1 := ⟨⟨gm_mem 875 (by decide +kernel) rfl, gm_mem 76 (by decide +kernel) rfl, by decide +kernel, rfl, rfl⟩, gm_mem 874 (by decide +kernel) rfl, gm_mem 20 (by decide +kernel) rfl⟩
theorem ok_X3_takePace : VOk m_X3_takePace 1 := ⟨⟨gm_mem 871 (by decide +kernel) rfl, gm_mem 76 (by decide +kernel) rfl, by decide +kernel, rfl, rfl⟩, gm_mem 870 (by decide +kernel) rfl, gm_mem 19 (by decide +kernel) rfl⟩
theorem ok_X3_takeItem : VOk m_X3_takeItem 0 := ⟨⟨gm_mem 784 (by decide +kernel) rfl, gm_mem 76 (by decide +kernel) rfl, by decide +kernel, rfl, rfl⟩, gm_mem 783 (by decide +kernel) rfl, gm_mem 14 (by decide +kernel) rfl⟩
theorem ok_X3_tellTo : VOk m_X3_tellTo 2 := ⟨⟨gm_mem 762 (by decide +kernel) rfl, gm_mem 76 (by decide +kernel) rfl, by decide +kernel, rfl, rfl⟩, gm_mem 760 (by decide +kernel) rfl, gm_mem 761 (by decide +kernel) rfl⟩
theorem ok_X4_weigh : VOk m_X4_weigh 2 := ⟨⟨gm_mem 555 (by decide +kernel) rfl, gm_mem 73 (by decide +kernel) rfl, by decide +kernel, rfl, rfl⟩, gm_mem 554 (by decide +kernel) rfl, gm_mem 2 (by decide +kernel) rfl⟩
theorem ok_X6_linesAhead : VOk m_X6_linesAhead 0 := ⟨⟨gm_mem 437 (by decide +kernel) rfl, gm_mem 68 (by decide +kernel) rfl, by decide +kernel, rfl, rfl⟩, gm_mem 435 (by decide +kernel) rfl, gm_mem 436 (by decide +kernel) rfl⟩
theorem ok_X6_takesOf : VOk m_X6_takesOf 2 := ⟨⟨gm_mem 385 (by decide +kernel) rfl, gm_mem 68 (by decide +kernel) rfl, by decide +kernel, rfl, rfl⟩, gm_mem 383 (by decide +kernel) rfl, gm_mem 384 (by decide +kernel) rfl⟩
theorem ok_X6_takesAhead : VOk m_X6_takesAhead 2 := ⟨⟨gm_mem 450 (by decide +kernel) rfl, gm_mem 68 (by decide +kernel) rfl, by decide +kernel, rfl, rfl⟩, gm_mem 448 (by decide +kernel) rfl, gm_mem 449 (by decide +kernel) rfl⟩
theorem ok_X4_offHour : VOk m_X4_offHour 2 := ⟨⟨gm_mem 551 (by decide +kernel) rfl, gm_mem 73 (by decide +kernel) rfl, by decide +kernel, rfl, rfl⟩, gm_mem 549 (by decide +kernel) rfl, gm_mem 550 (by decide +kernel) rfl⟩
theorem ok_X4_nearestWeights : VOk m_X4_nearestWeights 1 := ⟨⟨gm_mem 547 (by decide +kernel) rfl, gm_mem 73 (by decide +kernel) rfl, by decide +kernel, rfl, rfl⟩, gm_mem 545 (by decide +kernel) rfl, gm_mem 546 (by decide +kernel) rfl⟩
theorem ok_X6_unrestAhead : VOk m_X6_unrestAhead 2 := ⟨⟨gm_mem 579 (by decide +kernel) rfl, gm_mem 68 (by decide +kernel) rfl, by decide +kernel, rfl, rfl⟩, gm_mem 577 (by decide +kernel) rfl, gm_mem 578 (by decide +kernel) rfl⟩
theorem ok_X4_calmestEyes : VOk m_X4_calmestEyes 1 := ⟨⟨gm_mem 572 (by decide +kernel) rfl, gm_mem 73 (by decide +kernel) rfl, by decide +kernel, rfl, rfl⟩, gm_mem 570 (by decide +kernel) rfl, gm_mem 571 (by decide +kernel) rfl⟩
theorem ok_X6_tripsOf : VOk m_X6_tripsOf 1 := ⟨⟨gm_mem 395 (by decide +kernel) rfl, gm_mem 68 (by decide +kernel) rfl, by decide +kernel, rfl, rfl⟩, gm_mem 393 (by decide +kernel) rfl, gm_mem 394 (by decide +kernel) rfl⟩
theorem ok_X4_mostTripping : VOk m_X4_mostTripping 1 := ⟨⟨gm_mem 592 (by decide +kernel) rfl, gm_mem 73 (by decide +kernel) rfl, by decide +kernel, rfl, rfl⟩, gm_mem 590 (by decide +kernel) rfl, gm_mem 591 (by decide +kernel) rfl⟩
theorem ok_X4_quickestKind : VOk m_X4_quickestKind 2 := ⟨⟨gm_mem 601 (by decide +kernel) rfl, gm_mem 73 (by decide +kernel) rfl, by decide +kernel, rfl, rfl⟩, gm_mem 599 (by decide +kernel) rfl, gm_mem 600 (by decide +kernel) rfl⟩
theorem ok_J6_bitCount_0f7a4 : SOk m_J6_bitCount_0f7a4 1 := ⟨⟨gm_mem 614 (by decide +kernel) rfl, gm_mem 81 (by decide +kernel) rfl, by decide +kernel, rfl, rfl⟩, gm_mem 613 (by decide +kernel) rfl⟩
theorem ok_X4_easedBy : VOk m_X4_easedBy 2 := ⟨⟨gm_mem 621 (by decide +kernel) rfl, gm_mem 73 (by decide +kernel) rfl, by decide +kernel, rfl, rfl⟩, gm_mem 620 (by decide +kernel) rfl, gm_mem 3 (by decide +kernel) rfl⟩
theorem ok_X6_tripsAhead : VOk m_X6_tripsAhead 0 := ⟨⟨gm_mem 494 (by decide +kernel) rfl, gm_mem 68 (by decide +kernel) rfl, by decide +kernel, rfl, rfl⟩, gm_mem 492 (by decide +kernel) rfl, gm_mem 493 (by decide +kernel) rfl⟩
theorem ok_X4_fewestEased : VOk m_X4_fewestEased 2 := ⟨⟨gm_mem 609 (by decide +kernel) rfl, gm_mem 73 (by decide +kernel) rfl, by decide +kernel, rfl, rfl⟩, gm_mem 607 (by decide +kernel) rfl, gm_mem 608 (by decide +kernel) rfl⟩
theorem ok_X4_fitsHourWithout : VOk m_X4_fitsHourWithout 2 := ⟨⟨gm_mem 637 (by decide +kernel) rfl, gm_mem 73 (by decide +kernel) rfl, by decide +kernel, rfl, rfl⟩, gm_mem 636 (by decide +kernel) rfl, gm_mem 4 (by decide +kernel) rfl⟩
theorem ok_X6_wordsAheadWithout : VOk m_X6_wordsAheadWithout 1 := ⟨⟨gm_mem 633 (by decide +kernel) rfl, gm_mem 68 (by decide +kernel) rfl, by decide +kernel, rfl, rfl⟩, gm_mem 631 (by decide +kernel) rfl, gm_mem 632 (by decide +kernel) rfl⟩
theorem ok_X4_bestLeftOut : VOk m_X4_bestLeftOut 1 := ⟨⟨gm_mem 629 (by decide +kernel) rfl, gm_mem 73 (by decide +kernel) rfl, by decide +kernel, rfl, rfl⟩, gm_mem 627 (by decide +kernel) rfl, gm_mem 628 (by decide +kernel) rfl⟩
theorem ok_X4_takeJust : VOk m_X4_takeJust 2 := ⟨⟨gm_mem 698 (by decide +kernel) rfl, gm_mem 73 (by decide +kernel) rfl, by decide +kernel, rfl, rfl⟩, gm_mem 697 (by decide +kernel) rfl, gm_mem 9 (by decide +kernel) rfl⟩
theorem ok_X4_tallyFits : VOk m_X4_tallyFits 2 := ⟨⟨gm_mem 694 (by decide +kernel) rfl, gm_mem 73 (by decide +kernel) rfl, by decide +kernel, rfl, rfl⟩, gm_mem 692 (by decide +kernel) rfl, gm_mem 693 (by decide +kernel) rfl⟩
theorem ok_X5_canHave : SOk m_X5_canHave 1 := ⟨⟨gm_mem 909 (by decide +kernel) rfl, gm_mem 77 (by decide +kernel) rfl, by decide +kernel, rfl, rfl⟩, gm_mem 908 (by decide +kernel) rfl⟩
theorem ok_X5_isMissing : VOk m_X5_isMissing 0 := ⟨⟨gm_mem 690 (by decide +kernel) rfl, gm_mem 77 (by decide +kernel) rfl, by decide +kernel, rfl, rfl⟩, gm_mem 688 (by decide +kernel) rfl, gm_mem 689 (by decide +kernel) rfl⟩
theorem ok_J7_fill_53178 : SOk m_J7_fill_53178 2 := ⟨⟨gm_mem 107 (by decide +kernel) rfl, gm_mem 70 (by decide +kernel) rfl, by decide +kernel, rfl, rfl⟩, gm_mem 106 (by decide +kernel) rfl⟩
theorem ok_X5_begin : VOk m_X5_begin 2 := ⟨⟨gm_mem 913 (by decide +kernel) rfl, gm_mem 77 (by decide +kernel) rfl, by decide +kernel, rfl, rfl⟩, gm_mem 911 (by decide +kernel) rfl, gm_mem 912 (by decide +kernel) rfl⟩
theorem ok_X5_hasPart : VOk m_X5_hasPart 2 := ⟨⟨gm_mem 930 (by decide +kernel) rfl, gm_mem 77 (by decide +kernel) rfl, by decide +kernel, rfl, rfl⟩, gm_mem 928 (by decide +kernel) rfl, gm_mem 929 (by decide +kernel) rfl⟩
theorem ok_X5_put : VOk m_X5_put 2 := ⟨⟨gm_mem 922 (by decide +kernel) rfl, gm_mem 77 (by decide +kernel) rfl, by decide +kernel, rfl, rfl⟩, gm_mem 920 (by decide +kernel) rfl, gm_mem 921 (by decide +kernel) rfl⟩
theorem ok_X6_become : VOk m_X6_become 1 := ⟨⟨gm_mem 738 (by decide +kernel) rfl, gm_mem 68 (by decide +kernel) rfl, by decide +kernel, rfl, rfl⟩, gm_mem 736 (by decide +kernel) rfl, gm_mem 737 (by decide +kernel) rfl⟩
theorem ok_X6_isLine : VOk m_X6_isLine 1 := ⟨⟨gm_mem 381 (by decide +kernel) rfl, gm_mem 68 (by decide +kernel) rfl, by decide +kernel, rfl, rfl⟩, gm_mem 379 (by decide +kernel) rfl, gm_mem 380 (by decide +kernel) rfl⟩
theorem ok_X6_sumOf : VOk m_X6_sumOf 1 := ⟨⟨gm_mem 968 (by decide +kernel) rfl, gm_mem 68 (by decide +kernel) rfl, by decide +kernel, rfl, rfl⟩, gm_mem 966 (by decide +kernel) rfl, gm_mem 967 (by decide +kernel) rfl⟩
theorem ok_X6_spotsHeld : VOk m_X6_spotsHeld 0 := ⟨⟨gm_mem 972 (by decide +kernel) rfl, gm_mem 68 (by decide +kernel) rfl, by decide +kernel, rfl, rfl⟩, gm_mem 970 (by decide +kernel) rfl, gm_mem 971 (by decide +kernel) rfl⟩
theorem ok_X6_seenOf : VOk m_X6_seenOf 1 := ⟨⟨gm_mem 402 (by decide +kernel) rfl, gm_mem 68 (by decide +kernel) rfl, by decide +kernel, rfl, rfl⟩, gm_mem 400 (by decide +kernel) rfl, gm_mem 401 (by decide +kernel) rfl⟩
theorem ok_X6_seenAhead : VOk m_X6_seenAhead 0 := ⟨⟨gm_mem 498 (by decide +kernel) rfl, gm_mem 68 (by decide +kernel) rfl, by decide +kernel, rfl, rfl⟩, gm_mem 496 (by decide +kernel) rfl, gm_mem 497 (by decide +kernel) rfl⟩
theorem ok_X6_takeWords : VOk m_X6_takeWords 1 := ⟨⟨gm_mem 939 (by decide +kernel) rfl, gm_mem 68 (by decide +kernel) rfl, by decide +kernel, rfl, rfl⟩, gm_mem 937 (by decide +kernel) rfl, gm_mem 938 (by decide +kernel) rfl⟩
theorem ok_X6_turnPaces : VOk m_X6_turnPaces 1 := ⟨⟨gm_mem 472 (by decide +kernel) rfl, gm_mem 68 (by decide +kernel) rfl, by decide +kernel, rfl, rfl⟩, gm_mem 470 (by decide +kernel) rfl, gm_mem 471 (by decide +kernel) rfl⟩
theorem ok_X6_readOne : VOk m_X6_readOne 1 := ⟨⟨gm_mem 466 (by decide +kernel) rfl, gm_mem 68 (by decide +kernel) rfl, by decide +kernel, rfl, rfl⟩, gm_mem 464 (by decide +kernel) rfl, gm_mem 465 (by decide +kernel) rfl⟩
theorem ok_X6_draw : VOk m_X6_draw 0 := ⟨⟨gm_mem 728 (by decide +kernel) rfl, gm_mem 68 (by decide +kernel) rfl, by decide +kernel, rfl, rfl⟩, gm_mem 726 (by decide +kernel) rfl, gm_mem 727 (by decide +kernel) rfl⟩
theorem ok_X6_spendEvening : VOk m_X6_spendEvening 2 := ⟨⟨gm_mem 723 (by decide +kernel) rfl, gm_mem 68 (by decide +kernel) rfl, by decide +kernel, rfl, rfl⟩, gm_mem 721 (by decide +kernel) rfl, gm_mem 722 (by decide +kernel) rfl⟩
theorem ok_X7_append : VOk m_X7_append 2 := ⟨⟨gm_mem 750 (by decide +kernel) rfl, gm_mem 75 (by decide +kernel) rfl, by decide +kernel, rfl, rfl⟩, gm_mem 748 (by decide +kernel) rfl, gm_mem 749 (by decide +kernel) rfl⟩
theorem ok_X8_byJump : VOk m_X8_byJump 2 := ⟨⟨gm_mem 661 (by decide +kernel) rfl, gm_mem 74 (by decide +kernel) rfl, by decide +kernel, rfl, rfl⟩, gm_mem 660 (by decide +kernel) rfl, gm_mem 6 (by decide +kernel) rfl⟩
theorem ok_X8_measure : VOk m_X8_measure 3 := ⟨⟨gm_mem 656 (by decide +kernel) rfl, gm_mem 74 (by decide +kernel) rfl, by decide +kernel, rfl, rfl⟩, gm_mem 654 (by decide +kernel) rfl, gm_mem 655 (by decide +kernel) rfl⟩
theorem ok_X8_shortest : VOk m_X8_shortest 1 := ⟨⟨gm_mem 666 (by decide +kernel) rfl, gm_mem 74 (by decide +kernel) rfl, by decide +kernel, rfl, rfl⟩, gm_mem 664 (by decide +kernel) rfl, gm_mem 665 (by decide +kernel) rfl⟩
theorem ok_X8_shortestJump : VOk m_X8_shortestJump 2 := ⟨⟨gm_mem 678 (by decide +kernel) rfl, gm_mem 74 (by decide +kernel) rfl, by decide +kernel, rfl, rfl⟩, gm_mem 677 (by decide +kernel) rfl, gm_mem 7 (by decide +kernel) rfl⟩
theorem ok_X8_linesRead : VOk m_X8_linesRead 2 := ⟨⟨gm_mem 674 (by decide +kernel) rfl, gm_mem 74 (by decide +kernel) rfl, by decide +kernel, rfl, rfl⟩, gm_mem 672 (by decide +kernel) rfl, gm_mem 673 (by decide +kernel) rfl⟩
theorem ok_X9_finding : VOk m_X9_finding 1 := ⟨⟨gm_mem 364 (by decide +kernel) rfl, gm_mem 67 (by decide +kernel) rfl, by decide +kernel, rfl, rfl⟩, gm_mem 363 (by decide +kernel) rfl, gm_mem 0 (by decide +kernel) rfl⟩
theorem ok_X9_line : VOk m_X9_line 1 := ⟨⟨gm_mem 357 (by decide +kernel) rfl, gm_mem 67 (by decide +kernel) rfl, by decide +kernel, rfl, rfl⟩, gm_mem 355 (by decide +kernel) rfl, gm_mem 356 (by decide +kernel) rfl⟩
theorem ok_X9_of : VOk m_X9_of 2 := ⟨⟨gm_mem 377 (by decide +kernel) rfl, gm_mem 67 (by decide +kernel) rfl, by decide +kernel, rfl, rfl⟩, gm_mem 375 (by decide +kernel) rfl, gm_mem 376 (by decide +kernel) rfl⟩
theorem ok_X9_change : VOk m_X9_change 3 := ⟨⟨gm_mem 413 (by decide +kernel) rfl, gm_mem 67 (by decide +kernel) rfl, by decide +kernel, rfl, rfl⟩, gm_mem 411 (by decide +kernel) rfl, gm_mem 412 (by decide +kernel) rfl⟩
theorem ok_X9_rule : VOk m_X9_rule 2 := ⟨⟨gm_mem 421 (by decide +kernel) rfl, gm_mem 67 (by decide +kernel) rfl, by decide +kernel, rfl, rfl⟩, gm_mem 419 (by decide +kernel) rfl, gm_mem 420 (by decide +kernel) rfl⟩
theorem ok_X9_ruled : VOk m_X9_ruled 1 := ⟨⟨gm_mem 429 (by decide +kernel) rfl, gm_mem 67 (by decide +kernel) rfl, by decide +kernel, rfl, rfl⟩, gm_mem 427 (by decide +kernel) rfl, gm_mem 428 (by decide +kernel) rfl⟩
theorem ok_X9_takesAhead : VOk m_X9_takesAhead 1 := ⟨⟨gm_mem 442 (by decide +kernel) rfl, gm_mem 67 (by decide +kernel) rfl, by decide +kernel, rfl, rfl⟩, gm_mem 441 (by decide +kernel) rfl, gm_mem 1 (by decide +kernel) rfl⟩
theorem ok_X9_read : VOk m_X9_read 1 := ⟨⟨gm_mem 433 (by decide +kernel) rfl, gm_mem 67 (by decide +kernel) rfl, by decide +kernel, rfl, rfl⟩, gm_mem 431 (by decide +kernel) rfl, gm_mem 432 (by decide +kernel) rfl⟩
theorem ok_X9_go : VOk m_X9_go 1 := ⟨⟨gm_mem 477 (by decide +kernel) rfl, gm_mem 67 (by decide +kernel) rfl, by decide +kernel, rfl, rfl⟩, gm_mem 475 (by decide +kernel) rfl, gm_mem 476 (by decide +kernel) rfl⟩
theorem ok_X9_turn : VOk m_X9_turn 0 := ⟨⟨gm_mem 481 (by decide +kernel) rfl, gm_mem 67 (by decide +kernel) rfl, by decide +kernel, rfl, rfl⟩, gm_mem 479 (by decide +kernel) rfl, gm_mem 480 (by decide +kernel) rfl⟩
theorem ok_X9_now : VOk m_X9_now 1 := ⟨⟨gm_mem 486 (by decide +kernel) rfl, gm_mem 67 (by decide +kernel) rfl, by decide +kernel, rfl, rfl⟩, gm_mem 484 (by decide +kernel) rfl, gm_mem 485 (by decide +kernel) rfl⟩
theorem ok_X9_rest : VOk m_X9_rest 1 := ⟨⟨gm_mem 490 (by decide +kernel) rfl, gm_mem 67 (by decide +kernel) rfl, by decide +kernel, rfl, rfl⟩, gm_mem 488 (by decide +kernel) rfl, gm_mem 489 (by decide +kernel) rfl⟩
theorem ok_X9_pace : VOk m_X9_pace 2 := ⟨⟨gm_mem 502 (by decide +kernel) rfl, gm_mem 67 (by decide +kernel) rfl, by decide +kernel, rfl, rfl⟩, gm_mem 500 (by decide +kernel) rfl, gm_mem 501 (by decide +kernel) rfl⟩
theorem ok_X9_sign : VOk m_X9_sign 0 := ⟨⟨gm_mem 507 (by decide +kernel) rfl, gm_mem 67 (by decide +kernel) rfl, by decide +kernel, rfl, rfl⟩, gm_mem 505 (by decide +kernel) rfl, gm_mem 506 (by decide +kernel) rfl⟩
theorem ok_X9_round : VOk m_X9_round 1 := ⟨⟨gm_mem 520 (by decide +kernel) rfl, gm_mem 67 (by decide +kernel) rfl, by decide +kernel, rfl, rfl⟩, gm_mem 518 (by decide +kernel) rfl, gm_mem 519 (by decide +kernel) rfl⟩
theorem ok_X9_leads : VOk m_X9_leads 0 := ⟨⟨gm_mem 536 (by decide +kernel) rfl, gm_mem 67 (by decide +kernel) rfl, by decide +kernel, rfl, rfl⟩, gm_mem 534 (by decide +kernel) rfl, gm_mem 535 (by decide +kernel) rfl⟩
theorem ok_X9_found : VOk m_X9_found 0 := ⟨⟨gm_mem 543 (by decide +kernel) rfl, gm_mem 67 (by decide +kernel) rfl, by decide +kernel, rfl, rfl⟩, gm_mem 541 (by decide +kernel) rfl, gm_mem 542 (by decide +kernel) rfl⟩
theorem ok_X9_off : VOk m_X9_off 0 := ⟨⟨gm_mem 563 (by decide +kernel) rfl, gm_mem 67 (by decide +kernel) rfl, by decide +kernel, rfl, rfl⟩, gm_mem 561 (by decide +kernel) rfl, gm_mem 562 (by decide +kernel) rfl⟩
theorem ok_X9_grid : VOk m_X9_grid 0 := ⟨⟨gm_mem 568 (by decide +kernel) rfl, gm_mem 67 (by decide +kernel) rfl, by decide +kernel, rfl, rfl⟩, gm_mem 566 (by decide +kernel) rfl, gm_mem 567 (by decide +kernel) rfl⟩
theorem ok_X9_worst : VOk m_X9_worst 0 := ⟨⟨gm_mem 583 (by decide +kernel) rfl, gm_mem 67 (by decide +kernel) rfl, by decide +kernel, rfl, rfl⟩, gm_mem 581 (by decide +kernel) rfl, gm_mem 582 (by decide +kernel) rfl⟩
theorem ok_X9_trips : VOk m_X9_trips 0 := ⟨⟨gm_mem 588 (by decide +kernel) rfl, gm_mem 67 (by decide +kernel) rfl, by decide +kernel, rfl, rfl⟩, gm_mem 586 (by decide +kernel) rfl, gm_mem 587 (by decide +kernel) rfl⟩
theorem ok_X9_kindFor : VOk m_X9_kindFor 1 := ⟨⟨gm_mem 597 (by decide +kernel) rfl, gm_mem 67 (by decide +kernel) rfl, by decide +kernel, rfl, rfl⟩, gm_mem 595 (by decide +kernel) rfl, gm_mem 596 (by decide +kernel) rfl⟩
theorem ok_X9_ease : VOk m_X9_ease 1 := ⟨⟨gm_mem 605 (by decide +kernel) rfl, gm_mem 67 (by decide +kernel) rfl, by decide +kernel, rfl, rfl⟩, gm_mem 603 (by decide +kernel) rfl, gm_mem 604 (by decide +kernel) rfl⟩
theorem ok_X9_fit : VOk m_X9_fit 0 := ⟨⟨gm_mem 625 (by decide +kernel) rfl, gm_mem 67 (by decide +kernel) rfl, by decide +kernel, rfl, rfl⟩, gm_mem 623 (by decide +kernel) rfl, gm_mem 624 (by decide +kernel) rfl⟩
theorem ok_X9_kept : VOk m_X9_kept 0 := ⟨⟨gm_mem 643 (by decide +kernel) rfl, gm_mem 67 (by decide +kernel) rfl, by decide +kernel, rfl, rfl⟩, gm_mem 641 (by decide +kernel) rfl, gm_mem 642 (by decide +kernel) rfl⟩
theorem ok_X9_isWay : VOk m_X9_isWay 2 := ⟨⟨gm_mem 652 (by decide +kernel) rfl, gm_mem 67 (by decide +kernel) rfl, by decide +kernel, rfl, rfl⟩, gm_mem 651 (by decide +kernel) rfl, gm_mem 5 (by decide +kernel) rfl⟩
theorem ok_X9_jump : VOk m_X9_jump 2 := ⟨⟨gm_mem 648 (by decide +kernel) rfl, gm_mem 67 (by decide +kernel) rfl, by decide +kernel, rfl, rfl⟩, gm_mem 646 (by decide +kernel) rfl, gm_mem 647 (by decide +kernel) rfl⟩
theorem ok_X9_jumped : VOk m_X9_jumped 2 := ⟨⟨gm_mem 670 (by decide +kernel) rfl, gm_mem 67 (by decide +kernel) rfl, by decide +kernel, rfl, rfl⟩, gm_mem 668 (by decide +kernel) rfl, gm_mem 669 (by decide +kernel) rfl⟩
theorem ok_X9_isSheet : VOk m_X9_isSheet 1 := ⟨⟨gm_mem 686 (by decide +kernel) rfl, gm_mem 67 (by decide +kernel) rfl, by decide +kernel, rfl, rfl⟩, gm_mem 685 (by decide +kernel) rfl, gm_mem 8 (by decide +kernel) rfl⟩
theorem ok_X9_fits : VOk m_X9_fits 1 := ⟨⟨gm_mem 682 (by decide +kernel) rfl, gm_mem 67 (by decide +kernel) rfl, by decide +kernel, rfl, rfl⟩, gm_mem 680 (by decide +kernel) rfl, gm_mem 681 (by decide +kernel) rfl⟩
theorem ok_X9_led : VOk m_X9_led 1 := ⟨⟨gm_mem 703 (by decide +kernel) rfl, gm_mem 67 (by decide +kernel) rfl, by decide +kernel, rfl, rfl⟩, gm_mem 701 (by decide +kernel) rfl, gm_mem 702 (by decide +kernel) rfl⟩
theorem ok_X9_commonDivisor : SOk m_X9_commonDivisor 2 := ⟨⟨gm_mem 710 (by decide +kernel) rfl, gm_mem 67 (by decide +kernel) rfl, by decide +kernel, rfl, rfl⟩, gm_mem 709 (by decide +kernel) rfl⟩
theorem ok_X9_part : VOk m_X9_part 2 := ⟨⟨gm_mem 707 (by decide +kernel) rfl, gm_mem 67 (by decide +kernel) rfl, by decide +kernel, rfl, rfl⟩, gm_mem 705 (by decide +kernel) rfl, gm_mem 706 (by decide +kernel) rfl⟩
theorem ok_X9_stays : VOk m_X9_stays 2 := ⟨⟨gm_mem 714 (by decide +kernel) rfl, gm_mem 67 (by decide +kernel) rfl, by decide +kernel, rfl, rfl⟩, gm_mem 712 (by decide +kernel) rfl, gm_mem 713 (by decide +kernel) rfl⟩
theorem ok_X9_evening : VOk m_X9_evening 1 := ⟨⟨gm_mem 718 (by decide +kernel) rfl, gm_mem 67 (by decide +kernel) rfl, by decide +kernel, rfl, rfl⟩, gm_mem 716 (by decide +kernel) rfl, gm_mem 717 (by decide +kernel) rfl⟩
theorem ok_X9_ahead : VOk m_X9_ahead 1 := ⟨⟨gm_mem 734 (by decide +kernel) rfl, gm_mem 67 (by decide +kernel) rfl, by decide +kernel, rfl, rfl⟩, gm_mem 732 (by decide +kernel) rfl, gm_mem 733 (by decide +kernel) rfl⟩
theorem ok_X9_seed : VOk m_X9_seed 1 := ⟨⟨gm_mem 742 (by decide +kernel) rfl, gm_mem 67 (by decide +kernel) rfl, by decide +kernel, rfl, rfl⟩, gm_mem 740 (by decide +kernel) rfl, gm_mem 741 (by decide +kernel) rfl⟩
theorem ok_X9_feed : VOk m_X9_feed 2 := ⟨⟨gm_mem 746 (by decide +kernel) rfl, gm_mem 67 (by decide +kernel) rfl, by decide +kernel, rfl, rfl⟩, gm_mem 744 (by decide +kernel) rfl, gm_mem 745 (by decide +kernel) rfl⟩
theorem ok_X9_wipe : VOk m_X9_wipe 0 := ⟨⟨gm_mem 754 (by decide +kernel) rfl, gm_mem 67 (by decide +kernel) rfl, by decide +kernel, rfl, rfl⟩, gm_mem 752 (by decide +kernel) rfl, gm_mem 753 (by decide +kernel) rfl⟩
theorem ok_X9_text : VOk m_X9_text 0 := ⟨⟨gm_mem 758 (by decide +kernel) rfl, gm_mem 67 (by decide +kernel) rfl, by decide +kernel, rfl, rfl⟩, gm_mem 756 (by decide +kernel) rfl, gm_mem 757 (by decide +kernel) rfl⟩
theorem ok_X9_hold : VOk m_X9_hold 2 := ⟨⟨gm_mem 893 (by decide +kernel) rfl, gm_mem 67 (by decide +kernel) rfl, by decide +kernel, rfl, rfl⟩, gm_mem 891 (by decide +kernel) rfl, gm_mem 892 (by decide +kernel) rfl⟩
theorem ok_X9_as : VOk m_X9_as 2 := ⟨⟨gm_mem 897 (by decide +kernel) rfl, gm_mem 67 (by decide +kernel) rfl, by decide +kernel, rfl, rfl⟩, gm_mem 895 (by decide +kernel) rfl, gm_mem 896 (by decide +kernel) rfl⟩
theorem ok_X9_sheet : VOk m_X9_sheet 3 := ⟨⟨gm_mem 906 (by decide +kernel) rfl, gm_mem 67 (by decide +kernel) rfl, by decide +kernel, rfl, rfl⟩, gm_mem 904 (by decide +kernel) rfl, gm_mem 905 (by decide +kernel) rfl⟩
theorem ok_X9_write : VOk m_X9_write 3 := ⟨⟨gm_mem 918 (by decide +kernel) rfl, gm_mem 67 (by decide +kernel) rfl, by decide +kernel, rfl, rfl⟩, gm_mem 916 (by decide +kernel) rfl, gm_mem 917 (by decide +kernel) rfl⟩
theorem ok_X9_copy : VOk m_X9_copy 5 := ⟨⟨gm_mem 926 (by decide +kernel) rfl, gm_mem 67 (by decide +kernel) rfl, by decide +kernel, rfl, rfl⟩, gm_mem 924 (by decide +kernel) rfl, gm_mem 925 (by decide +kernel) rfl⟩
theorem ok_X9_load : VOk m_X9_load 1 := ⟨⟨gm_mem 935 (by decide +kernel) rfl, gm_mem 67 (by decide +kernel) rfl, by decide +kernel, rfl, rfl⟩, gm_mem 933 (by decide +kernel) rfl, gm_mem 934 (by decide +kernel) rfl⟩
theorem ok_X9_firstWrongTime : VOk m_X9_firstWrongTime 1 := ⟨⟨gm_mem 948 (by decide +kernel) rfl, gm_mem 67 (by decide +kernel) rfl, by decide +kernel, rfl, rfl⟩, gm_mem 947 (by decide +kernel) rfl, gm_mem 22 (by decide +kernel) rfl⟩
theorem ok_X9_judge : VOk m_X9_judge 1 := ⟨⟨gm_mem 944 (by decide +kernel) rfl, gm_mem 67 (by decide +kernel) rfl, by decide +kernel, rfl, rfl⟩, gm_mem 942 (by decide +kernel) rfl, gm_mem 943 (by decide +kernel) rfl⟩
theorem ok_X9_image : VOk m_X9_image 0 := ⟨⟨gm_mem 952 (by decide +kernel) rfl, gm_mem 67 (by decide +kernel) rfl, by decide +kernel, rfl, rfl⟩, gm_mem 950 (by decide +kernel) rfl, gm_mem 951 (by decide +kernel) rfl⟩
theorem ok_X9_undo : VOk m_X9_undo 0 := ⟨⟨gm_mem 956 (by decide +kernel) rfl, gm_mem 67 (by decide +kernel) rfl, by decide +kernel, rfl, rfl⟩, gm_mem 954 (by decide +kernel) rfl, gm_mem 955 (by decide +kernel) rfl⟩
theorem ok_X9_tear : VOk m_X9_tear 0 := ⟨⟨gm_mem 960 (by decide +kernel) rfl, gm_mem 67 (by decide +kernel) rfl, by decide +kernel, rfl, rfl⟩, gm_mem 958 (by decide +kernel) rfl, gm_mem 959 (by decide +kernel) rfl⟩
theorem ok_X9_count : VOk m_X9_count 1 := ⟨⟨gm_mem 964 (by decide +kernel) rfl, gm_mem 67 (by decide +kernel) rfl, by decide +kernel, rfl, rfl⟩, gm_mem 962 (by decide +kernel) rfl, gm_mem 963 (by decide +kernel) rfl⟩
theorem ok_X9_status : VOk m_X9_status 1 := ⟨⟨gm_mem 976 (by decide +kernel) rfl, gm_mem 67 (by decide +kernel) rfl, by decide +kernel, rfl, rfl⟩, gm_mem 974 (by decide +kernel) rfl, gm_mem 975 (by decide +kernel) rfl⟩
theorem ok_X10_finding : VOk m_X10_finding 1 := ⟨⟨gm_mem 1091 (by decide +kernel) rfl, gm_mem 78 (by decide +kernel) rfl, by decide +kernel, rfl, rfl⟩, gm_mem 1090 (by decide +kernel) rfl, gm_mem 23 (by decide +kernel) rfl⟩
theorem ok_X10_within : SOk m_X10_within 3 := ⟨⟨gm_mem 1086 (by decide +kernel) rfl, gm_mem 78 (by decide +kernel) rfl, by decide +kernel, rfl, rfl⟩, gm_mem 1085 (by decide +kernel) rfl⟩
theorem ok_X10_become : VOk m_X10_become 2 := ⟨⟨gm_mem 1132 (by decide +kernel) rfl, gm_mem 78 (by decide +kernel) rfl, by decide +kernel, rfl, rfl⟩, gm_mem 1131 (by decide +kernel) rfl, gm_mem 30 (by decide +kernel) rfl⟩
theorem ok_X10_copyRow : SOk m_X10_copyRow 2 := ⟨⟨gm_mem 1162 (by decide +kernel) rfl, gm_mem 78 (by decide +kernel) rfl, by decide +kernel, rfl, rfl⟩, gm_mem 1161 (by decide +kernel) rfl⟩
theorem ok_X10_putBack : VOk m_X10_putBack 1 := ⟨⟨gm_mem 1183 (by decide +kernel) rfl, gm_mem 78 (by decide +kernel) rfl, by decide +kernel, rfl, rfl⟩, gm_mem 1182 (by decide +kernel) rfl, gm_mem 35 (by decide +kernel) rfl⟩
theorem ok_X10_has : SOk m_X10_has 2 := ⟨⟨gm_mem 1277 (by decide +kernel) rfl, gm_mem 78 (by decide +kernel) rfl, by decide +kernel, rfl, rfl⟩, gm_mem 1276 (by decide +kernel) rfl⟩
theorem ok_X10_bits : SOk m_X10_bits 1 := ⟨⟨gm_mem 1284 (by decide +kernel) rfl, gm_mem 78 (by decide +kernel) rfl, by decide +kernel, rfl, rfl⟩, gm_mem 1283 (by decide +kernel) rfl⟩
theorem ok_X10_isLine : VOk m_X10_isLine 1 := ⟨⟨gm_mem 1107 (by decide +kernel) rfl, gm_mem 78 (by decide +kernel) rfl, by decide +kernel, rfl, rfl⟩, gm_mem 1106 (by decide +kernel) rfl, gm_mem 25 (by decide +kernel) rfl⟩
theorem ok_X10_isKind : SOk m_X10_isKind 1 := ⟨⟨gm_mem 1083 (by decide +kernel) rfl, gm_mem 78 (by decide +kernel) rfl, by decide +kernel, rfl, rfl⟩, gm_mem 1082 (by decide +kernel) rfl⟩
theorem ok_X10_at : SOk m_X10_at 2 := ⟨⟨gm_mem 1099 (by decide +kernel) rfl, gm_mem 78 (by decide +kernel) rfl, by decide +kernel, rfl, rfl⟩, gm_mem 1098 (by decide +kernel) rfl⟩
theorem ok_X10_lineIs : VOk m_X10_lineIs 2 := ⟨⟨gm_mem 1111 (by decide +kernel) rfl, gm_mem 78 (by decide +kernel) rfl, by decide +kernel, rfl, rfl⟩, gm_mem 1110 (by decide +kernel) rfl, gm_mem 26 (by decide +kernel) rfl⟩
theorem ok_X10_comes : VOk m_X10_comes 3 := ⟨⟨gm_mem 1096 (by decide +kernel) rfl, gm_mem 78 (by decide +kernel) rfl, by decide +kernel, rfl, rfl⟩, gm_mem 1095 (by decide +kernel) rfl, gm_mem 24 (by decide +kernel) rfl⟩
theorem ok_X10_line : VOk m_X10_line 1 := ⟨⟨gm_mem 1080 (by decide +kernel) rfl, gm_mem 78 (by decide +kernel) rfl, by decide +kernel, rfl, rfl⟩, gm_mem 1078 (by decide +kernel) rfl, gm_mem 1079 (by decide +kernel) rfl⟩
theorem ok_X10_above : SOk m_X10_above 1 := ⟨⟨gm_mem 1467 (by decide +kernel) rfl, gm_mem 78 (by decide +kernel) rfl, by decide +kernel, rfl, rfl⟩, gm_mem 1466 (by decide +kernel) rfl⟩
theorem ok_X10_isUnder : SOk m_X10_isUnder 2 := ⟨⟨gm_mem 1464 (by decide +kernel) rfl, gm_mem 78 (by decide +kernel) rfl, by decide +kernel, rfl, rfl⟩, gm_mem 1463 (by decide +kernel) rfl⟩
theorem ok_X10_takes : VOk m_X10_takes 1 := ⟨⟨gm_mem 1115 (by decide +kernel) rfl, gm_mem 78 (by decide +kernel) rfl, by decide +kernel, rfl, rfl⟩, gm_mem 1114 (by decide +kernel) rfl, gm_mem 27 (by decide +kernel) rfl⟩
theorem ok_X10_trips : VOk m_X10_trips 1 := ⟨⟨gm_mem 1120 (by decide +kernel) rfl, gm_mem 78 (by decide +kernel) rfl, by decide +kernel, rfl, rfl⟩, gm_mem 1119 (by decide +kernel) rfl, gm_mem 28 (by decide +kernel) rfl⟩
theorem ok_X10_seen : VOk m_X10_seen 1 := ⟨⟨gm_mem 1124 (by decide +kernel) rfl, gm_mem 78 (by decide +kernel) rfl, by decide +kernel, rfl, rfl⟩, gm_mem 1123 (by decide +kernel) rfl, gm_mem 29 (by decide +kernel) rfl⟩
theorem ok_X10_of : VOk m_X10_of 2 := ⟨⟨gm_mem 1103 (by decide +kernel) rfl, gm_mem 78 (by decide +kernel) rfl, by decide +kernel, rfl, rfl⟩, gm_mem 1101 (by decide +kernel) rfl, gm_mem 1102 (by decide +kernel) rfl⟩
theorem ok_X10_change : VOk m_X10_change 3 := ⟨⟨gm_mem 1128 (by decide +kernel) rfl, gm_mem 78 (by decide +kernel) rfl, by decide +kernel, rfl, rfl⟩, gm_mem 1126 (by decide +kernel) rfl, gm_mem 1127 (by decide +kernel) rfl⟩
theorem ok_X10_isRule : SOk m_X10_isRule 1 := ⟨⟨gm_mem 1139 (by decide +kernel) rfl, gm_mem 78 (by decide +kernel) rfl, by decide +kernel, rfl, rfl⟩, gm_mem 1138 (by decide +kernel) rfl⟩
theorem ok_X10_least : SOk m_X10_least 1 := ⟨⟨gm_mem 1142 (by decide +kernel) rfl, gm_mem 78 (by decide +kernel) rfl, by decide +kernel, rfl, rfl⟩, gm_mem 1141 (by decide +kernel) rfl⟩
theorem ok_X10_most : SOk m_X10_most 1 := ⟨⟨gm_mem 1145 (by decide +kernel) rfl, gm_mem 78 (by decide +kernel) rfl, by decide +kernel, rfl, rfl⟩, gm_mem 1144 (by decide +kernel) rfl⟩
theorem ok_X10_rule : VOk m_X10_rule 2 := ⟨⟨gm_mem 1136 (by decide +kernel) rfl, gm_mem 78 (by decide +kernel) rfl, by decide +kernel, rfl, rfl⟩, gm_mem 1134 (by decide +kernel) rfl, gm_mem 1135 (by decide +kernel) rfl⟩
theorem ok_X10_ruled : VOk m_X10_ruled 1 := ⟨⟨gm_mem 1150 (by decide +kernel) rfl, gm_mem 78 (by decide +kernel) rfl, by decide +kernel, rfl, rfl⟩, gm_mem 1148 (by decide +kernel) rfl, gm_mem 1149 (by decide +kernel) rfl⟩
theorem ok_X10_held : SOk m_X10_held 1 := ⟨⟨gm_mem 1177 (by decide +kernel) rfl, gm_mem 78 (by decide +kernel) rfl, by decide +kernel, rfl, rfl⟩, gm_mem 1176 (by decide +kernel) rfl⟩
theorem ok_X10_turns : VOk m_X10_turns 0 := ⟨⟨gm_mem 1174 (by decide +kernel) rfl, gm_mem 78 (by decide +kernel) rfl, by decide +kernel, rfl, rfl⟩, gm_mem 1173 (by decide +kernel) rfl, gm_mem 34 (by decide +kernel) rfl⟩
theorem ok_X10_reads : VOk m_X10_reads 0 := ⟨⟨gm_mem 1170 (by decide +kernel) rfl, gm_mem 78 (by decide +kernel) rfl, by decide +kernel, rfl, rfl⟩, gm_mem 1169 (by decide +kernel) rfl, gm_mem 33 (by decide +kernel) rfl⟩
theorem ok_X10_readsOn : VOk m_X10_readsOn 1 := ⟨⟨gm_mem 1166 (by decide +kernel) rfl, gm_mem 78 (by decide +kernel) rfl, by decide +kernel, rfl, rfl⟩, gm_mem 1165 (by decide +kernel) rfl, gm_mem 32 (by decide +kernel) rfl⟩
theorem ok_X10_left : VOk m_X10_left 0 := ⟨⟨gm_mem 1158 (by decide +kernel) rfl, gm_mem 78 (by decide +kernel) rfl, by decide +kernel, rfl, rfl⟩, gm_mem 1157 (by decide +kernel) rfl, gm_mem 31 (by decide +kernel) rfl⟩
theorem ok_X10_read : VOk m_X10_read 1 := ⟨⟨gm_mem 1154 (by decide +kernel) rfl, gm_mem 78 (by decide +kernel) rfl, by decide +kernel, rfl, rfl⟩, gm_mem 1152 (by decide +kernel) rfl, gm_mem 1153 (by decide +kernel) rfl⟩
theorem ok_X10_go : VOk m_X10_go 1 := ⟨⟨gm_mem 1187 (by decide +kernel) rfl, gm_mem 78 (by decide +kernel) rfl, by decide +kernel, rfl, rfl⟩, gm_mem 1185 (by decide +kernel) rfl, gm_mem 1186 (by decide +kernel) rfl⟩
theorem ok_X10_turn : VOk m_X10_turn 0 := ⟨⟨gm_mem 1191 (by decide +kernel) rfl, gm_mem 78 (by decide +kernel) rfl, by decide +kernel, rfl, rfl⟩, gm_mem 1189 (by decide +kernel) rfl, gm_mem 1190 (by decide +kernel) rfl⟩
theorem ok_X10_now : VOk m_X10_now 1 := ⟨⟨gm_mem 1195 (by decide +kernel) rfl, gm_mem 78 (by decide +kernel) rfl, by decide +kernel, rfl, rfl⟩, gm_mem 1193 (by decide +kernel) rfl, gm_mem 1194 (by decide +kernel) rfl⟩
theorem ok_X10_restTakes : VOk m_X10_restTakes 0 := ⟨⟨gm_mem 1203 (by decide +kernel) rfl, gm_mem 78 (by decide +kernel) rfl, by decide +kernel, rfl, rfl⟩, gm_mem 1202 (by decide +kernel) rfl, gm_mem 36 (by decide +kernel) rfl⟩
theorem ok_X10_restTrips : VOk m_X10_restTrips 0 := ⟨⟨gm_mem 1207 (by decide +kernel) rfl, gm_mem 78 (by decide +kernel) rfl, by decide +kernel, rfl, rfl⟩, gm_mem 1206 (by decide +kernel) rfl, gm_mem 37 (by decide +kernel) rfl⟩
theorem ok_X10_restSeen : VOk m_X10_restSeen 0 := ⟨⟨gm_mem 1211 (by decide +kernel) rfl, gm_mem 78 (by decide +kernel) rfl, by decide +kernel, rfl, rfl⟩, gm_mem 1210 (by decide +kernel) rfl, gm_mem 38 (by decide +kernel) rfl⟩
theorem ok_X10_paceThen : VOk m_X10_paceThen 2 := ⟨⟨gm_mem 1215 (by decide +kernel) rfl, gm_mem 78 (by decide +kernel) rfl, by decide +kernel, rfl, rfl⟩, gm_mem 1214 (by decide +kernel) rfl, gm_mem 39 (by decide +kernel) rfl⟩
theorem ok_X10_rest : VOk m_X10_rest 1 := ⟨⟨gm_mem 1199 (by decide +kernel) rfl, gm_mem 78 (by decide +kernel) rfl, by decide +kernel, rfl, rfl⟩, gm_mem 1197 (by decide +kernel) rfl, gm_mem 1198 (by decide +kernel) rfl⟩
theorem ok_X10_pace : VOk m_X10_pace 2 := ⟨⟨gm_mem 1219 (by decide +kernel) rfl, gm_mem 78 (by decide +kernel) rfl, by decide +kernel, rfl, rfl⟩, gm_mem 1217 (by decide +kernel) rfl, gm_mem 1218 (by decide +kernel) rfl⟩
theorem ok_X10_signThen : VOk m_X10_signThen 0 := ⟨⟨gm_mem 1227 (by decide +kernel) rfl, gm_mem 78 (by decide +kernel) rfl, by decide +kernel, rfl, rfl⟩, gm_mem 1226 (by decide +kernel) rfl, gm_mem 40 (by decide +kernel) rfl⟩
theorem ok_X10_sign : VOk m_X10_sign 0 := ⟨⟨gm_mem 1223 (by decide +kernel) rfl, gm_mem 78 (by decide +kernel) rfl, by decide +kernel, rfl, rfl⟩, gm_mem 1221 (by decide +kernel) rfl, gm_mem 1222 (by decide +kernel) rfl⟩
theorem ok_X10_round : VOk m_X10_round 1 := ⟨⟨gm_mem 1231 (by decide +kernel) rfl, gm_mem 78 (by decide +kernel) rfl, by decide +kernel, rfl, rfl⟩, gm_mem 1229 (by decide +kernel) rfl, gm_mem 1230 (by decide +kernel) rfl⟩
theorem ok_X10_leads : VOk m_X10_leads 0 := ⟨⟨gm_mem 1235 (by decide +kernel) rfl, gm_mem 78 (by decide +kernel) rfl, by decide +kernel, rfl, rfl⟩, gm_mem 1233 (by decide +kernel) rfl, gm_mem 1234 (by decide +kernel) rfl⟩
theorem ok_X10_findWeights : VOk m_X10_findWeights 0 := ⟨⟨gm_mem 1244 (by decide +kernel) rfl, gm_mem 78 (by decide +kernel) rfl, by decide +kernel, rfl, rfl⟩, gm_mem 1243 (by decide +kernel) rfl, gm_mem 41 (by decide +kernel) rfl⟩
theorem ok_X10_found : VOk m_X10_found 0 := ⟨⟨gm_mem 1240 (by decide +kernel) rfl, gm_mem 78 (by decide +kernel) rfl, by decide +kernel, rfl, rfl⟩, gm_mem 1238 (by decide +kernel) rfl, gm_mem 1239 (by decide +kernel) rfl⟩
theorem ok_X10_off : VOk m_X10_off 0 := ⟨⟨gm_mem 1249 (by decide +kernel) rfl, gm_mem 78 (by decide +kernel) rfl, by decide +kernel, rfl, rfl⟩, gm_mem 1247 (by decide +kernel) rfl, gm_mem 1248 (by decide +kernel) rfl⟩
theorem ok_X10_findGrid : VOk m_X10_findGrid 0 := ⟨⟨gm_mem 1257 (by decide +kernel) rfl, gm_mem 78 (by decide +kernel) rfl, by decide +kernel, rfl, rfl⟩, gm_mem 1256 (by decide +kernel) rfl, gm_mem 42 (by decide +kernel) rfl⟩
theorem ok_X10_grid : VOk m_X10_grid 0 := ⟨⟨gm_mem 1253 (by decide +kernel) rfl, gm_mem 78 (by decide +kernel) rfl, by decide +kernel, rfl, rfl⟩, gm_mem 1251 (by decide +kernel) rfl, gm_mem 1252 (by decide +kernel) rfl⟩
theorem ok_X10_worst : VOk m_X10_worst 0 := ⟨⟨gm_mem 1261 (by decide +kernel) rfl, gm_mem 78 (by decide +kernel) rfl, by decide +kernel, rfl, rfl⟩, gm_mem 1259 (by decide +kernel) rfl, gm_mem 1260 (by decide +kernel) rfl⟩
theorem ok_X10_trips_ : VOk m_X10_trips_ 0 := ⟨⟨gm_mem 1265 (by decide +kernel) rfl, gm_mem 78 (by decide +kernel) rfl, by decide +kernel, rfl, rfl⟩, gm_mem 1263 (by decide +kernel) rfl, gm_mem 1264 (by decide +kernel) rfl⟩
theorem ok_X10_kindFor : VOk m_X10_kindFor 1 := ⟨⟨gm_mem 1270 (by decide +kernel) rfl, gm_mem 78 (by decide +kernel) rfl, by decide +kernel, rfl, rfl⟩, gm_mem 1268 (by decide +kernel) rfl, gm_mem 1269 (by decide +kernel) rfl⟩
theorem ok_X10_eases : VOk m_X10_eases 1 := ⟨⟨gm_mem 1281 (by decide +kernel) rfl, gm_mem 78 (by decide +kernel) rfl, by decide +kernel, rfl, rfl⟩, gm_mem 1280 (by decide +kernel) rfl, gm_mem 43 (by decide +kernel) rfl⟩
theorem ok_X10_ease : VOk m_X10_ease 1 := ⟨⟨gm_mem 1274 (by decide +kernel) rfl, gm_mem 78 (by decide +kernel) rfl, by decide +kernel, rfl, rfl⟩, gm_mem 1272 (by decide +kernel) rfl, gm_mem 1273 (by decide +kernel) rfl⟩
theorem ok_X10_takesWithout : VOk m_X10_takesWithout 1 := ⟨⟨gm_mem 1296 (by decide +kernel) rfl, gm_mem 78 (by decide +kernel) rfl, by decide +kernel, rfl, rfl⟩, gm_mem 1295 (by decide +kernel) rfl, gm_mem 45 (by decide +kernel) rfl⟩
theorem ok_X10_findFit : VOk m_X10_findFit 0 := ⟨⟨gm_mem 1292 (by decide +kernel) rfl, gm_mem 78 (by decide +kernel) rfl, by decide +kernel, rfl, rfl⟩, gm_mem 1291 (by decide +kernel) rfl, gm_mem 44 (by decide +kernel) rfl⟩
theorem ok_X10_fit : VOk m_X10_fit 0 := ⟨⟨gm_mem 1288 (by decide +kernel) rfl, gm_mem 78 (by decide +kernel) rfl, by decide +kernel, rfl, rfl⟩, gm_mem 1286 (by decide +kernel) rfl, gm_mem 1287 (by decide +kernel) rfl⟩
theorem ok_X10_kept : VOk m_X10_kept 0 := ⟨⟨gm_mem 1300 (by decide +kernel) rfl, gm_mem 78 (by decide +kernel) rfl, by decide +kernel, rfl, rfl⟩, gm_mem 1298 (by decide +kernel) rfl, gm_mem 1299 (by decide +kernel) rfl⟩
theorem ok_X10_jumpFrom : VOk m_X10_jumpFrom 3 := ⟨⟨gm_mem 1316 (by decide +kernel) rfl, gm_mem 78 (by decide +kernel) rfl, by decide +kernel, rfl, rfl⟩, gm_mem 1315 (by decide +kernel) rfl, gm_mem 48 (by decide +kernel) rfl⟩
theorem ok_X10_findWays : VOk m_X10_findWays 2 := ⟨⟨gm_mem 1312 (by decide +kernel) rfl, gm_mem 78 (by decide +kernel) rfl, by decide +kernel, rfl, rfl⟩, gm_mem 1311 (by decide +kernel) rfl, gm_mem 47 (by decide +kernel) rfl⟩
theorem ok_X10_isWay : VOk m_X10_isWay 2 := ⟨⟨gm_mem 1308 (by decide +kernel) rfl, gm_mem 78 (by decide +kernel) rfl, by decide +kernel, rfl, rfl⟩, gm_mem 1307 (by decide +kernel) rfl, gm_mem 46 (by decide +kernel) rfl⟩
theorem ok_X10_jump : VOk m_X10_jump 2 := ⟨⟨gm_mem 1304 (by decide +kernel) rfl, gm_mem 78 (by decide +kernel) rfl, by decide +kernel, rfl, rfl⟩, gm_mem 1302 (by decide +kernel) rfl, gm_mem 1303 (by decide +kernel) rfl⟩
theorem ok_X10_jumped : VOk m_X10_jumped 2 := ⟨⟨gm_mem 1320 (by decide +kernel) rfl, gm_mem 78 (by decide +kernel) rfl, by decide +kernel, rfl, rfl⟩, gm_mem 1318 (by decide +kernel) rfl, gm_mem 1319 (by decide +kernel) rfl⟩
theorem ok_X10_findLed : VOk m_X10_findLed 1 := ⟨⟨gm_mem 1332 (by decide +kernel) rfl, gm_mem 78 (by decide +kernel) rfl, by decide +kernel, rfl, rfl⟩, gm_mem 1331 (by decide +kernel) rfl, gm_mem 49 (by decide +kernel) rfl⟩
theorem ok_X10_isSheet : SOk m_X10_isSheet 1 := ⟨⟨gm_mem 1327 (by decide +kernel) rfl, gm_mem 78 (by decide +kernel) rfl, by decide +kernel, rfl, rfl⟩, gm_mem 1326 (by decide +kernel) rfl⟩
theorem ok_X10_fits : VOk m_X10_fits 1 := ⟨⟨gm_mem 1324 (by decide +kernel) rfl, gm_mem 78 (by decide +kernel) rfl, by decide +kernel, rfl, rfl⟩, gm_mem 1322 (by decide +kernel) rfl, gm_mem 1323 (by decide +kernel) rfl⟩
theorem ok_X10_led : VOk m_X10_led 1 := ⟨⟨gm_mem 1336 (by decide +kernel) rfl, gm_mem 78 (by decide +kernel) rfl, by decide +kernel, rfl, rfl⟩, gm_mem 1334 (by decide +kernel) rfl, gm_mem 1335 (by decide +kernel) rfl⟩
theorem ok_X10_common : SOk m_X10_common 2 := ⟨⟨gm_mem 1343 (by decide +kernel) rfl, gm_mem 78 (by decide +kernel) rfl, by decide +kernel, rfl, rfl⟩, gm_mem 1342 (by decide +kernel) rfl⟩
theorem ok_X10_part : VOk m_X10_part 2 := ⟨⟨gm_mem 1340 (by decide +kernel) rfl, gm_mem 78 (by decide +kernel) rfl, by decide +kernel, rfl, rfl⟩, gm_mem 1338 (by decide +kernel) rfl, gm_mem 1339 (by decide +kernel) rfl⟩
theorem ok_X10_stays : VOk m_X10_stays 2 := ⟨⟨gm_mem 1347 (by decide +kernel) rfl, gm_mem 78 (by decide +kernel) rfl, by decide +kernel, rfl, rfl⟩, gm_mem 1345 (by decide +kernel) rfl, gm_mem 1346 (by decide +kernel) rfl⟩
theorem ok_X10_drawn : VOk m_X10_drawn 1 := ⟨⟨gm_mem 1360 (by decide +kernel) rfl, gm_mem 78 (by decide +kernel) rfl, by decide +kernel, rfl, rfl⟩, gm_mem 1359 (by decide +kernel) rfl, gm_mem 51 (by decide +kernel) rfl⟩
theorem ok_X10_leavesIn : VOk m_X10_leavesIn 1 := ⟨⟨gm_mem 1356 (by decide +kernel) rfl, gm_mem 78 (by decide +kernel) rfl, by decide +kernel, rfl, rfl⟩, gm_mem 1355 (by decide +kernel) rfl, gm_mem 50 (by decide +kernel) rfl⟩
theorem ok_X10_evening : VOk m_X10_evening 1 := ⟨⟨gm_mem 1351 (by decide +kernel) rfl, gm_mem 78 (by decide +kernel) rfl, by decide +kernel, rfl, rfl⟩, gm_mem 1349 (by decide +kernel) rfl, gm_mem 1350 (by decide +kernel) rfl⟩
theorem ok_X10_ahead : VOk m_X10_ahead 1 := ⟨⟨gm_mem 1365 (by decide +kernel) rfl, gm_mem 78 (by decide +kernel) rfl, by decide +kernel, rfl, rfl⟩, gm_mem 1363 (by decide +kernel) rfl, gm_mem 1364 (by decide +kernel) rfl⟩
theorem ok_X10_seed : VOk m_X10_seed 1 := ⟨⟨gm_mem 1369 (by decide +kernel) rfl, gm_mem 78 (by decide +kernel) rfl, by decide +kernel, rfl, rfl⟩, gm_mem 1367 (by decide +kernel) rfl, gm_mem 1368 (by decide +kernel) rfl⟩
theorem ok_X10_feed : VOk m_X10_feed 2 := ⟨⟨gm_mem 1373 (by decide +kernel) rfl, gm_mem 78 (by decide +kernel) rfl, by decide +kernel, rfl, rfl⟩, gm_mem 1371 (by decide +kernel) rfl, gm_mem 1372 (by decide +kernel) rfl⟩
theorem ok_X10_wipe : VOk m_X10_wipe 0 := ⟨⟨gm_mem 1377 (by decide +kernel) rfl, gm_mem 78 (by decide +kernel) rfl, by decide +kernel, rfl, rfl⟩, gm_mem 1375 (by decide +kernel) rfl, gm_mem 1376 (by decide +kernel) rfl⟩
theorem ok_X10_byteAt : VOk m_X10_byteAt 1 := ⟨⟨gm_mem 1389 (by decide +kernel) rfl, gm_mem 78 (by decide +kernel) rfl, by decide +kernel, rfl, rfl⟩, gm_mem 1388 (by decide +kernel) rfl, gm_mem 53 (by decide +kernel) rfl⟩
theorem ok_X10_next : VOk m_X10_next 0 := ⟨⟨gm_mem 1385 (by decide +kernel) rfl, gm_mem 78 (by decide +kernel) rfl, by decide +kernel, rfl, rfl⟩, gm_mem 1384 (by decide +kernel) rfl, gm_mem 52 (by decide +kernel) rfl⟩
theorem ok_X10_isWord : VOk m_X10_isWord 1 := ⟨⟨gm_mem 1402 (by decide +kernel) rfl, gm_mem 78 (by decide +kernel) rfl, by decide +kernel, rfl, rfl⟩, gm_mem 1401 (by decide +kernel) rfl, gm_mem 56 (by decide +kernel) rfl⟩
theorem ok_X10_must : VOk m_X10_must 1 := ⟨⟨gm_mem 1408 (by decide +kernel) rfl, gm_mem 78 (by decide +kernel) rfl, by decide +kernel, rfl, rfl⟩, gm_mem 1407 (by decide +kernel) rfl, gm_mem 57 (by decide +kernel) rfl⟩
theorem ok_X10_number : VOk m_X10_number 2 := ⟨⟨gm_mem 1417 (by decide +kernel) rfl, gm_mem 78 (by decide +kernel) rfl, by decide +kernel, rfl, rfl⟩, gm_mem 1416 (by decide +kernel) rfl, gm_mem 59 (by decide +kernel) rfl⟩
theorem ok_X10_item : VOk m_X10_item 4 := ⟨⟨gm_mem 1422 (by decide +kernel) rfl, gm_mem 78 (by decide +kernel) rfl, by decide +kernel, rfl, rfl⟩, gm_mem 1421 (by decide +kernel) rfl, gm_mem 60 (by decide +kernel) rfl⟩
theorem ok_X10_kindTold : VOk m_X10_kindTold 0 := ⟨⟨gm_mem 1398 (by decide +kernel) rfl, gm_mem 78 (by decide +kernel) rfl, by decide +kernel, rfl, rfl⟩, gm_mem 1397 (by decide +kernel) rfl, gm_mem 55 (by decide +kernel) rfl⟩
theorem ok_X10_isNext : VOk m_X10_isNext 1 := ⟨⟨gm_mem 1413 (by decide +kernel) rfl, gm_mem 78 (by decide +kernel) rfl, by decide +kernel, rfl, rfl⟩, gm_mem 1412 (by decide +kernel) rfl, gm_mem 58 (by decide +kernel) rfl⟩
theorem ok_X10_drift : VOk m_X10_drift 0 := ⟨⟨gm_mem 1433 (by decide +kernel) rfl, gm_mem 78 (by decide +kernel) rfl, by decide +kernel, rfl, rfl⟩, gm_mem 1432 (by decide +kernel) rfl, gm_mem 62 (by decide +kernel) rfl⟩
theorem ok_X10_readPace : VOk m_X10_readPace 1 := ⟨⟨gm_mem 1427 (by decide +kernel) rfl, gm_mem 78 (by decide +kernel) rfl, by decide +kernel, rfl, rfl⟩, gm_mem 1426 (by decide +kernel) rfl, gm_mem 61 (by decide +kernel) rfl⟩
theorem ok_X10_readRule : VOk m_X10_readRule 1 := ⟨⟨gm_mem 1439 (by decide +kernel) rfl, gm_mem 78 (by decide +kernel) rfl, by decide +kernel, rfl, rfl⟩, gm_mem 1438 (by decide +kernel) rfl, gm_mem 63 (by decide +kernel) rfl⟩
theorem ok_X10_readItem : VOk m_X10_readItem 0 := ⟨⟨gm_mem 1394 (by decide +kernel) rfl, gm_mem 78 (by decide +kernel) rfl, by decide +kernel, rfl, rfl⟩, gm_mem 1393 (by decide +kernel) rfl, gm_mem 54 (by decide +kernel) rfl⟩
theorem ok_X10_becomesTold : VOk m_X10_becomesTold 2 := ⟨⟨gm_mem 1450 (by decide +kernel) rfl, gm_mem 78 (by decide +kernel) rfl, by decide +kernel, rfl, rfl⟩, gm_mem 1449 (by decide +kernel) rfl, gm_mem 65 (by decide +kernel) rfl⟩
theorem ok_X10_isSo : VOk m_X10_isSo 1 := ⟨⟨gm_mem 1446 (by decide +kernel) rfl, gm_mem 78 (by decide +kernel) rfl, by decide +kernel, rfl, rfl⟩, gm_mem 1445 (by decide +kernel) rfl, gm_mem 64 (by decide +kernel) rfl⟩
theorem ok_X10_text : VOk m_X10_text 0 := ⟨⟨gm_mem 1381 (by decide +kernel) rfl, gm_mem 78 (by decide +kernel) rfl, by decide +kernel, rfl, rfl⟩, gm_mem 1379 (by decide +kernel) rfl, gm_mem 1380 (by decide +kernel) rfl⟩
theorem ok_X10_isSpot : SOk m_X10_isSpot 1 := ⟨⟨gm_mem 1457 (by decide +kernel) rfl, gm_mem 78 (by decide +kernel) rfl, by decide +kernel, rfl, rfl⟩, gm_mem 1456 (by decide +kernel) rfl⟩
theorem ok_X10_hold : VOk m_X10_hold 2 := ⟨⟨gm_mem 1454 (by decide +kernel) rfl, gm_mem 78 (by decide +kernel) rfl, by decide +kernel, rfl, rfl⟩, gm_mem 1452 (by decide +kernel) rfl, gm_mem 1453 (by decide +kernel) rfl⟩
theorem ok_X10_as : VOk m_X10_as 2 := ⟨⟨gm_mem 1461 (by decide +kernel) rfl, gm_mem 78 (by decide +kernel) rfl, by decide +kernel, rfl, rfl⟩, gm_mem 1459 (by decide +kernel) rfl, gm_mem 1460 (by decide +kernel) rfl⟩
theorem ok_X10_cutTo : SOk m_X10_cutTo 2 := ⟨⟨gm_mem 1480 (by decide +kernel) rfl, gm_mem 78 (by decide +kernel) rfl, by decide +kernel, rfl, rfl⟩, gm_mem 1479 (by decide +kernel) rfl⟩
theorem ok_X10_sheet : VOk m_X10_sheet 3 := ⟨⟨gm_mem 1472 (by decide +kernel) rfl, gm_mem 78 (by decide +kernel) rfl, by decide +kernel, rfl, rfl⟩, gm_mem 1470 (by decide +kernel) rfl, gm_mem 1471 (by decide +kernel) rfl⟩
theorem ok_X10_write : VOk m_X10_write 3 := ⟨⟨gm_mem 1477 (by decide +kernel) rfl, gm_mem 78 (by decide +kernel) rfl, by decide +kernel, rfl, rfl⟩, gm_mem 1475 (by decide +kernel) rfl, gm_mem 1476 (by decide +kernel) rfl⟩
theorem ok_X10_copy : VOk m_X10_copy 5 := ⟨⟨gm_mem 1484 (by decide +kernel) rfl, gm_mem 78 (by decide +kernel) rfl, by decide +kernel, rfl, rfl⟩, gm_mem 1482 (by decide +kernel) rfl, gm_mem 1483 (by decide +kernel) rfl⟩
theorem ok_X10_load : VOk m_X10_load 1 := ⟨⟨gm_mem 1488 (by decide +kernel) rfl, gm_mem 78 (by decide +kernel) rfl, by decide +kernel, rfl, rfl⟩, gm_mem 1486 (by decide +kernel) rfl, gm_mem 1487 (by decide +kernel) rfl⟩
theorem ok_X10_judge : VOk m_X10_judge 1 := ⟨⟨gm_mem 1492 (by decide +kernel) rfl, gm_mem 78 (by decide +kernel) rfl, by decide +kernel, rfl, rfl⟩, gm_mem 1490 (by decide +kernel) rfl, gm_mem 1491 (by decide +kernel) rfl⟩
theorem ok_X10_image : VOk m_X10_image 0 := ⟨⟨gm_mem 1496 (by decide +kernel) rfl, gm_mem 78 (by decide +kernel) rfl, by decide +kernel, rfl, rfl⟩, gm_mem 1494 (by decide +kernel) rfl, gm_mem 1495 (by decide +kernel) rfl⟩
theorem ok_X10_undo : VOk m_X10_undo 0 := ⟨⟨gm_mem 1500 (by decide +kernel) rfl, gm_mem 78 (by decide +kernel) rfl, by decide +kernel, rfl, rfl⟩, gm_mem 1498 (by decide +kernel) rfl, gm_mem 1499 (by decide +kernel) rfl⟩
theorem ok_X10_tear : VOk m_X10_tear 0 := ⟨⟨gm_mem 1504 (by decide +kernel) rfl, gm_mem 78 (by decide +kernel) rfl, by decide +kernel, rfl, rfl⟩, gm_mem 1502 (by decide +kernel) rfl, gm_mem 1503 (by decide +kernel) rfl⟩
theorem ok_X10_count : VOk m_X10_count 1 := ⟨⟨gm_mem 1508 (by decide +kernel) rfl, gm_mem 78 (by decide +kernel) rfl, by decide +kernel, rfl, rfl⟩, gm_mem 1506 (by decide +kernel) rfl, gm_mem 1507 (by decide +kernel) rfl⟩
theorem ok_X10_status : VOk m_X10_status 1 := ⟨⟨gm_mem 1512 (by decide +kernel) rfl, gm_mem 78 (by decide +kernel) rfl, by decide +kernel, rfl, rfl⟩, gm_mem 1510 (by decide +kernel) rfl, gm_mem 1511 (by decide +kernel) rfl⟩
theorem lk_J0_9 : Cond.fieldLink RJ0 9 "java/lang/String" "value" "[B" ∈ gm_ws := gm_mem 1513 (by decide +kernel) rfl
theorem lk_J0_15 : Cond.fieldLink RJ0 15 "java/lang/String" "coder" "B" ∈ gm_ws := gm_mem 1514 (by decide +kernel) rfl
theorem lk_J0_38 : Cond.fieldLink RJ0 38 "java/lang/String" "COMPACT_STRINGS" "Z" ∈ gm_ws := gm_mem 807 (by decide +kernel) rfl
theorem lk_J0_335 : Cond.methodLink RJ0 335 ⟨"java/lang/String", "coder", "()B"⟩ ∈ gm_ws := gm_mem 803 (by decide +kernel) rfl
theorem lk_J0_492 : Cond.methodLink RJ0 492 ⟨"java/lang/String", "isLatin1", "()Z"⟩ ∈ gm_ws := gm_mem 813 (by decide +kernel) rfl
theorem lk_J0_495 : Cond.methodLink RJ0 495 ⟨"java/lang/StringLatin1", "charAt", "([BI)C"⟩ ∈ gm_ws := gm_mem 817 (by decide +kernel) rfl
theorem lk_J0_1053 : Cond.fieldLink RJ0 1053 "jdk/internal/util/Preconditions" "SIOOBE_FORMATTER" "Ljava/util/function/BiFunction;" ∈ gm_ws := gm_mem 823 (by decide +kernel) rfl
theorem lk_J0_1059 : Cond.methodLink RJ0 1059 ⟨"jdk/internal/util/Preconditions", "checkIndex", "(IILjava/util/function/BiFunction;)I"⟩ ∈ gm_ws := gm_mem 825 (by decide +kernel) rfl
theorem lk_J1_9 : Cond.methodLink RJ1 9 ⟨"java/lang/String", "checkIndex", "(II)V"⟩ ∈ gm_ws := gm_mem 820 (by decide +kernel) rfl
theorem lk_X0_9 : Cond.methodLink RX0 9 ⟨"java/lang/Math", "max", "(II)I"⟩ ∈ gm_ws := gm_mem 389 (by decide +kernel) rfl
theorem lk_X0_15 : Cond.fieldLinkNest RX0 15 "GlassWords" "KIND_ABOVE" "[I" "GlassWords" ∈ lw_tbl := gm_memN 901 (by decide +kernel)
theorem lk_X1_30 : Cond.methodLink RX1 30 ⟨"GlassWords$Paces", "held", "(I)I"⟩ ∈ gm_ws := gm_mem 456 (by decide +kernel) rfl
theorem lk_X1_34 : Cond.methodLink RX1 34 ⟨"GlassWords$Paces", "step", "(I)V"⟩ ∈ gm_ws := gm_mem 512 (by decide +kernel) rfl
theorem lk_X1_38 : Cond.methodLink RX1 38 ⟨"GlassWords$Paces", "are", "(II)Z"⟩ ∈ gm_ws := gm_mem 513 (by decide +kernel) rfl
theorem lk_X1_42 : Cond.methodLink RX1 42 ⟨"java/lang/Math", "min", "(II)I"⟩ ∈ gm_ws := gm_mem 459 (by decide +kernel) rfl
theorem lk_X1_48 : Cond.methodLink RX1 48 ⟨"java/lang/Math", "max", "(II)I"⟩ ∈ gm_ws := gm_mem 462 (by decide +kernel) rfl
theorem lk_X10_67 : Cond.methodLink RX10 67 ⟨"GlassWordsModel", "copyRow", "([I[I)V"⟩ ∈ gm_ws := gm_mem 1160 (by decide +kernel) rfl
theorem lk_X10_71 : Cond.methodLink RX10 71 ⟨"GlassWordsModel", "within", "(III)Z"⟩ ∈ gm_ws := gm_mem 1084 (by decide +kernel) rfl
theorem lk_X10_75 : Cond.methodLink RX10 75 ⟨"GlassWordsModel", "at", "(II)I"⟩ ∈ gm_ws := gm_mem 1097 (by decide +kernel) rfl
theorem lk_X10_79 : Cond.methodLink RX10 79 ⟨"GlassWordsModel", "isKind", "(I)Z"⟩ ∈ gm_ws := gm_mem 1081 (by decide +kernel) rfl
theorem lk_X10_83 : Cond.methodLink RX10 83 ⟨"GlassWordsModel", "finding", "(I)I"⟩ ∈ gm_ws := gm_mem 1088 (by decide +kernel) rfl
theorem lk_X10_88 : Cond.methodLink RX10 88 ⟨"GlassWordsModel", "comes", "(III)I"⟩ ∈ gm_ws := gm_mem 1093 (by decide +kernel) rfl
theorem lk_X10_92 : Cond.methodLink RX10 92 ⟨"GlassWordsModel", "above", "(I)I"⟩ ∈ gm_ws := gm_mem 1465 (by decide +kernel) rfl
theorem lk_X10_95 : Cond.methodLink RX10 95 ⟨"GlassWordsModel", "lineIs", "(II)I"⟩ ∈ gm_ws := gm_mem 1108 (by decide +kernel) rfl
theorem lk_X10_98 : Cond.methodLink RX10 98 ⟨"java/lang/Math", "max", "(II)I"⟩ ∈ gm_ws := gm_mem 1116 (by decide +kernel) rfl
theorem lk_X10_103 : Cond.methodLink RX10 103 ⟨"GlassWordsModel", "isLine", "(I)Z"⟩ ∈ gm_ws := gm_mem 1104 (by decide +kernel) rfl
theorem lk_X10_106 : Cond.methodLink RX10 106 ⟨"GlassWordsModel", "takes", "(I)I"⟩ ∈ gm_ws := gm_mem 1112 (by decide +kernel) rfl
theorem lk_X10_109 : Cond.methodLink RX10 109 ⟨"GlassWordsModel", "trips", "(I)I"⟩ ∈ gm_ws := gm_mem 1117 (by decide +kernel) rfl
theorem lk_X10_112 : Cond.methodLink RX10 112 ⟨"GlassWordsModel", "seen", "(I)I"⟩ ∈ gm_ws := gm_mem 1121 (by decide +kernel) rfl
theorem lk_X10_115 : Cond.methodLink RX10 115 ⟨"GlassWordsModel", "become", "(II)I"⟩ ∈ gm_ws := gm_mem 1129 (by decide +kernel) rfl
theorem lk_X10_119 : Cond.methodLink RX10 119 ⟨"GlassWordsModel", "isRule", "(I)Z"⟩ ∈ gm_ws := gm_mem 1137 (by decide +kernel) rfl
theorem lk_X10_122 : Cond.methodLink RX10 122 ⟨"GlassWordsModel", "least", "(I)I"⟩ ∈ gm_ws := gm_mem 1140 (by decide +kernel) rfl
theorem lk_X10_125 : Cond.methodLink RX10 125 ⟨"GlassWordsModel", "most", "(I)I"⟩ ∈ gm_ws := gm_mem 1143 (by decide +kernel) rfl
theorem lk_X10_128 : Cond.methodLink RX10 128 ⟨"java/lang/Math", "min", "(II)I"⟩ ∈ gm_ws := gm_mem 1178 (by decide +kernel) rfl
theorem lk_X10_131 : Cond.methodLink RX10 131 ⟨"GlassWordsModel", "held", "(I)I"⟩ ∈ gm_ws := gm_mem 1175 (by decide +kernel) rfl
theorem lk_X10_134 : Cond.methodLink RX10 134 ⟨"GlassWordsModel", "turns", "()I"⟩ ∈ gm_ws := gm_mem 1171 (by decide +kernel) rfl
theorem lk_X10_138 : Cond.methodLink RX10 138 ⟨"GlassWordsModel", "reads", "()I"⟩ ∈ gm_ws := gm_mem 1167 (by decide +kernel) rfl
theorem lk_X10_141 : Cond.methodLink RX10 141 ⟨"GlassWordsModel", "left", "()I"⟩ ∈ gm_ws := gm_mem 1155 (by decide +kernel) rfl
theorem lk_X10_145 : Cond.methodLink RX10 145 ⟨"GlassWordsModel", "readsOn", "(I)I"⟩ ∈ gm_ws := gm_mem 1163 (by decide +kernel) rfl
theorem lk_X10_149 : Cond.methodLink RX10 149 ⟨"GlassWordsModel", "putBack", "(I)I"⟩ ∈ gm_ws := gm_mem 1180 (by decide +kernel) rfl
theorem lk_X10_152 : Cond.methodLink RX10 152 ⟨"GlassWordsModel", "restTakes", "()I"⟩ ∈ gm_ws := gm_mem 1200 (by decide +kernel) rfl
theorem lk_X10_155 : Cond.methodLink RX10 155 ⟨"GlassWordsModel", "restTrips", "()I"⟩ ∈ gm_ws := gm_mem 1204 (by decide +kernel) rfl
theorem lk_X10_158 : Cond.methodLink RX10 158 ⟨"GlassWordsModel", "restSeen", "()I"⟩ ∈ gm_ws := gm_mem 1208 (by decide +kernel) rfl
theorem lk_X10_161 : Cond.methodLink RX10 161 ⟨"GlassWordsModel", "paceThen", "(II)I"⟩ ∈ gm_ws := gm_mem 1212 (by decide +kernel) rfl
theorem lk_X10_164 : Cond.methodLink RX10 164 ⟨"GlassWordsModel", "signThen", "()I"⟩ ∈ gm_ws := gm_mem 1224 (by decide +kernel) rfl
theorem lk_X10_167 : Cond.methodLink RX10 167 ⟨"java/lang/Math", "abs", "(I)I"⟩ ∈ gm_ws := gm_mem 1236 (by decide +kernel) rfl
theorem lk_X10_175 : Cond.methodLink RX10 175 ⟨"GlassWordsModel", "findWeights", "()I"⟩ ∈ gm_ws := gm_mem 1241 (by decide +kernel) rfl
theorem lk_X10_181 : Cond.methodLink RX10 181 ⟨"GlassWordsModel", "findGrid", "()I"⟩ ∈ gm_ws := gm_mem 1254 (by decide +kernel) rfl
theorem lk_X10_185 : Cond.methodLink RX10 185 ⟨"GlassWordsModel", "has", "(II)Z"⟩ ∈ gm_ws := gm_mem 1275 (by decide +kernel) rfl
theorem lk_X10_189 : Cond.methodLink RX10 189 ⟨"GlassWordsModel", "eases", "(I)I"⟩ ∈ gm_ws := gm_mem 1278 (by decide +kernel) rfl
theorem lk_X10_192 : Cond.methodLink RX10 192 ⟨"GlassWordsModel", "bits", "(I)I"⟩ ∈ gm_ws := gm_mem 1282 (by decide +kernel) rfl
theorem lk_X10_201 : Cond.methodLink RX10 201 ⟨"GlassWordsModel", "takesWithout", "(I)I"⟩ ∈ gm_ws := gm_mem 1293 (by decide +kernel) rfl
theorem lk_X10_204 : Cond.methodLink RX10 204 ⟨"GlassWordsModel", "findFit", "()I"⟩ ∈ gm_ws := gm_mem 1289 (by decide +kernel) rfl
theorem lk_X10_207 : Cond.methodLink RX10 207 ⟨"GlassWordsModel", "jumpFrom", "(III)I"⟩ ∈ gm_ws := gm_mem 1313 (by decide +kernel) rfl
theorem lk_X10_210 : Cond.methodLink RX10 210 ⟨"GlassWordsModel", "isWay", "(II)Z"⟩ ∈ gm_ws := gm_mem 1305 (by decide +kernel) rfl
theorem lk_X10_213 : Cond.methodLink RX10 213 ⟨"GlassWordsModel", "findWays", "(II)I"⟩ ∈ gm_ws := gm_mem 1309 (by decide +kernel) rfl
theorem lk_X10_222 : Cond.methodLink RX10 222 ⟨"GlassWordsModel", "isSheet", "(I)Z"⟩ ∈ gm_ws := gm_mem 1325 (by decide +kernel) rfl
theorem lk_X10_226 : Cond.methodLink RX10 226 ⟨"GlassWordsModel", "findLed", "(I)I"⟩ ∈ gm_ws := gm_mem 1329 (by decide +kernel) rfl
theorem lk_X10_229 : Cond.methodLink RX10 229 ⟨"GlassWordsModel", "common", "(II)I"⟩ ∈ gm_ws := gm_mem 1341 (by decide +kernel) rfl
theorem lk_X10_233 : Cond.methodLink RX10 233 ⟨"GlassWordsModel", "drawn", "(I)I"⟩ ∈ gm_ws := gm_mem 1357 (by decide +kernel) rfl
theorem lk_X10_237 : Cond.methodLink RX10 237 ⟨"GlassWordsModel", "leavesIn", "(I)I"⟩ ∈ gm_ws := gm_mem 1353 (by decide +kernel) rfl
theorem lk_X10_249 : Cond.methodLink RX10 249 ⟨"GlassWordsModel", "byteAt", "(I)I"⟩ ∈ gm_ws := gm_mem 1386 (by decide +kernel) rfl
theorem lk_X10_259 : Cond.methodLink RX10 259 ⟨"java/lang/String", "length", "()I"⟩ ∈ gm_ws := gm_mem 1403 (by decide +kernel) rfl
theorem lk_X10_262 : Cond.methodLink RX10 262 ⟨"java/lang/String", "charAt", "(I)C"⟩ ∈ gm_ws := gm_mem 1404 (by decide +kernel) rfl
theorem lk_X10_270 : Cond.methodLink RX10 270 ⟨"GlassWordsModel", "next", "()V"⟩ ∈ gm_ws := gm_mem 1382 (by decide +kernel) rfl
theorem lk_X10_273 : Cond.methodLink RX10 273 ⟨"GlassWordsModel", "must", "(Z)V"⟩ ∈ gm_ws := gm_mem 1405 (by decide +kernel) rfl
theorem lk_X10_280 : Cond.methodLink RX10 280 ⟨"GlassWordsModel", "isWord", "(Ljava/lang/String;)Z"⟩ ∈ gm_ws := gm_mem 1399 (by decide +kernel) rfl
theorem lk_X10_284 : Cond.methodLink RX10 284 ⟨"GlassWordsModel", "number", "(II)I"⟩ ∈ gm_ws := gm_mem 1414 (by decide +kernel) rfl
theorem lk_X10_289 : Cond.methodLink RX10 289 ⟨"GlassWordsModel", "isNext", "(Ljava/lang/String;)Z"⟩ ∈ gm_ws := gm_mem 1410 (by decide +kernel) rfl
theorem lk_X10_294 : Cond.methodLink RX10 294 ⟨"GlassWordsModel", "drift", "()I"⟩ ∈ gm_ws := gm_mem 1430 (by decide +kernel) rfl
theorem lk_X10_296 : Cond.methodLink RX10 296 ⟨"GlassWordsModel", "item", "(IIII)V"⟩ ∈ gm_ws := gm_mem 1419 (by decide +kernel) rfl
theorem lk_X10_300 : Cond.methodLink RX10 300 ⟨"GlassWordsModel", "kindTold", "()I"⟩ ∈ gm_ws := gm_mem 1395 (by decide +kernel) rfl
theorem lk_X10_312 : Cond.methodLink RX10 312 ⟨"GlassWordsModel", "readPace", "(I)V"⟩ ∈ gm_ws := gm_mem 1424 (by decide +kernel) rfl
theorem lk_X10_320 : Cond.methodLink RX10 320 ⟨"GlassWordsModel", "readRule", "(I)V"⟩ ∈ gm_ws := gm_mem 1436 (by decide +kernel) rfl
theorem lk_X10_329 : Cond.methodLink RX10 329 ⟨"GlassWordsModel", "becomesTold", "(II)V"⟩ ∈ gm_ws := gm_mem 1447 (by decide +kernel) rfl
theorem lk_X10_333 : Cond.methodLink RX10 333 ⟨"GlassWordsModel", "readItem", "()V"⟩ ∈ gm_ws := gm_mem 1391 (by decide +kernel) rfl
theorem lk_X10_336 : Cond.methodLink RX10 336 ⟨"GlassWordsModel", "isSo", "(I)I"⟩ ∈ gm_ws := gm_mem 1443 (by decide +kernel) rfl
theorem lk_X10_339 : Cond.methodLink RX10 339 ⟨"GlassWordsModel", "isSpot", "(I)Z"⟩ ∈ gm_ws := gm_mem 1455 (by decide +kernel) rfl
theorem lk_X10_342 : Cond.methodLink RX10 342 ⟨"GlassWordsModel", "isUnder", "(II)Z"⟩ ∈ gm_ws := gm_mem 1462 (by decide +kernel) rfl
theorem lk_X10_347 : Cond.methodLink RX10 347 ⟨"GlassWordsModel", "cutTo", "(II)I"⟩ ∈ gm_ws := gm_mem 1478 (by decide +kernel) rfl
theorem lk_X2_19 : Cond.methodLink RX2 19 ⟨"GlassWords$Paces", "takeFrom", "([I)V"⟩ ∈ gm_ws := gm_mem 525 (by decide +kernel) rfl
theorem lk_X2_24 : Cond.methodLink RX2 24 ⟨"GlassWords$Paces", "step", "(I)V"⟩ ∈ gm_ws := gm_mem 527 (by decide +kernel) rfl
theorem lk_X2_35 : Cond.methodLink RX2 35 ⟨"GlassWords$Paces", "are", "(II)Z"⟩ ∈ gm_ws := gm_mem 528 (by decide +kernel) rfl
theorem lk_X3_23 : Cond.methodLink RX3 23 ⟨"GlassWords$Script", "lookOn", "()V"⟩ ∈ gm_ws := gm_mem 763 (by decide +kernel) rfl
theorem lk_X3_26 : Cond.methodLink RX3 26 ⟨"GlassWords$Script", "takeItem", "()Z"⟩ ∈ gm_ws := gm_mem 781 (by decide +kernel) rfl
theorem lk_X3_36 : Cond.methodLink RX3 36 ⟨"GlassWords$Script", "nameOf", "(I)Ljava/lang/String;"⟩ ∈ gm_ws := gm_mem 785 (by decide +kernel) rfl
theorem lk_X3_40 : Cond.methodLink RX3 40 ⟨"GlassWords$Script", "isWord", "(Ljava/lang/String;)Z"⟩ ∈ gm_ws := gm_mem 795 (by decide +kernel) rfl
theorem lk_X3_44 : Cond.methodLink RX3 44 ⟨"GlassWords$Script", "takeLine", "(I)Z"⟩ ∈ gm_ws := gm_mem 847 (by decide +kernel) rfl
theorem lk_X3_50 : Cond.methodLink RX3 50 ⟨"GlassWords$Script", "takePace", "(I)Z"⟩ ∈ gm_ws := gm_mem 868 (by decide +kernel) rfl
theorem lk_X3_57 : Cond.methodLink RX3 57 ⟨"GlassWords$Script", "takeRule", "(I)Z"⟩ ∈ gm_ws := gm_mem 872 (by decide +kernel) rfl
theorem lk_X3_66 : Cond.methodLink RX3 66 ⟨"GlassWords$Studio", "hasRoom", "()Z"⟩ ∈ gm_ws := gm_mem 851 (by decide +kernel) rfl
theorem lk_X3_71 : Cond.methodLink RX3 71 ⟨"GlassWords$Studio", "addLine", "(I)I"⟩ ∈ gm_ws := gm_mem 852 (by decide +kernel) rfl
theorem lk_X3_77 : Cond.methodLink RX3 77 ⟨"GlassWords$Script", "takeFeature", "(Ljava/lang/String;II)Z"⟩ ∈ gm_ws := gm_mem 854 (by decide +kernel) rfl
theorem lk_X3_83 : Cond.fieldLinkNest RX3 83 "GlassWords" "LEAST_FEATURE" "[I" "GlassWords" ∈ lw_tbl := gm_memN 858 (by decide +kernel)
theorem lk_X3_87 : Cond.fieldLinkNest RX3 87 "GlassWords" "MOST_FEATURE" "[I" "GlassWords" ∈ lw_tbl := gm_memN 859 (by decide +kernel)
theorem lk_X3_90 : Cond.methodLink RX3 90 ⟨"GlassWords$Script", "isNumber", "(II)Z"⟩ ∈ gm_ws := gm_mem 860 (by decide +kernel) rfl
theorem lk_X3_94 : Cond.methodLink RX3 94 ⟨"GlassWords$Studio", "features", "(I)[I"⟩ ∈ gm_ws := gm_mem 865 (by decide +kernel) rfl
theorem lk_X3_105 : Cond.methodLink RX3 105 ⟨"GlassWords$Script", "takeDrift", "(I)Z"⟩ ∈ gm_ws := gm_mem 880 (by decide +kernel) rfl
theorem lk_X3_108 : Cond.fieldLinkNest RX3 108 "GlassWords" "LEAST_RULE" "[I" "GlassWords" ∈ lw_tbl := gm_memN 876 (by decide +kernel)
theorem lk_X3_111 : Cond.fieldLinkNest RX3 111 "GlassWords" "MOST_RULE" "[I" "GlassWords" ∈ lw_tbl := gm_memN 877 (by decide +kernel)
theorem lk_X3_117 : Cond.methodLinkNest RX3 117 ⟨"GlassWords", "isWithin", "(III)Z"⟩ "GlassWords" ∈ lw_tbl := gm_memN 864 (by decide +kernel)
theorem lk_X3_121 : Cond.methodLink RX3 121 ⟨"java/lang/String", "length", "()I"⟩ ∈ gm_ws := gm_mem 799 (by decide +kernel) rfl
theorem lk_X3_132 : Cond.methodLink RX3 132 ⟨"java/lang/String", "charAt", "(I)C"⟩ ∈ gm_ws := gm_mem 809 (by decide +kernel) rfl
theorem lk_X3_153 : Cond.methodLink RX3 153 ⟨"GlassWords$Script", "isLetter", "(I)Z"⟩ ∈ gm_ws := gm_mem 767 (by decide +kernel) rfl
theorem lk_X3_156 : Cond.methodLink RX3 156 ⟨"GlassWords$Script", "isDigit", "(I)Z"⟩ ∈ gm_ws := gm_mem 771 (by decide +kernel) rfl
theorem lk_X3_160 : Cond.methodLink RX3 160 ⟨"java/lang/Math", "min", "(II)I"⟩ ∈ gm_ws := gm_mem 776 (by decide +kernel) rfl
theorem lk_X3_166 : Cond.methodLink RX3 166 ⟨"GlassWords$Script", "signAt", "(I)I"⟩ ∈ gm_ws := gm_mem 777 (by decide +kernel) rfl
theorem lk_X4_22 : Cond.methodLink RX4 22 ⟨"GlassWords$Searches", "offHour", "(LGlassWords$Studio;I)I"⟩ ∈ gm_ws := gm_mem 548 (by decide +kernel) rfl
theorem lk_X4_26 : Cond.methodLink RX4 26 ⟨"GlassWords$Searches", "weigh", "(LGlassWords$Studio;I)V"⟩ ∈ gm_ws := gm_mem 552 (by decide +kernel) rfl
theorem lk_X4_30 : Cond.methodLink RX4 30 ⟨"GlassWords$Studio", "linesAhead", "()I"⟩ ∈ gm_ws := gm_mem 557 (by decide +kernel) rfl
theorem lk_X4_36 : Cond.methodLink RX4 36 ⟨"GlassWords$Studio", "takesAhead", "(ILGlassWords$Paces;)I"⟩ ∈ gm_ws := gm_mem 558 (by decide +kernel) rfl
theorem lk_X4_43 : Cond.methodLink RX4 43 ⟨"java/lang/Math", "abs", "(I)I"⟩ ∈ gm_ws := gm_mem 559 (by decide +kernel) rfl
theorem lk_X4_49 : Cond.methodLink RX4 49 ⟨"GlassWords$Paces", "takeFrom", "([I)V"⟩ ∈ gm_ws := gm_mem 556 (by decide +kernel) rfl
theorem lk_X4_60 : Cond.fieldLinkNest RX4 60 "GlassWords" "LEAST_RULE" "[I" "GlassWords" ∈ lw_tbl := gm_memN 573 (by decide +kernel)
theorem lk_X4_66 : Cond.fieldLinkNest RX4 66 "GlassWords" "MOST_RULE" "[I" "GlassWords" ∈ lw_tbl := gm_memN 575 (by decide +kernel)
theorem lk_X4_69 : Cond.methodLink RX4 69 ⟨"GlassWords$Studio", "unrestAhead", "(II)I"⟩ ∈ gm_ws := gm_mem 576 (by decide +kernel) rfl
theorem lk_X4_76 : Cond.methodLink RX4 76 ⟨"GlassWords$Studio", "tripsOf", "(I)I"⟩ ∈ gm_ws := gm_mem 593 (by decide +kernel) rfl
theorem lk_X4_85 : Cond.methodLink RX4 85 ⟨"GlassWords$Kinds", "tripsBy", "(IIII)I"⟩ ∈ gm_ws := gm_mem 610 (by decide +kernel) rfl
theorem lk_X4_91 : Cond.methodLink RX4 91 ⟨"GlassWords$Studio", "tripsAhead", "()I"⟩ ∈ gm_ws := gm_mem 611 (by decide +kernel) rfl
theorem lk_X4_94 : Cond.methodLink RX4 94 ⟨"java/lang/Integer", "bitCount", "(I)I"⟩ ∈ gm_ws := gm_mem 612 (by decide +kernel) rfl
theorem lk_X4_97 : Cond.methodLink RX4 97 ⟨"GlassWords$Searches", "easedBy", "(II)I"⟩ ∈ gm_ws := gm_mem 618 (by decide +kernel) rfl
theorem lk_X4_100 : Cond.methodLink RX4 100 ⟨"GlassWords$Studio", "wordsAheadWithout", "(I)I"⟩ ∈ gm_ws := gm_mem 630 (by decide +kernel) rfl
theorem lk_X4_103 : Cond.methodLink RX4 103 ⟨"GlassWords$Searches", "fitsHourWithout", "(LGlassWords$Studio;I)Z"⟩ ∈ gm_ws := gm_mem 634 (by decide +kernel) rfl
theorem lk_X4_110 : Cond.methodLink RX4 110 ⟨"GlassWords$Studio", "takesOf", "(II)I"⟩ ∈ gm_ws := gm_mem 638 (by decide +kernel) rfl
theorem lk_X4_113 : Cond.methodLink RX4 113 ⟨"GlassWords$Paces", "step", "(I)V"⟩ ∈ gm_ws := gm_mem 639 (by decide +kernel) rfl
theorem lk_X4_126 : Cond.methodLink RX4 126 ⟨"GlassWords$Searches", "takeJust", "(LGlassWords$Studio;LGlassWords$Sheet;)Z"⟩ ∈ gm_ws := gm_mem 695 (by decide +kernel) rfl
theorem lk_X4_135 : Cond.methodLink RX4 135 ⟨"java/lang/Math", "min", "(II)I"⟩ ∈ gm_ws := gm_mem 699 (by decide +kernel) rfl
theorem lk_X5_22 : Cond.methodLink RX5 22 ⟨"java/util/Arrays", "fill", "([II)V"⟩ ∈ gm_ws := gm_mem 914 (by decide +kernel) rfl
theorem lk_X6_34 : Cond.methodLink RX6 34 ⟨"java/lang/System", "arraycopy", "(Ljava/lang/Object;ILjava/lang/Object;II)V"⟩ ∈ gm_ws := gm_mem 102 (by decide +kernel) rfl
theorem lk_X6_61 : Cond.methodLink RX6 61 ⟨"GlassWords$Kinds", "takes", "(IIII)I"⟩ ∈ gm_ws := gm_mem 386 (by decide +kernel) rfl
theorem lk_X6_67 : Cond.methodLink RX6 67 ⟨"GlassWords$Kinds", "tripsBy", "(IIII)I"⟩ ∈ gm_ws := gm_mem 396 (by decide +kernel) rfl
theorem lk_X6_70 : Cond.methodLink RX6 70 ⟨"GlassWords$Kinds", "seenBy", "(III)I"⟩ ∈ gm_ws := gm_mem 403 (by decide +kernel) rfl
theorem lk_X6_79 : Cond.methodLink RX6 79 ⟨"GlassWords$Studio", "takesOf", "(II)I"⟩ ∈ gm_ws := gm_mem 451 (by decide +kernel) rfl
theorem lk_X6_83 : Cond.methodLink RX6 83 ⟨"GlassWords$Paces", "step", "(I)V"⟩ ∈ gm_ws := gm_mem 452 (by decide +kernel) rfl
theorem lk_X6_87 : Cond.methodLink RX6 87 ⟨"GlassWords$Studio", "tripsOf", "(I)I"⟩ ∈ gm_ws := gm_mem 467 (by decide +kernel) rfl
theorem lk_X6_91 : Cond.methodLink RX6 91 ⟨"GlassWords$Studio", "seenOf", "(I)I"⟩ ∈ gm_ws := gm_mem 468 (by decide +kernel) rfl
theorem lk_X6_102 : Cond.methodLinkNest RX6 102 ⟨"GlassWords", "isWithin", "(III)Z"⟩ "GlassWords" ∈ lw_tbl := gm_memN 940 (by decide +kernel)
theorem lk_X6_106 : Cond.methodLink RX6 106 ⟨"GlassWords$Paces", "takeFrom", "([I)V"⟩ ∈ gm_ws := gm_mem 473 (by decide +kernel) rfl
theorem lk_X6_113 : Cond.methodLink RX6 113 ⟨"GlassWords$Studio", "turnPaces", "(LGlassWords$Paces;)V"⟩ ∈ gm_ws := gm_mem 469 (by decide +kernel) rfl
theorem lk_X6_118 : Cond.methodLink RX6 118 ⟨"GlassWords$Studio", "readOne", "(LGlassWords$Paces;)V"⟩ ∈ gm_ws := gm_mem 724 (by decide +kernel) rfl
theorem lk_X6_121 : Cond.methodLink RX6 121 ⟨"GlassWords$Studio", "draw", "()I"⟩ ∈ gm_ws := gm_mem 725 (by decide +kernel) rfl
theorem lk_X6_125 : Cond.methodLink RX6 125 ⟨"java/lang/Math", "min", "(II)I"⟩ ∈ gm_ws := gm_mem 730 (by decide +kernel) rfl
theorem lk_X8_26 : Cond.methodLink RX8 26 ⟨"GlassWords$Studio", "takesOf", "(II)I"⟩ ∈ gm_ws := gm_mem 657 (by decide +kernel) rfl
theorem lk_X8_30 : Cond.methodLink RX8 30 ⟨"GlassWords$Ways", "byJump", "(II)I"⟩ ∈ gm_ws := gm_mem 658 (by decide +kernel) rfl
theorem lk_X8_33 : Cond.methodLink RX8 33 ⟨"java/lang/Math", "min", "(II)I"⟩ ∈ gm_ws := gm_mem 662 (by decide +kernel) rfl
theorem lk_X8_38 : Cond.methodLink RX8 38 ⟨"GlassWords$Ways", "shortestJump", "(II)I"⟩ ∈ gm_ws := gm_mem 675 (by decide +kernel) rfl
theorem lk_X9_75 : Cond.methodLink RX9 75 ⟨"GlassWords", "isWithin", "(III)Z"⟩ ∈ gm_ws := gm_mem 358 (by decide +kernel) rfl
theorem lk_X9_79 : Cond.methodLink RX9 79 ⟨"GlassWords", "finding", "(I)I"⟩ ∈ gm_ws := gm_mem 361 (by decide +kernel) rfl
theorem lk_X9_83 : Cond.methodLink RX9 83 ⟨"GlassWords$Studio", "hasRoom", "()Z"⟩ ∈ gm_ws := gm_mem 366 (by decide +kernel) rfl
theorem lk_X9_87 : Cond.methodLink RX9 87 ⟨"GlassWords$Studio", "addLine", "(I)I"⟩ ∈ gm_ws := gm_mem 370 (by decide +kernel) rfl
theorem lk_X9_90 : Cond.methodLink RX9 90 ⟨"GlassWords$Studio", "isLine", "(I)Z"⟩ ∈ gm_ws := gm_mem 378 (by decide +kernel) rfl
theorem lk_X9_97 : Cond.methodLink RX9 97 ⟨"GlassWords$Studio", "takesOf", "(II)I"⟩ ∈ gm_ws := gm_mem 382 (by decide +kernel) rfl
theorem lk_X9_101 : Cond.methodLink RX9 101 ⟨"GlassWords$Studio", "tripsOf", "(I)I"⟩ ∈ gm_ws := gm_mem 392 (by decide +kernel) rfl
theorem lk_X9_104 : Cond.methodLink RX9 104 ⟨"GlassWords$Studio", "seenOf", "(I)I"⟩ ∈ gm_ws := gm_mem 399 (by decide +kernel) rfl
theorem lk_X9_107 : Cond.methodLink RX9 107 ⟨"GlassWords$Studio", "features", "(I)[I"⟩ ∈ gm_ws := gm_mem 406 (by decide +kernel) rfl
theorem lk_X9_111 : Cond.fieldLink RX9 111 "GlassWords" "LEAST_FEATURE" "[I" ∈ gm_ws := gm_mem 414 (by decide +kernel) rfl
theorem lk_X9_114 : Cond.fieldLink RX9 114 "GlassWords" "MOST_FEATURE" "[I" ∈ gm_ws := gm_mem 416 (by decide +kernel) rfl
theorem lk_X9_117 : Cond.fieldLink RX9 117 "GlassWords" "LEAST_RULE" "[I" ∈ gm_ws := gm_mem 422 (by decide +kernel) rfl
theorem lk_X9_120 : Cond.fieldLink RX9 120 "GlassWords" "MOST_RULE" "[I" ∈ gm_ws := gm_mem 424 (by decide +kernel) rfl
theorem lk_X9_123 : Cond.methodLink RX9 123 ⟨"GlassWords$Studio", "linesAhead", "()I"⟩ ∈ gm_ws := gm_mem 434 (by decide +kernel) rfl
theorem lk_X9_132 : Cond.methodLink RX9 132 ⟨"GlassWords", "takesAhead", "(I)I"⟩ ∈ gm_ws := gm_mem 439 (by decide +kernel) rfl
theorem lk_X9_135 : Cond.methodLink RX9 135 ⟨"GlassWords$Studio", "readOne", "(LGlassWords$Paces;)V"⟩ ∈ gm_ws := gm_mem 463 (by decide +kernel) rfl
theorem lk_X9_145 : Cond.methodLink RX9 145 ⟨"GlassWords$Studio", "turnPaces", "(LGlassWords$Paces;)V"⟩ ∈ gm_ws := gm_mem 482 (by decide +kernel) rfl
theorem lk_X9_154 : Cond.methodLink RX9 154 ⟨"GlassWords$Studio", "tripsAhead", "()I"⟩ ∈ gm_ws := gm_mem 491 (by decide +kernel) rfl
theorem lk_X9_157 : Cond.methodLink RX9 157 ⟨"GlassWords$Studio", "seenAhead", "()I"⟩ ∈ gm_ws := gm_mem 495 (by decide +kernel) rfl
theorem lk_X9_166 : Cond.methodLink RX9 166 ⟨"GlassWords$Paces", "takeFrom", "([I)V"⟩ ∈ gm_ws := gm_mem 443 (by decide +kernel) rfl
theorem lk_X9_170 : Cond.methodLink RX9 170 ⟨"GlassWords$Paces", "step", "(I)V"⟩ ∈ gm_ws := gm_mem 503 (by decide +kernel) rfl
theorem lk_X9_174 : Cond.methodLink RX9 174 ⟨"GlassWords$Paces", "habit", "()I"⟩ ∈ gm_ws := gm_mem 508 (by decide +kernel) rfl
theorem lk_X9_177 : Cond.methodLink RX9 177 ⟨"GlassWords$Rounds", "lengthFrom", "([I)I"⟩ ∈ gm_ws := gm_mem 521 (by decide +kernel) rfl
theorem lk_X9_181 : Cond.methodLink RX9 181 ⟨"GlassWords$Rounds", "beginFrom", "([II)I"⟩ ∈ gm_ws := gm_mem 529 (by decide +kernel) rfl
theorem lk_X9_185 : Cond.methodLink RX9 185 ⟨"java/lang/Math", "abs", "(I)I"⟩ ∈ gm_ws := gm_mem 537 (by decide +kernel) rfl
theorem lk_X9_190 : Cond.methodLink RX9 190 ⟨"GlassWords$Searches", "nearestWeights", "(LGlassWords$Studio;)I"⟩ ∈ gm_ws := gm_mem 544 (by decide +kernel) rfl
theorem lk_X9_194 : Cond.methodLink RX9 194 ⟨"GlassWords$Searches", "offHour", "(LGlassWords$Studio;I)I"⟩ ∈ gm_ws := gm_mem 564 (by decide +kernel) rfl
theorem lk_X9_198 : Cond.methodLink RX9 198 ⟨"GlassWords$Searches", "calmestEyes", "(LGlassWords$Studio;)I"⟩ ∈ gm_ws := gm_mem 569 (by decide +kernel) rfl
theorem lk_X9_201 : Cond.methodLink RX9 201 ⟨"GlassWords$Studio", "unrestAhead", "(II)I"⟩ ∈ gm_ws := gm_mem 584 (by decide +kernel) rfl
theorem lk_X9_204 : Cond.methodLink RX9 204 ⟨"GlassWords$Searches", "mostTripping", "(LGlassWords$Studio;)I"⟩ ∈ gm_ws := gm_mem 589 (by decide +kernel) rfl
theorem lk_X9_207 : Cond.methodLink RX9 207 ⟨"GlassWords$Searches", "quickestKind", "(LGlassWords$Studio;I)I"⟩ ∈ gm_ws := gm_mem 598 (by decide +kernel) rfl
theorem lk_X9_210 : Cond.methodLink RX9 210 ⟨"GlassWords$Searches", "fewestEased", "(LGlassWords$Studio;I)I"⟩ ∈ gm_ws := gm_mem 606 (by decide +kernel) rfl
theorem lk_X9_213 : Cond.methodLink RX9 213 ⟨"GlassWords$Searches", "bestLeftOut", "(LGlassWords$Studio;)I"⟩ ∈ gm_ws := gm_mem 626 (by decide +kernel) rfl
theorem lk_X9_216 : Cond.methodLink RX9 216 ⟨"GlassWords$Studio", "wordsAheadWithout", "(I)I"⟩ ∈ gm_ws := gm_mem 644 (by decide +kernel) rfl
theorem lk_X9_219 : Cond.methodLink RX9 219 ⟨"GlassWords", "isWay", "(II)Z"⟩ ∈ gm_ws := gm_mem 649 (by decide +kernel) rfl
theorem lk_X9_223 : Cond.methodLink RX9 223 ⟨"GlassWords$Ways", "measure", "(LGlassWords$Studio;II)V"⟩ ∈ gm_ws := gm_mem 653 (by decide +kernel) rfl
theorem lk_X9_227 : Cond.methodLink RX9 227 ⟨"GlassWords$Ways", "shortest", "(I)I"⟩ ∈ gm_ws := gm_mem 663 (by decide +kernel) rfl
theorem lk_X9_230 : Cond.methodLink RX9 230 ⟨"GlassWords$Ways", "linesRead", "(II)I"⟩ ∈ gm_ws := gm_mem 671 (by decide +kernel) rfl
theorem lk_X9_233 : Cond.methodLink RX9 233 ⟨"GlassWords", "isSheet", "(I)Z"⟩ ∈ gm_ws := gm_mem 683 (by decide +kernel) rfl
theorem lk_X9_236 : Cond.methodLink RX9 236 ⟨"GlassWords$Sheet", "isMissing", "()Z"⟩ ∈ gm_ws := gm_mem 687 (by decide +kernel) rfl
theorem lk_X9_239 : Cond.methodLink RX9 239 ⟨"GlassWords$Searches", "tallyFits", "(LGlassWords$Studio;LGlassWords$Sheet;)V"⟩ ∈ gm_ws := gm_mem 691 (by decide +kernel) rfl
theorem lk_X9_252 : Cond.methodLink RX9 252 ⟨"GlassWords", "commonDivisor", "(II)I"⟩ ∈ gm_ws := gm_mem 708 (by decide +kernel) rfl
theorem lk_X9_256 : Cond.methodLink RX9 256 ⟨"GlassWords$Studio", "spendEvening", "(ILGlassWords$Paces;)I"⟩ ∈ gm_ws := gm_mem 720 (by decide +kernel) rfl
theorem lk_X9_263 : Cond.methodLink RX9 263 ⟨"GlassWords$Studio", "become", "(LGlassWords$Studio;)V"⟩ ∈ gm_ws := gm_mem 735 (by decide +kernel) rfl
theorem lk_X9_270 : Cond.methodLink RX9 270 ⟨"GlassWords$Tape", "append", "(II)V"⟩ ∈ gm_ws := gm_mem 747 (by decide +kernel) rfl
theorem lk_X9_274 : Cond.methodLink RX9 274 ⟨"GlassWords$Script", "tellTo", "(LGlassWords$Studio;LGlassWords$Tape;)I"⟩ ∈ gm_ws := gm_mem 759 (by decide +kernel) rfl
theorem lk_X9_284 : Cond.methodLink RX9 284 ⟨"GlassWords$Kinds", "isOrIsUnder", "(II)Z"⟩ ∈ gm_ws := gm_mem 898 (by decide +kernel) rfl
theorem lk_X9_289 : Cond.methodLink RX9 289 ⟨"GlassWords$Sheet", "canHave", "(I)Z"⟩ ∈ gm_ws := gm_mem 907 (by decide +kernel) rfl
theorem lk_X9_292 : Cond.methodLink RX9 292 ⟨"GlassWords$Sheet", "begin", "(II)V"⟩ ∈ gm_ws := gm_mem 910 (by decide +kernel) rfl
theorem lk_X9_296 : Cond.methodLink RX9 296 ⟨"GlassWords$Sheet", "put", "(II)V"⟩ ∈ gm_ws := gm_mem 919 (by decide +kernel) rfl
theorem lk_X9_302 : Cond.methodLink RX9 302 ⟨"GlassWords$Sheet", "hasPart", "(II)Z"⟩ ∈ gm_ws := gm_mem 927 (by decide +kernel) rfl
theorem lk_X9_308 : Cond.methodLink RX9 308 ⟨"java/lang/System", "arraycopy", "(Ljava/lang/Object;ILjava/lang/Object;II)V"⟩ ∈ gm_ws := gm_mem 931 (by decide +kernel) rfl
theorem lk_X9_314 : Cond.methodLink RX9 314 ⟨"GlassWords$Studio", "takeWords", "(LGlassWords$Sheet;)I"⟩ ∈ gm_ws := gm_mem 936 (by decide +kernel) rfl
theorem lk_X9_318 : Cond.methodLink RX9 318 ⟨"GlassWords", "firstWrongTime", "(LGlassWords$Sheet;)I"⟩ ∈ gm_ws := gm_mem 945 (by decide +kernel) rfl
theorem lk_X9_328 : Cond.methodLink RX9 328 ⟨"GlassWords$Studio", "sumOf", "([I)I"⟩ ∈ gm_ws := gm_mem 965 (by decide +kernel) rfl
theorem lk_X9_334 : Cond.methodLink RX9 334 ⟨"GlassWords$Studio", "spotsHeld", "()I"⟩ ∈ gm_ws := gm_mem 969 (by decide +kernel) rfl
theorem lk_X9_338 : Cond.methodLink RX9 338 ⟨"GlassWords$Studio", "takesAhead", "(ILGlassWords$Paces;)I"⟩ ∈ gm_ws := gm_mem 447 (by decide +kernel) rfl
theorem fd_X1_9 : FdOk RX1 9 0 0 0 := ⟨RX1, TX1, 6, rfl, by decide, gm_mem 166 (by decide +kernel) rfl, inX1, rfl, rfl, by decide⟩
theorem fd_X1_15 : FdOk RX1 15 0 1 0 := ⟨RX1, TX1, 6, rfl, by decide, gm_mem 171 (by decide +kernel) rfl, inX1, rfl, rfl, by decide⟩
theorem fd_X1_18 : FdOk RX1 18 0 2 0 := ⟨RX1, TX1, 6, rfl, by decide, gm_mem 175 (by decide +kernel) rfl, inX1, rfl, rfl, by decide⟩
theorem fd_X1_21 : FdOk RX1 21 0 3 0 := ⟨RX1, TX1, 6, rfl, by decide, gm_mem 177 (by decide +kernel) rfl, inX1, rfl, rfl, by decide⟩
theorem fd_X1_24 : FdOk RX1 24 0 4 0 := ⟨RX1, TX1, 6, rfl, by decide, gm_mem 179 (by decide +kernel) rfl, inX1, rfl, rfl, by decide⟩
theorem fd_X1_27 : FdOk RX1 27 0 5 0 := ⟨RX1, TX1, 6, rfl, by decide, gm_mem 180 (by decide +kernel) rfl, inX1, rfl, rfl, by decide⟩
theorem fd_X10_9 : FdOk RX10 9 9 0 1 := ⟨RX10, TX10, 28, rfl, by decide, gm_mem 992 (by decide +kernel) rfl, inX10, rfl, rfl, by decide⟩
theorem fd_X10_13 : FdOk RX10 13 9 1 1 := ⟨RX10, TX10, 28, rfl, by decide, gm_mem 993 (by decide +kernel) rfl, inX10, rfl, rfl, by decide⟩
theorem fd_X10_16 : FdOk RX10 16 9 2 1 := ⟨RX10, TX10, 28, rfl, by decide, gm_mem 994 (by decide +kernel) rfl, inX10, rfl, rfl, by decide⟩
theorem fd_X10_19 : FdOk RX10 19 9 4 1 := ⟨RX10, TX10, 28, rfl, by decide, gm_mem 996 (by decide +kernel) rfl, inX10, rfl, rfl, by decide⟩
theorem fd_X10_22 : FdOk RX10 22 9 5 1 := ⟨RX10, TX10, 28, rfl, by decide, gm_mem 997 (by decide +kernel) rfl, inX10, rfl, rfl, by decide⟩
theorem fd_X10_25 : FdOk RX10 25 9 10 1 := ⟨RX10, TX10, 28, rfl, by decide, gm_mem 1002 (by decide +kernel) rfl, inX10, rfl, rfl, by decide⟩
theorem fd_X10_28 : FdOk RX10 28 9 13 1 := ⟨RX10, TX10, 28, rfl, by decide, gm_mem 1005 (by decide +kernel) rfl, inX10, rfl, rfl, by decide⟩
theorem fd_X10_47 : FdOk RX10 47 9 20 1 := ⟨RX10, TX10, 28, rfl, by decide, gm_mem 1012 (by decide +kernel) rfl, inX10, rfl, rfl, by decide⟩
theorem fd_X10_51 : FdOk RX10 51 9 21 1 := ⟨RX10, TX10, 28, rfl, by decide, gm_mem 1013 (by decide +kernel) rfl, inX10, rfl, rfl, by decide⟩
theorem fd_X10_54 : FdOk RX10 54 9 24 1 := ⟨RX10, TX10, 28, rfl, by decide, gm_mem 1016 (by decide +kernel) rfl, inX10, rfl, rfl, by decide⟩
theorem fd_X10_57 : FdOk RX10 57 9 25 1 := ⟨RX10, TX10, 28, rfl, by decide, gm_mem 1017 (by decide +kernel) rfl, inX10, rfl, rfl, by decide⟩
theorem fd_X10_60 : FdOk RX10 60 9 26 1 := ⟨RX10, TX10, 28, rfl, by decide, gm_mem 1018 (by decide +kernel) rfl, inX10, rfl, rfl, by decide⟩
theorem fd_X10_63 : FdOk RX10 63 9 27 1 := ⟨RX10, TX10, 28, rfl, by decide, gm_mem 1019 (by decide +kernel) rfl, inX10, rfl, rfl, by decide⟩
theorem fd_X10_171 : FdOk RX10 171 9 6 0 := ⟨RX10, TX10, 28, rfl, by decide, gm_mem 998 (by decide +kernel) rfl, inX10, rfl, rfl, by decide⟩
theorem fd_X10_178 : FdOk RX10 178 9 7 0 := ⟨RX10, TX10, 28, rfl, by decide, gm_mem 999 (by decide +kernel) rfl, inX10, rfl, rfl, by decide⟩
theorem fd_X10_195 : FdOk RX10 195 9 8 0 := ⟨RX10, TX10, 28, rfl, by decide, gm_mem 1000 (by decide +kernel) rfl, inX10, rfl, rfl, by decide⟩
theorem fd_X10_198 : FdOk RX10 198 9 9 0 := ⟨RX10, TX10, 28, rfl, by decide, gm_mem 1001 (by decide +kernel) rfl, inX10, rfl, rfl, by decide⟩
theorem fd_X10_216 : FdOk RX10 216 9 11 0 := ⟨RX10, TX10, 28, rfl, by decide, gm_mem 1003 (by decide +kernel) rfl, inX10, rfl, rfl, by decide⟩
theorem fd_X10_219 : FdOk RX10 219 9 12 0 := ⟨RX10, TX10, 28, rfl, by decide, gm_mem 1004 (by decide +kernel) rfl, inX10, rfl, rfl, by decide⟩
theorem fd_X10_240 : FdOk RX10 240 9 14 0 := ⟨RX10, TX10, 28, rfl, by decide, gm_mem 1006 (by decide +kernel) rfl, inX10, rfl, rfl, by decide⟩
theorem fd_X10_243 : FdOk RX10 243 9 16 0 := ⟨RX10, TX10, 28, rfl, by decide, gm_mem 1008 (by decide +kernel) rfl, inX10, rfl, rfl, by decide⟩
theorem fd_X10_246 : FdOk RX10 246 9 15 0 := ⟨RX10, TX10, 28, rfl, by decide, gm_mem 1007 (by decide +kernel) rfl, inX10, rfl, rfl, by decide⟩
theorem fd_X10_252 : FdOk RX10 252 9 18 0 := ⟨RX10, TX10, 28, rfl, by decide, gm_mem 1010 (by decide +kernel) rfl, inX10, rfl, rfl, by decide⟩
theorem fd_X10_255 : FdOk RX10 255 9 17 0 := ⟨RX10, TX10, 28, rfl, by decide, gm_mem 1009 (by decide +kernel) rfl, inX10, rfl, rfl, by decide⟩
theorem fd_X10_266 : FdOk RX10 266 9 19 0 := ⟨RX10, TX10, 28, rfl, by decide, gm_mem 1011 (by decide +kernel) rfl, inX10, rfl, rfl, by decide⟩
theorem fd_X10_277 : FdOk RX10 277 9 22 0 := ⟨RX10, TX10, 28, rfl, by decide, gm_mem 1014 (by decide +kernel) rfl, inX10, rfl, rfl, by decide⟩
theorem fd_X10_303 : FdOk RX10 303 9 23 0 := ⟨RX10, TX10, 28, rfl, by decide, gm_mem 1015 (by decide +kernel) rfl, inX10, rfl, rfl, by decide⟩
theorem fd_X10_350 : FdOk RX10 350 9 3 0 := ⟨RX10, TX10, 28, rfl, by decide, gm_mem 995 (by decide +kernel) rfl, inX10, rfl, rfl, by decide⟩
theorem fd_X2_10 : FdOk RX2 10 1 0 1 := ⟨RX2, TX2, 2, rfl, by decide, gm_mem 202 (by decide +kernel) rfl, inX2, rfl, rfl, by decide⟩
theorem fd_X2_16 : FdOk RX2 16 1 1 1 := ⟨RX2, TX2, 2, rfl, by decide, gm_mem 203 (by decide +kernel) rfl, inX2, rfl, rfl, by decide⟩
theorem fd_X2_28 : FdOk RX2 28 0 0 0 := ⟨RX1, TX1, 6, rfl, by decide, gm_mem 167 (by decide +kernel) rfl, inX1, rfl, rfl, by decide⟩
theorem fd_X2_32 : FdOk RX2 32 0 1 0 := ⟨RX1, TX1, 6, rfl, by decide, gm_mem 172 (by decide +kernel) rfl, inX1, rfl, rfl, by decide⟩
theorem fd_X3_9 : FdOk RX3 9 2 1 2 := ⟨RX3, TX3, 6, rfl, by decide, gm_mem 275 (by decide +kernel) rfl, inX3, rfl, rfl, by decide⟩
theorem fd_X3_15 : FdOk RX3 15 2 0 2 := ⟨RX3, TX3, 6, rfl, by decide, gm_mem 274 (by decide +kernel) rfl, inX3, rfl, rfl, by decide⟩
theorem fd_X3_19 : FdOk RX3 19 2 4 0 := ⟨RX3, TX3, 6, rfl, by decide, gm_mem 278 (by decide +kernel) rfl, inX3, rfl, rfl, by decide⟩
theorem fd_X3_30 : FdOk RX3 30 2 3 0 := ⟨RX3, TX3, 6, rfl, by decide, gm_mem 277 (by decide +kernel) rfl, inX3, rfl, rfl, by decide⟩
theorem fd_X3_33 : FdOk RX3 33 2 2 0 := ⟨RX3, TX3, 6, rfl, by decide, gm_mem 276 (by decide +kernel) rfl, inX3, rfl, rfl, by decide⟩
theorem fd_X3_98 : FdOk RX3 98 2 5 0 := ⟨RX3, TX3, 6, rfl, by decide, gm_mem 279 (by decide +kernel) rfl, inX3, rfl, rfl, by decide⟩
theorem fd_X3_114 : FdOk RX3 114 5 3 1 := ⟨RX6, TX6, 11, rfl, by decide, gm_mem 119 (by decide +kernel) rfl, inX6, rfl, rfl, by decide⟩
theorem fd_X3_127 : FdOk RX3 127 6 0 1 := ⟨RX7, TX7, 2, rfl, by decide, gm_mem 259 (by decide +kernel) rfl, inX7, rfl, rfl, by decide⟩
theorem fd_X3_150 : FdOk RX3 150 6 1 0 := ⟨RX7, TX7, 2, rfl, by decide, gm_mem 261 (by decide +kernel) rfl, inX7, rfl, rfl, by decide⟩
theorem fd_X4_12 : FdOk RX4 12 3 0 1 := ⟨RX4, TX4, 5, rfl, by decide, gm_mem 217 (by decide +kernel) rfl, inX4, rfl, rfl, by decide⟩
theorem fd_X4_18 : FdOk RX4 18 3 1 1 := ⟨RX4, TX4, 5, rfl, by decide, gm_mem 218 (by decide +kernel) rfl, inX4, rfl, rfl, by decide⟩
theorem fd_X4_40 : FdOk RX4 40 5 3 1 := ⟨RX6, TX6, 11, rfl, by decide, gm_mem 117 (by decide +kernel) rfl, inX6, rfl, rfl, by decide⟩
theorem fd_X4_73 : FdOk RX4 73 5 5 0 := ⟨RX6, TX6, 11, rfl, by decide, gm_mem 123 (by decide +kernel) rfl, inX6, rfl, rfl, by decide⟩
theorem fd_X4_79 : FdOk RX4 79 5 0 1 := ⟨RX6, TX6, 11, rfl, by decide, gm_mem 109 (by decide +kernel) rfl, inX6, rfl, rfl, by decide⟩
theorem fd_X4_82 : FdOk RX4 82 5 6 0 := ⟨RX6, TX6, 11, rfl, by decide, gm_mem 126 (by decide +kernel) rfl, inX6, rfl, rfl, by decide⟩
theorem fd_X4_107 : FdOk RX4 107 0 0 0 := ⟨RX1, TX1, 6, rfl, by decide, gm_mem 168 (by decide +kernel) rfl, inX1, rfl, rfl, by decide⟩
theorem fd_X4_117 : FdOk RX4 117 3 2 0 := ⟨RX4, TX4, 5, rfl, by decide, gm_mem 219 (by decide +kernel) rfl, inX4, rfl, rfl, by decide⟩
theorem fd_X4_120 : FdOk RX4 120 3 3 0 := ⟨RX4, TX4, 5, rfl, by decide, gm_mem 221 (by decide +kernel) rfl, inX4, rfl, rfl, by decide⟩
theorem fd_X4_130 : FdOk RX4 130 4 2 0 := ⟨RX5, TX5, 3, rfl, by decide, gm_mem 307 (by decide +kernel) rfl, inX5, rfl, rfl, by decide⟩
theorem fd_X4_138 : FdOk RX4 138 4 0 1 := ⟨RX5, TX5, 3, rfl, by decide, gm_mem 301 (by decide +kernel) rfl, inX5, rfl, rfl, by decide⟩
theorem fd_X5_9 : FdOk RX5 9 4 0 1 := ⟨RX5, TX5, 3, rfl, by decide, gm_mem 300 (by decide +kernel) rfl, inX5, rfl, rfl, by decide⟩
theorem fd_X5_15 : FdOk RX5 15 4 1 0 := ⟨RX5, TX5, 3, rfl, by decide, gm_mem 304 (by decide +kernel) rfl, inX5, rfl, rfl, by decide⟩
theorem fd_X5_19 : FdOk RX5 19 4 2 0 := ⟨RX5, TX5, 3, rfl, by decide, gm_mem 306 (by decide +kernel) rfl, inX5, rfl, rfl, by decide⟩
theorem fd_X6_9 : FdOk RX6 9 5 0 1 := ⟨RX6, TX6, 11, rfl, by decide, gm_mem 108 (by decide +kernel) rfl, inX6, rfl, rfl, by decide⟩
theorem fd_X6_15 : FdOk RX6 15 5 1 1 := ⟨RX6, TX6, 11, rfl, by decide, gm_mem 111 (by decide +kernel) rfl, inX6, rfl, rfl, by decide⟩
theorem fd_X6_18 : FdOk RX6 18 5 2 1 := ⟨RX6, TX6, 11, rfl, by decide, gm_mem 113 (by decide +kernel) rfl, inX6, rfl, rfl, by decide⟩
theorem fd_X6_21 : FdOk RX6 21 5 3 1 := ⟨RX6, TX6, 11, rfl, by decide, gm_mem 115 (by decide +kernel) rfl, inX6, rfl, rfl, by decide⟩
theorem fd_X6_24 : FdOk RX6 24 5 4 1 := ⟨RX6, TX6, 11, rfl, by decide, gm_mem 120 (by decide +kernel) rfl, inX6, rfl, rfl, by decide⟩
theorem fd_X6_27 : FdOk RX6 27 5 10 0 := ⟨RX6, TX6, 11, rfl, by decide, gm_mem 134 (by decide +kernel) rfl, inX6, rfl, rfl, by decide⟩
theorem fd_X6_46 : FdOk RX6 46 5 5 0 := ⟨RX6, TX6, 11, rfl, by decide, gm_mem 122 (by decide +kernel) rfl, inX6, rfl, rfl, by decide⟩
theorem fd_X6_49 : FdOk RX6 49 5 6 0 := ⟨RX6, TX6, 11, rfl, by decide, gm_mem 125 (by decide +kernel) rfl, inX6, rfl, rfl, by decide⟩
theorem fd_X6_52 : FdOk RX6 52 5 7 0 := ⟨RX6, TX6, 11, rfl, by decide, gm_mem 128 (by decide +kernel) rfl, inX6, rfl, rfl, by decide⟩
theorem fd_X6_55 : FdOk RX6 55 5 8 0 := ⟨RX6, TX6, 11, rfl, by decide, gm_mem 130 (by decide +kernel) rfl, inX6, rfl, rfl, by decide⟩
theorem fd_X6_58 : FdOk RX6 58 5 9 0 := ⟨RX6, TX6, 11, rfl, by decide, gm_mem 132 (by decide +kernel) rfl, inX6, rfl, rfl, by decide⟩
theorem fd_X6_74 : FdOk RX6 74 0 0 0 := ⟨RX1, TX1, 6, rfl, by decide, gm_mem 170 (by decide +kernel) rfl, inX1, rfl, rfl, by decide⟩
theorem fd_X6_94 : FdOk RX6 94 4 2 0 := ⟨RX5, TX5, 3, rfl, by decide, gm_mem 308 (by decide +kernel) rfl, inX5, rfl, rfl, by decide⟩
theorem fd_X6_99 : FdOk RX6 99 4 0 1 := ⟨RX5, TX5, 3, rfl, by decide, gm_mem 302 (by decide +kernel) rfl, inX5, rfl, rfl, by decide⟩
theorem fd_X6_110 : FdOk RX6 110 0 1 0 := ⟨RX1, TX1, 6, rfl, by decide, gm_mem 174 (by decide +kernel) rfl, inX1, rfl, rfl, by decide⟩
theorem fd_X7_9 : FdOk RX7 9 6 0 1 := ⟨RX7, TX7, 2, rfl, by decide, gm_mem 258 (by decide +kernel) rfl, inX7, rfl, rfl, by decide⟩
theorem fd_X7_15 : FdOk RX7 15 6 1 0 := ⟨RX7, TX7, 2, rfl, by decide, gm_mem 260 (by decide +kernel) rfl, inX7, rfl, rfl, by decide⟩
theorem fd_X8_9 : FdOk RX8 9 7 0 1 := ⟨RX8, TX8, 3, rfl, by decide, gm_mem 242 (by decide +kernel) rfl, inX8, rfl, rfl, by decide⟩
theorem fd_X8_15 : FdOk RX8 15 7 1 1 := ⟨RX8, TX8, 3, rfl, by decide, gm_mem 243 (by decide +kernel) rfl, inX8, rfl, rfl, by decide⟩
theorem fd_X8_18 : FdOk RX8 18 7 2 1 := ⟨RX8, TX8, 3, rfl, by decide, gm_mem 244 (by decide +kernel) rfl, inX8, rfl, rfl, by decide⟩
theorem fd_X8_21 : FdOk RX8 21 5 3 1 := ⟨RX6, TX6, 11, rfl, by decide, gm_mem 116 (by decide +kernel) rfl, inX6, rfl, rfl, by decide⟩
theorem fd_X9_10 : FdOk RX9 10 8 0 1 := ⟨RX9, TX9, 12, rfl, by decide, gm_mem 317 (by decide +kernel) rfl, inX9, rfl, rfl, by decide⟩
theorem fd_X9_16 : FdOk RX9 16 8 1 1 := ⟨RX9, TX9, 12, rfl, by decide, gm_mem 318 (by decide +kernel) rfl, inX9, rfl, rfl, by decide⟩
theorem fd_X9_19 : FdOk RX9 19 8 2 1 := ⟨RX9, TX9, 12, rfl, by decide, gm_mem 319 (by decide +kernel) rfl, inX9, rfl, rfl, by decide⟩
theorem fd_X9_25 : FdOk RX9 25 8 3 1 := ⟨RX9, TX9, 12, rfl, by decide, gm_mem 320 (by decide +kernel) rfl, inX9, rfl, rfl, by decide⟩
theorem fd_X9_32 : FdOk RX9 32 8 4 1 := ⟨RX9, TX9, 12, rfl, by decide, gm_mem 321 (by decide +kernel) rfl, inX9, rfl, rfl, by decide⟩
theorem fd_X9_39 : FdOk RX9 39 8 5 1 := ⟨RX9, TX9, 12, rfl, by decide, gm_mem 322 (by decide +kernel) rfl, inX9, rfl, rfl, by decide⟩
theorem fd_X9_46 : FdOk RX9 46 8 6 1 := ⟨RX9, TX9, 12, rfl, by decide, gm_mem 323 (by decide +kernel) rfl, inX9, rfl, rfl, by decide⟩
theorem fd_X9_53 : FdOk RX9 53 8 7 1 := ⟨RX9, TX9, 12, rfl, by decide, gm_mem 324 (by decide +kernel) rfl, inX9, rfl, rfl, by decide⟩
theorem fd_X9_60 : FdOk RX9 60 8 8 1 := ⟨RX9, TX9, 12, rfl, by decide, gm_mem 325 (by decide +kernel) rfl, inX9, rfl, rfl, by decide⟩
theorem fd_X9_66 : FdOk RX9 66 8 9 1 := ⟨RX9, TX9, 12, rfl, by decide, gm_mem 326 (by decide +kernel) rfl, inX9, rfl, rfl, by decide⟩
theorem fd_X9_70 : FdOk RX9 70 8 10 1 := ⟨RX9, TX9, 12, rfl, by decide, gm_mem 327 (by decide +kernel) rfl, inX9, rfl, rfl, by decide⟩
theorem fd_X9_94 : FdOk RX9 94 5 3 1 := ⟨RX6, TX6, 11, rfl, by decide, gm_mem 118 (by decide +kernel) rfl, inX6, rfl, rfl, by decide⟩
theorem fd_X9_127 : FdOk RX9 127 5 7 0 := ⟨RX6, TX6, 11, rfl, by decide, gm_mem 129 (by decide +kernel) rfl, inX6, rfl, rfl, by decide⟩
theorem fd_X9_139 : FdOk RX9 139 5 5 0 := ⟨RX6, TX6, 11, rfl, by decide, gm_mem 124 (by decide +kernel) rfl, inX6, rfl, rfl, by decide⟩
theorem fd_X9_142 : FdOk RX9 142 5 6 0 := ⟨RX6, TX6, 11, rfl, by decide, gm_mem 127 (by decide +kernel) rfl, inX6, rfl, rfl, by decide⟩
theorem fd_X9_148 : FdOk RX9 148 5 8 0 := ⟨RX6, TX6, 11, rfl, by decide, gm_mem 131 (by decide +kernel) rfl, inX6, rfl, rfl, by decide⟩
theorem fd_X9_151 : FdOk RX9 151 5 9 0 := ⟨RX6, TX6, 11, rfl, by decide, gm_mem 133 (by decide +kernel) rfl, inX6, rfl, rfl, by decide⟩
theorem fd_X9_160 : FdOk RX9 160 0 0 0 := ⟨RX1, TX1, 6, rfl, by decide, gm_mem 169 (by decide +kernel) rfl, inX1, rfl, rfl, by decide⟩
theorem fd_X9_163 : FdOk RX9 163 0 1 0 := ⟨RX1, TX1, 6, rfl, by decide, gm_mem 173 (by decide +kernel) rfl, inX1, rfl, rfl, by decide⟩
theorem fd_X9_243 : FdOk RX9 243 3 2 0 := ⟨RX4, TX4, 5, rfl, by decide, gm_mem 220 (by decide +kernel) rfl, inX4, rfl, rfl, by decide⟩
theorem fd_X9_246 : FdOk RX9 246 3 4 0 := ⟨RX4, TX4, 5, rfl, by decide, gm_mem 224 (by decide +kernel) rfl, inX4, rfl, rfl, by decide⟩
theorem fd_X9_249 : FdOk RX9 249 3 3 0 := ⟨RX4, TX4, 5, rfl, by decide, gm_mem 222 (by decide +kernel) rfl, inX4, rfl, rfl, by decide⟩
theorem fd_X9_260 : FdOk RX9 260 5 10 0 := ⟨RX6, TX6, 11, rfl, by decide, gm_mem 135 (by decide +kernel) rfl, inX6, rfl, rfl, by decide⟩
theorem fd_X9_267 : FdOk RX9 267 6 1 0 := ⟨RX7, TX7, 2, rfl, by decide, gm_mem 262 (by decide +kernel) rfl, inX7, rfl, rfl, by decide⟩
theorem fd_X9_278 : FdOk RX9 278 5 4 1 := ⟨RX6, TX6, 11, rfl, by decide, gm_mem 121 (by decide +kernel) rfl, inX6, rfl, rfl, by decide⟩
theorem fd_X9_281 : FdOk RX9 281 5 0 1 := ⟨RX6, TX6, 11, rfl, by decide, gm_mem 110 (by decide +kernel) rfl, inX6, rfl, rfl, by decide⟩
theorem fd_X9_295 : FdOk RX9 295 4 2 0 := ⟨RX5, TX5, 3, rfl, by decide, gm_mem 309 (by decide +kernel) rfl, inX5, rfl, rfl, by decide⟩
theorem fd_X9_299 : FdOk RX9 299 4 1 0 := ⟨RX5, TX5, 3, rfl, by decide, gm_mem 305 (by decide +kernel) rfl, inX5, rfl, rfl, by decide⟩
theorem fd_X9_305 : FdOk RX9 305 4 0 1 := ⟨RX5, TX5, 3, rfl, by decide, gm_mem 303 (by decide +kernel) rfl, inX5, rfl, rfl, by decide⟩
theorem fd_X9_321 : FdOk RX9 321 8 11 0 := ⟨RX9, TX9, 12, rfl, by decide, gm_mem 328 (by decide +kernel) rfl, inX9, rfl, rfl, by decide⟩
theorem fd_X9_325 : FdOk RX9 325 5 1 1 := ⟨RX6, TX6, 11, rfl, by decide, gm_mem 112 (by decide +kernel) rfl, inX6, rfl, rfl, by decide⟩
theorem fd_X9_331 : FdOk RX9 331 5 2 1 := ⟨RX6, TX6, 11, rfl, by decide, gm_mem 114 (by decide +kernel) rfl, inX6, rfl, rfl, by decide⟩
theorem pd_X1_9 : PdOk RX1 9 0 0 0 .int := ⟨RX1, TX1, 6, tyX1, rfl, by decide, gm_mem 166 (by decide +kernel) rfl, inX1, rfl, rfl, by decide, tyX1_ok, nmX1, rfl, by decide +kernel⟩
theorem pd_X1_15 : PdOk RX1 15 0 1 0 .int := ⟨RX1, TX1, 6, tyX1, rfl, by decide, gm_mem 171 (by decide +kernel) rfl, inX1, rfl, rfl, by decide, tyX1_ok, nmX1, rfl, by decide +kernel⟩
theorem pd_X1_18 : PdOk RX1 18 0 2 0 .int := ⟨RX1, TX1, 6, tyX1, rfl, by decide, gm_mem 175 (by decide +kernel) rfl, inX1, rfl, rfl, by decide, tyX1_ok, nmX1, rfl, by decide +kernel⟩
theorem pd_X1_21 : PdOk RX1 21 0 3 0 .int := ⟨RX1, TX1, 6, tyX1, rfl, by decide, gm_mem 177 (by decide +kernel) rfl, inX1, rfl, rfl, by decide, tyX1_ok, nmX1, rfl, by decide +kernel⟩
theorem pd_X1_24 : PdOk RX1 24 0 4 0 .int := ⟨RX1, TX1, 6, tyX1, rfl, by decide, gm_mem 179 (by decide +kernel) rfl, inX1, rfl, rfl, by decide, tyX1_ok, nmX1, rfl, by decide +kernel⟩
theorem pd_X1_27 : PdOk RX1 27 0 5 0 .int := ⟨RX1, TX1, 6, tyX1, rfl, by decide, gm_mem 180 (by decide +kernel) rfl, inX1, rfl, rfl, by decide, tyX1_ok, nmX1, rfl, by decide +kernel⟩
theorem pd_X10_171 : PdOk RX10 171 9 6 0 .int := ⟨RX10, TX10, 28, tyX10, rfl, by decide, gm_mem 998 (by decide +kernel) rfl, inX10, rfl, rfl, by decide, tyX10_ok, nmX10, rfl, by decide +kernel⟩
theorem pd_X10_178 : PdOk RX10 178 9 7 0 .int := ⟨RX10, TX10, 28, tyX10, rfl, by decide, gm_mem 999 (by decide +kernel) rfl, inX10, rfl, rfl, by decide, tyX10_ok, nmX10, rfl, by decide +kernel⟩
theorem pd_X10_195 : PdOk RX10 195 9 8 0 .int := ⟨RX10, TX10, 28, tyX10, rfl, by decide, gm_mem 1000 (by decide +kernel) rfl, inX10, rfl, rfl, by decide, tyX10_ok, nmX10, rfl, by decide +kernel⟩
theorem pd_X10_198 : PdOk RX10 198 9 9 0 .int := ⟨RX10, TX10, 28, tyX10, rfl, by decide, gm_mem 1001 (by decide +kernel) rfl, inX10, rfl, rfl, by decide, tyX10_ok, nmX10, rfl, by decide +kernel⟩
theorem pd_X10_216 : PdOk RX10 216 9 11 0 .int := ⟨RX10, TX10, 28, tyX10, rfl, by decide, gm_mem 1003 (by decide +kernel) rfl, inX10, rfl, rfl, by decide, tyX10_ok, nmX10, rfl, by decide +kernel⟩
theorem pd_X10_219 : PdOk RX10 219 9 12 0 .int := ⟨RX10, TX10, 28, tyX10, rfl, by decide, gm_mem 1004 (by decide +kernel) rfl, inX10, rfl, rfl, by decide, tyX10_ok, nmX10, rfl, by decide +kernel⟩
theorem pd_X10_240 : PdOk RX10 240 9 14 0 .int := ⟨RX10, TX10, 28, tyX10, rfl, by decide, gm_mem 1006 (by decide +kernel) rfl, inX10, rfl, rfl, by decide, tyX10_ok, nmX10, rfl, by decide +kernel⟩
theorem pd_X10_243 : PdOk RX10 243 9 16 0 .int := ⟨RX10, TX10, 28, tyX10, rfl, by decide, gm_mem 1008 (by decide +kernel) rfl, inX10, rfl, rfl, by decide, tyX10_ok, nmX10, rfl, by decide +kernel⟩
theorem pd_X10_246 : PdOk RX10 246 9 15 0 .int := ⟨RX10, TX10, 28, tyX10, rfl, by decide, gm_mem 1007 (by decide +kernel) rfl, inX10, rfl, rfl, by decide, tyX10_ok, nmX10, rfl, by decide +kernel⟩
theorem pd_X10_252 : PdOk RX10 252 9 18 0 .int := ⟨RX10, TX10, 28, tyX10, rfl, by decide, gm_mem 1010 (by decide +kernel) rfl, inX10, rfl, rfl, by decide, tyX10_ok, nmX10, rfl, by decide +kernel⟩
theorem pd_X10_255 : PdOk RX10 255 9 17 0 .int := ⟨RX10, TX10, 28, tyX10, rfl, by decide, gm_mem 1009 (by decide +kernel) rfl, inX10, rfl, rfl, by decide, tyX10_ok, nmX10, rfl, by decide +kernel⟩
theorem pd_X10_266 : PdOk RX10 266 9 19 0 .boolean := ⟨RX10, TX10, 28, tyX10, rfl, by decide, gm_mem 1011 (by decide +kernel) rfl, inX10, rfl, rfl, by decide, tyX10_ok, nmX10, rfl, by decide +kernel⟩
theorem pd_X10_277 : PdOk RX10 277 9 22 0 .int := ⟨RX10, TX10, 28, tyX10, rfl, by decide, gm_mem 1014 (by decide +kernel) rfl, inX10, rfl, rfl, by decide, tyX10_ok, nmX10, rfl, by decide +kernel⟩
theorem pd_X10_303 : PdOk RX10 303 9 23 0 .int := ⟨RX10, TX10, 28, tyX10, rfl, by decide, gm_mem 1015 (by decide +kernel) rfl, inX10, rfl, rfl, by decide, tyX10_ok, nmX10, rfl, by decide +kernel⟩
theorem pd_X10_350 : PdOk RX10 350 9 3 0 .boolean := ⟨RX10, TX10, 28, tyX10, rfl, by decide, gm_mem 995 (by decide +kernel) rfl, inX10, rfl, rfl, by decide, tyX10_ok, nmX10, rfl, by decide +kernel⟩
theorem pd_X2_28 : PdOk RX2 28 0 0 0 .int := ⟨RX1, TX1, 6, tyX1, rfl, by decide, gm_mem 167 (by decide +kernel) rfl, inX1, rfl, rfl, by decide, tyX1_ok, nmX1, rfl, by decide +kernel⟩
theorem pd_X2_32 : PdOk RX2 32 0 1 0 .int := ⟨RX1, TX1, 6, tyX1, rfl, by decide, gm_mem 172 (by decide +kernel) rfl, inX1, rfl, rfl, by decide, tyX1_ok, nmX1, rfl, by decide +kernel⟩
theorem pd_X3_9 : PdOk RX3 9 2 1 2 (.object "GlassWords$Studio") := ⟨RX3, TX3, 6, tyX3, rfl, by decide, gm_mem 275 (by decide +kernel) rfl, inX3, rfl, rfl, by decide, tyX3_ok, nmX3, rfl, by decide +kernel⟩
theorem pd_X3_15 : PdOk RX3 15 2 0 2 (.object "GlassWords$Tape") := ⟨RX3, TX3, 6, tyX3, rfl, by decide, gm_mem 274 (by decide +kernel) rfl, inX3, rfl, rfl, by decide, tyX3_ok, nmX3, rfl, by decide +kernel⟩
theorem pd_X3_19 : PdOk RX3 19 2 4 0 .int := ⟨RX3, TX3, 6, tyX3, rfl, by decide, gm_mem 278 (by decide +kernel) rfl, inX3, rfl, rfl, by decide, tyX3_ok, nmX3, rfl, by decide +kernel⟩
theorem pd_X3_30 : PdOk RX3 30 2 3 0 .int := ⟨RX3, TX3, 6, tyX3, rfl, by decide, gm_mem 277 (by decide +kernel) rfl, inX3, rfl, rfl, by decide, tyX3_ok, nmX3, rfl, by decide +kernel⟩
theorem pd_X3_33 : PdOk RX3 33 2 2 0 .int := ⟨RX3, TX3, 6, tyX3, rfl, by decide, gm_mem 276 (by decide +kernel) rfl, inX3, rfl, rfl, by decide, tyX3_ok, nmX3, rfl, by decide +kernel⟩
theorem pd_X3_98 : PdOk RX3 98 2 5 0 .int := ⟨RX3, TX3, 6, tyX3, rfl, by decide, gm_mem 279 (by decide +kernel) rfl, inX3, rfl, rfl, by decide, tyX3_ok, nmX3, rfl, by decide +kernel⟩
theorem pd_X4_53 : PdOk RX4 53 0 2 0 .int := ⟨RX1, TX1, 6, tyX1, rfl, by decide, gm_mem 176 (by decide +kernel) rfl, inX1, rfl, rfl, by decide, tyX1_ok, nmX1, rfl, by decide +kernel⟩
theorem pd_X4_57 : PdOk RX4 57 0 3 0 .int := ⟨RX1, TX1, 6, tyX1, rfl, by decide, gm_mem 178 (by decide +kernel) rfl, inX1, rfl, rfl, by decide, tyX1_ok, nmX1, rfl, by decide +kernel⟩
theorem pd_X4_117 : PdOk RX4 117 3 2 0 .int := ⟨RX4, TX4, 5, tyX4, rfl, by decide, gm_mem 219 (by decide +kernel) rfl, inX4, rfl, rfl, by decide, tyX4_ok, nmX4, rfl, by decide +kernel⟩
theorem pd_X4_120 : PdOk RX4 120 3 3 0 .int := ⟨RX4, TX4, 5, tyX4, rfl, by decide, gm_mem 221 (by decide +kernel) rfl, inX4, rfl, rfl, by decide, tyX4_ok, nmX4, rfl, by decide +kernel⟩
theorem pd_X4_123 : PdOk RX4 123 3 4 0 .int := ⟨RX4, TX4, 5, tyX4, rfl, by decide, gm_mem 223 (by decide +kernel) rfl, inX4, rfl, rfl, by decide, tyX4_ok, nmX4, rfl, by decide +kernel⟩
theorem pd_X5_15 : PdOk RX5 15 4 1 0 .int := ⟨RX5, TX5, 3, tyX5, rfl, by decide, gm_mem 304 (by decide +kernel) rfl, inX5, rfl, rfl, by decide, tyX5_ok, nmX5, rfl, by decide +kernel⟩
theorem pd_X5_19 : PdOk RX5 19 4 2 0 .int := ⟨RX5, TX5, 3, tyX5, rfl, by decide, gm_mem 306 (by decide +kernel) rfl, inX5, rfl, rfl, by decide, tyX5_ok, nmX5, rfl, by decide +kernel⟩
theorem pd_X6_27 : PdOk RX6 27 5 10 0 .int := ⟨RX6, TX6, 11, tyX6, rfl, by decide, gm_mem 134 (by decide +kernel) rfl, inX6, rfl, rfl, by decide, tyX6_ok, nmX6, rfl, by decide +kernel⟩
theorem pd_X6_46 : PdOk RX6 46 5 5 0 .int := ⟨RX6, TX6, 11, tyX6, rfl, by decide, gm_mem 122 (by decide +kernel) rfl, inX6, rfl, rfl, by decide, tyX6_ok, nmX6, rfl, by decide +kernel⟩
theorem pd_X6_49 : PdOk RX6 49 5 6 0 .int := ⟨RX6, TX6, 11, tyX6, rfl, by decide, gm_mem 125 (by decide +kernel) rfl, inX6, rfl, rfl, by decide, tyX6_ok, nmX6, rfl, by decide +kernel⟩
theorem pd_X6_52 : PdOk RX6 52 5 7 0 .int := ⟨RX6, TX6, 11, tyX6, rfl, by decide, gm_mem 128 (by decide +kernel) rfl, inX6, rfl, rfl, by decide, tyX6_ok, nmX6, rfl, by decide +kernel⟩
theorem pd_X6_55 : PdOk RX6 55 5 8 0 .int := ⟨RX6, TX6, 11, tyX6, rfl, by decide, gm_mem 130 (by decide +kernel) rfl, inX6, rfl, rfl, by decide, tyX6_ok, nmX6, rfl, by decide +kernel⟩
theorem pd_X6_58 : PdOk RX6 58 5 9 0 .int := ⟨RX6, TX6, 11, tyX6, rfl, by decide, gm_mem 132 (by decide +kernel) rfl, inX6, rfl, rfl, by decide, tyX6_ok, nmX6, rfl, by decide +kernel⟩
theorem pd_X7_15 : PdOk RX7 15 6 1 0 .int := ⟨RX7, TX7, 2, tyX7, rfl, by decide, gm_mem 260 (by decide +kernel) rfl, inX7, rfl, rfl, by decide, tyX7_ok, nmX7, rfl, by decide +kernel⟩
theorem pd_X9_142 : PdOk RX9 142 5 6 0 .int := ⟨RX6, TX6, 11, tyX6, rfl, by decide, gm_mem 127 (by decide +kernel) rfl, inX6, rfl, rfl, by decide, tyX6_ok, nmX6, rfl, by decide +kernel⟩
theorem pd_X9_260 : PdOk RX9 260 5 10 0 .int := ⟨RX6, TX6, 11, tyX6, rfl, by decide, gm_mem 135 (by decide +kernel) rfl, inX6, rfl, rfl, by decide, tyX6_ok, nmX6, rfl, by decide +kernel⟩
theorem pd_X9_267 : PdOk RX9 267 6 1 0 .int := ⟨RX7, TX7, 2, tyX7, rfl, by decide, gm_mem 262 (by decide +kernel) rfl, inX7, rfl, rfl, by decide, tyX7_ok, nmX7, rfl, by decide +kernel⟩
theorem pd_X9_321 : PdOk RX9 321 8 11 0 .boolean := ⟨RX9, TX9, 12, tyX9, rfl, by decide, gm_mem 328 (by decide +kernel) rfl, inX9, rfl, rfl, by decide, tyX9_ok, nmX9, rfl, by decide +kernel⟩
theorem ct_J6_265 : Cond.constant RJ6 265 (1431655765) ∈ gm_ws := gm_mem 615 (by decide +kernel) rfl
theorem ct_J6_266 : Cond.constant RJ6 266 (858993459) ∈ gm_ws := gm_mem 616 (by decide +kernel) rfl
theorem ct_J6_267 : Cond.constant RJ6 267 (252645135) ∈ gm_ws := gm_mem 617 (by decide +kernel) rfl
theorem ct_X10_66 : Cond.constant RX10 66 (-1000001) ∈ gm_ws := gm_mem 1087 (by decide +kernel) rfl
theorem ct_X10_87 : Cond.constant RX10 87 (-1000002) ∈ gm_ws := gm_mem 1092 (by decide +kernel) rfl
theorem ct_X10_118 : Cond.constant RX10 118 (99999) ∈ gm_ws := gm_mem 1146 (by decide +kernel) rfl
theorem ct_X10_144 : Cond.constant RX10 144 (-1000005) ∈ gm_ws := gm_mem 1159 (by decide +kernel) rfl
theorem ct_X10_148 : Cond.constant RX10 148 (9999999) ∈ gm_ws := gm_mem 1179 (by decide +kernel) rfl
theorem ct_X10_170 : Cond.constant RX10 170 (100000000) ∈ gm_ws := gm_mem 1245 (by decide +kernel) rfl
theorem ct_X10_184 : Cond.constant RX10 184 (-1000004) ∈ gm_ws := gm_mem 1266 (by decide +kernel) rfl
theorem ct_X10_225 : Cond.constant RX10 225 (-1000006) ∈ gm_ws := gm_mem 1328 (by decide +kernel) rfl
theorem ct_X10_232 : Cond.constant RX10 232 (1103515245) ∈ gm_ws := gm_mem 1361 (by decide +kernel) rfl
theorem ct_X10_236 : Cond.constant RX10 236 (9900000) ∈ gm_ws := gm_mem 1352 (by decide +kernel) rfl
theorem ct_X10_258 : Cond.constant RX10 258 (100000) ∈ gm_ws := gm_mem 1390 (by decide +kernel) rfl
theorem ct_X10_345 : Cond.constant RX10 345 (-1000003) ∈ gm_ws := gm_mem 1468 (by decide +kernel) rfl
theorem ct_X10_346 : Cond.constant RX10 346 (-1000007) ∈ gm_ws := gm_mem 1473 (by decide +kernel) rfl
theorem ct_X2_23 : Cond.constant RX2 23 (100000) ∈ gm_ws := gm_mem 526 (by decide +kernel) rfl
theorem ct_X3_159 : Cond.constant RX3 159 (100000) ∈ gm_ws := gm_mem 775 (by decide +kernel) rfl
theorem ct_X4_65 : Cond.constant RX4 65 (2147483647) ∈ gm_ws := gm_mem 574 (by decide +kernel) rfl
theorem ct_X6_117 : Cond.constant RX6 117 (1103515245) ∈ gm_ws := gm_mem 729 (by decide +kernel) rfl
theorem ct_X9_131 : Cond.constant RX9 131 (9999999) ∈ gm_ws := gm_mem 438 (by decide +kernel) rfl
theorem ct_X9_255 : Cond.constant RX9 255 (9900000) ∈ gm_ws := gm_mem 719 (by decide +kernel) rfl
theorem ct_X9_337 : Cond.constant RX9 337 (-1000001) ∈ gm_ws := gm_mem 365 (by decide +kernel) rfl
theorem sl_X10_287 : (RX10, 287, "weight", 15) ∈ gm_ldc := List.mem_of_getElem? (i := 27) rfl
theorem sl_X10_292 : (RX10, 292, "drift", 16) ∈ gm_ldc := List.mem_of_getElem? (i := 28) rfl
theorem sl_X10_306 : (RX10, 306, "words", 13) ∈ gm_ldc := List.mem_of_getElem? (i := 24) rfl
theorem sl_X10_308 : (RX10, 308, "hard", 14) ∈ gm_ldc := List.mem_of_getElem? (i := 25) rfl
theorem sl_X10_310 : (RX10, 310, "reader", 7) ∈ gm_ldc := List.mem_of_getElem? (i := 26) rfl
theorem sl_X10_316 : (RX10, 316, "knob", 8) ∈ gm_ldc := List.mem_of_getElem? (i := 29) rfl
theorem sl_X10_318 : (RX10, 318, "letters", 9) ∈ gm_ldc := List.mem_of_getElem? (i := 30) rfl
theorem sl_X10_323 : (RX10, 323, "ahead", 10) ∈ gm_ldc := List.mem_of_getElem? (i := 31) rfl
theorem sl_X10_325 : (RX10, 325, "leaves", 11) ∈ gm_ldc := List.mem_of_getElem? (i := 32) rfl
theorem sl_X10_327 : (RX10, 327, "hour", 12) ∈ gm_ldc := List.mem_of_getElem? (i := 33) rfl
theorem sl_X3_48 : (RX3, 48, "reader", 7) ∈ gm_ldc := List.mem_of_getElem? (i := 9) rfl
theorem sl_X3_53 : (RX3, 53, "knob", 8) ∈ gm_ldc := List.mem_of_getElem? (i := 12) rfl
theorem sl_X3_55 : (RX3, 55, "letters", 9) ∈ gm_ldc := List.mem_of_getElem? (i := 13) rfl
theorem sl_X3_60 : (RX3, 60, "ahead", 10) ∈ gm_ldc := List.mem_of_getElem? (i := 14) rfl
theorem sl_X3_62 : (RX3, 62, "leaves", 11) ∈ gm_ldc := List.mem_of_getElem? (i := 15) rfl
theorem sl_X3_64 : (RX3, 64, "hour", 12) ∈ gm_ldc := List.mem_of_getElem? (i := 16) rfl
theorem sl_X3_75 : (RX3, 75, "words", 13) ∈ gm_ldc := List.mem_of_getElem? (i := 7) rfl
theorem sl_X3_81 : (RX3, 81, "hard", 14) ∈ gm_ldc := List.mem_of_getElem? (i := 8) rfl
theorem sl_X3_101 : (RX3, 101, "weight", 15) ∈ gm_ldc := List.mem_of_getElem? (i := 10) rfl
theorem sl_X3_103 : (RX3, 103, "drift", 16) ∈ gm_ldc := List.mem_of_getElem? (i := 11) rfl
theorem sl_X3_136 : (RX3, 136, "level", 1) ∈ gm_ldc := List.mem_of_getElem? (i := 0) rfl
theorem sl_X3_138 : (RX3, 138, "sinking", 2) ∈ gm_ldc := List.mem_of_getElem? (i := 1) rfl
theorem sl_X3_140 : (RX3, 140, "rising", 3) ∈ gm_ldc := List.mem_of_getElem? (i := 2) rfl
theorem sl_X3_142 : (RX3, 142, "stopped", 4) ∈ gm_ldc := List.mem_of_getElem? (i := 3) rfl
theorem sl_X3_144 : (RX3, 144, "off", 5) ∈ gm_ldc := List.mem_of_getElem? (i := 4) rfl
theorem sl_X3_146 : (RX3, 146, "blank", 6) ∈ gm_ldc := List.mem_of_getElem? (i := 5) rfl
theorem sl_X3_148 : (RX3, 148, "line", 0) ∈ gm_ldc := List.mem_of_getElem? (i := 6) rfl
theorem li_0_10 : vp_in 0 10 ∧ (0 : Int32).toNatClampNeg = 0 := ⟨vp_in_iff.mpr (by decide), by decide⟩
theorem li_0_62 : vp_in 0 62 ∧ (0 : Int32).toNatClampNeg = 0 := ⟨vp_in_iff.mpr (by decide), by decide⟩
theorem li_0_8 : vp_in 0 8 ∧ (0 : Int32).toNatClampNeg = 0 := ⟨vp_in_iff.mpr (by decide), by decide⟩
theorem li_1_10 : vp_in 1 10 ∧ (1 : Int32).toNatClampNeg = 1 := ⟨vp_in_iff.mpr (by decide), by decide⟩
theorem li_1_62 : vp_in 1 62 ∧ (1 : Int32).toNatClampNeg = 1 := ⟨vp_in_iff.mpr (by decide), by decide⟩
theorem li_2_62 : vp_in 2 62 ∧ (2 : Int32).toNatClampNeg = 2 := ⟨vp_in_iff.mpr (by decide), by decide⟩
theorem li_3_62 : vp_in 3 62 ∧ (3 : Int32).toNatClampNeg = 3 := ⟨vp_in_iff.mpr (by decide), by decide⟩
theorem li_4_62 : vp_in 4 62 ∧ (4 : Int32).toNatClampNeg = 4 := ⟨vp_in_iff.mpr (by decide), by decide⟩
theorem li_5_62 : vp_in 5 62 ∧ (5 : Int32).toNatClampNeg = 5 := ⟨vp_in_iff.mpr (by decide), by decide⟩
theorem li_6_10 : vp_in 6 10 ∧ (6 : Int32).toNatClampNeg = 6 := ⟨vp_in_iff.mpr (by decide), by decide⟩
theorem li_6_62 : vp_in 6 62 ∧ (6 : Int32).toNatClampNeg = 6 := ⟨vp_in_iff.mpr (by decide), by decide⟩
theorem li_7_10 : vp_in 7 10 ∧ (7 : Int32).toNatClampNeg = 7 := ⟨vp_in_iff.mpr (by decide), by decide⟩
theorem li_7_62 : vp_in 7 62 ∧ (7 : Int32).toNatClampNeg = 7 := ⟨vp_in_iff.mpr (by decide), by decide⟩
theorem li_8_10 : vp_in 8 10 ∧ (8 : Int32).toNatClampNeg = 8 := ⟨vp_in_iff.mpr (by decide), by decide⟩
theorem li_8_62 : vp_in 8 62 ∧ (8 : Int32).toNatClampNeg = 8 := ⟨vp_in_iff.mpr (by decide), by decide⟩
theorem li_9_10 : vp_in 9 10 ∧ (9 : Int32).toNatClampNeg = 9 := ⟨vp_in_iff.mpr (by decide), by decide⟩
theorem li_9_62 : vp_in 9 62 ∧ (9 : Int32).toNatClampNeg = 9 := ⟨vp_in_iff.mpr (by decide), by decide⟩
theorem li_10_62 : vp_in 10 62 ∧ (10 : Int32).toNatClampNeg = 10 := ⟨vp_in_iff.mpr (by decide), by decide⟩
theorem li_11_62 : vp_in 11 62 ∧ (11 : Int32).toNatClampNeg = 11 := ⟨vp_in_iff.mpr (by decide), by decide⟩
theorem li_12_62 : vp_in 12 62 ∧ (12 : Int32).toNatClampNeg = 12 := ⟨vp_in_iff.mpr (by decide), by decide⟩
theorem li_13_62 : vp_in 13 62 ∧ (13 : Int32).toNatClampNeg = 13 := ⟨vp_in_iff.mpr (by decide), by decide⟩
theorem li_14_62 : vp_in 14 62 ∧ (14 : Int32).toNatClampNeg = 14 := ⟨vp_in_iff.mpr (by decide), by decide⟩
theorem li_15_62 : vp_in 15 62 ∧ (15 : Int32).toNatClampNeg = 15 := ⟨vp_in_iff.mpr (by decide), by decide⟩
theorem ga_2 : gm_arr 2 12 := ⟨rfl, rfl⟩
theorem ga_3 : gm_arr 3 12 := ⟨rfl, rfl⟩
theorem ga_4 : gm_arr 4 12 := ⟨rfl, rfl⟩
theorem ga_5 : gm_arr 5 10 := ⟨rfl, rfl⟩
theorem ga_6 : gm_arr 6 10 := ⟨rfl, rfl⟩
theorem ga_8 : gm_arr 8 12 := ⟨rfl, rfl⟩
theorem ga_9 : gm_arr 9 12 := ⟨rfl, rfl⟩
theorem ga_10 : gm_arr 10 12 := ⟨rfl, rfl⟩
theorem ga_11 : gm_arr 11 10 := ⟨rfl, rfl⟩
theorem ga_12 : gm_arr 12 10 := ⟨rfl, rfl⟩
theorem ga_14 : gm_arr 14 12 := ⟨rfl, rfl⟩
theorem ga_15 : gm_arr 15 12 := ⟨rfl, rfl⟩
theorem ga_16 : gm_arr 16 12 := ⟨rfl, rfl⟩
theorem ga_17 : gm_arr 17 10 := ⟨rfl, rfl⟩
theorem ga_18 : gm_arr 18 10 := ⟨rfl, rfl⟩
theorem ga_25 : gm_arr 25 12 := ⟨rfl, rfl⟩
theorem ga_27 : gm_arr 27 12 := ⟨rfl, rfl⟩
theorem ga_28 : gm_arr 28 13 := ⟨rfl, rfl⟩
theorem ga_29 : gm_arr 29 13 := ⟨rfl, rfl⟩
theorem ga_31 : gm_arr 31 120 := ⟨rfl, rfl⟩
theorem ga_35 : gm_arr 35 40 := ⟨rfl, rfl⟩
theorem ga_37 : gm_arr 37 40 := ⟨rfl, rfl⟩
theorem ga_39 : gm_arr 39 40 := ⟨rfl, rfl⟩
theorem ga_41 : gm_arr 41 40 := ⟨rfl, rfl⟩
theorem ga_42 : gm_arr 42 7 := ⟨rfl, rfl⟩
theorem ga_44 : gm_arr 44 62 := ⟨rfl, rfl⟩
theorem ga_45 : gm_arr 45 62 := ⟨rfl, rfl⟩
theorem ga_46 : gm_arr 46 62 := ⟨rfl, rfl⟩
theorem ga_47 : gm_arr 47 8 := ⟨rfl, rfl⟩
theorem ga_48 : gm_arr 48 10000 := ⟨rfl, rfl⟩
theorem ga_49 : gm_arr 49 26 := ⟨rfl, rfl⟩
theorem ga_50 : gm_arr 50 120 := ⟨rfl, rfl⟩
theorem ga_52 : gm_arr 52 480 := ⟨rfl, rfl⟩
theorem ga_53 : gm_arr 53 4 := ⟨rfl, rfl⟩
theorem ga_54 : gm_arr 54 4 := ⟨rfl, rfl⟩
theorem ga_55 : gm_arr 55 160 := ⟨rfl, rfl⟩
theorem ga_56 : gm_arr 56 40 := ⟨rfl, rfl⟩
theorem gm_all {P : Nat → Prop} [DecidablePred P] (h : ∀ k, k < 57 → P k) {c : Nat} (hc : c ≠ 99) {k : Nat} (hk : gm_cls k = c) : P k := h k (gm_lt (by rw [hk]; exact hc))
theorem gm_k5 : ∀ k, k < 57 → gm_cls k = 5 → (gm_cls (k + 1) = 20 ∧ gm_len (k + 1) = 12) ∧ (gm_cls (k + 2) = 20 ∧ gm_len (k + 2) = 12) ∧ (gm_cls (k + 3) = 20 ∧ gm_len (k + 3) = 12) ∧ (gm_cls (k + 4) = 20 ∧ gm_len (k + 4) = 10) ∧ (gm_cls (k + 5) = 20 ∧ gm_len (k + 5) = 10) := by decide +kernel
theorem gm_k4 : ∀ k, k < 57 → gm_cls k = 4 → (gm_cls (k + 1) = 20 ∧ gm_len (k + 1) = 40) := by decide +kernel
theorem ka5_0 {k : Nat} (h : gm_cls k = 5) : gm_arr (k + 1) 12 := (gm_k5 k (gm_lt (by rw [h]; decide)) h).1
theorem ka5_1 {k : Nat} (h : gm_cls k = 5) : gm_arr (k + 2) 12 := (gm_k5 k (gm_lt (by rw [h]; decide)) h).2.1
theorem ka5_2 {k : Nat} (h : gm_cls k = 5) : gm_arr (k + 3) 12 := (gm_k5 k (gm_lt (by rw [h]; decide)) h).2.2.1
theorem ka5_3 {k : Nat} (h : gm_cls k = 5) : gm_arr (k + 4) 10 := (gm_k5 k (gm_lt (by rw [h]; decide)) h).2.2.2.1
theorem ka5_4 {k : Nat} (h : gm_cls k = 5) : gm_arr (k + 5) 10 := (gm_k5 k (gm_lt (by rw [h]; decide)) h).2.2.2.2
theorem ka4_0 {k : Nat} (h : gm_cls k = 4) : gm_arr (k + 1) 40 := gm_k4 k (gm_lt (by rw [h]; decide)) h
theorem kr5_0 {k : Nat} (h : gm_cls k = 5) : gm_rf k 0 = k + 1 := by unfold gm_rf; rw [h]; rfl
theorem kr5_1 {k : Nat} (h : gm_cls k = 5) : gm_rf k 1 = k + 2 := by unfold gm_rf; rw [h]; rfl
theorem kr5_2 {k : Nat} (h : gm_cls k = 5) : gm_rf k 2 = k + 3 := by unfold gm_rf; rw [h]; rfl
theorem kr5_3 {k : Nat} (h : gm_cls k = 5) : gm_rf k 3 = k + 4 := by unfold gm_rf; rw [h]; rfl
theorem kr5_4 {k : Nat} (h : gm_cls k = 5) : gm_rf k 4 = k + 5 := by unfold gm_rf; rw [h]; rfl
theorem kr4_0 {k : Nat} (h : gm_cls k = 4) : gm_rf k 0 = k + 1 := by unfold gm_rf; rw [h]; rfl
theorem gm_four : ∀ j, j < 4 → gm_cls (34 + 2 * j) = 4 := by decide
theorem gm_sheet {x : Int32} (h : vp_in x 4) : gm_cls (34 + 2 * x.toNatClampNeg) = 4 := gm_four _ (Nat.not_le.mp fun q => h (Or.inr q))
theorem gm_seven {x : Int32} (h : vp_in x 7) : x.toNatClampNeg < 17 := Nat.lt_of_lt_of_le (Nat.not_le.mp fun q => h (Or.inr q)) (by decide)
theorem vc_0 : ∃ T w, vwCl[0]? = some (RX1, T, w) := ⟨TX1, 6, rfl⟩
theorem vc_1 : ∃ T w, vwCl[1]? = some (RX2, T, w) := ⟨TX2, 2, rfl⟩
theorem vc_2 : ∃ T w, vwCl[2]? = some (RX3, T, w) := ⟨TX3, 6, rfl⟩
theorem vc_3 : ∃ T w, vwCl[3]? = some (RX4, T, w) := ⟨TX4, 5, rfl⟩
theorem vc_4 : ∃ T w, vwCl[4]? = some (RX5, T, w) := ⟨TX5, 3, rfl⟩
theorem vc_5 : ∃ T w, vwCl[5]? = some (RX6, T, w) := ⟨TX6, 11, rfl⟩
theorem vc_6 : ∃ T w, vwCl[6]? = some (RX7, T, w) := ⟨TX7, 2, rfl⟩
theorem vc_7 : ∃ T w, vwCl[7]? = some (RX8, T, w) := ⟨TX8, 3, rfl⟩
theorem vc_8 : ∃ T w, vwCl[8]? = some (RX9, T, w) := ⟨TX9, 12, rfl⟩
theorem vc_9 : ∃ T w, vwCl[9]? = some (RX10, T, w) := ⟨TX10, 28, rfl⟩
end
