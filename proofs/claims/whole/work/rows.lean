section
-- ===== PART A: goes FIRST, ahead of the names: the tables' words, and 'selects' of the private methods out of them =====
/-- a private method of a class that the tables say can be made, by its rows of tables_1 -/
def lw_okq (q : MethodName × Nat) : Prop := (q.1.cls ≠ "java/lang/invoke/MethodHandle" ∧ q.1.cls ≠ "java/lang/invoke/VarHandle") ∧ Cond.instantiable q.1.cls q.2 ∈ tables_1 ∧ Cond.privateMethod q.1 ∈ tables_1 ∧ Cond.instanceMethod q.1 ∈ tables_1
theorem lw_p0 : lw_okq (⟨"GlassWords", "finding", "(I)I"⟩, 12) := ⟨⟨by decide +kernel, by decide +kernel⟩, List.mem_of_getElem? (i := 21) (by decide +kernel), List.mem_of_getElem? (i := 296) (by decide +kernel), List.mem_of_getElem? (i := 297) (by decide +kernel)⟩
theorem lw_p1 : lw_okq (⟨"GlassWords", "takesAhead", "(I)I"⟩, 12) := ⟨⟨by decide +kernel, by decide +kernel⟩, List.mem_of_getElem? (i := 21) (by decide +kernel), List.mem_of_getElem? (i := 374) (by decide +kernel), List.mem_of_getElem? (i := 375) (by decide +kernel)⟩
theorem lw_p2 : lw_okq (⟨"GlassWords$Searches", "weigh", "(LGlassWords$Studio;I)V"⟩, 5) := ⟨⟨by decide +kernel, by decide +kernel⟩, List.mem_of_getElem? (i := 144) (by decide +kernel), List.mem_of_getElem? (i := 487) (by decide +kernel), List.mem_of_getElem? (i := 488) (by decide +kernel)⟩
theorem lw_p3 : lw_okq (⟨"GlassWords$Searches", "easedBy", "(II)I"⟩, 5) := ⟨⟨by decide +kernel, by decide +kernel⟩, List.mem_of_getElem? (i := 144) (by decide +kernel), List.mem_of_getElem? (i := 553) (by decide +kernel), List.mem_of_getElem? (i := 554) (by decide +kernel)⟩
theorem lw_p4 : lw_okq (⟨"GlassWords$Searches", "fitsHourWithout", "(LGlassWords$Studio;I)Z"⟩, 5) := ⟨⟨by decide +kernel, by decide +kernel⟩, List.mem_of_getElem? (i := 144) (by decide +kernel), List.mem_of_getElem? (i := 569) (by decide +kernel), List.mem_of_getElem? (i := 570) (by decide +kernel)⟩
theorem lw_p5 : lw_okq (⟨"GlassWords", "isWay", "(II)Z"⟩, 12) := ⟨⟨by decide +kernel, by decide +kernel⟩, List.mem_of_getElem? (i := 21) (by decide +kernel), List.mem_of_getElem? (i := 584) (by decide +kernel), List.mem_of_getElem? (i := 585) (by decide +kernel)⟩
theorem lw_p6 : lw_okq (⟨"GlassWords$Ways", "byJump", "(II)I"⟩, 3) := ⟨⟨by decide +kernel, by decide +kernel⟩, List.mem_of_getElem? (i := 171) (by decide +kernel), List.mem_of_getElem? (i := 593) (by decide +kernel), List.mem_of_getElem? (i := 594) (by decide +kernel)⟩
theorem lw_p7 : lw_okq (⟨"GlassWords$Ways", "shortestJump", "(II)I"⟩, 3) := ⟨⟨by decide +kernel, by decide +kernel⟩, List.mem_of_getElem? (i := 171) (by decide +kernel), List.mem_of_getElem? (i := 610) (by decide +kernel), List.mem_of_getElem? (i := 611) (by decide +kernel)⟩
theorem lw_p8 : lw_okq (⟨"GlassWords", "isSheet", "(I)Z"⟩, 12) := ⟨⟨by decide +kernel, by decide +kernel⟩, List.mem_of_getElem? (i := 21) (by decide +kernel), List.mem_of_getElem? (i := 618) (by decide +kernel), List.mem_of_getElem? (i := 619) (by decide +kernel)⟩
theorem lw_p9 : lw_okq (⟨"GlassWords$Searches", "takeJust", "(LGlassWords$Studio;LGlassWords$Sheet;)Z"⟩, 5) := ⟨⟨by decide +kernel, by decide +kernel⟩, List.mem_of_getElem? (i := 144) (by decide +kernel), List.mem_of_getElem? (i := 630) (by decide +kernel), List.mem_of_getElem? (i := 631) (by decide +kernel)⟩
theorem lw_p10 : lw_okq (⟨"GlassWords$Script", "lookOn", "()V"⟩, 6) := ⟨⟨by decide +kernel, by decide +kernel⟩, List.mem_of_getElem? (i := 203) (by decide +kernel), List.mem_of_getElem? (i := 698) (by decide +kernel), List.mem_of_getElem? (i := 699) (by decide +kernel)⟩
theorem lw_p11 : lw_okq (⟨"GlassWords$Script", "isLetter", "(I)Z"⟩, 6) := ⟨⟨by decide +kernel, by decide +kernel⟩, List.mem_of_getElem? (i := 203) (by decide +kernel), List.mem_of_getElem? (i := 702) (by decide +kernel), List.mem_of_getElem? (i := 703) (by decide +kernel)⟩
theorem lw_p12 : lw_okq (⟨"GlassWords$Script", "isDigit", "(I)Z"⟩, 6) := ⟨⟨by decide +kernel, by decide +kernel⟩, List.mem_of_getElem? (i := 203) (by decide +kernel), List.mem_of_getElem? (i := 706) (by decide +kernel), List.mem_of_getElem? (i := 707) (by decide +kernel)⟩
theorem lw_p13 : lw_okq (⟨"GlassWords$Script", "signAt", "(I)I"⟩, 6) := ⟨⟨by decide +kernel, by decide +kernel⟩, List.mem_of_getElem? (i := 203) (by decide +kernel), List.mem_of_getElem? (i := 712) (by decide +kernel), List.mem_of_getElem? (i := 713) (by decide +kernel)⟩
theorem lw_p14 : lw_okq (⟨"GlassWords$Script", "takeItem", "()Z"⟩, 6) := ⟨⟨by decide +kernel, by decide +kernel⟩, List.mem_of_getElem? (i := 203) (by decide +kernel), List.mem_of_getElem? (i := 716) (by decide +kernel), List.mem_of_getElem? (i := 717) (by decide +kernel)⟩
theorem lw_p15 : lw_okq (⟨"GlassWords$Script", "isWord", "(Ljava/lang/String;)Z"⟩, 6) := ⟨⟨by decide +kernel, by decide +kernel⟩, List.mem_of_getElem? (i := 203) (by decide +kernel), List.mem_of_getElem? (i := 730) (by decide +kernel), List.mem_of_getElem? (i := 731) (by decide +kernel)⟩
def lw_privs_1 : List (MethodName × Nat) := [(⟨"GlassWords", "finding", "(I)I"⟩, 12), (⟨"GlassWords", "takesAhead", "(I)I"⟩, 12), (⟨"GlassWords$Searches", "weigh", "(LGlassWords$Studio;I)V"⟩, 5), (⟨"GlassWords$Searches", "easedBy", "(II)I"⟩, 5), (⟨"GlassWords$Searches", "fitsHourWithout", "(LGlassWords$Studio;I)Z"⟩, 5), (⟨"GlassWords", "isWay", "(II)Z"⟩, 12), (⟨"GlassWords$Ways", "byJump", "(II)I"⟩, 3), (⟨"GlassWords$Ways", "shortestJump", "(II)I"⟩, 3), (⟨"GlassWords", "isSheet", "(I)Z"⟩, 12), (⟨"GlassWords$Searches", "takeJust", "(LGlassWords$Studio;LGlassWords$Sheet;)Z"⟩, 5), (⟨"GlassWords$Script", "lookOn", "()V"⟩, 6), (⟨"GlassWords$Script", "isLetter", "(I)Z"⟩, 6), (⟨"GlassWords$Script", "isDigit", "(I)Z"⟩, 6), (⟨"GlassWords$Script", "signAt", "(I)I"⟩, 6), (⟨"GlassWords$Script", "takeItem", "()Z"⟩, 6), (⟨"GlassWords$Script", "isWord", "(Ljava/lang/String;)Z"⟩, 6)]
theorem lw_r1 : ∀ q ∈ lw_privs_1, lw_okq q := List.forall_mem_cons.mpr ⟨lw_p0, List.forall_mem_cons.mpr ⟨lw_p1, List.forall_mem_cons.mpr ⟨lw_p2, List.forall_mem_cons.mpr ⟨lw_p3, List.forall_mem_cons.mpr ⟨lw_p4, List.forall_mem_cons.mpr ⟨lw_p5, List.forall_mem_cons.mpr ⟨lw_p6, List.forall_mem_cons.mpr ⟨lw_p7, List.forall_mem_cons.mpr ⟨lw_p8, List.forall_mem_cons.mpr ⟨lw_p9, List.forall_mem_cons.mpr ⟨lw_p10, List.forall_mem_cons.mpr ⟨lw_p11, List.forall_mem_cons.mpr ⟨lw_p12, List.forall_mem_cons.mpr ⟨lw_p13, List.forall_mem_cons.mpr ⟨lw_p14, List.forall_mem_cons.mpr ⟨lw_p15, fun _ h => absurd h List.not_mem_nil⟩⟩⟩⟩⟩⟩⟩⟩⟩⟩⟩⟩⟩⟩⟩⟩
theorem lw_p16 : lw_okq (⟨"GlassWords$Script", "takeLine", "(I)Z"⟩, 6) := ⟨⟨by decide +kernel, by decide +kernel⟩, List.mem_of_getElem? (i := 203) (by decide +kernel), List.mem_of_getElem? (i := 782) (by decide +kernel), List.mem_of_getElem? (i := 783) (by decide +kernel)⟩
theorem lw_p17 : lw_okq (⟨"GlassWords$Script", "takeFeature", "(Ljava/lang/String;II)Z"⟩, 6) := ⟨⟨by decide +kernel, by decide +kernel⟩, List.mem_of_getElem? (i := 203) (by decide +kernel), List.mem_of_getElem? (i := 789) (by decide +kernel), List.mem_of_getElem? (i := 790) (by decide +kernel)⟩
theorem lw_p18 : lw_okq (⟨"GlassWords$Script", "isNumber", "(II)Z"⟩, 6) := ⟨⟨by decide +kernel, by decide +kernel⟩, List.mem_of_getElem? (i := 203) (by decide +kernel), List.mem_of_getElem? (i := 795) (by decide +kernel), List.mem_of_getElem? (i := 796) (by decide +kernel)⟩
theorem lw_p19 : lw_okq (⟨"GlassWords$Script", "takePace", "(I)Z"⟩, 6) := ⟨⟨by decide +kernel, by decide +kernel⟩, List.mem_of_getElem? (i := 203) (by decide +kernel), List.mem_of_getElem? (i := 803) (by decide +kernel), List.mem_of_getElem? (i := 804) (by decide +kernel)⟩
theorem lw_p20 : lw_okq (⟨"GlassWords$Script", "takeRule", "(I)Z"⟩, 6) := ⟨⟨by decide +kernel, by decide +kernel⟩, List.mem_of_getElem? (i := 203) (by decide +kernel), List.mem_of_getElem? (i := 807) (by decide +kernel), List.mem_of_getElem? (i := 808) (by decide +kernel)⟩
theorem lw_p21 : lw_okq (⟨"GlassWords$Script", "takeDrift", "(I)Z"⟩, 6) := ⟨⟨by decide +kernel, by decide +kernel⟩, List.mem_of_getElem? (i := 203) (by decide +kernel), List.mem_of_getElem? (i := 815) (by decide +kernel), List.mem_of_getElem? (i := 816) (by decide +kernel)⟩
theorem lw_p22 : lw_okq (⟨"GlassWords", "firstWrongTime", "(LGlassWords$Sheet;)I"⟩, 12) := ⟨⟨by decide +kernel, by decide +kernel⟩, List.mem_of_getElem? (i := 21) (by decide +kernel), List.mem_of_getElem? (i := 880) (by decide +kernel), List.mem_of_getElem? (i := 881) (by decide +kernel)⟩
theorem lw_p23 : lw_okq (⟨"GlassWordsModel", "finding", "(I)I"⟩, 28) := ⟨⟨by decide +kernel, by decide +kernel⟩, List.mem_of_getElem? (i := 912) (by decide +kernel), List.mem_of_getElem? (i := 1023) (by decide +kernel), List.mem_of_getElem? (i := 1024) (by decide +kernel)⟩
theorem lw_p24 : lw_okq (⟨"GlassWordsModel", "comes", "(III)I"⟩, 28) := ⟨⟨by decide +kernel, by decide +kernel⟩, List.mem_of_getElem? (i := 912) (by decide +kernel), List.mem_of_getElem? (i := 1028) (by decide +kernel), List.mem_of_getElem? (i := 1029) (by decide +kernel)⟩
theorem lw_p25 : lw_okq (⟨"GlassWordsModel", "isLine", "(I)Z"⟩, 28) := ⟨⟨by decide +kernel, by decide +kernel⟩, List.mem_of_getElem? (i := 912) (by decide +kernel), List.mem_of_getElem? (i := 1039) (by decide +kernel), List.mem_of_getElem? (i := 1040) (by decide +kernel)⟩
theorem lw_p26 : lw_okq (⟨"GlassWordsModel", "lineIs", "(II)I"⟩, 28) := ⟨⟨by decide +kernel, by decide +kernel⟩, List.mem_of_getElem? (i := 912) (by decide +kernel), List.mem_of_getElem? (i := 1043) (by decide +kernel), List.mem_of_getElem? (i := 1044) (by decide +kernel)⟩
theorem lw_p27 : lw_okq (⟨"GlassWordsModel", "takes", "(I)I"⟩, 28) := ⟨⟨by decide +kernel, by decide +kernel⟩, List.mem_of_getElem? (i := 912) (by decide +kernel), List.mem_of_getElem? (i := 1047) (by decide +kernel), List.mem_of_getElem? (i := 1048) (by decide +kernel)⟩
theorem lw_p28 : lw_okq (⟨"GlassWordsModel", "trips", "(I)I"⟩, 28) := ⟨⟨by decide +kernel, by decide +kernel⟩, List.mem_of_getElem? (i := 912) (by decide +kernel), List.mem_of_getElem? (i := 1052) (by decide +kernel), List.mem_of_getElem? (i := 1053) (by decide +kernel)⟩
theorem lw_p29 : lw_okq (⟨"GlassWordsModel", "seen", "(I)I"⟩, 28) := ⟨⟨by decide +kernel, by decide +kernel⟩, List.mem_of_getElem? (i := 912) (by decide +kernel), List.mem_of_getElem? (i := 1056) (by decide +kernel), List.mem_of_getElem? (i := 1057) (by decide +kernel)⟩
theorem lw_p30 : lw_okq (⟨"GlassWordsModel", "become", "(II)I"⟩, 28) := ⟨⟨by decide +kernel, by decide +kernel⟩, List.mem_of_getElem? (i := 912) (by decide +kernel), List.mem_of_getElem? (i := 1064) (by decide +kernel), List.mem_of_getElem? (i := 1065) (by decide +kernel)⟩
theorem lw_p31 : lw_okq (⟨"GlassWordsModel", "left", "()I"⟩, 28) := ⟨⟨by decide +kernel, by decide +kernel⟩, List.mem_of_getElem? (i := 912) (by decide +kernel), List.mem_of_getElem? (i := 1090) (by decide +kernel), List.mem_of_getElem? (i := 1091) (by decide +kernel)⟩
def lw_privs_2 : List (MethodName × Nat) := [(⟨"GlassWords$Script", "takeLine", "(I)Z"⟩, 6), (⟨"GlassWords$Script", "takeFeature", "(Ljava/lang/String;II)Z"⟩, 6), (⟨"GlassWords$Script", "isNumber", "(II)Z"⟩, 6), (⟨"GlassWords$Script", "takePace", "(I)Z"⟩, 6), (⟨"GlassWords$Script", "takeRule", "(I)Z"⟩, 6), (⟨"GlassWords$Script", "takeDrift", "(I)Z"⟩, 6), (⟨"GlassWords", "firstWrongTime", "(LGlassWords$Sheet;)I"⟩, 12), (⟨"GlassWordsModel", "finding", "(I)I"⟩, 28), (⟨"GlassWordsModel", "comes", "(III)I"⟩, 28), (⟨"GlassWordsModel", "isLine", "(I)Z"⟩, 28), (⟨"GlassWordsModel", "lineIs", "(II)I"⟩, 28), (⟨"GlassWordsModel", "takes", "(I)I"⟩, 28), (⟨"GlassWordsModel", "trips", "(I)I"⟩, 28), (⟨"GlassWordsModel", "seen", "(I)I"⟩, 28), (⟨"GlassWordsModel", "become", "(II)I"⟩, 28), (⟨"GlassWordsModel", "left", "()I"⟩, 28)]
theorem lw_r2 : ∀ q ∈ lw_privs_2, lw_okq q := List.forall_mem_cons.mpr ⟨lw_p16, List.forall_mem_cons.mpr ⟨lw_p17, List.forall_mem_cons.mpr ⟨lw_p18, List.forall_mem_cons.mpr ⟨lw_p19, List.forall_mem_cons.mpr ⟨lw_p20, List.forall_mem_cons.mpr ⟨lw_p21, List.forall_mem_cons.mpr ⟨lw_p22, List.forall_mem_cons.mpr ⟨lw_p23, List.forall_mem_cons.mpr ⟨lw_p24, List.forall_mem_cons.mpr ⟨lw_p25, List.forall_mem_cons.mpr ⟨lw_p26, List.forall_mem_cons.mpr ⟨lw_p27, List.forall_mem_cons.mpr ⟨lw_p28, List.forall_mem_cons.mpr ⟨lw_p29, List.forall_mem_cons.mpr ⟨lw_p30, List.forall_mem_cons.mpr ⟨lw_p31, fun _ h => absurd h List.not_mem_nil⟩⟩⟩⟩⟩⟩⟩⟩⟩⟩⟩⟩⟩⟩⟩⟩
theorem lw_p32 : lw_okq (⟨"GlassWordsModel", "readsOn", "(I)I"⟩, 28) := ⟨⟨by decide +kernel, by decide +kernel⟩, List.mem_of_getElem? (i := 912) (by decide +kernel), List.mem_of_getElem? (i := 1098) (by decide +kernel), List.mem_of_getElem? (i := 1099) (by decide +kernel)⟩
theorem lw_p33 : lw_okq (⟨"GlassWordsModel", "reads", "()I"⟩, 28) := ⟨⟨by decide +kernel, by decide +kernel⟩, List.mem_of_getElem? (i := 912) (by decide +kernel), List.mem_of_getElem? (i := 1102) (by decide +kernel), List.mem_of_getElem? (i := 1103) (by decide +kernel)⟩
theorem lw_p34 : lw_okq (⟨"GlassWordsModel", "turns", "()I"⟩, 28) := ⟨⟨by decide +kernel, by decide +kernel⟩, List.mem_of_getElem? (i := 912) (by decide +kernel), List.mem_of_getElem? (i := 1106) (by decide +kernel), List.mem_of_getElem? (i := 1107) (by decide +kernel)⟩
theorem lw_p35 : lw_okq (⟨"GlassWordsModel", "putBack", "(I)I"⟩, 28) := ⟨⟨by decide +kernel, by decide +kernel⟩, List.mem_of_getElem? (i := 912) (by decide +kernel), List.mem_of_getElem? (i := 1115) (by decide +kernel), List.mem_of_getElem? (i := 1116) (by decide +kernel)⟩
theorem lw_p36 : lw_okq (⟨"GlassWordsModel", "restTakes", "()I"⟩, 28) := ⟨⟨by decide +kernel, by decide +kernel⟩, List.mem_of_getElem? (i := 912) (by decide +kernel), List.mem_of_getElem? (i := 1135) (by decide +kernel), List.mem_of_getElem? (i := 1136) (by decide +kernel)⟩
theorem lw_p37 : lw_okq (⟨"GlassWordsModel", "restTrips", "()I"⟩, 28) := ⟨⟨by decide +kernel, by decide +kernel⟩, List.mem_of_getElem? (i := 912) (by decide +kernel), List.mem_of_getElem? (i := 1139) (by decide +kernel), List.mem_of_getElem? (i := 1140) (by decide +kernel)⟩
theorem lw_p38 : lw_okq (⟨"GlassWordsModel", "restSeen", "()I"⟩, 28) := ⟨⟨by decide +kernel, by decide +kernel⟩, List.mem_of_getElem? (i := 912) (by decide +kernel), List.mem_of_getElem? (i := 1143) (by decide +kernel), List.mem_of_getElem? (i := 1144) (by decide +kernel)⟩
theorem lw_p39 : lw_okq (⟨"GlassWordsModel", "paceThen", "(II)I"⟩, 28) := ⟨⟨by decide +kernel, by decide +kernel⟩, List.mem_of_getElem? (i := 912) (by decide +kernel), List.mem_of_getElem? (i := 1147) (by decide +kernel), List.mem_of_getElem? (i := 1148) (by decide +kernel)⟩
theorem lw_p40 : lw_okq (⟨"GlassWordsModel", "signThen", "()I"⟩, 28) := ⟨⟨by decide +kernel, by decide +kernel⟩, List.mem_of_getElem? (i := 912) (by decide +kernel), List.mem_of_getElem? (i := 1159) (by decide +kernel), List.mem_of_getElem? (i := 1160) (by decide +kernel)⟩
theorem lw_p41 : lw_okq (⟨"GlassWordsModel", "findWeights", "()I"⟩, 28) := ⟨⟨by decide +kernel, by decide +kernel⟩, List.mem_of_getElem? (i := 912) (by decide +kernel), List.mem_of_getElem? (i := 1176) (by decide +kernel), List.mem_of_getElem? (i := 1177) (by decide +kernel)⟩
theorem lw_p42 : lw_okq (⟨"GlassWordsModel", "findGrid", "()I"⟩, 28) := ⟨⟨by decide +kernel, by decide +kernel⟩, List.mem_of_getElem? (i := 912) (by decide +kernel), List.mem_of_getElem? (i := 1189) (by decide +kernel), List.mem_of_getElem? (i := 1190) (by decide +kernel)⟩
theorem lw_p43 : lw_okq (⟨"GlassWordsModel", "eases", "(I)I"⟩, 28) := ⟨⟨by decide +kernel, by decide +kernel⟩, List.mem_of_getElem? (i := 912) (by decide +kernel), List.mem_of_getElem? (i := 1213) (by decide +kernel), List.mem_of_getElem? (i := 1214) (by decide +kernel)⟩
theorem lw_p44 : lw_okq (⟨"GlassWordsModel", "findFit", "()I"⟩, 28) := ⟨⟨by decide +kernel, by decide +kernel⟩, List.mem_of_getElem? (i := 912) (by decide +kernel), List.mem_of_getElem? (i := 1224) (by decide +kernel), List.mem_of_getElem? (i := 1225) (by decide +kernel)⟩
theorem lw_p45 : lw_okq (⟨"GlassWordsModel", "takesWithout", "(I)I"⟩, 28) := ⟨⟨by decide +kernel, by decide +kernel⟩, List.mem_of_getElem? (i := 912) (by decide +kernel), List.mem_of_getElem? (i := 1228) (by decide +kernel), List.mem_of_getElem? (i := 1229) (by decide +kernel)⟩
theorem lw_p46 : lw_okq (⟨"GlassWordsModel", "isWay", "(II)Z"⟩, 28) := ⟨⟨by decide +kernel, by decide +kernel⟩, List.mem_of_getElem? (i := 912) (by decide +kernel), List.mem_of_getElem? (i := 1240) (by decide +kernel), List.mem_of_getElem? (i := 1241) (by decide +kernel)⟩
theorem lw_p47 : lw_okq (⟨"GlassWordsModel", "findWays", "(II)I"⟩, 28) := ⟨⟨by decide +kernel, by decide +kernel⟩, List.mem_of_getElem? (i := 912) (by decide +kernel), List.mem_of_getElem? (i := 1244) (by decide +kernel), List.mem_of_getElem? (i := 1245) (by decide +kernel)⟩
def lw_privs_3 : List (MethodName × Nat) := [(⟨"GlassWordsModel", "readsOn", "(I)I"⟩, 28), (⟨"GlassWordsModel", "reads", "()I"⟩, 28), (⟨"GlassWordsModel", "turns", "()I"⟩, 28), (⟨"GlassWordsModel", "putBack", "(I)I"⟩, 28), (⟨"GlassWordsModel", "restTakes", "()I"⟩, 28), (⟨"GlassWordsModel", "restTrips", "()I"⟩, 28), (⟨"GlassWordsModel", "restSeen", "()I"⟩, 28), (⟨"GlassWordsModel", "paceThen", "(II)I"⟩, 28), (⟨"GlassWordsModel", "signThen", "()I"⟩, 28), (⟨"GlassWordsModel", "findWeights", "()I"⟩, 28), (⟨"GlassWordsModel", "findGrid", "()I"⟩, 28), (⟨"GlassWordsModel", "eases", "(I)I"⟩, 28), (⟨"GlassWordsModel", "findFit", "()I"⟩, 28), (⟨"GlassWordsModel", "takesWithout", "(I)I"⟩, 28), (⟨"GlassWordsModel", "isWay", "(II)Z"⟩, 28), (⟨"GlassWordsModel", "findWays", "(II)I"⟩, 28)]
theorem lw_r3 : ∀ q ∈ lw_privs_3, lw_okq q := List.forall_mem_cons.mpr ⟨lw_p32, List.forall_mem_cons.mpr ⟨lw_p33, List.forall_mem_cons.mpr ⟨lw_p34, List.forall_mem_cons.mpr ⟨lw_p35, List.forall_mem_cons.mpr ⟨lw_p36, List.forall_mem_cons.mpr ⟨lw_p37, List.forall_mem_cons.mpr ⟨lw_p38, List.forall_mem_cons.mpr ⟨lw_p39, List.forall_mem_cons.mpr ⟨lw_p40, List.forall_mem_cons.mpr ⟨lw_p41, List.forall_mem_cons.mpr ⟨lw_p42, List.forall_mem_cons.mpr ⟨lw_p43, List.forall_mem_cons.mpr ⟨lw_p44, List.forall_mem_cons.mpr ⟨lw_p45, List.forall_mem_cons.mpr ⟨lw_p46, List.forall_mem_cons.mpr ⟨lw_p47, fun _ h => absurd h List.not_mem_nil⟩⟩⟩⟩⟩⟩⟩⟩⟩⟩⟩⟩⟩⟩⟩⟩
theorem lw_p48 : lw_okq (⟨"GlassWordsModel", "jumpFrom", "(III)I"⟩, 28) := ⟨⟨by decide +kernel, by decide +kernel⟩, List.mem_of_getElem? (i := 912) (by decide +kernel), List.mem_of_getElem? (i := 1248) (by decide +kernel), List.mem_of_getElem? (i := 1249) (by decide +kernel)⟩
theorem lw_p49 : lw_okq (⟨"GlassWordsModel", "findLed", "(I)I"⟩, 28) := ⟨⟨by decide +kernel, by decide +kernel⟩, List.mem_of_getElem? (i := 912) (by decide +kernel), List.mem_of_getElem? (i := 1264) (by decide +kernel), List.mem_of_getElem? (i := 1265) (by decide +kernel)⟩
theorem lw_p50 : lw_okq (⟨"GlassWordsModel", "leavesIn", "(I)I"⟩, 28) := ⟨⟨by decide +kernel, by decide +kernel⟩, List.mem_of_getElem? (i := 912) (by decide +kernel), List.mem_of_getElem? (i := 1288) (by decide +kernel), List.mem_of_getElem? (i := 1289) (by decide +kernel)⟩
theorem lw_p51 : lw_okq (⟨"GlassWordsModel", "drawn", "(I)I"⟩, 28) := ⟨⟨by decide +kernel, by decide +kernel⟩, List.mem_of_getElem? (i := 912) (by decide +kernel), List.mem_of_getElem? (i := 1292) (by decide +kernel), List.mem_of_getElem? (i := 1293) (by decide +kernel)⟩
theorem lw_p52 : lw_okq (⟨"GlassWordsModel", "next", "()V"⟩, 28) := ⟨⟨by decide +kernel, by decide +kernel⟩, List.mem_of_getElem? (i := 912) (by decide +kernel), List.mem_of_getElem? (i := 1317) (by decide +kernel), List.mem_of_getElem? (i := 1318) (by decide +kernel)⟩
theorem lw_p53 : lw_okq (⟨"GlassWordsModel", "byteAt", "(I)I"⟩, 28) := ⟨⟨by decide +kernel, by decide +kernel⟩, List.mem_of_getElem? (i := 912) (by decide +kernel), List.mem_of_getElem? (i := 1321) (by decide +kernel), List.mem_of_getElem? (i := 1322) (by decide +kernel)⟩
theorem lw_p54 : lw_okq (⟨"GlassWordsModel", "readItem", "()V"⟩, 28) := ⟨⟨by decide +kernel, by decide +kernel⟩, List.mem_of_getElem? (i := 912) (by decide +kernel), List.mem_of_getElem? (i := 1326) (by decide +kernel), List.mem_of_getElem? (i := 1327) (by decide +kernel)⟩
theorem lw_p55 : lw_okq (⟨"GlassWordsModel", "kindTold", "()I"⟩, 28) := ⟨⟨by decide +kernel, by decide +kernel⟩, List.mem_of_getElem? (i := 912) (by decide +kernel), List.mem_of_getElem? (i := 1330) (by decide +kernel), List.mem_of_getElem? (i := 1331) (by decide +kernel)⟩
theorem lw_p56 : lw_okq (⟨"GlassWordsModel", "isWord", "(Ljava/lang/String;)Z"⟩, 28) := ⟨⟨by decide +kernel, by decide +kernel⟩, List.mem_of_getElem? (i := 912) (by decide +kernel), List.mem_of_getElem? (i := 1334) (by decide +kernel), List.mem_of_getElem? (i := 1335) (by decide +kernel)⟩
theorem lw_p57 : lw_okq (⟨"GlassWordsModel", "must", "(Z)V"⟩, 28) := ⟨⟨by decide +kernel, by decide +kernel⟩, List.mem_of_getElem? (i := 912) (by decide +kernel), List.mem_of_getElem? (i := 1340) (by decide +kernel), List.mem_of_getElem? (i := 1341) (by decide +kernel)⟩
theorem lw_p58 : lw_okq (⟨"GlassWordsModel", "isNext", "(Ljava/lang/String;)Z"⟩, 28) := ⟨⟨by decide +kernel, by decide +kernel⟩, List.mem_of_getElem? (i := 912) (by decide +kernel), List.mem_of_getElem? (i := 1345) (by decide +kernel), List.mem_of_getElem? (i := 1346) (by decide +kernel)⟩
theorem lw_p59 : lw_okq (⟨"GlassWordsModel", "number", "(II)I"⟩, 28) := ⟨⟨by decide +kernel, by decide +kernel⟩, List.mem_of_getElem? (i := 912) (by decide +kernel), List.mem_of_getElem? (i := 1349) (by decide +kernel), List.mem_of_getElem? (i := 1350) (by decide +kernel)⟩
theorem lw_p60 : lw_okq (⟨"GlassWordsModel", "item", "(IIII)V"⟩, 28) := ⟨⟨by decide +kernel, by decide +kernel⟩, List.mem_of_getElem? (i := 912) (by decide +kernel), List.mem_of_getElem? (i := 1354) (by decide +kernel), List.mem_of_getElem? (i := 1355) (by decide +kernel)⟩
theorem lw_p61 : lw_okq (⟨"GlassWordsModel", "readPace", "(I)V"⟩, 28) := ⟨⟨by decide +kernel, by decide +kernel⟩, List.mem_of_getElem? (i := 912) (by decide +kernel), List.mem_of_getElem? (i := 1359) (by decide +kernel), List.mem_of_getElem? (i := 1360) (by decide +kernel)⟩
theorem lw_p62 : lw_okq (⟨"GlassWordsModel", "drift", "()I"⟩, 28) := ⟨⟨by decide +kernel, by decide +kernel⟩, List.mem_of_getElem? (i := 912) (by decide +kernel), List.mem_of_getElem? (i := 1365) (by decide +kernel), List.mem_of_getElem? (i := 1366) (by decide +kernel)⟩
theorem lw_p63 : lw_okq (⟨"GlassWordsModel", "readRule", "(I)V"⟩, 28) := ⟨⟨by decide +kernel, by decide +kernel⟩, List.mem_of_getElem? (i := 912) (by decide +kernel), List.mem_of_getElem? (i := 1371) (by decide +kernel), List.mem_of_getElem? (i := 1372) (by decide +kernel)⟩
def lw_privs_4 : List (MethodName × Nat) := [(⟨"GlassWordsModel", "jumpFrom", "(III)I"⟩, 28), (⟨"GlassWordsModel", "findLed", "(I)I"⟩, 28), (⟨"GlassWordsModel", "leavesIn", "(I)I"⟩, 28), (⟨"GlassWordsModel", "drawn", "(I)I"⟩, 28), (⟨"GlassWordsModel", "next", "()V"⟩, 28), (⟨"GlassWordsModel", "byteAt", "(I)I"⟩, 28), (⟨"GlassWordsModel", "readItem", "()V"⟩, 28), (⟨"GlassWordsModel", "kindTold", "()I"⟩, 28), (⟨"GlassWordsModel", "isWord", "(Ljava/lang/String;)Z"⟩, 28), (⟨"GlassWordsModel", "must", "(Z)V"⟩, 28), (⟨"GlassWordsModel", "isNext", "(Ljava/lang/String;)Z"⟩, 28), (⟨"GlassWordsModel", "number", "(II)I"⟩, 28), (⟨"GlassWordsModel", "item", "(IIII)V"⟩, 28), (⟨"GlassWordsModel", "readPace", "(I)V"⟩, 28), (⟨"GlassWordsModel", "drift", "()I"⟩, 28), (⟨"GlassWordsModel", "readRule", "(I)V"⟩, 28)]
theorem lw_r4 : ∀ q ∈ lw_privs_4, lw_okq q := List.forall_mem_cons.mpr ⟨lw_p48, List.forall_mem_cons.mpr ⟨lw_p49, List.forall_mem_cons.mpr ⟨lw_p50, List.forall_mem_cons.mpr ⟨lw_p51, List.forall_mem_cons.mpr ⟨lw_p52, List.forall_mem_cons.mpr ⟨lw_p53, List.forall_mem_cons.mpr ⟨lw_p54, List.forall_mem_cons.mpr ⟨lw_p55, List.forall_mem_cons.mpr ⟨lw_p56, List.forall_mem_cons.mpr ⟨lw_p57, List.forall_mem_cons.mpr ⟨lw_p58, List.forall_mem_cons.mpr ⟨lw_p59, List.forall_mem_cons.mpr ⟨lw_p60, List.forall_mem_cons.mpr ⟨lw_p61, List.forall_mem_cons.mpr ⟨lw_p62, List.forall_mem_cons.mpr ⟨lw_p63, fun _ h => absurd h List.not_mem_nil⟩⟩⟩⟩⟩⟩⟩⟩⟩⟩⟩⟩⟩⟩⟩⟩
theorem lw_p64 : lw_okq (⟨"GlassWordsModel", "isSo", "(I)I"⟩, 28) := ⟨⟨by decide +kernel, by decide +kernel⟩, List.mem_of_getElem? (i := 912) (by decide +kernel), List.mem_of_getElem? (i := 1378) (by decide +kernel), List.mem_of_getElem? (i := 1379) (by decide +kernel)⟩
theorem lw_p65 : lw_okq (⟨"GlassWordsModel", "becomesTold", "(II)V"⟩, 28) := ⟨⟨by decide +kernel, by decide +kernel⟩, List.mem_of_getElem? (i := 912) (by decide +kernel), List.mem_of_getElem? (i := 1382) (by decide +kernel), List.mem_of_getElem? (i := 1383) (by decide +kernel)⟩
def lw_privs_5 : List (MethodName × Nat) := [(⟨"GlassWordsModel", "isSo", "(I)I"⟩, 28), (⟨"GlassWordsModel", "becomesTold", "(II)V"⟩, 28)]
theorem lw_r5 : ∀ q ∈ lw_privs_5, lw_okq q := List.forall_mem_cons.mpr ⟨lw_p64, List.forall_mem_cons.mpr ⟨lw_p65, fun _ h => absurd h List.not_mem_nil⟩⟩
def lw_privs : List (MethodName × Nat) := lw_privs_1 ++ (lw_privs_2 ++ (lw_privs_3 ++ (lw_privs_4 ++ (lw_privs_5))))
def lw_tbl : List Cond := k2_sels lw_privs ++ tables_1
theorem lw_privs_ok : ∀ q ∈ lw_privs, lw_okq q := by
  show ∀ q ∈ lw_privs_1 ++ (lw_privs_2 ++ (lw_privs_3 ++ (lw_privs_4 ++ (lw_privs_5)))), lw_okq q
  exact List.forall_mem_append.mpr ⟨lw_r1, List.forall_mem_append.mpr ⟨lw_r2, List.forall_mem_append.mpr ⟨lw_r3, List.forall_mem_append.mpr ⟨lw_r4, lw_r5⟩⟩⟩⟩
-- ===== end of PART A; then your names; then what follows =====
/-! THE CLAIM OUT OF ONE WALK OF THE LAW'S BODY. Your part is whole_start (and what it stands on); all else here is the same for every law, but numbers. -/
def R_law : String := "GlassWordsLaw"
def lw_P (b : Addr) (xs : List Int32) (args : Array Value) (s : State) : Prop := args = #[.ref b] ∧ s.IntsAt b xs ∧ xs.length ≤ 3072 ∧ (Jvm.Cond.and given_1 narrow_1).before args s = true
def lw_Q (_ : Array Value) (s : State) (o : Outcome) (t : State) : Prop := o = .returned (some (.int 1)) ∧ Framed s o t [] 600000 7302250
def lw_Z (below : List Frame) (a : Array Value) (s : State) : State → Prop := fun t => ∃ o, t.status = .running ∧ Ended t below o ∧ lw_Q a s o t
/-- the law's own end, with 1 on the stack, nothing written that was there before, its room as the claim has it -/
theorem lw_ret {p : Program} {l : Launch} {e : Env} {s : State} {m : MethodId} {below : List Frame} {meth : Method} {c : Code} {b : Nat} (hx : p.tables.exec = Jvm.exec) (hb : c.code = code) (hr : meth.sig.returnType = ret) (hlocks : meth.locks = false) {pc : Nat} {H : Heap} {ls : Array Slot} (hdg : decode code pc = .ok (.ireturn, 1)) : W p l e room_1 s m #[Value.ref b] below meth c H [] 600000 7302250 (lw_Z below #[Value.ref b] s) (F0 m pc ls [.int 1]) := by
  intro T hT X
  obtain ⟨fs, hret, hrun, hended, hW, hframe⟩ := X.leave (v := some (.int 1)) (hlocks := hlocks) (fun h => by rw [hr] at h; cases h)
  have hmeth' : T.vm.method? m = some meth := X.method'
  refine ⟨T.setFrames fs, ?_, .returned (some (.int 1)), hrun, hended, rfl, ⟨_, rfl⟩, hW, hframe⟩
  jvm_step X.here [X.here.top, hx, hb, hdg, hmeth', hr, ret, narrow_b1]
  (try refine ⟨rfl, ?_⟩); (try refine ⟨rfl, ?_⟩)
  first | (intro acts; rw [hret _ acts rfl rfl rfl]) | rw [hret _ _ rfl rfl rfl]
  exact Steps.refl _
/-- what holds at the law's entry: the machine, the code, the tables' words (any of lw_tbl by 'hts w (by decide +kernel)'), the script of L ints xs at the cell b, what the Statement gives of the start (any of its parts by flat_of_before) -/
def lw_At (p : Program) (s : State) (m : MethodId) (meth : Method) (c : Code) (b L : Nat) (xs : Nat → Int32) : Prop :=
  p.tables.exec = Jvm.exec ∧ c.code = code ∧ meth.sig.returnType = ret ∧ c.maxLocals = 4 ∧ s.vm.findClass R_law = some m.cls ∧ (∀ w ∈ lw_tbl, w.before #[Value.ref b] s = true) ∧ va_X b L xs s s.heap ∧ b < s.heap.size ∧ meth.locks = false ∧ (Jvm.Cond.and given_1 narrow_1).before #[Value.ref b] s = true
end
section
def RX0 : String := "GlassWords$Kinds"
def TX0 : u_T := fun k => match k with
  | _ => ("", "", "", false)
def tyX0 : Nat → FieldType := fun k => match k with
  | _ => .int
theorem nmX0 : ∀ a, a < 0 → ∀ b, b < 0 → a ≠ b → (TX0 a).2.1 ≠ (TX0 b).2.1 := by decide +kernel
theorem tyX0_ok : ∀ k, k < 0 → parseFieldDescriptor (TX0 k).2.2.1 = some (tyX0 k) := by decide +kernel
abbrev cX0_takes : ByteArray := prog_2_method_2_code
def yX0_takes : MethodName := ⟨RX0, "takes", "(IIII)I"⟩
abbrev cX0_tripsBy : ByteArray := prog_2_method_3_code
def yX0_tripsBy : MethodName := ⟨RX0, "tripsBy", "(IIII)I"⟩
abbrev cX0_seenBy : ByteArray := prog_2_method_4_code
def yX0_seenBy : MethodName := ⟨RX0, "seenBy", "(III)I"⟩
abbrev cX0_isOrIsUnder : ByteArray := prog_2_method_5_code
def yX0_isOrIsUnder : MethodName := ⟨RX0, "isOrIsUnder", "(II)Z"⟩
def RX1 : String := "GlassWords$Paces"
def TX1 : u_T := fun k => match k with
  | 0 => ("GlassWords$Paces", "reader", "I", false)
  | 1 => ("GlassWords$Paces", "knob", "I", false)
  | 2 => ("GlassWords$Paces", "readerWeight", "I", false)
  | 3 => ("GlassWords$Paces", "knobWeight", "I", false)
  | 4 => ("GlassWords$Paces", "readerDrift", "I", false)
  | _ => ("GlassWords$Paces", "knobDrift", "I", false)
def tyX1 : Nat → FieldType := fun k => match k with
  | 0 => .int
  | 1 => .int
  | 2 => .int
  | 3 => .int
  | 4 => .int
  | _ => .int
theorem nmX1 : ∀ a, a < 6 → ∀ b, b < 6 → a ≠ b → (TX1 a).2.1 ≠ (TX1 b).2.1 := by decide +kernel
theorem tyX1_ok : ∀ k, k < 6 → parseFieldDescriptor (TX1 k).2.2.1 = some (tyX1 k) := by decide +kernel
abbrev cX1_init : ByteArray := prog_3_method_1_code
def yX1_init : MethodName := ⟨RX1, "<init>", "()V"⟩
abbrev cX1_takeFrom : ByteArray := prog_3_method_2_code
def yX1_takeFrom : MethodName := ⟨RX1, "takeFrom", "([I)V"⟩
abbrev cX1_step : ByteArray := prog_3_method_3_code
def yX1_step : MethodName := ⟨RX1, "step", "(I)V"⟩
abbrev cX1_are : ByteArray := prog_3_method_4_code
def yX1_are : MethodName := ⟨RX1, "are", "(II)Z"⟩
abbrev cX1_habit : ByteArray := prog_3_method_5_code
def yX1_habit : MethodName := ⟨RX1, "habit", "()I"⟩
abbrev cX1_held : ByteArray := prog_3_method_6_code
def yX1_held : MethodName := ⟨RX1, "held", "(I)I"⟩
def RX2 : String := "GlassWords$Rounds"
def TX2 : u_T := fun k => match k with
  | 0 => ("GlassWords$Rounds", "slow", "LGlassWords$Paces;", true)
  | _ => ("GlassWords$Rounds", "quick", "LGlassWords$Paces;", true)
def tyX2 : Nat → FieldType := fun k => match k with
  | 0 => .object "GlassWords$Paces"
  | _ => .object "GlassWords$Paces"
theorem nmX2 : ∀ a, a < 2 → ∀ b, b < 2 → a ≠ b → (TX2 a).2.1 ≠ (TX2 b).2.1 := by decide +kernel
theorem tyX2_ok : ∀ k, k < 2 → parseFieldDescriptor (TX2 k).2.2.1 = some (tyX2 k) := by decide +kernel
abbrev cX2_init : ByteArray := prog_4_method_1_code
def yX2_init : MethodName := ⟨RX2, "<init>", "()V"⟩
abbrev cX2_lengthFrom : ByteArray := prog_4_method_2_code
def yX2_lengthFrom : MethodName := ⟨RX2, "lengthFrom", "([I)I"⟩
abbrev cX2_beginFrom : ByteArray := prog_4_method_3_code
def yX2_beginFrom : MethodName := ⟨RX2, "beginFrom", "([II)I"⟩
def RX3 : String := "GlassWords$Script"
def TX3 : u_T := fun k => match k with
  | 0 => ("GlassWords$Script", "tape", "LGlassWords$Tape;", false)
  | 1 => ("GlassWords$Script", "studio", "LGlassWords$Studio;", false)
  | 2 => ("GlassWords$Script", "token", "I", false)
  | 3 => ("GlassWords$Script", "start", "I", false)
  | 4 => ("GlassWords$Script", "next", "I", false)
  | _ => ("GlassWords$Script", "value", "I", false)
def tyX3 : Nat → FieldType := fun k => match k with
  | 0 => .object "GlassWords$Tape"
  | 1 => .object "GlassWords$Studio"
  | 2 => .int
  | 3 => .int
  | 4 => .int
  | _ => .int
theorem nmX3 : ∀ a, a < 6 → ∀ b, b < 6 → a ≠ b → (TX3 a).2.1 ≠ (TX3 b).2.1 := by decide +kernel
theorem tyX3_ok : ∀ k, k < 6 → parseFieldDescriptor (TX3 k).2.2.1 = some (tyX3 k) := by decide +kernel
abbrev cX3_init : ByteArray := prog_5_method_1_code
def yX3_init : MethodName := ⟨RX3, "<init>", "()V"⟩
abbrev cX3_tellTo : ByteArray := prog_5_method_2_code
def yX3_tellTo : MethodName := ⟨RX3, "tellTo", "(LGlassWords$Studio;LGlassWords$Tape;)I"⟩
abbrev cX3_takeItem : ByteArray := prog_5_method_3_code
def yX3_takeItem : MethodName := ⟨RX3, "takeItem", "()Z"⟩
abbrev cX3_takeLine : ByteArray := prog_5_method_4_code
def yX3_takeLine : MethodName := ⟨RX3, "takeLine", "(I)Z"⟩
abbrev cX3_takeFeature : ByteArray := prog_5_method_5_code
def yX3_takeFeature : MethodName := ⟨RX3, "takeFeature", "(Ljava/lang/String;II)Z"⟩
abbrev cX3_takePace : ByteArray := prog_5_method_6_code
def yX3_takePace : MethodName := ⟨RX3, "takePace", "(I)Z"⟩
abbrev cX3_takeRule : ByteArray := prog_5_method_7_code
def yX3_takeRule : MethodName := ⟨RX3, "takeRule", "(I)Z"⟩
abbrev cX3_takeDrift : ByteArray := prog_5_method_8_code
def yX3_takeDrift : MethodName := ⟨RX3, "takeDrift", "(I)Z"⟩
abbrev cX3_isNumber : ByteArray := prog_5_method_9_code
def yX3_isNumber : MethodName := ⟨RX3, "isNumber", "(II)Z"⟩
abbrev cX3_isWord : ByteArray := prog_5_method_10_code
def yX3_isWord : MethodName := ⟨RX3, "isWord", "(Ljava/lang/String;)Z"⟩
abbrev cX3_nameOf : ByteArray := prog_5_method_11_code
def yX3_nameOf : MethodName := ⟨RX3, "nameOf", "(I)Ljava/lang/String;"⟩
abbrev cX3_lookOn : ByteArray := prog_5_method_12_code
def yX3_lookOn : MethodName := ⟨RX3, "lookOn", "()V"⟩
abbrev cX3_signAt : ByteArray := prog_5_method_13_code
def yX3_signAt : MethodName := ⟨RX3, "signAt", "(I)I"⟩
abbrev cX3_isLetter : ByteArray := prog_5_method_14_code
def yX3_isLetter : MethodName := ⟨RX3, "isLetter", "(I)Z"⟩
abbrev cX3_isDigit : ByteArray := prog_5_method_15_code
def yX3_isDigit : MethodName := ⟨RX3, "isDigit", "(I)Z"⟩
def RX4 : String := "GlassWords$Searches"
def TX4 : u_T := fun k => match k with
  | 0 => ("GlassWords$Searches", "paces", "LGlassWords$Paces;", true)
  | 1 => ("GlassWords$Searches", "eased", "[I", true)
  | 2 => ("GlassWords$Searches", "fitting", "I", false)
  | 3 => ("GlassWords$Searches", "fittingByReader", "I", false)
  | _ => ("GlassWords$Searches", "firstFitting", "I", false)
def tyX4 : Nat → FieldType := fun k => match k with
  | 0 => .object "GlassWords$Paces"
  | 1 => .array .int
  | 2 => .int
  | 3 => .int
  | _ => .int
theorem nmX4 : ∀ a, a < 5 → ∀ b, b < 5 → a ≠ b → (TX4 a).2.1 ≠ (TX4 b).2.1 := by decide +kernel
theorem tyX4_ok : ∀ k, k < 5 → parseFieldDescriptor (TX4 k).2.2.1 = some (tyX4 k) := by decide +kernel
abbrev cX4_init : ByteArray := prog_6_method_1_code
def yX4_init : MethodName := ⟨RX4, "<init>", "()V"⟩
abbrev cX4_nearestWeights : ByteArray := prog_6_method_2_code
def yX4_nearestWeights : MethodName := ⟨RX4, "nearestWeights", "(LGlassWords$Studio;)I"⟩
abbrev cX4_offHour : ByteArray := prog_6_method_3_code
def yX4_offHour : MethodName := ⟨RX4, "offHour", "(LGlassWords$Studio;I)I"⟩
abbrev cX4_weigh : ByteArray := prog_6_method_4_code
def yX4_weigh : MethodName := ⟨RX4, "weigh", "(LGlassWords$Studio;I)V"⟩
abbrev cX4_calmestEyes : ByteArray := prog_6_method_5_code
def yX4_calmestEyes : MethodName := ⟨RX4, "calmestEyes", "(LGlassWords$Studio;)I"⟩
abbrev cX4_mostTripping : ByteArray := prog_6_method_6_code
def yX4_mostTripping : MethodName := ⟨RX4, "mostTripping", "(LGlassWords$Studio;)I"⟩
abbrev cX4_quickestKind : ByteArray := prog_6_method_7_code
def yX4_quickestKind : MethodName := ⟨RX4, "quickestKind", "(LGlassWords$Studio;I)I"⟩
abbrev cX4_fewestEased : ByteArray := prog_6_method_8_code
def yX4_fewestEased : MethodName := ⟨RX4, "fewestEased", "(LGlassWords$Studio;I)I"⟩
abbrev cX4_easedBy : ByteArray := prog_6_method_9_code
def yX4_easedBy : MethodName := ⟨RX4, "easedBy", "(II)I"⟩
abbrev cX4_bestLeftOut : ByteArray := prog_6_method_10_code
def yX4_bestLeftOut : MethodName := ⟨RX4, "bestLeftOut", "(LGlassWords$Studio;)I"⟩
abbrev cX4_fitsHourWithout : ByteArray := prog_6_method_11_code
def yX4_fitsHourWithout : MethodName := ⟨RX4, "fitsHourWithout", "(LGlassWords$Studio;I)Z"⟩
abbrev cX4_tallyFits : ByteArray := prog_6_method_12_code
def yX4_tallyFits : MethodName := ⟨RX4, "tallyFits", "(LGlassWords$Studio;LGlassWords$Sheet;)V"⟩
abbrev cX4_takeJust : ByteArray := prog_6_method_13_code
def yX4_takeJust : MethodName := ⟨RX4, "takeJust", "(LGlassWords$Studio;LGlassWords$Sheet;)Z"⟩
def RX5 : String := "GlassWords$Sheet"
def TX5 : u_T := fun k => match k with
  | 0 => ("GlassWords$Sheet", "numbers", "[I", true)
  | 1 => ("GlassWords$Sheet", "bits", "I", false)
  | _ => ("GlassWords$Sheet", "size", "I", false)
def tyX5 : Nat → FieldType := fun k => match k with
  | 0 => .array .int
  | 1 => .int
  | _ => .int
theorem nmX5 : ∀ a, a < 3 → ∀ b, b < 3 → a ≠ b → (TX5 a).2.1 ≠ (TX5 b).2.1 := by decide +kernel
theorem tyX5_ok : ∀ k, k < 3 → parseFieldDescriptor (TX5 k).2.2.1 = some (tyX5 k) := by decide +kernel
abbrev cX5_init : ByteArray := prog_7_method_1_code
def yX5_init : MethodName := ⟨RX5, "<init>", "()V"⟩
abbrev cX5_canHave : ByteArray := prog_7_method_2_code
def yX5_canHave : MethodName := ⟨RX5, "canHave", "(I)Z"⟩
abbrev cX5_isMissing : ByteArray := prog_7_method_3_code
def yX5_isMissing : MethodName := ⟨RX5, "isMissing", "()Z"⟩
abbrev cX5_begin : ByteArray := prog_7_method_4_code
def yX5_begin : MethodName := ⟨RX5, "begin", "(II)V"⟩
abbrev cX5_hasPart : ByteArray := prog_7_method_5_code
def yX5_hasPart : MethodName := ⟨RX5, "hasPart", "(II)Z"⟩
abbrev cX5_put : ByteArray := prog_7_method_6_code
def yX5_put : MethodName := ⟨RX5, "put", "(II)V"⟩
def RX6 : String := "GlassWords$Studio"
def TX6 : u_T := fun k => match k with
  | 0 => ("GlassWords$Studio", "kinds", "[I", true)
  | 1 => ("GlassWords$Studio", "words", "[I", true)
  | 2 => ("GlassWords$Studio", "hards", "[I", true)
  | 3 => ("GlassWords$Studio", "rules", "[I", true)
  | 4 => ("GlassWords$Studio", "spots", "[I", true)
  | 5 => ("GlassWords$Studio", "lines", "I", false)
  | 6 => ("GlassWords$Studio", "at", "I", false)
  | 7 => ("GlassWords$Studio", "clock", "I", false)
  | 8 => ("GlassWords$Studio", "tripped", "I", false)
  | 9 => ("GlassWords$Studio", "looked", "I", false)
  | _ => ("GlassWords$Studio", "z", "I", false)
def tyX6 : Nat → FieldType := fun k => match k with
  | 0 => .array .int
  | 1 => .array .int
  | 2 => .array .int
  | 3 => .array .int
  | 4 => .array .int
  | 5 => .int
  | 6 => .int
  | 7 => .int
  | 8 => .int
  | 9 => .int
  | _ => .int
theorem nmX6 : ∀ a, a < 11 → ∀ b, b < 11 → a ≠ b → (TX6 a).2.1 ≠ (TX6 b).2.1 := by decide +kernel
theorem tyX6_ok : ∀ k, k < 11 → parseFieldDescriptor (TX6 k).2.2.1 = some (tyX6 k) := by decide +kernel
abbrev cX6_init : ByteArray := prog_8_method_1_code
def yX6_init : MethodName := ⟨RX6, "<init>", "()V"⟩
abbrev cX6_become : ByteArray := prog_8_method_2_code
def yX6_become : MethodName := ⟨RX6, "become", "(LGlassWords$Studio;)V"⟩
abbrev cX6_isLine : ByteArray := prog_8_method_3_code
def yX6_isLine : MethodName := ⟨RX6, "isLine", "(I)Z"⟩
abbrev cX6_hasRoom : ByteArray := prog_8_method_4_code
def yX6_hasRoom : MethodName := ⟨RX6, "hasRoom", "()Z"⟩
abbrev cX6_addLine : ByteArray := prog_8_method_5_code
def yX6_addLine : MethodName := ⟨RX6, "addLine", "(I)I"⟩
abbrev cX6_features : ByteArray := prog_8_method_6_code
def yX6_features : MethodName := ⟨RX6, "features", "(I)[I"⟩
abbrev cX6_sumOf : ByteArray := prog_8_method_7_code
def yX6_sumOf : MethodName := ⟨RX6, "sumOf", "([I)I"⟩
abbrev cX6_spotsHeld : ByteArray := prog_8_method_8_code
def yX6_spotsHeld : MethodName := ⟨RX6, "spotsHeld", "()I"⟩
abbrev cX6_linesAhead : ByteArray := prog_8_method_9_code
def yX6_linesAhead : MethodName := ⟨RX6, "linesAhead", "()I"⟩
abbrev cX6_takesOf : ByteArray := prog_8_method_10_code
def yX6_takesOf : MethodName := ⟨RX6, "takesOf", "(II)I"⟩
abbrev cX6_tripsOf : ByteArray := prog_8_method_11_code
def yX6_tripsOf : MethodName := ⟨RX6, "tripsOf", "(I)I"⟩
abbrev cX6_seenOf : ByteArray := prog_8_method_12_code
def yX6_seenOf : MethodName := ⟨RX6, "seenOf", "(I)I"⟩
abbrev cX6_takesAhead : ByteArray := prog_8_method_13_code
def yX6_takesAhead : MethodName := ⟨RX6, "takesAhead", "(ILGlassWords$Paces;)I"⟩
abbrev cX6_tripsAhead : ByteArray := prog_8_method_14_code
def yX6_tripsAhead : MethodName := ⟨RX6, "tripsAhead", "()I"⟩
abbrev cX6_seenAhead : ByteArray := prog_8_method_15_code
def yX6_seenAhead : MethodName := ⟨RX6, "seenAhead", "()I"⟩
abbrev cX6_unrestAhead : ByteArray := prog_8_method_16_code
def yX6_unrestAhead : MethodName := ⟨RX6, "unrestAhead", "(II)I"⟩
abbrev cX6_wordsAheadWithout : ByteArray := prog_8_method_17_code
def yX6_wordsAheadWithout : MethodName := ⟨RX6, "wordsAheadWithout", "(I)I"⟩
abbrev cX6_takeWords : ByteArray := prog_8_method_18_code
def yX6_takeWords : MethodName := ⟨RX6, "takeWords", "(LGlassWords$Sheet;)I"⟩
abbrev cX6_turnPaces : ByteArray := prog_8_method_19_code
def yX6_turnPaces : MethodName := ⟨RX6, "turnPaces", "(LGlassWords$Paces;)V"⟩
abbrev cX6_readOne : ByteArray := prog_8_method_20_code
def yX6_readOne : MethodName := ⟨RX6, "readOne", "(LGlassWords$Paces;)V"⟩
abbrev cX6_draw : ByteArray := prog_8_method_21_code
def yX6_draw : MethodName := ⟨RX6, "draw", "()I"⟩
abbrev cX6_spendEvening : ByteArray := prog_8_method_22_code
def yX6_spendEvening : MethodName := ⟨RX6, "spendEvening", "(ILGlassWords$Paces;)I"⟩
def RX7 : String := "GlassWords$Tape"
def TX7 : u_T := fun k => match k with
  | 0 => ("GlassWords$Tape", "bytes", "[I", true)
  | _ => ("GlassWords$Tape", "size", "I", false)
def tyX7 : Nat → FieldType := fun k => match k with
  | 0 => .array .int
  | _ => .int
theorem nmX7 : ∀ a, a < 2 → ∀ b, b < 2 → a ≠ b → (TX7 a).2.1 ≠ (TX7 b).2.1 := by decide +kernel
theorem tyX7_ok : ∀ k, k < 2 → parseFieldDescriptor (TX7 k).2.2.1 = some (tyX7 k) := by decide +kernel
abbrev cX7_init : ByteArray := prog_9_method_1_code
def yX7_init : MethodName := ⟨RX7, "<init>", "()V"⟩
abbrev cX7_append : ByteArray := prog_9_method_2_code
def yX7_append : MethodName := ⟨RX7, "append", "(II)V"⟩
def RX8 : String := "GlassWords$Ways"
def TX8 : u_T := fun k => match k with
  | 0 => ("GlassWords$Ways", "reading", "[I", true)
  | 1 => ("GlassWords$Ways", "best", "[I", true)
  | _ => ("GlassWords$Ways", "behindJump", "[I", true)
def tyX8 : Nat → FieldType := fun k => match k with
  | 0 => .array .int
  | 1 => .array .int
  | _ => .array .int
theorem nmX8 : ∀ a, a < 3 → ∀ b, b < 3 → a ≠ b → (TX8 a).2.1 ≠ (TX8 b).2.1 := by decide +kernel
theorem tyX8_ok : ∀ k, k < 3 → parseFieldDescriptor (TX8 k).2.2.1 = some (tyX8 k) := by decide +kernel
abbrev cX8_init : ByteArray := prog_10_method_1_code
def yX8_init : MethodName := ⟨RX8, "<init>", "()V"⟩
abbrev cX8_measure : ByteArray := prog_10_method_2_code
def yX8_measure : MethodName := ⟨RX8, "measure", "(LGlassWords$Studio;II)V"⟩
abbrev cX8_shortest : ByteArray := prog_10_method_3_code
def yX8_shortest : MethodName := ⟨RX8, "shortest", "(I)I"⟩
abbrev cX8_linesRead : ByteArray := prog_10_method_4_code
def yX8_linesRead : MethodName := ⟨RX8, "linesRead", "(II)I"⟩
abbrev cX8_shortestJump : ByteArray := prog_10_method_5_code
def yX8_shortestJump : MethodName := ⟨RX8, "shortestJump", "(II)I"⟩
abbrev cX8_byJump : ByteArray := prog_10_method_6_code
def yX8_byJump : MethodName := ⟨RX8, "byJump", "(II)I"⟩
def RX9 : String := "GlassWords"
def TX9 : u_T := fun k => match k with
  | 0 => ("GlassWords", "studio", "LGlassWords$Studio;", true)
  | 1 => ("GlassWords", "keptStudio", "LGlassWords$Studio;", true)
  | 2 => ("GlassWords", "draft", "LGlassWords$Studio;", true)
  | 3 => ("GlassWords", "paces", "LGlassWords$Paces;", true)
  | 4 => ("GlassWords", "rounds", "LGlassWords$Rounds;", true)
  | 5 => ("GlassWords", "searches", "LGlassWords$Searches;", true)
  | 6 => ("GlassWords", "ways", "LGlassWords$Ways;", true)
  | 7 => ("GlassWords", "tape", "LGlassWords$Tape;", true)
  | 8 => ("GlassWords", "script", "LGlassWords$Script;", true)
  | 9 => ("GlassWords", "sheets", "[LGlassWords$Sheet;", true)
  | 10 => ("GlassWords", "findings", "[I", true)
  | _ => ("GlassWords", "imageIsKept", "Z", false)
def tyX9 : Nat → FieldType := fun k => match k with
  | 0 => .object "GlassWords$Studio"
  | 1 => .object "GlassWords$Studio"
  | 2 => .object "GlassWords$Studio"
  | 3 => .object "GlassWords$Paces"
  | 4 => .object "GlassWords$Rounds"
  | 5 => .object "GlassWords$Searches"
  | 6 => .object "GlassWords$Ways"
  | 7 => .object "GlassWords$Tape"
  | 8 => .object "GlassWords$Script"
  | 9 => .array (.object "GlassWords$Sheet")
  | 10 => .array .int
  | _ => .boolean
theorem nmX9 : ∀ a, a < 12 → ∀ b, b < 12 → a ≠ b → (TX9 a).2.1 ≠ (TX9 b).2.1 := by decide +kernel
theorem tyX9_ok : ∀ k, k < 12 → parseFieldDescriptor (TX9 k).2.2.1 = some (tyX9 k) := by decide +kernel
abbrev cX9_init : ByteArray := prog_1_method_1_code
def yX9_init : MethodName := ⟨RX9, "<init>", "()V"⟩
abbrev cX9_line : ByteArray := prog_1_method_2_code
def yX9_line : MethodName := ⟨RX9, "line", "(I)I"⟩
abbrev cX9_of : ByteArray := prog_1_method_3_code
def yX9_of : MethodName := ⟨RX9, "of", "(II)I"⟩
abbrev cX9_change : ByteArray := prog_1_method_4_code
def yX9_change : MethodName := ⟨RX9, "change", "(III)I"⟩
abbrev cX9_rule : ByteArray := prog_1_method_5_code
def yX9_rule : MethodName := ⟨RX9, "rule", "(II)I"⟩
abbrev cX9_ruled : ByteArray := prog_1_method_6_code
def yX9_ruled : MethodName := ⟨RX9, "ruled", "(I)I"⟩
abbrev cX9_read : ByteArray := prog_1_method_7_code
def yX9_read : MethodName := ⟨RX9, "read", "(I)I"⟩
abbrev cX9_go : ByteArray := prog_1_method_8_code
def yX9_go : MethodName := ⟨RX9, "go", "(I)I"⟩
abbrev cX9_turn : ByteArray := prog_1_method_9_code
def yX9_turn : MethodName := ⟨RX9, "turn", "()I"⟩
abbrev cX9_now : ByteArray := prog_1_method_10_code
def yX9_now : MethodName := ⟨RX9, "now", "(I)I"⟩
abbrev cX9_rest : ByteArray := prog_1_method_11_code
def yX9_rest : MethodName := ⟨RX9, "rest", "(I)I"⟩
abbrev cX9_pace : ByteArray := prog_1_method_12_code
def yX9_pace : MethodName := ⟨RX9, "pace", "(II)I"⟩
abbrev cX9_sign : ByteArray := prog_1_method_13_code
def yX9_sign : MethodName := ⟨RX9, "sign", "()I"⟩
abbrev cX9_round : ByteArray := prog_1_method_14_code
def yX9_round : MethodName := ⟨RX9, "round", "(I)I"⟩
abbrev cX9_leads : ByteArray := prog_1_method_15_code
def yX9_leads : MethodName := ⟨RX9, "leads", "()I"⟩
abbrev cX9_found : ByteArray := prog_1_method_16_code
def yX9_found : MethodName := ⟨RX9, "found", "()I"⟩
abbrev cX9_off : ByteArray := prog_1_method_17_code
def yX9_off : MethodName := ⟨RX9, "off", "()I"⟩
abbrev cX9_grid : ByteArray := prog_1_method_18_code
def yX9_grid : MethodName := ⟨RX9, "grid", "()I"⟩
abbrev cX9_worst : ByteArray := prog_1_method_19_code
def yX9_worst : MethodName := ⟨RX9, "worst", "()I"⟩
abbrev cX9_trips : ByteArray := prog_1_method_20_code
def yX9_trips : MethodName := ⟨RX9, "trips", "()I"⟩
abbrev cX9_kindFor : ByteArray := prog_1_method_21_code
def yX9_kindFor : MethodName := ⟨RX9, "kindFor", "(I)I"⟩
abbrev cX9_ease : ByteArray := prog_1_method_22_code
def yX9_ease : MethodName := ⟨RX9, "ease", "(I)I"⟩
abbrev cX9_fit : ByteArray := prog_1_method_23_code
def yX9_fit : MethodName := ⟨RX9, "fit", "()I"⟩
abbrev cX9_kept : ByteArray := prog_1_method_24_code
def yX9_kept : MethodName := ⟨RX9, "kept", "()I"⟩
abbrev cX9_jump : ByteArray := prog_1_method_25_code
def yX9_jump : MethodName := ⟨RX9, "jump", "(II)I"⟩
abbrev cX9_jumped : ByteArray := prog_1_method_26_code
def yX9_jumped : MethodName := ⟨RX9, "jumped", "(II)I"⟩
abbrev cX9_fits : ByteArray := prog_1_method_27_code
def yX9_fits : MethodName := ⟨RX9, "fits", "(I)I"⟩
abbrev cX9_led : ByteArray := prog_1_method_28_code
def yX9_led : MethodName := ⟨RX9, "led", "(I)I"⟩
abbrev cX9_part : ByteArray := prog_1_method_29_code
def yX9_part : MethodName := ⟨RX9, "part", "(II)I"⟩
abbrev cX9_stays : ByteArray := prog_1_method_30_code
def yX9_stays : MethodName := ⟨RX9, "stays", "(II)J"⟩
abbrev cX9_evening : ByteArray := prog_1_method_31_code
def yX9_evening : MethodName := ⟨RX9, "evening", "(I)I"⟩
abbrev cX9_ahead : ByteArray := prog_1_method_32_code
def yX9_ahead : MethodName := ⟨RX9, "ahead", "(I)I"⟩
abbrev cX9_seed : ByteArray := prog_1_method_33_code
def yX9_seed : MethodName := ⟨RX9, "seed", "(I)I"⟩
abbrev cX9_feed : ByteArray := prog_1_method_34_code
def yX9_feed : MethodName := ⟨RX9, "feed", "(II)I"⟩
abbrev cX9_wipe : ByteArray := prog_1_method_35_code
def yX9_wipe : MethodName := ⟨RX9, "wipe", "()I"⟩
abbrev cX9_text : ByteArray := prog_1_method_36_code
def yX9_text : MethodName := ⟨RX9, "text", "()I"⟩
abbrev cX9_hold : ByteArray := prog_1_method_37_code
def yX9_hold : MethodName := ⟨RX9, "hold", "(II)I"⟩
abbrev cX9_as : ByteArray := prog_1_method_38_code
def yX9_as : MethodName := ⟨RX9, "as", "(II)I"⟩
abbrev cX9_sheet : ByteArray := prog_1_method_39_code
def yX9_sheet : MethodName := ⟨RX9, "sheet", "(III)I"⟩
abbrev cX9_write : ByteArray := prog_1_method_40_code
def yX9_write : MethodName := ⟨RX9, "write", "(III)I"⟩
abbrev cX9_copy : ByteArray := prog_1_method_41_code
def yX9_copy : MethodName := ⟨RX9, "copy", "(IIIII)I"⟩
abbrev cX9_load : ByteArray := prog_1_method_42_code
def yX9_load : MethodName := ⟨RX9, "load", "(I)I"⟩
abbrev cX9_judge : ByteArray := prog_1_method_43_code
def yX9_judge : MethodName := ⟨RX9, "judge", "(I)I"⟩
abbrev cX9_image : ByteArray := prog_1_method_44_code
def yX9_image : MethodName := ⟨RX9, "image", "()I"⟩
abbrev cX9_undo : ByteArray := prog_1_method_45_code
def yX9_undo : MethodName := ⟨RX9, "undo", "()I"⟩
abbrev cX9_tear : ByteArray := prog_1_method_46_code
def yX9_tear : MethodName := ⟨RX9, "tear", "()I"⟩
abbrev cX9_count : ByteArray := prog_1_method_47_code
def yX9_count : MethodName := ⟨RX9, "count", "(I)I"⟩
abbrev cX9_status : ByteArray := prog_1_method_48_code
def yX9_status : MethodName := ⟨RX9, "status", "(I)I"⟩
abbrev cX9_finding : ByteArray := prog_1_method_49_code
def yX9_finding : MethodName := ⟨RX9, "finding", "(I)I"⟩
abbrev cX9_isSheet : ByteArray := prog_1_method_50_code
def yX9_isSheet : MethodName := ⟨RX9, "isSheet", "(I)Z"⟩
abbrev cX9_isWay : ByteArray := prog_1_method_51_code
def yX9_isWay : MethodName := ⟨RX9, "isWay", "(II)Z"⟩
abbrev cX9_takesAhead : ByteArray := prog_1_method_52_code
def yX9_takesAhead : MethodName := ⟨RX9, "takesAhead", "(I)I"⟩
abbrev cX9_firstWrongTime : ByteArray := prog_1_method_53_code
def yX9_firstWrongTime : MethodName := ⟨RX9, "firstWrongTime", "(LGlassWords$Sheet;)I"⟩
abbrev cX9_isWithin : ByteArray := prog_1_method_54_code
def yX9_isWithin : MethodName := ⟨RX9, "isWithin", "(III)Z"⟩
abbrev cX9_commonDivisor : ByteArray := prog_1_method_55_code
def yX9_commonDivisor : MethodName := ⟨RX9, "commonDivisor", "(II)I"⟩
def RX10 : String := "GlassWordsModel"
def TX10 : u_T := fun k => match k with
  | 0 => ("GlassWordsModel", "now", "[I", true)
  | 1 => ("GlassWordsModel", "kept", "[I", true)
  | 2 => ("GlassWordsModel", "aside", "[I", true)
  | 3 => ("GlassWordsModel", "isKept", "Z", false)
  | 4 => ("GlassWordsModel", "found", "[I", true)
  | 5 => ("GlassWordsModel", "there", "[I", true)
  | 6 => ("GlassWordsModel", "offFound", "I", false)
  | 7 => ("GlassWordsModel", "worstFound", "I", false)
  | 8 => ("GlassWordsModel", "wordsFound", "I", false)
  | 9 => ("GlassWordsModel", "mostWords", "I", false)
  | 10 => ("GlassWordsModel", "ways", "[I", true)
  | 11 => ("GlassWordsModel", "manyLead", "I", false)
  | 12 => ("GlassWordsModel", "firstLed", "I", false)
  | 13 => ("GlassWordsModel", "tape", "[I", true)
  | 14 => ("GlassWordsModel", "taped", "I", false)
  | 15 => ("GlassWordsModel", "begins", "I", false)
  | 16 => ("GlassWordsModel", "ends", "I", false)
  | 17 => ("GlassWordsModel", "sort", "I", false)
  | 18 => ("GlassWordsModel", "value", "I", false)
  | 19 => ("GlassWordsModel", "isWrong", "Z", false)
  | 20 => ("GlassWordsModel", "kinds", "[Ljava/lang/String;", true)
  | 21 => ("GlassWordsModel", "items", "[I", true)
  | 22 => ("GlassWordsModel", "itemMany", "I", false)
  | 23 => ("GlassWordsModel", "lineThen", "I", false)
  | 24 => ("GlassWordsModel", "widths", "[I", true)
  | 25 => ("GlassWordsModel", "sizes", "[I", true)
  | 26 => ("GlassWordsModel", "numbers", "[I", true)
  | _ => ("GlassWordsModel", "moved", "[I", true)
def tyX10 : Nat → FieldType := fun k => match k with
  | 0 => .array .int
  | 1 => .array .int
  | 2 => .array .int
  | 3 => .boolean
  | 4 => .array .int
  | 5 => .array .int
  | 6 => .int
  | 7 => .int
  | 8 => .int
  | 9 => .int
  | 10 => .array .int
  | 11 => .int
  | 12 => .int
  | 13 => .array .int
  | 14 => .int
  | 15 => .int
  | 16 => .int
  | 17 => .int
  | 18 => .int
  | 19 => .boolean
  | 20 => .array (.object "java/lang/String")
  | 21 => .array .int
  | 22 => .int
  | 23 => .int
  | 24 => .array .int
  | 25 => .array .int
  | 26 => .array .int
  | _ => .array .int
theorem nmX10 : ∀ a, a < 28 → ∀ b, b < 28 → a ≠ b → (TX10 a).2.1 ≠ (TX10 b).2.1 := by decide +kernel
theorem tyX10_ok : ∀ k, k < 28 → parseFieldDescriptor (TX10 k).2.2.1 = some (tyX10 k) := by decide +kernel
abbrev cX10_init : ByteArray := prog_12_method_1_code
def yX10_init : MethodName := ⟨RX10, "<init>", "()V"⟩
abbrev cX10_finding : ByteArray := prog_12_method_2_code
def yX10_finding : MethodName := ⟨RX10, "finding", "(I)I"⟩
abbrev cX10_within : ByteArray := prog_12_method_3_code
def yX10_within : MethodName := ⟨RX10, "within", "(III)Z"⟩
abbrev cX10_become : ByteArray := prog_12_method_4_code
def yX10_become : MethodName := ⟨RX10, "become", "(II)I"⟩
abbrev cX10_copyRow : ByteArray := prog_12_method_5_code
def yX10_copyRow : MethodName := ⟨RX10, "copyRow", "([I[I)V"⟩
abbrev cX10_putBack : ByteArray := prog_12_method_6_code
def yX10_putBack : MethodName := ⟨RX10, "putBack", "(I)I"⟩
abbrev cX10_has : ByteArray := prog_12_method_7_code
def yX10_has : MethodName := ⟨RX10, "has", "(II)Z"⟩
abbrev cX10_bits : ByteArray := prog_12_method_8_code
def yX10_bits : MethodName := ⟨RX10, "bits", "(I)I"⟩
abbrev cX10_isLine : ByteArray := prog_12_method_9_code
def yX10_isLine : MethodName := ⟨RX10, "isLine", "(I)Z"⟩
abbrev cX10_isKind : ByteArray := prog_12_method_10_code
def yX10_isKind : MethodName := ⟨RX10, "isKind", "(I)Z"⟩
abbrev cX10_at : ByteArray := prog_12_method_11_code
def yX10_at : MethodName := ⟨RX10, "at", "(II)I"⟩
abbrev cX10_lineIs : ByteArray := prog_12_method_12_code
def yX10_lineIs : MethodName := ⟨RX10, "lineIs", "(II)I"⟩
abbrev cX10_comes : ByteArray := prog_12_method_13_code
def yX10_comes : MethodName := ⟨RX10, "comes", "(III)I"⟩
abbrev cX10_line : ByteArray := prog_12_method_14_code
def yX10_line : MethodName := ⟨RX10, "line", "(I)I"⟩
abbrev cX10_above : ByteArray := prog_12_method_15_code
def yX10_above : MethodName := ⟨RX10, "above", "(I)I"⟩
abbrev cX10_isUnder : ByteArray := prog_12_method_16_code
def yX10_isUnder : MethodName := ⟨RX10, "isUnder", "(II)Z"⟩
abbrev cX10_takes : ByteArray := prog_12_method_17_code
def yX10_takes : MethodName := ⟨RX10, "takes", "(I)I"⟩
abbrev cX10_trips : ByteArray := prog_12_method_18_code
def yX10_trips : MethodName := ⟨RX10, "trips", "(I)I"⟩
abbrev cX10_seen : ByteArray := prog_12_method_19_code
def yX10_seen : MethodName := ⟨RX10, "seen", "(I)I"⟩
abbrev cX10_of : ByteArray := prog_12_method_20_code
def yX10_of : MethodName := ⟨RX10, "of", "(II)I"⟩
abbrev cX10_change : ByteArray := prog_12_method_21_code
def yX10_change : MethodName := ⟨RX10, "change", "(III)I"⟩
abbrev cX10_isRule : ByteArray := prog_12_method_22_code
def yX10_isRule : MethodName := ⟨RX10, "isRule", "(I)Z"⟩
abbrev cX10_least : ByteArray := prog_12_method_23_code
def yX10_least : MethodName := ⟨RX10, "least", "(I)I"⟩
abbrev cX10_most : ByteArray := prog_12_method_24_code
def yX10_most : MethodName := ⟨RX10, "most", "(I)I"⟩
abbrev cX10_rule : ByteArray := prog_12_method_25_code
def yX10_rule : MethodName := ⟨RX10, "rule", "(II)I"⟩
abbrev cX10_ruled : ByteArray := prog_12_method_26_code
def yX10_ruled : MethodName := ⟨RX10, "ruled", "(I)I"⟩
abbrev cX10_held : ByteArray := prog_12_method_27_code
def yX10_held : MethodName := ⟨RX10, "held", "(I)I"⟩
abbrev cX10_turns : ByteArray := prog_12_method_28_code
def yX10_turns : MethodName := ⟨RX10, "turns", "()I"⟩
abbrev cX10_reads : ByteArray := prog_12_method_29_code
def yX10_reads : MethodName := ⟨RX10, "reads", "()I"⟩
abbrev cX10_readsOn : ByteArray := prog_12_method_30_code
def yX10_readsOn : MethodName := ⟨RX10, "readsOn", "(I)I"⟩
abbrev cX10_left : ByteArray := prog_12_method_31_code
def yX10_left : MethodName := ⟨RX10, "left", "()I"⟩
abbrev cX10_read : ByteArray := prog_12_method_32_code
def yX10_read : MethodName := ⟨RX10, "read", "(I)I"⟩
abbrev cX10_go : ByteArray := prog_12_method_33_code
def yX10_go : MethodName := ⟨RX10, "go", "(I)I"⟩
abbrev cX10_turn : ByteArray := prog_12_method_34_code
def yX10_turn : MethodName := ⟨RX10, "turn", "()I"⟩
abbrev cX10_now : ByteArray := prog_12_method_35_code
def yX10_now : MethodName := ⟨RX10, "now", "(I)I"⟩
abbrev cX10_restTakes : ByteArray := prog_12_method_36_code
def yX10_restTakes : MethodName := ⟨RX10, "restTakes", "()I"⟩
abbrev cX10_restTrips : ByteArray := prog_12_method_37_code
def yX10_restTrips : MethodName := ⟨RX10, "restTrips", "()I"⟩
abbrev cX10_restSeen : ByteArray := prog_12_method_38_code
def yX10_restSeen : MethodName := ⟨RX10, "restSeen", "()I"⟩
abbrev cX10_rest : ByteArray := prog_12_method_39_code
def yX10_rest : MethodName := ⟨RX10, "rest", "(I)I"⟩
abbrev cX10_paceThen : ByteArray := prog_12_method_40_code
def yX10_paceThen : MethodName := ⟨RX10, "paceThen", "(II)I"⟩
abbrev cX10_pace : ByteArray := prog_12_method_41_code
def yX10_pace : MethodName := ⟨RX10, "pace", "(II)I"⟩
abbrev cX10_signThen : ByteArray := prog_12_method_42_code
def yX10_signThen : MethodName := ⟨RX10, "signThen", "()I"⟩
abbrev cX10_sign : ByteArray := prog_12_method_43_code
def yX10_sign : MethodName := ⟨RX10, "sign", "()I"⟩
abbrev cX10_round : ByteArray := prog_12_method_44_code
def yX10_round : MethodName := ⟨RX10, "round", "(I)I"⟩
abbrev cX10_leads : ByteArray := prog_12_method_45_code
def yX10_leads : MethodName := ⟨RX10, "leads", "()I"⟩
abbrev cX10_findWeights : ByteArray := prog_12_method_46_code
def yX10_findWeights : MethodName := ⟨RX10, "findWeights", "()I"⟩
abbrev cX10_found : ByteArray := prog_12_method_47_code
def yX10_found : MethodName := ⟨RX10, "found", "()I"⟩
abbrev cX10_off : ByteArray := prog_12_method_48_code
def yX10_off : MethodName := ⟨RX10, "off", "()I"⟩
abbrev cX10_findGrid : ByteArray := prog_12_method_49_code
def yX10_findGrid : MethodName := ⟨RX10, "findGrid", "()I"⟩
abbrev cX10_grid : ByteArray := prog_12_method_50_code
def yX10_grid : MethodName := ⟨RX10, "grid", "()I"⟩
abbrev cX10_worst : ByteArray := prog_12_method_51_code
def yX10_worst : MethodName := ⟨RX10, "worst", "()I"⟩
abbrev cX10_trips_ : ByteArray := prog_12_method_52_code
def yX10_trips_ : MethodName := ⟨RX10, "trips", "()I"⟩
abbrev cX10_kindFor : ByteArray := prog_12_method_53_code
def yX10_kindFor : MethodName := ⟨RX10, "kindFor", "(I)I"⟩
abbrev cX10_eases : ByteArray := prog_12_method_54_code
def yX10_eases : MethodName := ⟨RX10, "eases", "(I)I"⟩
abbrev cX10_ease : ByteArray := prog_12_method_55_code
def yX10_ease : MethodName := ⟨RX10, "ease", "(I)I"⟩
abbrev cX10_takesWithout : ByteArray := prog_12_method_56_code
def yX10_takesWithout : MethodName := ⟨RX10, "takesWithout", "(I)I"⟩
abbrev cX10_findFit : ByteArray := prog_12_method_57_code
def yX10_findFit : MethodName := ⟨RX10, "findFit", "()I"⟩
abbrev cX10_fit : ByteArray := prog_12_method_58_code
def yX10_fit : MethodName := ⟨RX10, "fit", "()I"⟩
abbrev cX10_kept : ByteArray := prog_12_method_59_code
def yX10_kept : MethodName := ⟨RX10, "kept", "()I"⟩
abbrev cX10_jumpFrom : ByteArray := prog_12_method_60_code
def yX10_jumpFrom : MethodName := ⟨RX10, "jumpFrom", "(III)I"⟩
abbrev cX10_findWays : ByteArray := prog_12_method_61_code
def yX10_findWays : MethodName := ⟨RX10, "findWays", "(II)I"⟩
abbrev cX10_isWay : ByteArray := prog_12_method_62_code
def yX10_isWay : MethodName := ⟨RX10, "isWay", "(II)Z"⟩
abbrev cX10_jump : ByteArray := prog_12_method_63_code
def yX10_jump : MethodName := ⟨RX10, "jump", "(II)I"⟩
abbrev cX10_jumped : ByteArray := prog_12_method_64_code
def yX10_jumped : MethodName := ⟨RX10, "jumped", "(II)I"⟩
abbrev cX10_findLed : ByteArray := prog_12_method_65_code
def yX10_findLed : MethodName := ⟨RX10, "findLed", "(I)I"⟩
abbrev cX10_fits : ByteArray := prog_12_method_66_code
def yX10_fits : MethodName := ⟨RX10, "fits", "(I)I"⟩
abbrev cX10_led : ByteArray := prog_12_method_67_code
def yX10_led : MethodName := ⟨RX10, "led", "(I)I"⟩
abbrev cX10_common : ByteArray := prog_12_method_68_code
def yX10_common : MethodName := ⟨RX10, "common", "(II)I"⟩
abbrev cX10_part : ByteArray := prog_12_method_69_code
def yX10_part : MethodName := ⟨RX10, "part", "(II)I"⟩
abbrev cX10_stays : ByteArray := prog_12_method_70_code
def yX10_stays : MethodName := ⟨RX10, "stays", "(II)J"⟩
abbrev cX10_drawn : ByteArray := prog_12_method_71_code
def yX10_drawn : MethodName := ⟨RX10, "drawn", "(I)I"⟩
abbrev cX10_leavesIn : ByteArray := prog_12_method_72_code
def yX10_leavesIn : MethodName := ⟨RX10, "leavesIn", "(I)I"⟩
abbrev cX10_evening : ByteArray := prog_12_method_73_code
def yX10_evening : MethodName := ⟨RX10, "evening", "(I)I"⟩
abbrev cX10_ahead : ByteArray := prog_12_method_74_code
def yX10_ahead : MethodName := ⟨RX10, "ahead", "(I)I"⟩
abbrev cX10_seed : ByteArray := prog_12_method_75_code
def yX10_seed : MethodName := ⟨RX10, "seed", "(I)I"⟩
abbrev cX10_feed : ByteArray := prog_12_method_76_code
def yX10_feed : MethodName := ⟨RX10, "feed", "(II)I"⟩
abbrev cX10_wipe : ByteArray := prog_12_method_77_code
def yX10_wipe : MethodName := ⟨RX10, "wipe", "()I"⟩
abbrev cX10_byteAt : ByteArray := prog_12_method_78_code
def yX10_byteAt : MethodName := ⟨RX10, "byteAt", "(I)I"⟩
abbrev cX10_next : ByteArray := prog_12_method_79_code
def yX10_next : MethodName := ⟨RX10, "next", "()V"⟩
abbrev cX10_isWord : ByteArray := prog_12_method_80_code
def yX10_isWord : MethodName := ⟨RX10, "isWord", "(Ljava/lang/String;)Z"⟩
abbrev cX10_must : ByteArray := prog_12_method_81_code
def yX10_must : MethodName := ⟨RX10, "must", "(Z)V"⟩
abbrev cX10_number : ByteArray := prog_12_method_82_code
def yX10_number : MethodName := ⟨RX10, "number", "(II)I"⟩
abbrev cX10_item : ByteArray := prog_12_method_83_code
def yX10_item : MethodName := ⟨RX10, "item", "(IIII)V"⟩
abbrev cX10_kindTold : ByteArray := prog_12_method_84_code
def yX10_kindTold : MethodName := ⟨RX10, "kindTold", "()I"⟩
abbrev cX10_isNext : ByteArray := prog_12_method_85_code
def yX10_isNext : MethodName := ⟨RX10, "isNext", "(Ljava/lang/String;)Z"⟩
abbrev cX10_drift : ByteArray := prog_12_method_86_code
def yX10_drift : MethodName := ⟨RX10, "drift", "()I"⟩
abbrev cX10_readPace : ByteArray := prog_12_method_87_code
def yX10_readPace : MethodName := ⟨RX10, "readPace", "(I)V"⟩
abbrev cX10_readRule : ByteArray := prog_12_method_88_code
def yX10_readRule : MethodName := ⟨RX10, "readRule", "(I)V"⟩
abbrev cX10_readItem : ByteArray := prog_12_method_89_code
def yX10_readItem : MethodName := ⟨RX10, "readItem", "()V"⟩
abbrev cX10_becomesTold : ByteArray := prog_12_method_90_code
def yX10_becomesTold : MethodName := ⟨RX10, "becomesTold", "(II)V"⟩
abbrev cX10_isSo : ByteArray := prog_12_method_91_code
def yX10_isSo : MethodName := ⟨RX10, "isSo", "(I)I"⟩
abbrev cX10_text : ByteArray := prog_12_method_92_code
def yX10_text : MethodName := ⟨RX10, "text", "()I"⟩
abbrev cX10_isSpot : ByteArray := prog_12_method_93_code
def yX10_isSpot : MethodName := ⟨RX10, "isSpot", "(I)Z"⟩
abbrev cX10_hold : ByteArray := prog_12_method_94_code
def yX10_hold : MethodName := ⟨RX10, "hold", "(II)I"⟩
abbrev cX10_as : ByteArray := prog_12_method_95_code
def yX10_as : MethodName := ⟨RX10, "as", "(II)I"⟩
abbrev cX10_isSheet : ByteArray := prog_12_method_96_code
def yX10_isSheet : MethodName := ⟨RX10, "isSheet", "(I)Z"⟩
abbrev cX10_cutTo : ByteArray := prog_12_method_97_code
def yX10_cutTo : MethodName := ⟨RX10, "cutTo", "(II)I"⟩
abbrev cX10_sheet : ByteArray := prog_12_method_98_code
def yX10_sheet : MethodName := ⟨RX10, "sheet", "(III)I"⟩
abbrev cX10_write : ByteArray := prog_12_method_99_code
def yX10_write : MethodName := ⟨RX10, "write", "(III)I"⟩
abbrev cX10_copy : ByteArray := prog_12_method_100_code
def yX10_copy : MethodName := ⟨RX10, "copy", "(IIIII)I"⟩
abbrev cX10_load : ByteArray := prog_12_method_101_code
def yX10_load : MethodName := ⟨RX10, "load", "(I)I"⟩
abbrev cX10_judge : ByteArray := prog_12_method_102_code
def yX10_judge : MethodName := ⟨RX10, "judge", "(I)I"⟩
abbrev cX10_image : ByteArray := prog_12_method_103_code
def yX10_image : MethodName := ⟨RX10, "image", "()I"⟩
abbrev cX10_undo : ByteArray := prog_12_method_104_code
def yX10_undo : MethodName := ⟨RX10, "undo", "()I"⟩
abbrev cX10_tear : ByteArray := prog_12_method_105_code
def yX10_tear : MethodName := ⟨RX10, "tear", "()I"⟩
abbrev cX10_count : ByteArray := prog_12_method_106_code
def yX10_count : MethodName := ⟨RX10, "count", "(I)I"⟩
abbrev cX10_status : ByteArray := prog_12_method_107_code
def yX10_status : MethodName := ⟨RX10, "status", "(I)I"⟩
def RJ6 : String := "java/lang/Integer"
def TJ6 : u_T := fun k => match k with
  | _ => ("", "", "", false)
def tyJ6 : Nat → FieldType := fun k => match k with
  | _ => .int
abbrev cJ6_bitCount_0f7a4 : ByteArray := prog_13_method_49_code
def yJ6_bitCount_0f7a4 : MethodName := ⟨RJ6, "bitCount", "(I)I"⟩
def RJ9 : String := "java/lang/Math"
def TJ9 : u_T := fun k => match k with
  | _ => ("", "", "", false)
def tyJ9 : Nat → FieldType := fun k => match k with
  | _ => .int
abbrev cJ9_abs_0f7a4 : ByteArray := prog_14_method_59_code
def yJ9_abs_0f7a4 : MethodName := ⟨RJ9, "abs", "(I)I"⟩
abbrev cJ9_max_7cf53 : ByteArray := prog_14_method_65_code
def yJ9_max_7cf53 : MethodName := ⟨RJ9, "max", "(II)I"⟩
abbrev cJ9_min_7cf53 : ByteArray := prog_14_method_69_code
def yJ9_min_7cf53 : MethodName := ⟨RJ9, "min", "(II)I"⟩
def RJ0 : String := "java/lang/String"
def TJ0 : u_T := fun k => match k with
  | _ => ("", "", "", false)
def tyJ0 : Nat → FieldType := fun k => match k with
  | _ => .int
abbrev cJ0_length_8abf5 : ByteArray := prog_15_method_54_code
def yJ0_length_8abf5 : MethodName := ⟨RJ0, "length", "()I"⟩
abbrev cJ0_charAt_5068e : ByteArray := prog_15_method_56_code
def yJ0_charAt_5068e : MethodName := ⟨RJ0, "charAt", "(I)C"⟩
abbrev cJ0_coder_7d493 : ByteArray := prog_15_method_152_code
def yJ0_coder_7d493 : MethodName := ⟨RJ0, "coder", "()B"⟩
abbrev cJ0_isLatin1_aae02 : ByteArray := prog_15_method_154_code
def yJ0_isLatin1_aae02 : MethodName := ⟨RJ0, "isLatin1", "()Z"⟩
abbrev cJ0_checkIndex_df160 : ByteArray := prog_15_method_155_code
def yJ0_checkIndex_df160 : MethodName := ⟨RJ0, "checkIndex", "(II)V"⟩
def RJ1 : String := "java/lang/StringLatin1"
def TJ1 : u_T := fun k => match k with
  | _ => ("", "", "", false)
def tyJ1 : Nat → FieldType := fun k => match k with
  | _ => .int
abbrev cJ1_charAt_3b067 : ByteArray := prog_16_method_2_code
def yJ1_charAt_3b067 : MethodName := ⟨RJ1, "charAt", "([BI)C"⟩
def RJ2 : String := "java/lang/StringUTF16"
def TJ2 : u_T := fun k => match k with
  | _ => ("", "", "", false)
def tyJ2 : Nat → FieldType := fun k => match k with
  | _ => .int
abbrev cJ2_getChar_3b067 : ByteArray := prog_17_method_5_code
def yJ2_getChar_3b067 : MethodName := ⟨RJ2, "getChar", "([BI)C"⟩
abbrev cJ2_length_9d52b : ByteArray := prog_17_method_6_code
def yJ2_length_9d52b : MethodName := ⟨RJ2, "length", "([B)I"⟩
abbrev cJ2_charAt_3b067 : ByteArray := prog_17_method_83_code
def yJ2_charAt_3b067 : MethodName := ⟨RJ2, "charAt", "([BI)C"⟩
abbrev cJ2_checkIndex_2214a : ByteArray := prog_17_method_91_code
def yJ2_checkIndex_2214a : MethodName := ⟨RJ2, "checkIndex", "(I[B)V"⟩
def RJ10 : String := "java/lang/System"
def TJ10 : u_T := fun k => match k with
  | _ => ("", "", "", false)
def tyJ10 : Nat → FieldType := fun k => match k with
  | _ => .int
def RJ7 : String := "java/util/Arrays"
def TJ7 : u_T := fun k => match k with
  | _ => ("", "", "", false)
def tyJ7 : Nat → FieldType := fun k => match k with
  | _ => .int
abbrev cJ7_fill_53178 : ByteArray := prog_19_method_103_code
def yJ7_fill_53178 : MethodName := ⟨RJ7, "fill", "([II)V"⟩
def RJ3 : String := "jdk/internal/util/Preconditions"
def TJ3 : u_T := fun k => match k with
  | _ => ("", "", "", false)
def tyJ3 : Nat → FieldType := fun k => match k with
  | _ => .int
abbrev cJ3_checkIndex_8e157 : ByteArray := prog_20_method_11_code
def yJ3_checkIndex_8e157 : MethodName := ⟨RJ3, "checkIndex", "(IILjava/util/function/BiFunction;)I"⟩
def RL : String := "GlassWordsLaw"
abbrev cL_law : ByteArray := code
def yL_law : MethodName := ⟨RL, "law", "([I)Z"⟩
abbrev vwCl : List vw_C := [(RX1, TX1, 6), (RX2, TX2, 2), (RX3, TX3, 6), (RX4, TX4, 5), (RX5, TX5, 3), (RX6, TX6, 11), (RX7, TX7, 2), (RX8, TX8, 3), (RX9, TX9, 12), (RX10, TX10, 28)]
end
section
/-! THE WORLD of both objects: 57 cells by key; the numbers in them are a memory 'Mem' (key, place); references never change after the making -/
abbrev Mem : Type := Nat → Nat → Int32
def gm_st (h : Mem) (k j : Nat) (v : Int32) : Mem := fun a => if a = k then upd (h a) j v else h a
abbrev Xt : Type := (Nat → Nat) × va_G × ClassId × ClassId × ClassId
/-- class number (place in vwCl) of a key; 20 an int row, 21 the row of sheets, 22 the row of texts -/
def gm_clsL : List Nat := [8, 5, 20, 20, 20, 20, 20, 5, 20, 20, 20, 20, 20, 5, 20, 20, 20, 20, 20, 0, 1, 0, 0, 3, 0, 20, 7, 20, 20, 20, 6, 20, 2, 21, 20, 4, 20, 4, 20, 4, 20, 4, 20, 9, 20, 20, 20, 20, 20, 20, 20, 22, 20, 20, 20, 20, 20]
def gm_cls (k : Nat) : Nat := gm_clsL.getD k 99
def gm_lenL : List Nat := [0, 0, 12, 12, 12, 10, 10, 0, 12, 12, 12, 10, 10, 0, 12, 12, 12, 10, 10, 0, 0, 0, 0, 0, 0, 12, 0, 12, 13, 13, 0, 120, 0, 4, 7, 0, 40, 0, 40, 0, 40, 0, 40, 0, 62, 62, 62, 8, 10000, 26, 120, 7, 480, 4, 4, 160, 40]
def gm_len (k : Nat) : Nat := gm_lenL.getD k 0
/-- the kinds of a class's fields: 0 a number, 1 a reference, 2 a reference or null -/
def gm_fkL : List (List Nat) := [[0, 0, 0, 0, 0, 0], [1, 1], [2, 2, 0, 0, 0, 0], [1, 1, 0, 0, 0], [1, 0, 0], [1, 1, 1, 1, 1, 0, 0, 0, 0, 0, 0], [1, 0], [1, 1, 1], [1, 1, 1, 1, 1, 1, 1, 1, 1, 1, 1, 0], [1, 1, 1, 0, 1, 1, 0, 0, 0, 0, 1, 0, 0, 1, 0, 0, 0, 0, 0, 0, 1, 1, 0, 0, 1, 1, 1, 1]]
def gm_fk (c j : Nat) : Nat := (gm_fkL.getD c []).getD j 9
def gm_nf (c : Nat) : Nat := (gm_fkL.getD c []).length
def gm_rf (k j : Nat) : Nat := match gm_cls k with
  | 8 => [1, 7, 13, 19, 20, 23, 26, 30, 32, 33, 34].getD j 0
  | 9 => [44, 45, 46, 0, 47, 48, 0, 0, 0, 0, 49, 0, 0, 50, 0, 0, 0, 0, 0, 0, 51, 52, 0, 0, 53, 54, 55, 56].getD j 0
  | 2 => [30, 13].getD j 0
  | 21 => 35 + 2 * j
  | 22 => 100 + j
  | _ => k + 1 + j
def gm_tv (r : Nat → Nat) (v : Value) : Value := match v with
  | .ref k => .ref (r k)
  | w => w
def gm_tp (r : Nat → Nat) (q : Nat × Value) : Nat × Value := (q.1, gm_tv r q.2)
def gm_fv (r : Nat → Nat) (k j : Nat) (v : Int32) : Value := match gm_fk (gm_cls k) j with
  | 0 => .int v
  | 1 => .ref (r (gm_rf k j))
  | _ => if v = 0 then .null else .ref (r (gm_rf k j))
def gm_cell (X : Xt) (k : Nat) (f : Nat → Int32) : va_E := match gm_cls k with
  | 20 => .inl (X.2.2.1, gm_len k, .inl f)
  | 21 => .inl (X.2.2.2.1, 4, .inr (.inr (.inr (.inr (fun i => some (X.1 (35 + 2 * i)))))))
  | 22 => .inl (X.2.2.2.2, 7, .inr (.inr (.inr (.inr (fun i => some (X.1 (100 + i)))))))
  | c => .inr (c, (List.range (gm_nf c)).map (fun j => gm_fv X.1 k j (f j)))
def gm_W (X : Xt) (h : Mem) : va_W := (List.range 57).map (fun k => (X.1 k, gm_cell X k (h k)))
def gm_A (X : Xt) : Nat → Prop := fun q => ∃ k, k < 57 ∧ q = X.1 k
def gm_inj (X : Xt) : Prop := ∀ i j, i < 57 → j < 57 → X.1 i = X.1 j → i = j
def gm_tys (X : Xt) : List (ClassId × FieldType) := [(X.2.2.1, .int), (X.2.2.2.1, .object "GlassWords$Sheet"), (X.2.2.2.2, .object "java/lang/String")]
theorem gm_W_at {X : Xt} {h : Mem} {k : Nat} (hk : k < 57) : (gm_W X h)[k]? = some (X.1 k, gm_cell X k (h k)) := by
  unfold gm_W
  rw [List.getElem?_map, List.getElem?_range hk]
  rfl
theorem gm_W_set {X : Xt} {h h' : Mem} {k : Nat} (hk : k < 57) {e : va_E} (he : gm_cell X k (h' k) = e) (ho : ∀ a, a ≠ k → h' a = h a) : (gm_W X h).set k (X.1 k, e) = gm_W X h' := by
  refine List.ext_getElem? (fun a => ?_)
  by_cases ha : a = k
  · subst ha
    rw [List.getElem?_set_self (by simp [gm_W]; exact hk), gm_W_at hk, he]
  · rw [List.getElem?_set_ne (Ne.symm ha)]
    unfold gm_W
    rw [List.getElem?_map, List.getElem?_map]
    by_cases hl : a < 57
    · rw [List.getElem?_range hl]
      simp [ho a ha]
    · rw [List.getElem?_eq_none (by simp; omega)]
      rfl
theorem gm_D {X : Xt} (hI : gm_inj X) (h : Mem) : va_D (gm_A X) (gm_W X h) := by
  have key : ∀ (k : Nat) (q : Nat × va_E), (gm_W X h)[k]? = some q → k < 57 ∧ q.1 = X.1 k := by
    intro k q hq
    have hl : k < 57 := by
      have := (List.getElem?_eq_some_iff.mp hq).1
      simpa [gm_W] using this
    rw [gm_W_at hl] at hq
    cases hq
    exact ⟨hl, rfl⟩
  refine ⟨fun i j p q hi hj e => ?_, fun k q hk => ⟨k, (key k q hk).1, (key k q hk).2⟩⟩
  obtain ⟨a1, a2⟩ := key i p hi
  obtain ⟨b1, b2⟩ := key j q hj
  exact hI i j a1 b1 (by rw [← a2, ← b2]; exact e)
theorem gm_lt {k : Nat} (h : gm_cls k ≠ 99) : k < 57 := by
  rcases Nat.lt_or_ge k 57 with q | q
  · exact q
  · exact absurd (by unfold gm_cls; rw [List.getD_eq_getElem?_getD, List.getElem?_eq_none (by simpa [gm_clsL] using q)]; rfl) h
/-- an int row of n places at key k -/
def gm_arr (k n : Nat) : Prop := gm_cls k = 20 ∧ gm_len k = n
theorem gm_st_o {h : Mem} {k j : Nat} {v : Int32} (a : Nat) (ha : a ≠ k) : gm_st h k j v a = h a := if_neg ha
theorem gm_st_s {h : Mem} {k j : Nat} {v : Int32} : gm_st h k j v k = upd (h k) j v := if_pos rfl
/-! what was there before, and is never written: words of nest mates, tables, texts -/
def gm_nest : Cond → Bool
  | .fieldLinkNest .. => true
  | .methodLinkNest .. => true
  | _ => false
def gm_stN : List String := ["FIRST_RULE", "KIND_ABOVE", "LEAST_FEATURE", "MOST_FEATURE", "LEAST_RULE", "MOST_RULE"]
def gm_stV : List (List Int32) := [[4, 4, 5, 5, 0, 0, 3, 3, 0, 600], [-1, 0, 0, 2, 0, 4, 5], [0, 1, 0], [6, 20, 9], [1, 1, 0, 0, -9, -9, 0, 1, 0, 0], [99, 99, 10, 10, 9, 9, 9, 6, 10, 99999]]
def gm_tab (i : Nat) : List Int32 := gm_stV.getD i []
def gm_bytL : List (List Int32) := [[108, 105, 110, 101], [108, 101, 118, 101, 108], [115, 105, 110, 107, 105, 110, 103], [114, 105, 115, 105, 110, 103], [115, 116, 111, 112, 112, 101, 100], [111, 102, 102], [98, 108, 97, 110, 107], [114, 101, 97, 100, 101, 114], [107, 110, 111, 98], [108, 101, 116, 116, 101, 114, 115], [97, 104, 101, 97, 100], [108, 101, 97, 118, 101, 115], [104, 111, 117, 114], [119, 111, 114, 100, 115], [104, 97, 114, 100], [119, 101, 105, 103, 104, 116], [100, 114, 105, 102, 116]]
/-- a text's bytes: line, level, sinking, rising, stopped, off, blank, reader, knob, letters, ahead, leaves, hour, words, hard, weight, drift -/
def gm_byt (i : Nat) : List Int32 := gm_bytL.getD i []
/-- the places of texts in the pools -/
def gm_ldc : List (String × Nat × String × Nat) := [("GlassWords$Script", 136, "level", 1), ("GlassWords$Script", 138, "sinking", 2), ("GlassWords$Script", 140, "rising", 3), ("GlassWords$Script", 142, "stopped", 4), ("GlassWords$Script", 144, "off", 5), ("GlassWords$Script", 146, "blank", 6), ("GlassWords$Script", 148, "line", 0), ("GlassWords$Script", 75, "words", 13), ("GlassWords$Script", 81, "hard", 14), ("GlassWords$Script", 48, "reader", 7), ("GlassWords$Script", 101, "weight", 15), ("GlassWords$Script", 103, "drift", 16), ("GlassWords$Script", 53, "knob", 8), ("GlassWords$Script", 55, "letters", 9), ("GlassWords$Script", 60, "ahead", 10), ("GlassWords$Script", 62, "leaves", 11), ("GlassWords$Script", 64, "hour", 12), ("GlassWordsModel", 33, "line", 0), ("GlassWordsModel", 35, "level", 1), ("GlassWordsModel", 37, "sinking", 2), ("GlassWordsModel", 39, "rising", 3), ("GlassWordsModel", 41, "stopped", 4), ("GlassWordsModel", 43, "off", 5), ("GlassWordsModel", 45, "blank", 6), ("GlassWordsModel", 306, "words", 13), ("GlassWordsModel", 308, "hard", 14), ("GlassWordsModel", 310, "reader", 7), ("GlassWordsModel", 287, "weight", 15), ("GlassWordsModel", 292, "drift", 16), ("GlassWordsModel", 316, "knob", 8), ("GlassWordsModel", 318, "letters", 9), ("GlassWordsModel", 323, "ahead", 10), ("GlassWordsModel", 325, "leaves", 11), ("GlassWordsModel", 327, "hour", 12)]
def gm_oldA (A : Nat → Prop) (X : Xt) (U : State) (H : Heap) : Prop :=
  (∀ w ∈ lw_tbl, gm_nest w = true → va_Nw w U) ∧
  (∀ i, i < 6 → va_Z "GlassWords" (gm_stN.getD i "") "[I" (.ref (X.1 (200 + i))) A U H ∧ va_T .int (X.1 (200 + i)) (gm_tab i).length (fun j => .int ((gm_tab i).getD j 0)) A U H) ∧
  (∀ q ∈ gm_ldc, vk_R q.1 q.2.1 q.2.2.1 (X.1 (100 + q.2.2.2)) U) ∧
  (∀ i, i < 17 → va_O "java/lang/String" (X.1 (100 + i)) A U H ∧ va_OF "java/lang/String" "coder" "B" (.int 0) (X.1 (100 + i)) A U H ∧ va_OF "java/lang/String" "value" "[B" (.ref (X.1 (150 + i))) (X.1 (100 + i)) A U H ∧ va_T .byte (X.1 (150 + i)) (gm_byt i).length (fun j => .int ((gm_byt i).getD j 0)) A U H) ∧
  va_Z "java/lang/String" "COMPACT_STRINGS" "Z" (.int 1) A U H ∧ (va_Z "jdk/internal/util/Preconditions" "SIOOBE_FORMATTER" "Ljava/util/function/BiFunction;" .null A U H ∨ va_Z "jdk/internal/util/Preconditions" "SIOOBE_FORMATTER" "Ljava/util/function/BiFunction;" (.ref (X.1 180)) A U H)
theorem gm_oldA.kept {A : Nat → Prop} {X : Xt} {U : State} {H H1 : Heap} (h : gm_oldA A X U H) (hq : ∀ a : Nat, a < H.size → ¬ A a → H1[a]? = H[a]?) : gm_oldA A X U H1 :=
  ⟨h.1, fun i hi => ⟨(h.2.1 i hi).1.kept hq, (h.2.1 i hi).2.kept hq⟩, h.2.2.1, fun i hi => ⟨(h.2.2.2.1 i hi).1.kept hq, (h.2.2.2.1 i hi).2.1.kept hq, (h.2.2.2.1 i hi).2.2.1.kept hq, (h.2.2.2.1 i hi).2.2.2.kept hq⟩, h.2.2.2.2.1.kept hq, h.2.2.2.2.2.imp (fun z => z.kept hq) (fun z => z.kept hq)⟩
theorem gm_oldA.mv {A : Nat → Prop} {X : Xt} {u U : State} {H : Heap} (ha : u.vm.Alike U.vm) (h : gm_oldA A X u H) (h1 : ∀ w ∈ lw_tbl, gm_nest w = true → va_Nw w U) (h3 : ∀ q ∈ gm_ldc, vk_R q.1 q.2.1 q.2.2.1 (X.1 (100 + q.2.2.2)) U) : gm_oldA A X U H :=
  ⟨h1, fun i hi => ⟨va_Z.moved ha (h.2.1 i hi).1, va_T.moved ha (h.2.1 i hi).2⟩, h3, fun i hi => ⟨va_O.moved ha (h.2.2.2.1 i hi).1, va_OF.moved ha (h.2.2.2.1 i hi).2.1, va_OF.moved ha (h.2.2.2.1 i hi).2.2.1, va_T.moved ha (h.2.2.2.1 i hi).2.2.2⟩, va_Z.moved ha h.2.2.2.2.1, h.2.2.2.2.2.imp (fun z => va_Z.moved ha z) (fun z => va_Z.moved ha z)⟩
theorem gm_nest_on {w : Cond} (h : gm_nest w = true) : w.onTables = true := by
  cases w <;> first | rfl | (simp [gm_nest] at h)
theorem gm_nest_warm {w : Cond} (hn : gm_nest w = true) {s U : State} (hW : s.WarmedH U.vm) (h : va_Nw w s) : va_Nw w U := by
  cases w <;> first | exact va_Nw.warmF hW h | exact va_Nw.warmM hW h | (simp [gm_nest] at hn)
theorem gm_oldA.same {A : Nat → Prop} {X : Xt} {u U : State} {H : Heap} (hv : u.vm = U.vm) (h : gm_oldA A X u H) : gm_oldA A X U H :=
  gm_oldA.mv (by rw [hv]; exact Vm.Alike.refl _) h (fun w hw hn => va_Nw.same (gm_nest_on hn) hv (h.1 w hw hn)) (fun q hq => vk_R.same hv.symm (h.2.2.1 q hq))
theorem gm_oldA.warm {A : Nat → Prop} {X : Xt} {s U : State} {H : Heap} (hW : s.WarmedH U.vm) (h : gm_oldA A X s H) : gm_oldA A X U H :=
  gm_oldA.mv hW.alike h (fun w hw hn => gm_nest_warm hn hW (h.1 w hw hn)) (fun q hq => vk_R.warm hW (h.2.2.1 q hq))
theorem gm_oldA.narrow {A B : Nat → Prop} {X : Xt} {U : State} {H : Heap} (h : gm_oldA A X U H) (hAB : ∀ q, B q → A q) : gm_oldA B X U H :=
  ⟨h.1, fun i hi => ⟨(h.2.1 i hi).1.narrow hAB, (h.2.1 i hi).2.narrow hAB⟩, h.2.2.1, fun i hi => ⟨(h.2.2.2.1 i hi).1.narrow hAB, (h.2.2.2.1 i hi).2.1.narrow hAB, (h.2.2.2.1 i hi).2.2.1.narrow hAB, (h.2.2.2.1 i hi).2.2.2.narrow hAB⟩, h.2.2.2.2.1.narrow hAB, h.2.2.2.2.2.imp (fun z => z.narrow hAB) (fun z => z.narrow hAB)⟩
def gm_old (X : Xt) (U : State) (H : Heap) : Prop := gm_oldA (gm_A X) X U H
theorem gm_old.kept {X : Xt} {U : State} {H H1 : Heap} (h : gm_old X U H) (hq : ∀ a : Nat, a < H.size → ¬ gm_A X a → H1[a]? = H[a]?) : gm_old X U H1 := gm_oldA.kept h hq
theorem gm_old.same {X : Xt} {u U : State} {H : Heap} (hv : u.vm = U.vm) (h : gm_old X u H) : gm_old X U H := gm_oldA.same hv h
theorem gm_old.warm {X : Xt} {s U : State} {H : Heap} (hW : s.WarmedH U.vm) (h : gm_old X s H) : gm_old X U H := gm_oldA.warm hW h
end
section
/-! THE JUDGEMENT of a method's body over the memory -/
def gm_ws : List Cond := lw_tbl.filter goodWord
/-- a method: name, code, locals, answer, room -/
abbrev Mt : Type := MethodName × ByteArray × Nat × Option FieldType × Room
abbrev gm_words (M : Mt) : List Cond := .code M.1 M.2.1 M.2.2.1 M.2.2.2.1 :: gm_ws
def gm_wd (X : Xt) (h : Mem) (U : State) : Prop := gm_inj X ∧ va_P X.2.1 vwCl (gm_W X h) U.heap ∧ va_K X.2.1 vwCl (gm_tys X) U ∧ gm_old X U U.heap
def gm_wp (X : Xt) (h : Mem) (t : State) : Prop := va_P X.2.1 vwCl (gm_W X h) t.heap
def gm_cx (M : Mt) (p : Program) (s : State) (m : MethodId) (args : Array Value) (meth : Method) (c : Code) (X : Xt) : Prop :=
  (p.tables.exec = Jvm.exec ∧ c.code = M.2.1 ∧ meth.sig.returnType = M.2.2.2.1 ∧ c.maxLocals = M.2.2.1 ∧ s.vm.findClass M.1.cls = some m.cls ∧ (∀ w ∈ gm_ws, w.before args s = true) ∧ meth.locks = false) ∧ gm_inj X ∧ va_K X.2.1 vwCl (gm_tys X) s ∧ gm_old X s s.heap
def EV (M : Mt) (G : Xt → Array Value → State → Outcome → State → Prop) (pc : Nat) (lv : List (Nat × Value)) (st : List Value) (h : Mem) : Prop :=
  ∀ (p : Program) (l : Launch) (e : Env) (s : State) (m : MethodId) (args : Array Value) (below : List Frame) (meth : Method) (c : Code) (X : Xt) (H : Heap) (locs : List Loc) (ls : Array Slot),
    gm_cx M p s m args meth c X → va_P X.2.1 vwCl (gm_W X h) H → va_S (gm_A X) s.heap H locs → lv_has ls M.2.2.1 (lv.map (gm_tp X.1)) →
    W p l e M.2.2.2.2 s m args below meth c H locs 0 0 (MQ below (G X) args s 0 0 (gm_A X)) (F0 m pc ls (st.map (gm_tv X.1)))
/-- what an instruction is, and where the next one stands -/
def At (M : Mt) (pc : Nat) (i : Instr) (n pc' : Nat) : Prop := decode M.2.1 pc = .ok (i, n) ∧ pc + n = pc'
def AtJ (M : Mt) (pc : Nat) (i : Instr) (off : Int) (tgt pc' : Nat) : Prop := decode M.2.1 pc = .ok (i, 3) ∧ (pc : Int) + off = (tgt : Int) ∧ pc + 3 = pc'
theorem at_i {M : Mt} {pc n pc' : Nat} {i : Instr} (h1 : decode M.2.1 pc = .ok (i, n)) (h2 : pc + n = pc') : At M pc i n pc' := ⟨h1, h2⟩
theorem at_j {M : Mt} {pc tgt pc' : Nat} {off : Int} {i : Instr} (h1 : decode M.2.1 pc = .ok (i, 3)) (h2 : (pc : Int) + off = (tgt : Int)) (h3 : pc + 3 = pc') : AtJ M pc i off tgt pc' := ⟨h1, h2, h3⟩
/-- contracts: a number, nothing, a long, a reference by key -/
def GI (Q : Int32 → Mem → Prop) (X : Xt) : Array Value → State → Outcome → State → Prop := va_Qi Q (gm_wp X) (gm_A X)
def GV (Q : Mem → Prop) (X : Xt) : Array Value → State → Outcome → State → Prop := va_Qv Q (gm_wp X) (gm_A X)
def GL (Q : Int64 → Mem → Prop) (X : Xt) : Array Value → State → Outcome → State → Prop := va_Ql Q (gm_wp X) (gm_A X)
def GR (Q : Nat → Mem → Prop) (X : Xt) : Array Value → State → Outcome → State → Prop := va_Qr (S := Nat × Mem) (fun u => Q u.1 u.2) (fun u a t => a = X.1 u.1 ∧ gm_wp X u.2 t) (gm_A X)
def Cn (M : Mt) (args : List Value) (h : Mem) (G : Xt → Array Value → State → Outcome → State → Prop) : Prop :=
  ∀ (l : Launch) (X : Xt), Met l M.1 (gm_words M) M.2.2.2.2 (va_Pc (args.map (gm_tv X.1)) (gm_wd X h)) (G X) 0 0 (gm_A X)
theorem gm_args (r : Nat → Nat) : ∀ (vs : List Value) (i : Nat), lv_args i (vs.map (gm_tv r)) = (lv_args i vs).map (gm_tp r)
  | [], _ => rfl
  | v :: vs, i => by
    have hc : (gm_tv r v).category = v.category := by cases v <;> rfl
    show (i, gm_tv r v) :: lv_args (if (gm_tv r v).category = 2 then i + 2 else i + 1) (vs.map (gm_tv r)) = gm_tp r (i, v) :: (lv_args (if v.category = 2 then i + 2 else i + 1) vs).map (gm_tp r)
    rw [hc, gm_args r vs]
    rfl
theorem gm_sl (r : Nat → Nat) (vs : List Value) : (lg_sl (vs.map (gm_tv r))).length = (lg_sl vs).length := by
  induction vs with
  | nil => rfl
  | cons v vs ih =>
    have hc : (gm_tv r v).category = v.category := by cases v <;> rfl
    simp only [lg_sl, List.map_cons, List.flatMap_cons, hc, List.length_append] at ih ⊢
    rw [ih]
    by_cases h : v.category = 2
    · rw [if_pos h, if_pos h]; rfl
    · rw [if_neg h, if_neg h]; rfl
theorem ge_entry {M : Mt} {args : List Value} {lv : List (Nat × Value)} {h : Mem} {G : Xt → Array Value → State → Outcome → State → Prop} (hy : plainName M.1.cls = true) (hn : (lg_sl args).length ≤ M.2.2.1) (hlv : lv_args 0 args = lv) (body : EV M G 0 lv [] h) : Cn M args h G := by
  intro l X
  refine Met.ofW (cc := M.2.1) (maxL := M.2.2.1) (ret := M.2.2.2.1) hy rfl ?_
  intro p e s m args' below meth c s₁ B hml hv
  obtain ⟨rfl, hI, hP, hK, hO⟩ := hv
  have hts := atoms_spec (ws := gm_words M) B.pre
  have hl := lv_entry (args.map (gm_tv X.1)) (n := M.2.2.1) (by rw [gm_sl]; exact hn)
  rw [lg_entry_eq]
  rw [gm_args, hlv] at hl
  exact body p l e s m _ below meth c X s.heap [] _ ⟨⟨B.exec, B.bytes, B.returns, hml, findClass_of_methodNamed B.named, fun w hw => hts w (List.mem_cons_of_mem _ hw), B.notSynchronized⟩, hI, hK, hO⟩ hP va_S.rf hl
/-! rows -/
section
variable {M : Mt} {G : Xt → Array Value → State → Outcome → State → Prop} {pc pc' tgt : Nat} {lv : List (Nat × Value)} {st : List Value} {h : Mem}
theorem ge_iconst {n : Int} {v : Int32} (hd : At M pc (.iconst n) 1 pc') (hv : Int32.ofInt n = v) (k : EV M G pc' lv (.int v :: st) h) : EV M G pc lv st h := by
  obtain ⟨d, rfl⟩ := hd
  exact fun p l e s m args below meth c X H locs ls C hP hS hl => lv_iconst C.1.1 C.1.2.1 d hv (k p l e s m args below meth c X H locs ls C hP hS hl)
theorem ge_bipush {n : Int} {v : Int32} (hd : At M pc (.bipush n) 2 pc') (hv : (Int8.ofInt n).toInt32 = v) (k : EV M G pc' lv (.int v :: st) h) : EV M G pc lv st h := by
  obtain ⟨d, rfl⟩ := hd
  exact fun p l e s m args below meth c X H locs ls C hP hS hl => lv_bipush C.1.1 C.1.2.1 d hv (k p l e s m args below meth c X H locs ls C hP hS hl)
theorem ge_sipush {n : Int} {v : Int32} (hd : At M pc (.sipush n) 3 pc') (hv : (Int16.ofInt n).toInt32 = v) (k : EV M G pc' lv (.int v :: st) h) : EV M G pc lv st h := by
  obtain ⟨d, rfl⟩ := hd
  exact fun p l e s m args below meth c X H locs ls C hP hS hl => lv_sipush C.1.1 C.1.2.1 d hv (k p l e s m args below meth c X H locs ls C hP hS hl)
theorem ge_lconst {n : Fin 2} {v : Int64} (hd : At M pc (.lconst n) 1 pc') (hv : Int64.ofNat (n : Nat) = v) (k : EV M G pc' lv (.long v :: st) h) : EV M G pc lv st h := by
  obtain ⟨d, rfl⟩ := hd
  exact fun p l e s m args below meth c X H locs ls C hP hS hl => lv_lconst C.1.1 C.1.2.1 d hv (k p l e s m args below meth c X H locs ls C hP hS hl)
theorem gm_lvat {r : Nat → Nat} {lv : List (Nat × Value)} {ls : Array Slot} {nL : Nat} (hl : lv_has ls nL (lv.map (gm_tp r))) (q : Nat) {i : Nat} {v : Value} (hk : lv[q]? = some (i, v)) : ls[i]? = some (.val (gm_tv r v)) :=
  lv_at hl q (by rw [List.getElem?_map, hk]; rfl)
theorem ge_iload_n {k4 : Fin 4} {i : Nat} {x : Int32} (hd : At M pc (.iload_n k4) 1 pc') (hi : (k4 : Nat) = i) (q : Nat) (hq : lv[q]? = some (i, .int x)) (k : EV M G pc' lv (.int x :: st) h) : EV M G pc lv st h := by
  obtain ⟨d, rfl⟩ := hd
  exact fun p l e s m args below meth c X H locs ls C hP hS hl => lv_iload_n C.1.1 C.1.2.1 d hi (gm_lvat hl q hq) (k p l e s m args below meth c X H locs ls C hP hS hl)
theorem ge_iload {i : Nat} {x : Int32} (hd : At M pc (.iload i) 2 pc') (q : Nat) (hq : lv[q]? = some (i, .int x)) (k : EV M G pc' lv (.int x :: st) h) : EV M G pc lv st h := by
  obtain ⟨d, rfl⟩ := hd
  exact fun p l e s m args below meth c X H locs ls C hP hS hl => lv_iload C.1.1 C.1.2.1 d (gm_lvat hl q hq) (k p l e s m args below meth c X H locs ls C hP hS hl)
theorem ge_lload_n {k4 : Fin 4} {i : Nat} {x : Int64} (hd : At M pc (.lload_n k4) 1 pc') (hi : (k4 : Nat) = i) (q : Nat) (hq : lv[q]? = some (i, .long x)) (k : EV M G pc' lv (.long x :: st) h) : EV M G pc lv st h := by
  obtain ⟨d, rfl⟩ := hd
  exact fun p l e s m args below meth c X H locs ls C hP hS hl => lv_lload_n C.1.1 C.1.2.1 d hi (gm_lvat hl q hq) (k p l e s m args below meth c X H locs ls C hP hS hl)
theorem ge_lload {i : Nat} {x : Int64} (hd : At M pc (.lload i) 2 pc') (q : Nat) (hq : lv[q]? = some (i, .long x)) (k : EV M G pc' lv (.long x :: st) h) : EV M G pc lv st h := by
  obtain ⟨d, rfl⟩ := hd
  exact fun p l e s m args below meth c X H locs ls C hP hS hl => lv_lload C.1.1 C.1.2.1 d (gm_lvat hl q hq) (k p l e s m args below meth c X H locs ls C hP hS hl)
theorem ge_aload_n {k4 : Fin 4} {i x : Nat} (hd : At M pc (.aload_n k4) 1 pc') (hi : (k4 : Nat) = i) (q : Nat) (hq : lv[q]? = some (i, .ref x)) (k : EV M G pc' lv (.ref x :: st) h) : EV M G pc lv st h := by
  obtain ⟨d, rfl⟩ := hd
  exact fun p l e s m args below meth c X H locs ls C hP hS hl => lv_aload_n C.1.1 C.1.2.1 d hi (gm_lvat hl q hq) (k p l e s m args below meth c X H locs ls C hP hS hl)
theorem ge_aload {i x : Nat} (hd : At M pc (.aload i) 2 pc') (q : Nat) (hq : lv[q]? = some (i, .ref x)) (k : EV M G pc' lv (.ref x :: st) h) : EV M G pc lv st h := by
  obtain ⟨d, rfl⟩ := hd
  exact fun p l e s m args below meth c X H locs ls C hP hS hl => lv_aload C.1.1 C.1.2.1 d (gm_lvat hl q hq) (k p l e s m args below meth c X H locs ls C hP hS hl)
/-- the locals behind a store of one slot, of two -/
def gm_put1 (i : Nat) (v : Value) (lv : List (Nat × Value)) : List (Nat × Value) := (i, v) :: lv.filter (fun q => !(q.1 == i) && !(q.1 + 1 == i && q.2.category == 2))
def gm_put2 (i : Nat) (v : Value) (lv : List (Nat × Value)) : List (Nat × Value) := (i, v) :: lv.filter (fun q => !(q.1 == i) && (!(q.1 == i + 1) && !(q.1 + 1 == i && q.2.category == 2)))
theorem gm_tvc (r : Nat → Nat) (v : Value) : (gm_tv r v).category = v.category := by cases v <;> rfl
theorem gm_put1_map (r : Nat → Nat) (i : Nat) (v : Value) (lv : List (Nat × Value)) : (i, gm_tv r v) :: (lv.map (gm_tp r)).filter (fun q => !(q.1 == i) && !(q.1 + 1 == i && q.2.category == 2)) = (gm_put1 i v lv).map (gm_tp r) := by
  unfold gm_put1
  rw [List.map_cons, List.filter_map]
  congr 2
  refine List.filter_congr (fun q _ => ?_)
  simp [gm_tp, gm_tvc]
theorem gm_put2_map (r : Nat → Nat) (i : Nat) (v : Value) (lv : List (Nat × Value)) : (i, gm_tv r v) :: (lv.map (gm_tp r)).filter (fun q => !(q.1 == i) && (!(q.1 == i + 1) && !(q.1 + 1 == i && q.2.category == 2))) = (gm_put2 i v lv).map (gm_tp r) := by
  unfold gm_put2
  rw [List.map_cons, List.filter_map]
  congr 2
  refine List.filter_congr (fun q _ => ?_)
  simp [gm_tp, gm_tvc]
theorem ge_istore_n {k4 : Fin 4} {i : Nat} {x : Int32} {lv' : List (Nat × Value)} (hd : At M pc (.istore_n k4) 1 pc') (hi : (k4 : Nat) = i) (hn : i < M.2.2.1) (hl' : gm_put1 i (.int x) lv = lv') (k : EV M G pc' lv' st h) : EV M G pc lv (.int x :: st) h := by
  obtain ⟨d, rfl⟩ := hd
  subst hl'
  exact fun p l e s m args below meth c X H locs ls C hP hS hl => lv_istore_n C.1.1 C.1.2.1 d hi hl hn (gm_put1_map X.1 i (.int x) lv) (fun ls' hl2 => k p l e s m args below meth c X H locs ls' C hP hS hl2)
theorem ge_istore {i : Nat} {x : Int32} {lv' : List (Nat × Value)} (hd : At M pc (.istore i) 2 pc') (hn : i < M.2.2.1) (hl' : gm_put1 i (.int x) lv = lv') (k : EV M G pc' lv' st h) : EV M G pc lv (.int x :: st) h := by
  obtain ⟨d, rfl⟩ := hd
  subst hl'
  exact fun p l e s m args below meth c X H locs ls C hP hS hl => lv_istore C.1.1 C.1.2.1 d hl hn (gm_put1_map X.1 i (.int x) lv) (fun ls' hl2 => k p l e s m args below meth c X H locs ls' C hP hS hl2)
theorem ge_astore_n {k4 : Fin 4} {i x : Nat} {lv' : List (Nat × Value)} (hd : At M pc (.astore_n k4) 1 pc') (hi : (k4 : Nat) = i) (hn : i < M.2.2.1) (hl' : gm_put1 i (.ref x) lv = lv') (k : EV M G pc' lv' st h) : EV M G pc lv (.ref x :: st) h := by
  obtain ⟨d, rfl⟩ := hd
  subst hl'
  exact fun p l e s m args below meth c X H locs ls C hP hS hl => lv_astore_n C.1.1 C.1.2.1 d hi hl hn (gm_put1_map X.1 i (.ref x) lv) (fun ls' hl2 => k p l e s m args below meth c X H locs ls' C hP hS hl2)
theorem ge_astore {i x : Nat} {lv' : List (Nat × Value)} (hd : At M pc (.astore i) 2 pc') (hn : i < M.2.2.1) (hl' : gm_put1 i (.ref x) lv = lv') (k : EV M G pc' lv' st h) : EV M G pc lv (.ref x :: st) h := by
  obtain ⟨d, rfl⟩ := hd
  subst hl'
  exact fun p l e s m args below meth c X H locs ls C hP hS hl => lv_astore C.1.1 C.1.2.1 d hl hn (gm_put1_map X.1 i (.ref x) lv) (fun ls' hl2 => k p l e s m args below meth c X H locs ls' C hP hS hl2)
theorem ge_lstore_n {k4 : Fin 4} {i : Nat} {x : Int64} {lv' : List (Nat × Value)} (hd : At M pc (.lstore_n k4) 1 pc') (hi : (k4 : Nat) = i) (hn : i + 1 < M.2.2.1) (hl' : gm_put2 i (.long x) lv = lv') (k : EV M G pc' lv' st h) : EV M G pc lv (.long x :: st) h := by
  obtain ⟨d, rfl⟩ := hd
  subst hl'
  exact fun p l e s m args below meth c X H locs ls C hP hS hl => lv_lstore_n C.1.1 C.1.2.1 d hi hl hn (gm_put2_map X.1 i (.long x) lv) (fun ls' hl2 => k p l e s m args below meth c X H locs ls' C hP hS hl2)
theorem ge_lstore {i : Nat} {x : Int64} {lv' : List (Nat × Value)} (hd : At M pc (.lstore i) 2 pc') (hn : i + 1 < M.2.2.1) (hl' : gm_put2 i (.long x) lv = lv') (k : EV M G pc' lv' st h) : EV M G pc lv (.long x :: st) h := by
  obtain ⟨d, rfl⟩ := hd
  subst hl'
  exact fun p l e s m args below meth c X H locs ls C hP hS hl => lv_lstore C.1.1 C.1.2.1 d hl hn (gm_put2_map X.1 i (.long x) lv) (fun ls' hl2 => k p l e s m args below meth c X H locs ls' C hP hS hl2)
theorem ge_iinc {i : Nat} {n : Int} {x v : Int32} {lv' : List (Nat × Value)} (hd : At M pc (.iinc i n) 3 pc') (q : Nat) (hq : lv[q]? = some (i, .int x)) (hv : x + Int32.ofInt n = v) (hn : i < M.2.2.1) (hl' : gm_put1 i (.int v) lv = lv') (k : EV M G pc' lv' st h) : EV M G pc lv st h := by
  obtain ⟨d, rfl⟩ := hd
  subst hl'
  exact fun p l e s m args below meth c X H locs ls C hP hS hl => lv_iinc (k := q) C.1.1 C.1.2.1 d hl (by rw [List.getElem?_map, hq]; rfl) hv hn (gm_put1_map X.1 i (.int v) lv) (fun ls' hl2 => k p l e s m args below meth c X H locs ls' C hP hS hl2)
end
end
section
/-! rows: arithmetic, branches, fields, rows of numbers, answers -/
section
variable {M : Mt} {G : Xt → Array Value → State → Outcome → State → Prop} {pc pc' tgt : Nat} {lv : List (Nat × Value)} {st : List Value} {h : Mem}
theorem ge_iadd {x y : Int32} (hd : At M pc .iadd 1 pc')  (k : EV M G pc' lv (.int (x + y) :: st) h) : EV M G pc lv (.int y :: .int x :: st) h := by
  obtain ⟨d, rfl⟩ := hd
  exact fun p l e s m args below meth c X H locs ls C hP hS hl => lv_iadd C.1.1 C.1.2.1 d  (k p l e s m args below meth c X H locs ls C hP hS hl)
theorem ge_isub {x y : Int32} (hd : At M pc .isub 1 pc')  (k : EV M G pc' lv (.int (x - y) :: st) h) : EV M G pc lv (.int y :: .int x :: st) h := by
  obtain ⟨d, rfl⟩ := hd
  exact fun p l e s m args below meth c X H locs ls C hP hS hl => lv_isub C.1.1 C.1.2.1 d  (k p l e s m args below meth c X H locs ls C hP hS hl)
theorem ge_imul {x y : Int32} (hd : At M pc .imul 1 pc')  (k : EV M G pc' lv (.int (x * y) :: st) h) : EV M G pc lv (.int y :: .int x :: st) h := by
  obtain ⟨d, rfl⟩ := hd
  exact fun p l e s m args below meth c X H locs ls C hP hS hl => lv_imul C.1.1 C.1.2.1 d  (k p l e s m args below meth c X H locs ls C hP hS hl)
theorem ge_iand {x y : Int32} (hd : At M pc .iand 1 pc')  (k : EV M G pc' lv (.int (x &&& y) :: st) h) : EV M G pc lv (.int y :: .int x :: st) h := by
  obtain ⟨d, rfl⟩ := hd
  exact fun p l e s m args below meth c X H locs ls C hP hS hl => lv_iand C.1.1 C.1.2.1 d  (k p l e s m args below meth c X H locs ls C hP hS hl)
theorem ge_ior {x y : Int32} (hd : At M pc .ior 1 pc')  (k : EV M G pc' lv (.int (x ||| y) :: st) h) : EV M G pc lv (.int y :: .int x :: st) h := by
  obtain ⟨d, rfl⟩ := hd
  exact fun p l e s m args below meth c X H locs ls C hP hS hl => lv_ior C.1.1 C.1.2.1 d  (k p l e s m args below meth c X H locs ls C hP hS hl)
theorem ge_idiv {x y : Int32} (hd : At M pc .idiv 1 pc') (hne : ¬ y = 0) (k : EV M G pc' lv (.int (x / y) :: st) h) : EV M G pc lv (.int y :: .int x :: st) h := by
  obtain ⟨d, rfl⟩ := hd
  exact fun p l e s m args below meth c X H locs ls C hP hS hl => lv_idiv C.1.1 C.1.2.1 d hne (k p l e s m args below meth c X H locs ls C hP hS hl)
theorem ge_irem {x y : Int32} (hd : At M pc .irem 1 pc') (hne : ¬ y = 0) (k : EV M G pc' lv (.int (x - x / y * y) :: st) h) : EV M G pc lv (.int y :: .int x :: st) h := by
  obtain ⟨d, rfl⟩ := hd
  exact fun p l e s m args below meth c X H locs ls C hP hS hl => lv_irem C.1.1 C.1.2.1 d hne (k p l e s m args below meth c X H locs ls C hP hS hl)
theorem ge_ineg {x : Int32} (hd : At M pc .ineg 1 pc')  (k : EV M G pc' lv (.int (-x) :: st) h) : EV M G pc lv (.int x :: st) h := by
  obtain ⟨d, rfl⟩ := hd
  exact fun p l e s m args below meth c X H locs ls C hP hS hl => lv_ineg C.1.1 C.1.2.1 d  (k p l e s m args below meth c X H locs ls C hP hS hl)
theorem ge_ishl {x y : Int32} (hd : At M pc .ishl 1 pc')  (k : EV M G pc' lv (.int (x <<< (y &&& 31)) :: st) h) : EV M G pc lv (.int y :: .int x :: st) h := by
  obtain ⟨d, rfl⟩ := hd
  exact fun p l e s m args below meth c X H locs ls C hP hS hl => lv_ishl C.1.1 C.1.2.1 d  (k p l e s m args below meth c X H locs ls C hP hS hl)
theorem ge_ishr {x y : Int32} (hd : At M pc .ishr 1 pc')  (k : EV M G pc' lv (.int (x >>> (y &&& 31)) :: st) h) : EV M G pc lv (.int y :: .int x :: st) h := by
  obtain ⟨d, rfl⟩ := hd
  exact fun p l e s m args below meth c X H locs ls C hP hS hl => lv_ishr C.1.1 C.1.2.1 d  (k p l e s m args below meth c X H locs ls C hP hS hl)
theorem ge_iushr {x y : Int32} (hd : At M pc .iushr 1 pc')  (k : EV M G pc' lv (.int ((x.toUInt32 >>> (y.toUInt32 &&& Int32.toUInt32 31)).toInt32) :: st) h) : EV M G pc lv (.int y :: .int x :: st) h := by
  obtain ⟨d, rfl⟩ := hd
  exact fun p l e s m args below meth c X H locs ls C hP hS hl => lv_iushr C.1.1 C.1.2.1 d rfl (k p l e s m args below meth c X H locs ls C hP hS hl)
theorem ge_i2l {x : Int32} (hd : At M pc .i2l 1 pc')  (k : EV M G pc' lv (.long x.toInt64 :: st) h) : EV M G pc lv (.int x :: st) h := by
  obtain ⟨d, rfl⟩ := hd
  exact fun p l e s m args below meth c X H locs ls C hP hS hl => lv_i2l C.1.1 C.1.2.1 d rfl (k p l e s m args below meth c X H locs ls C hP hS hl)
theorem ge_i2b {x : Int32} (hd : At M pc .i2b 1 pc')  (k : EV M G pc' lv (.int x.toInt8.toInt32 :: st) h) : EV M G pc lv (.int x :: st) h := by
  obtain ⟨d, rfl⟩ := hd
  exact fun p l e s m args below meth c X H locs ls C hP hS hl => lv_i2b C.1.1 C.1.2.1 d rfl (k p l e s m args below meth c X H locs ls C hP hS hl)
theorem ge_i2s {x : Int32} (hd : At M pc .i2s 1 pc')  (k : EV M G pc' lv (.int x.toInt16.toInt32 :: st) h) : EV M G pc lv (.int x :: st) h := by
  obtain ⟨d, rfl⟩ := hd
  exact fun p l e s m args below meth c X H locs ls C hP hS hl => lv_i2s C.1.1 C.1.2.1 d rfl (k p l e s m args below meth c X H locs ls C hP hS hl)
theorem ge_i2c {x : Int32} (hd : At M pc .i2c 1 pc')  (k : EV M G pc' lv (.int (x.toUInt32 % 65536).toInt32 :: st) h) : EV M G pc lv (.int x :: st) h := by
  obtain ⟨d, rfl⟩ := hd
  exact fun p l e s m args below meth c X H locs ls C hP hS hl => lv_i2c C.1.1 C.1.2.1 d rfl (k p l e s m args below meth c X H locs ls C hP hS hl)
theorem ge_lmul {x y : Int64} (hd : At M pc .lmul 1 pc')  (k : EV M G pc' lv (.long (x * y) :: st) h) : EV M G pc lv (.long y :: .long x :: st) h := by
  obtain ⟨d, rfl⟩ := hd
  exact fun p l e s m args below meth c X H locs ls C hP hS hl => lv_lmul C.1.1 C.1.2.1 d  (k p l e s m args below meth c X H locs ls C hP hS hl)
theorem ge_ladd {x y : Int64} (hd : At M pc .ladd 1 pc')  (k : EV M G pc' lv (.long (x + y) :: st) h) : EV M G pc lv (.long y :: .long x :: st) h := by
  obtain ⟨d, rfl⟩ := hd
  exact fun p l e s m args below meth c X H locs ls C hP hS hl => lv_ladd C.1.1 C.1.2.1 d  (k p l e s m args below meth c X H locs ls C hP hS hl)
theorem ge_lcmp {x y : Int64} (hd : At M pc .lcmp 1 pc')  (k : EV M G pc' lv (.int (lg_cmp x y) :: st) h) : EV M G pc lv (.long y :: .long x :: st) h := by
  obtain ⟨d, rfl⟩ := hd
  exact fun p l e s m args below meth c X H locs ls C hP hS hl => W.lcmp C.1.1 C.1.2.1 d  (k p l e s m args below meth c X H locs ls C hP hS hl)
theorem ge_dup {v : Value} (hd : At M pc .dup 1 pc') (hv : v.category = 1) (k : EV M G pc' lv (v :: v :: st) h) : EV M G pc lv (v :: st) h := by
  obtain ⟨d, rfl⟩ := hd
  exact fun p l e s m args below meth c X H locs ls C hP hS hl => lv_dup C.1.1 C.1.2.1 d (by rw [gm_tvc]; exact hv) (k p l e s m args below meth c X H locs ls C hP hS hl)
theorem ge_pop {v : Value} (hd : At M pc .pop 1 pc') (hv : v.category = 1) (k : EV M G pc' lv (st) h) : EV M G pc lv (v :: st) h := by
  obtain ⟨d, rfl⟩ := hd
  exact fun p l e s m args below meth c X H locs ls C hP hS hl => lv_pop C.1.1 C.1.2.1 d (by rw [gm_tvc]; exact hv) (k p l e s m args below meth c X H locs ls C hP hS hl)
theorem ge_dup2 {v w : Value} (hd : At M pc .dup2 1 pc') (hv : v.category = 1) (hw : w.category = 1) (k : EV M G pc' lv (v :: w :: v :: w :: st) h) : EV M G pc lv (v :: w :: st) h := by
  obtain ⟨d, rfl⟩ := hd
  exact fun p l e s m args below meth c X H locs ls C hP hS hl => lv_dup2_11 C.1.1 C.1.2.1 d (by rw [gm_tvc]; exact hv) (by rw [gm_tvc]; exact hw) (k p l e s m args below meth c X H locs ls C hP hS hl)
theorem ge_if_eq {x : Int32} {off : Int} (hd : AtJ M pc (.ifCond .eq off) off tgt pc') (kt : x = 0 → EV M G tgt lv st h) (kf : ¬ x = 0 → EV M G pc' lv st h) : EV M G pc lv (.int x :: st) h := by
  obtain ⟨d, ht, rfl⟩ := hd
  exact fun p l e s m args below meth c X H locs ls C hP hS hl => lv_if_eq C.1.1 C.1.2.1 d ht (fun q => kt q p l e s m args below meth c X H locs ls C hP hS hl) (fun q => kf q p l e s m args below meth c X H locs ls C hP hS hl)
theorem ge_icmp_eq {x y : Int32} {off : Int} (hd : AtJ M pc (.if_icmp .eq off) off tgt pc') (kt : x = y → EV M G tgt lv st h) (kf : ¬ x = y → EV M G pc' lv st h) : EV M G pc lv (.int y :: .int x :: st) h := by
  obtain ⟨d, ht, rfl⟩ := hd
  exact fun p l e s m args below meth c X H locs ls C hP hS hl => lv_icmp_eq C.1.1 C.1.2.1 d ht (fun q => kt q p l e s m args below meth c X H locs ls C hP hS hl) (fun q => kf q p l e s m args below meth c X H locs ls C hP hS hl)
theorem ge_if_ne {x : Int32} {off : Int} (hd : AtJ M pc (.ifCond .ne off) off tgt pc') (kt : ¬ x = 0 → EV M G tgt lv st h) (kf : x = 0 → EV M G pc' lv st h) : EV M G pc lv (.int x :: st) h := by
  obtain ⟨d, ht, rfl⟩ := hd
  exact fun p l e s m args below meth c X H locs ls C hP hS hl => lv_if_ne C.1.1 C.1.2.1 d ht (fun q => kt q p l e s m args below meth c X H locs ls C hP hS hl) (fun q => kf q p l e s m args below meth c X H locs ls C hP hS hl)
theorem ge_icmp_ne {x y : Int32} {off : Int} (hd : AtJ M pc (.if_icmp .ne off) off tgt pc') (kt : ¬ x = y → EV M G tgt lv st h) (kf : x = y → EV M G pc' lv st h) : EV M G pc lv (.int y :: .int x :: st) h := by
  obtain ⟨d, ht, rfl⟩ := hd
  exact fun p l e s m args below meth c X H locs ls C hP hS hl => lv_icmp_ne C.1.1 C.1.2.1 d ht (fun q => kt q p l e s m args below meth c X H locs ls C hP hS hl) (fun q => kf q p l e s m args below meth c X H locs ls C hP hS hl)
theorem ge_if_lt {x : Int32} {off : Int} (hd : AtJ M pc (.ifCond .lt off) off tgt pc') (kt : x < 0 → EV M G tgt lv st h) (kf : ¬ x < 0 → EV M G pc' lv st h) : EV M G pc lv (.int x :: st) h := by
  obtain ⟨d, ht, rfl⟩ := hd
  exact fun p l e s m args below meth c X H locs ls C hP hS hl => lv_if_lt C.1.1 C.1.2.1 d ht (fun q => kt q p l e s m args below meth c X H locs ls C hP hS hl) (fun q => kf q p l e s m args below meth c X H locs ls C hP hS hl)
theorem ge_icmp_lt {x y : Int32} {off : Int} (hd : AtJ M pc (.if_icmp .lt off) off tgt pc') (kt : x < y → EV M G tgt lv st h) (kf : ¬ x < y → EV M G pc' lv st h) : EV M G pc lv (.int y :: .int x :: st) h := by
  obtain ⟨d, ht, rfl⟩ := hd
  exact fun p l e s m args below meth c X H locs ls C hP hS hl => lv_icmp_lt C.1.1 C.1.2.1 d ht (fun q => kt q p l e s m args below meth c X H locs ls C hP hS hl) (fun q => kf q p l e s m args below meth c X H locs ls C hP hS hl)
theorem ge_if_ge {x : Int32} {off : Int} (hd : AtJ M pc (.ifCond .ge off) off tgt pc') (kt : 0 ≤ x → EV M G tgt lv st h) (kf : ¬ 0 ≤ x → EV M G pc' lv st h) : EV M G pc lv (.int x :: st) h := by
  obtain ⟨d, ht, rfl⟩ := hd
  exact fun p l e s m args below meth c X H locs ls C hP hS hl => lv_if_ge C.1.1 C.1.2.1 d ht (fun q => kt q p l e s m args below meth c X H locs ls C hP hS hl) (fun q => kf q p l e s m args below meth c X H locs ls C hP hS hl)
theorem ge_icmp_ge {x y : Int32} {off : Int} (hd : AtJ M pc (.if_icmp .ge off) off tgt pc') (kt : y ≤ x → EV M G tgt lv st h) (kf : ¬ y ≤ x → EV M G pc' lv st h) : EV M G pc lv (.int y :: .int x :: st) h := by
  obtain ⟨d, ht, rfl⟩ := hd
  exact fun p l e s m args below meth c X H locs ls C hP hS hl => lv_icmp_ge C.1.1 C.1.2.1 d ht (fun q => kt q p l e s m args below meth c X H locs ls C hP hS hl) (fun q => kf q p l e s m args below meth c X H locs ls C hP hS hl)
theorem ge_if_gt {x : Int32} {off : Int} (hd : AtJ M pc (.ifCond .gt off) off tgt pc') (kt : 0 < x → EV M G tgt lv st h) (kf : ¬ 0 < x → EV M G pc' lv st h) : EV M G pc lv (.int x :: st) h := by
  obtain ⟨d, ht, rfl⟩ := hd
  exact fun p l e s m args below meth c X H locs ls C hP hS hl => lv_if_gt C.1.1 C.1.2.1 d ht (fun q => kt q p l e s m args below meth c X H locs ls C hP hS hl) (fun q => kf q p l e s m args below meth c X H locs ls C hP hS hl)
theorem ge_icmp_gt {x y : Int32} {off : Int} (hd : AtJ M pc (.if_icmp .gt off) off tgt pc') (kt : y < x → EV M G tgt lv st h) (kf : ¬ y < x → EV M G pc' lv st h) : EV M G pc lv (.int y :: .int x :: st) h := by
  obtain ⟨d, ht, rfl⟩ := hd
  exact fun p l e s m args below meth c X H locs ls C hP hS hl => lv_icmp_gt C.1.1 C.1.2.1 d ht (fun q => kt q p l e s m args below meth c X H locs ls C hP hS hl) (fun q => kf q p l e s m args below meth c X H locs ls C hP hS hl)
theorem ge_if_le {x : Int32} {off : Int} (hd : AtJ M pc (.ifCond .le off) off tgt pc') (kt : x ≤ 0 → EV M G tgt lv st h) (kf : ¬ x ≤ 0 → EV M G pc' lv st h) : EV M G pc lv (.int x :: st) h := by
  obtain ⟨d, ht, rfl⟩ := hd
  exact fun p l e s m args below meth c X H locs ls C hP hS hl => lv_if_le C.1.1 C.1.2.1 d ht (fun q => kt q p l e s m args below meth c X H locs ls C hP hS hl) (fun q => kf q p l e s m args below meth c X H locs ls C hP hS hl)
theorem ge_icmp_le {x y : Int32} {off : Int} (hd : AtJ M pc (.if_icmp .le off) off tgt pc') (kt : x ≤ y → EV M G tgt lv st h) (kf : ¬ x ≤ y → EV M G pc' lv st h) : EV M G pc lv (.int y :: .int x :: st) h := by
  obtain ⟨d, ht, rfl⟩ := hd
  exact fun p l e s m args below meth c X H locs ls C hP hS hl => lv_icmp_le C.1.1 C.1.2.1 d ht (fun q => kt q p l e s m args below meth c X H locs ls C hP hS hl) (fun q => kf q p l e s m args below meth c X H locs ls C hP hS hl)
theorem ge_goto {off : Int} (hd : AtJ M pc (.goto off) off tgt pc') (k : EV M G tgt lv st h) : EV M G pc lv st h := by
  obtain ⟨d, ht, -⟩ := hd
  exact fun p l e s m args below meth c X H locs ls C hP hS hl => lv_goto C.1.1 C.1.2.1 d ht (k p l e s m args below meth c X H locs ls C hP hS hl)
/-- a switch over lo, lo + 1 ..: the road of each place, and of all others -/
theorem ge_table {x : Int32} {dflt lo hi : Int} {offs : Array Int} {len : Nat} (hd : decode M.2.1 pc = .ok (.tableswitch dflt lo hi offs, len)) (hin : ∀ off, offs[(x.toInt - lo).toNat]? = some off → ¬ x.toInt < lo → ¬ hi < x.toInt → ∃ tgt : Nat, (pc : Int) + off = (tgt : Int) ∧ EV M G tgt lv st h) (hsz : offs.size = (hi - lo + 1).toNat) (tgt : Nat) (ht : (pc : Int) + dflt = (tgt : Int)) (hout : (x.toInt < lo ∨ hi < x.toInt) → EV M G tgt lv st h) : EV M G pc lv (.int x :: st) h := by
  intro p l e s m args below meth c X H locs ls C hP hS hl
  by_cases h0 : x.toInt < lo ∨ hi < x.toInt
  · exact lv_tableOut C.1.1 C.1.2.1 hd h0 ht (hout h0 p l e s m args below meth c X H locs ls C hP hS hl)
  · have h1 : ¬ x.toInt < lo := fun q => h0 (Or.inl q)
    have h2 : ¬ hi < x.toInt := fun q => h0 (Or.inr q)
    have hlt : (x.toInt - lo).toNat < offs.size := by rw [hsz]; omega
    obtain ⟨t2, e1, e2⟩ := hin offs[(x.toInt - lo).toNat] (Array.getElem?_eq_getElem hlt) h1 h2
    exact lv_tableIn C.1.1 C.1.2.1 hd h1 h2 (Array.getElem?_eq_getElem hlt) e1 (e2 p l e s m args below meth c X H locs ls C hP hS hl)
/-- constants out of the pool -/
theorem ge_ldc {idx : Nat} {v : Int32} (hd : At M pc (.ldc idx) 2 pc') (hw : Cond.constant M.1.cls idx v ∈ gm_ws) (k : EV M G pc' lv (.int v :: st) h) : EV M G pc lv st h := by
  obtain ⟨d, rfl⟩ := hd
  exact fun p l e s m args below meth c X H locs ls C hP hS hl => lv_ldc C.1.1 C.1.2.1 C.1.2.2.2.2.1 (C.1.2.2.2.2.2.1 _ hw) d (k p l e s m args below meth c X H locs ls C hP hS hl)
theorem ge_ldcw {idx : Nat} {v : Int32} (hd : At M pc (.ldc_w idx) 3 pc') (hw : Cond.constant M.1.cls idx v ∈ gm_ws) (k : EV M G pc' lv (.int v :: st) h) : EV M G pc lv st h := by
  obtain ⟨d, rfl⟩ := hd
  exact fun p l e s m args below meth c X H locs ls C hP hS hl => lv_ldcw C.1.1 C.1.2.1 C.1.2.2.2.2.1 (C.1.2.2.2.2.2.1 _ hw) d (k p l e s m args below meth c X H locs ls C hP hS hl)
theorem ge_ldcS {idx i : Nat} {tx : String} (hd : At M pc (.ldc idx) 2 pc') (hw : (M.1.cls, idx, tx, i) ∈ gm_ldc) (k : EV M G pc' lv (.ref (100 + i) :: st) h) : EV M G pc lv st h := by
  obtain ⟨d, rfl⟩ := hd
  exact fun p l e s m args below meth c X H locs ls C hP hS hl => va_ldcS C.1.1 C.1.2.1 C.1.2.2.2.2.1 (C.2.2.2.2.2.1 _ hw) d (k p l e s m args below meth c X H locs ls C hP hS hl)
/-- answers -/
theorem gm_frame {X : Xt} {s t : State} {H : Heap} {locs : List Loc} (hS : va_S (gm_A X) s.heap H locs) (ht : t.heap = H) : va_F (gm_A X) s t := hS.F ht
theorem ge_iret {Q : Int32 → Mem → Prop} {v : Int32} (hr : M.2.2.2.1 = some .int) (hd : At M pc .ireturn 1 pc') (hq : Q v h) : EV M (GI Q) pc lv [.int v] h := by
  obtain ⟨d, rfl⟩ := hd
  exact fun p l e s m args below meth c X H locs ls C hP hS hl => W.iret C.1.1 C.1.2.1 (C.1.2.2.1.trans hr) (fun t ht _ => ⟨⟨v, h, rfl, hq, by show va_P _ _ _ t.heap; rw [ht]; exact hP⟩, gm_frame hS ht⟩) hS.2.2 d (hlocks := C.1.2.2.2.2.2.2)
theorem ge_zret {Q : Int32 → Mem → Prop} {v : Int32} {ty : FieldType} (hr : M.2.2.2.1 = some ty) (hn : narrow ty (.int v) = .int v) (hd : At M pc .ireturn 1 pc') (hq : Q v h) : EV M (GI Q) pc lv [.int v] h := by
  obtain ⟨d, rfl⟩ := hd
  exact fun p l e s m args below meth c X H locs ls C hP hS hl => W.zret C.1.1 C.1.2.1 (C.1.2.2.1.trans hr) hn (fun t ht _ => ⟨⟨v, h, rfl, hq, by show va_P _ _ _ t.heap; rw [ht]; exact hP⟩, gm_frame hS ht⟩) hS.2.2 d (hlocks := C.1.2.2.2.2.2.2)
theorem ge_vret {Q : Mem → Prop} (hr : M.2.2.2.1 = none) (hd : At M pc .return_ 1 pc') (hq : Q h) : EV M (GV Q) pc lv [] h := by
  obtain ⟨d, rfl⟩ := hd
  exact fun p l e s m args below meth c X H locs ls C hP hS hl => W.vret C.1.1 C.1.2.1 (C.1.2.2.1.trans hr) (fun t ht _ => ⟨⟨h, rfl, hq, by show va_P _ _ _ t.heap; rw [ht]; exact hP⟩, gm_frame hS ht⟩) hS.2.2 d (hlocks := C.1.2.2.2.2.2.2)
theorem ge_lret {Q : Int64 → Mem → Prop} {v : Int64} (hr : M.2.2.2.1 = some .long) (hd : At M pc .lreturn 1 pc') (hq : Q v h) : EV M (GL Q) pc lv [.long v] h := by
  obtain ⟨d, rfl⟩ := hd
  exact fun p l e s m args below meth c X H locs ls C hP hS hl => W.lret C.1.1 C.1.2.1 (C.1.2.2.1.trans hr) (fun t ht _ => ⟨⟨v, h, rfl, hq, by show va_P _ _ _ t.heap; rw [ht]; exact hP⟩, gm_frame hS ht⟩) hS.2.2 d (hlocks := C.1.2.2.2.2.2.2)
theorem ge_aret {Q : Nat → Mem → Prop} {k : Nat} {rt : FieldType} (hr : M.2.2.2.1 = some rt) (hrt : (∃ n, rt = .object n) ∨ ∃ t, rt = .array t) (hd : At M pc .areturn 1 pc') (hq : Q k h) : EV M (GR Q) pc lv [.ref k] h := by
  obtain ⟨d, rfl⟩ := hd
  exact fun p l e s m args below meth c X H locs ls C hP hS hl => W.aret C.1.1 C.1.2.1 (C.1.2.2.1.trans hr) hrt (Or.inr ⟨_, rfl⟩) (fun t ht _ => ⟨⟨(k, h), X.1 k, rfl, hq, rfl, by show va_P _ _ _ t.heap; rw [ht]; exact hP⟩, gm_frame hS ht⟩) hS.2.2 d (hlocks := C.1.2.2.2.2.2.2)
end
end
section
/-! rows: fields, rows of numbers, tables, calls -/
theorem inX1 : ∀ w ∈ u_ws RX1 TX1 6, w ∈ gm_ws := by decide +kernel
theorem inX2 : ∀ w ∈ u_ws RX2 TX2 2, w ∈ gm_ws := by decide +kernel
theorem inX3 : ∀ w ∈ u_ws RX3 TX3 6, w ∈ gm_ws := by decide +kernel
theorem inX4 : ∀ w ∈ u_ws RX4 TX4 5, w ∈ gm_ws := by decide +kernel
theorem inX5 : ∀ w ∈ u_ws RX5 TX5 3, w ∈ gm_ws := by decide +kernel
theorem inX6 : ∀ w ∈ u_ws RX6 TX6 11, w ∈ gm_ws := by decide +kernel
theorem inX7 : ∀ w ∈ u_ws RX7 TX7 2, w ∈ gm_ws := by decide +kernel
theorem inX8 : ∀ w ∈ u_ws RX8 TX8 3, w ∈ gm_ws := by decide +kernel
theorem inX9 : ∀ w ∈ u_ws RX9 TX9 12, w ∈ gm_ws := by decide +kernel
theorem inX10 : ∀ w ∈ u_ws RX10 TX10 28, w ∈ gm_ws := by decide +kernel
theorem gm_mem {w : Cond} (i : Nat) (h : lw_tbl[i]? = some w) (hg : goodWord w = true) : w ∈ gm_ws := List.mem_filter.mpr ⟨List.mem_of_getElem? h, hg⟩
theorem gm_memN {w : Cond} (i : Nat) (h : lw_tbl[i]? = some w) : w ∈ lw_tbl := List.mem_of_getElem? h
/-- field j of class number c, read through pool entry idx of class own; kd its kind -/
def FdOk (own : String) (idx c j kd : Nat) : Prop := ∃ (C : String) (T : u_T) (N : Nat), vwCl[c]? = some (C, T, N) ∧ j < N ∧ Cond.fieldLink own idx (T j).1 (T j).2.1 (T j).2.2.1 ∈ gm_ws ∧ (∀ w ∈ u_ws C T N, w ∈ gm_ws) ∧ gm_fk c j = kd ∧ gm_nf c = N ∧ c < 10
def PdOk (own : String) (idx c j kd : Nat) (ty : FieldType) : Prop := ∃ (C : String) (T : u_T) (N : Nat) (ty0 : Nat → FieldType), vwCl[c]? = some (C, T, N) ∧ j < N ∧ Cond.fieldLink own idx (T j).1 (T j).2.1 (T j).2.2.1 ∈ gm_ws ∧ (∀ w ∈ u_ws C T N, w ∈ gm_ws) ∧ gm_fk c j = kd ∧ gm_nf c = N ∧ c < 10 ∧
  (∀ k, k < N → parseFieldDescriptor (T k).2.2.1 = some (ty0 k)) ∧ (∀ a, a < N → ∀ b, b < N → a ≠ b → (T a).2.1 ≠ (T b).2.1) ∧ (T j).2.2.2 = false ∧ parseFieldDescriptor (T j).2.2.1 = some ty
theorem gm_cell_obj {X : Xt} {k c : Nat} {f : Nat → Int32} (hc : gm_cls k = c) (h10 : c < 10) : gm_cell X k f = .inr (c, (List.range (gm_nf c)).map (fun j => gm_fv X.1 k j (f j))) := by
  unfold gm_cell
  rw [hc]
  match c, h10 with
  | 0, _ => rfl
  | 1, _ => rfl
  | 2, _ => rfl
  | 3, _ => rfl
  | 4, _ => rfl
  | 5, _ => rfl
  | 6, _ => rfl
  | 7, _ => rfl
  | 8, _ => rfl
  | 9, _ => rfl
theorem gm_cell_arr {X : Xt} {k n : Nat} {f : Nat → Int32} (ha : gm_arr k n) : gm_cell X k f = .inl (X.2.2.1, n, .inl f) := by
  unfold gm_cell
  rw [ha.1, ← ha.2]
  rfl
theorem gm_lt10 {k c : Nat} (hc : gm_cls k = c) (h10 : c < 10) : k < 57 := gm_lt (by omega)
theorem gm_arr_lt {k n : Nat} (ha : gm_arr k n) : k < 57 := gm_lt (by rw [ha.1]; decide)
theorem gm_W_obj {X : Xt} {h : Mem} {k c : Nat} (hc : gm_cls k = c) (h10 : c < 10) : (gm_W X h)[k]? = some (X.1 k, .inr (c, (List.range (gm_nf c)).map (fun j => gm_fv X.1 k j (h k j)))) := by
  rw [gm_W_at (gm_lt10 hc h10), gm_cell_obj hc h10]
theorem gm_W_arr {X : Xt} {h : Mem} {k n : Nat} (ha : gm_arr k n) : (gm_W X h)[k]? = some (X.1 k, .inl (X.2.2.1, n, .inl (h k))) := by
  rw [gm_W_at (gm_arr_lt ha), gm_cell_arr ha]
theorem gm_set_map {N j : Nat} (hj : j < N) (f : Nat → Value) (g : Nat → Value) (hg : ∀ i, i ≠ j → g i = f i) : ((List.range N).map f).set j (g j) = (List.range N).map g := by
  refine List.ext_getElem? (fun i => ?_)
  by_cases hi : i = j
  · subst hi
    rw [List.getElem?_set_self (by simpa using hj), List.getElem?_map, List.getElem?_range hj]
    rfl
  · rw [List.getElem?_set_ne (Ne.symm hi), List.getElem?_map, List.getElem?_map]
    by_cases hl : i < N
    · rw [List.getElem?_range hl]
      simp [hg i hi]
    · rw [List.getElem?_eq_none (by simp; omega)]
      rfl
/-- a field of the memory written: the world -/
theorem gm_W_put {X : Xt} {h : Mem} {k c j : Nat} {v : Int32} {w : Value} (hc : gm_cls k = c) (h10 : c < 10) (hj : j < gm_nf c) (hw : gm_fv X.1 k j v = w) : (gm_W X h).set k (X.1 k, .inr (c, ((List.range (gm_nf c)).map (fun j => gm_fv X.1 k j (h k j))).set j w)) = gm_W X (gm_st h k j v) := by
  refine gm_W_set (gm_lt10 hc h10) ?_ (fun a ha => gm_st_o a ha)
  rw [gm_cell_obj hc h10]
  congr 2
  subst hw
  rw [← gm_set_map hj (fun j => gm_fv X.1 k j (h k j)) (fun i => gm_fv X.1 k i (gm_st h k j v k i)) (fun i hi => by show gm_fv X.1 k i (gm_st h k j v k i) = gm_fv X.1 k i (h k i); rw [gm_st_s, pk_un hi])]
  congr 1
  show gm_fv X.1 k j (gm_st h k j v k j) = _
  rw [gm_st_s, pk_us]
theorem gm_W_ast {X : Xt} {h : Mem} {k n : Nat} (ha : gm_arr k n) (j : Nat) (v : Int32) : (gm_W X h).set k (X.1 k, .inl (X.2.2.1, n, .inl (upd (h k) j v))) = gm_W X (gm_st h k j v) :=
  gm_W_set (gm_arr_lt ha) (by rw [gm_cell_arr ha, gm_st_s]) (fun a h9 => gm_st_o a h9)
def gm_b (v : Int32) : Prop := v = 0 ∨ v = 1
theorem gm_b_nar {v : Int32} (h : gm_b v) : narrow .boolean (.int v) = .int v := by rcases h with rfl | rfl <;> rfl
theorem gm_b_fit {v : Int32} (h : gm_b v) : fits .boolean (.int v) = true := by rcases h with rfl | rfl <;> rfl
theorem gm_b0 : gm_b 0 := Or.inl rfl
theorem gm_b1 : gm_b 1 := Or.inr rfl
section
variable {M : Mt} {G : Xt → Array Value → State → Outcome → State → Prop} {pc pc' tgt : Nat} {lv : List (Nat × Value)} {st : List Value} {h : Mem}
theorem ge_getV {k j cn idx kd : Nat} {v : Int32 → Value} (hd : At M pc (.getfield idx) 3 pc') (hf : FdOk M.1.cls idx cn j kd) (hk : gm_cls k = cn) (hv : ∀ r : Nat → Nat, gm_fv r k j (h k j) = gm_tv r (v (h k j))) (kk : EV M G pc' lv (v (h k j) :: st) h) : EV M G pc lv (.ref k :: st) h := by
  obtain ⟨d, rfl⟩ := hd
  obtain ⟨CC, T, N, h1, h2, h3, h4, h5, h6, h7⟩ := hf
  exact fun p l e s m args below meth c X H locs ls C hP hS hl => va_get (D := X.2.1) (ci := cn) (C := CC) (T := T) (N := N) C.1.1 C.1.2.1 C.1.2.2.2.2.2.1 h4 C.1.2.2.2.2.1 C.2.2.1 hP k (gm_W_obj hk h7) h1 j h2 (C.1.2.2.2.2.2.1 _ h3) (fun _ h9 => h9) (by rw [List.getElem?_map, List.getElem?_range (by rw [h6]; exact h2)]; exact congrArg some (hv X.1)) d (kk p l e s m args below meth c X H locs ls C hP hS hl)
theorem ge_getI {k j c idx : Nat} (hd : At M pc (.getfield idx) 3 pc') (hf : FdOk M.1.cls idx c j 0) (hk : gm_cls k = c) (kk : EV M G pc' lv (.int (h k j) :: st) h) : EV M G pc lv (.ref k :: st) h :=
  ge_getV (v := .int) hd hf hk (fun r => by unfold gm_fv; rw [hk, hf.choose_spec.choose_spec.choose_spec.2.2.2.2.1]; rfl) kk
theorem ge_getR {k j c idx q : Nat} (hd : At M pc (.getfield idx) 3 pc') (hf : FdOk M.1.cls idx c j 1) (hk : gm_cls k = c) (hq : gm_rf k j = q) (kk : EV M G pc' lv (.ref q :: st) h) : EV M G pc lv (.ref k :: st) h :=
  ge_getV (v := fun _ => .ref q) hd hf hk (fun r => by unfold gm_fv; rw [hk, hf.choose_spec.choose_spec.choose_spec.2.2.2.2.1, hq]; rfl) kk
theorem ge_getO {k j c idx q : Nat} (hd : At M pc (.getfield idx) 3 pc') (hf : FdOk M.1.cls idx c j 2) (hk : gm_cls k = c) (hq : gm_rf k j = q) (hne : ¬ h k j = 0) (kk : EV M G pc' lv (.ref q :: st) h) : EV M G pc lv (.ref k :: st) h :=
  ge_getV (v := fun _ => .ref q) hd hf hk (fun r => by unfold gm_fv; rw [hk, hf.choose_spec.choose_spec.choose_spec.2.2.2.2.1, hq]; show (if h k j = 0 then Value.null else Value.ref (r q)) = _; rw [if_neg hne]; rfl) kk
theorem ge_putV {k j c idx kd : Nat} {ty : FieldType} {v : Value} {x : Int32} (hd : At M pc (.putfield idx) 3 pc') (hf : PdOk M.1.cls idx c j kd ty) (hk : gm_cls k = c) (hv : ∀ r : Nat → Nat, gm_fv r k j x = gm_tv r v) (hn : ∀ r : Nat → Nat, narrow ty (gm_tv r v) = gm_tv r v ∧ fits ty (gm_tv r v) = true) (kk : EV M G pc' lv st (gm_st h k j x)) : EV M G pc lv (v :: .ref k :: st) h := by
  obtain ⟨d, rfl⟩ := hd
  obtain ⟨CC, T, N, ty0, h1, h2, h3, h4, h5, h6, h7, h8, h9, h10, h11⟩ := hf
  exact fun p l e s m args below meth c_1 X H locs ls C hP hS hl => va_put (D := X.2.1) (ci := c) (C := CC) (T := T) (N := N) C.1.1 C.1.2.1 C.1.2.2.2.2.2.1 h4 ty0 h8 h9 C.1.2.2.2.2.1 C.2.2.1 hP (gm_D C.2.1 h) hS k (gm_W_obj hk h7) h1 j h2 (C.1.2.2.2.2.2.1 _ h3) (fun _ h9 => h9) h10 h11 (hn X.1).1 (hn X.1).2 (by rw [List.length_map, List.length_range, h6]; exact h2) d
    (fun H1 locs1 hP1 _ hS1 => kk p l e s m args below meth c_1 X H1 locs1 ls C (by rw [← gm_W_put hk h7 (by rw [h6]; exact h2) (hv X.1)]; exact hP1) hS1 hl)
theorem ge_putI {k j c idx : Nat} {x : Int32} (hd : At M pc (.putfield idx) 3 pc') (hf : PdOk M.1.cls idx c j 0 .int) (hk : gm_cls k = c) (kk : EV M G pc' lv st (gm_st h k j x)) : EV M G pc lv (.int x :: .ref k :: st) h :=
  ge_putV hd hf hk (fun r => by unfold gm_fv; rw [hk, hf.choose_spec.choose_spec.choose_spec.choose_spec.2.2.2.2.1]; rfl) (fun r => ⟨rfl, rfl⟩) kk
theorem ge_putZ {k j c idx : Nat} {x : Int32} (hd : At M pc (.putfield idx) 3 pc') (hf : PdOk M.1.cls idx c j 0 .boolean) (hk : gm_cls k = c) (hb : gm_b x) (kk : EV M G pc' lv st (gm_st h k j x)) : EV M G pc lv (.int x :: .ref k :: st) h :=
  ge_putV hd hf hk (fun r => by unfold gm_fv; rw [hk, hf.choose_spec.choose_spec.choose_spec.choose_spec.2.2.2.2.1]; rfl) (fun r => ⟨gm_b_nar hb, gm_b_fit hb⟩) kk
theorem ge_putR {k j c idx q : Nat} {C0 : String} (hd : At M pc (.putfield idx) 3 pc') (hf : PdOk M.1.cls idx c j 2 (.object C0)) (hk : gm_cls k = c) (hq : gm_rf k j = q) (kk : EV M G pc' lv st (gm_st h k j 1)) : EV M G pc lv (.ref q :: .ref k :: st) h :=
  ge_putV hd hf hk (fun r => by unfold gm_fv; rw [hk, hf.choose_spec.choose_spec.choose_spec.choose_spec.2.2.2.2.1, hq]; rfl) (fun r => ⟨rfl, rfl⟩) kk
theorem ge_iald {k n j : Nat} {i : Int32} (hd : At M pc .iaload 1 pc') (ha : gm_arr k n) (hi : vp_in i n) (hj : i.toNatClampNeg = j) (kk : EV M G pc' lv (.int (h k j) :: st) h) : EV M G pc lv (.int i :: .ref k :: st) h := by
  obtain ⟨d, rfl⟩ := hd
  subst hj
  exact fun p l e s m args below meth c X H locs ls C hP hS hl => va_iald C.1.1 C.1.2.1 C.2.2.1 hP k 0 (gm_W_arr ha) rfl hi d (kk p l e s m args below meth c X H locs ls C hP hS hl)
theorem ge_iast {k n j : Nat} {i x : Int32} (hd : At M pc .iastore 1 pc') (ha : gm_arr k n) (hi : vp_in i n) (hj : i.toNatClampNeg = j) (kk : EV M G pc' lv st (gm_st h k j x)) : EV M G pc lv (.int x :: .int i :: .ref k :: st) h := by
  obtain ⟨d, rfl⟩ := hd
  subst hj
  exact fun p l e s m args below meth c X H locs ls C hP hS hl => va_iast C.1.1 C.1.2.1 C.2.2.1 hP (gm_D C.2.1 h) hS k 0 (gm_W_arr ha) rfl hi d (fun H1 locs1 hP1 _ hS1 => kk p l e s m args below meth c X H1 locs1 ls C (by rw [← gm_W_ast ha]; exact hP1) hS1 hl)
theorem ge_alen {k n : Nat} {v : Int32} (hd : At M pc .arraylength 1 pc') (ha : gm_arr k n) (hv : Int32.ofNat n = v) (kk : EV M G pc' lv (.int v :: st) h) : EV M G pc lv (.ref k :: st) h := by
  obtain ⟨d, rfl⟩ := hd
  exact fun p l e s m args below meth c X H locs ls C hP hS hl => va_alen C.1.1 C.1.2.1 C.2.2.1 hP k 0 (gm_W_arr ha) rfl hv d (kk p l e s m args below meth c X H locs ls C hP hS hl)
theorem gm_W_33 {X : Xt} {h : Mem} : (gm_W X h)[33]? = some (X.1 33, .inl (X.2.2.2.1, 4, .inr (.inr (.inr (.inr (fun i => some (X.1 (35 + 2 * i)))))))) := gm_W_at (by decide)
theorem gm_W_51 {X : Xt} {h : Mem} : (gm_W X h)[51]? = some (X.1 51, .inl (X.2.2.2.2, 7, .inr (.inr (.inr (.inr (fun i => some (X.1 (100 + i)))))))) := gm_W_at (by decide)
theorem ge_ald33 {i : Int32} (hd : At M pc .aaload 1 pc') (hi : vp_in i 4) (kk : EV M G pc' lv (.ref (35 + 2 * i.toNatClampNeg) :: st) h) : EV M G pc lv (.int i :: .ref 33 :: st) h := by
  obtain ⟨d, rfl⟩ := hd
  exact fun p l e s m args below meth c X H locs ls C hP hS hl => va_aldq C.1.1 C.1.2.1 C.2.2.1 hP 33 1 gm_W_33 rfl hi d (kk p l e s m args below meth c X H locs ls C hP hS hl)
theorem ge_ald51 {i : Int32} (hd : At M pc .aaload 1 pc') (hi : vp_in i 7) (kk : EV M G pc' lv (.ref (100 + i.toNatClampNeg) :: st) h) : EV M G pc lv (.int i :: .ref 51 :: st) h := by
  obtain ⟨d, rfl⟩ := hd
  exact fun p l e s m args below meth c X H locs ls C hP hS hl => va_aldq C.1.1 C.1.2.1 C.2.2.1 hP 51 2 gm_W_51 rfl hi d (kk p l e s m args below meth c X H locs ls C hP hS hl)
theorem ge_alen51 (hd : At M pc .arraylength 1 pc') (kk : EV M G pc' lv (.int 7 :: st) h) : EV M G pc lv (.ref 51 :: st) h := by
  obtain ⟨d, rfl⟩ := hd
  exact fun p l e s m args below meth c X H locs ls C hP hS hl => va_alen C.1.1 C.1.2.1 C.2.2.1 hP 51 2 gm_W_51 rfl rfl d (kk p l e s m args below meth c X H locs ls C hP hS hl)
/-- a table that is a static: read through an entry of its own class, or of a nest mate -/
theorem ge_gets {i idx : Nat} {nm : String} (hd : At M pc (.getstatic idx) 3 pc') (hi : i < 6) (hnm : gm_stN.getD i "" = nm) (hw : Cond.fieldLink M.1.cls idx "GlassWords" nm "[I" ∈ gm_ws) (kk : EV M G pc' lv (.ref (200 + i) :: st) h) : EV M G pc lv st h := by
  obtain ⟨d, rfl⟩ := hd
  subst hnm
  exact fun p l e s m args below meth c X H locs ls C hP hS hl => va_gets C.1.1 C.1.2.1 (C.2.2.2.2.1 i hi).1 hS C.1.2.2.2.2.1 (C.1.2.2.2.2.2.1 _ hw) (fun _ h9 => h9) d (kk p l e s m args below meth c X H locs ls C hP hS hl)
theorem ge_getsN {i idx : Nat} {nm host : String} (hd : At M pc (.getstatic idx) 3 pc') (hi : i < 6) (hnm : gm_stN.getD i "" = nm) (hw : Cond.fieldLinkNest M.1.cls idx "GlassWords" nm "[I" host ∈ lw_tbl) (kk : EV M G pc' lv (.ref (200 + i) :: st) h) : EV M G pc lv st h := by
  obtain ⟨d, rfl⟩ := hd
  subst hnm
  exact fun p l e s m args below meth c X H locs ls C hP hS hl => va_getsN C.1.1 C.1.2.1 (C.2.2.2.2.1 i hi).1 hS C.1.2.2.2.2.1 (va_Nw.use rfl (C.2.2.2.1 _ hw rfl)) (fun _ h9 => h9) d (kk p l e s m args below meth c X H locs ls C hP hS hl)
theorem ge_tld {i n : Nat} {x : Int32} (hd : At M pc .iaload 1 pc') (hi : i < 6) (hn : (gm_tab i).length = n) (hx : vp_in x n) (kk : EV M G pc' lv (.int ((gm_tab i).getD x.toNatClampNeg 0) :: st) h) : EV M G pc lv (.int x :: .ref (200 + i) :: st) h := by
  obtain ⟨d, rfl⟩ := hd
  subst hn
  exact fun p l e s m args below meth c X H locs ls C hP hS hl => va_ti C.1.1 C.1.2.1 (C.2.2.2.2.1 i hi).2 hS hx rfl d (kk p l e s m args below meth c X H locs ls C hP hS hl)
end
end
section
theorem gm_wMath : Cond.initialized "java/lang/Math" ∈ gm_ws := by decide +kernel
theorem gm_wmax : Cond.static Lib.Math.max.name ∈ gm_ws ∧ Cond.code Lib.Math.max.name Lib.Math.max.code 2 (some .int) ∈ gm_ws := by decide +kernel
theorem gm_wmin : Cond.static Lib.Math.min.name ∈ gm_ws ∧ Cond.code Lib.Math.min.name Lib.Math.min.code 2 (some .int) ∈ gm_ws := by decide +kernel
theorem gm_wabs : Cond.static Lib.Math.abs.name ∈ gm_ws ∧ Cond.code Lib.Math.abs.name Lib.Math.abs.code 1 (some .int) ∈ gm_ws := by decide +kernel
theorem gm_wcpy : Cond.native arraycopyName ∈ gm_ws ∧ Cond.static arraycopyName ∈ gm_ws ∧ Cond.initialized "java/lang/System" ∈ gm_ws := by decide +kernel
/-! rows: calls -/
theorem gm_good {w : Cond} (h : w ∈ gm_ws) : w ∈ gm_ws ∧ ((w.onTables && w.keeps) = true ∨ ∃ ty, w = .arrayClass ty) := ⟨h, good_of_word (List.mem_filter.mp h).2⟩
/-- a method that can be called: its words, n parameters -/
def NOk (N : Mt) (n : Nat) : Prop := Cond.code N.1 N.2.1 N.2.2.1 N.2.2.2.1 ∈ gm_ws ∧ Cond.initialized N.1.cls ∈ gm_ws ∧ (N.1.cls ≠ "java/lang/invoke/MethodHandle" ∧ N.1.cls ≠ "java/lang/invoke/VarHandle" ∧ (parseMethodDescriptor N.1.desc).map (fun d => d.parameters.length) = some n) ∧ N.2.2.2.2.cells = 0 ∧ N.2.2.2.2.slots = 0
def VOk (N : Mt) (n : Nat) : Prop := NOk N n ∧ Cond.instanceMethod N.1 ∈ gm_ws ∧ Cond.selects N.1.cls N.1 N.1 ∈ gm_ws
def SOk (N : Mt) (n : Nat) : Prop := NOk N n ∧ Cond.static N.1 ∈ gm_ws
def RmOk (M N : Mt) : Prop := N.2.2.2.2.frames + 1 ≤ M.2.2.2.2.frames ∧ 8 + (N.2.2.1 + 11) + N.2.2.2.2.locals ≤ M.2.2.2.2.locals
theorem gm_goodN {N : Mt} {n : Nat} (hN : NOk N n) : GoodIn gm_ws (gm_words N) := fun w hw => by
  rcases List.mem_cons.mp hw with rfl | h
  · exact gm_good hN.1
  · exact gm_good h
theorem gm_blind {X : Xt} {h : Mem} {av : List Value} : FrameBlind (va_Pc av (gm_wd X h)) := fun a U g mk q => ⟨q.1, q.2.1, q.2.2.1, va_K.moved (u := U) (U := U.calling g mk a) (Vm.Alike.refl U.vm) q.2.2.2.1, gm_old.same (u := U) (U := U.calling g mk a) rfl q.2.2.2.2⟩
theorem gm_pre {X : Xt} {h : Mem} {av : List Value} {M : Mt} {p : Program} {s : State} {m : MethodId} {args : Array Value} {meth : Method} {c : Code} {H : Heap} {locs : List Loc} (C : gm_cx M p s m args meth c X) (hP : va_P X.2.1 vwCl (gm_W X h) H) (hS : va_S (gm_A X) s.heap H locs) (U : State) (hU : U.heap = H) (hW : s.WarmedH U.vm) : va_Pc av (gm_wd X h) av.toArray U := by
  refine ⟨rfl, C.2.1, by rw [hU]; exact hP, va_K.moved hW.alike C.2.2.1, ?_⟩
  rw [hU]
  exact gm_old.warm hW (C.2.2.2.kept hS.2.1)
theorem gm_catsum (r : Nat → Nat) (st : List Value) : ((st.map (gm_tv r)).map fun v => v.category) = st.map fun v => v.category := by
  rw [List.map_map]
  exact List.map_congr_left (fun v _ => gm_tvc r v)
section
variable {M N : Mt} {G G' : Xt → Array Value → State → Outcome → State → Prop} {pc pc' tgt n idx : Nat} {lv : List (Nat × Value)} {st rest as : List Value} {h : Mem}
variable {p : Program} {l : Launch} {e : Env} {s : State} {m : MethodId} {args : Array Value} {below : List Frame} {meth : Method} {c : Code} {X : Xt} {H : Heap} {locs : List Loc} {ls : Array Slot}
theorem gm_runV {k cn : Nat} (hN : Cn N (.ref k :: as) h G') (hV : VOk N n) (hR : RmOk M N) (hlink : Cond.methodLink M.1.cls idx N.1 ∈ gm_ws) (hk : gm_cls k = cn) (hc : ∃ T w, vwCl[cn]? = some (N.1.cls, T, w)) (h10 : cn < 10) (hn : as.length = n) (hst : as.reverse ++ .ref k :: rest = st) (hw : (rest.map fun v => v.category).sum ≤ 8)
    (C : gm_cx M p s m args meth c X) (hP : va_P X.2.1 vwCl (gm_W X h) H) (hS : va_S (gm_A X) s.heap H locs) (hl : lv_has ls M.2.2.1 (lv.map (gm_tp X.1))) (d : decode M.2.1 pc = .ok (.invokevirtual idx, 3)) :
    va_Run p l e M.2.2.2.2 s m args below meth c H locs 0 0 0 0 (F0 m pc ls (st.map (gm_tv X.1))) (rest.map (gm_tv X.1)) (G' X ((Value.ref k :: as).map (gm_tv X.1)).toArray) (gm_A X) := by
  obtain ⟨T, w, hc⟩ := hc
  subst hst
  refine va_runV (C := N.1.cls) (b := X.1 k) (As := as.map (gm_tv X.1)) (Ts := gm_ws) (own := M.1.cls) ⟨C.1.1, C.1.2.1, C.1.2.2.2.1, C.1.2.2.2.2.1, C.1.2.2.2.2.2.1⟩ (hN l X) ⟨callB_of n C.1.2.2.2.2.2.1 (gm_goodN hV.1) rfl hV.1.2.2.2.1 hV.1.2.2.2.2 (C.1.2.2.2.2.2.1 _ hV.1.2.1) (C.1.2.2.2.2.2.1 _ hlink) hV.1.2.2.1 hR, C.1.2.2.2.2.2.1 _ hV.2.1, C.1.2.2.2.2.2.1 _ hV.2.2⟩ ⟨gm_blind, va_recv C.2.2.1 hP hc (gm_W_obj hk h10), fun U hU hW => gm_pre C hP hS U hU hW⟩ rfl (by rw [List.length_map]; exact hn) hl.1 ?_ (lv_room (by rw [gm_catsum]; exact hw)) d ⟨Nat.zero_le _, Nat.zero_le _⟩
  show (as.reverse ++ .ref k :: rest).map (gm_tv X.1) = _
  rw [List.map_append, List.map_reverse]
  rfl
theorem gm_runS (hN : Cn N as h G') (hV : SOk N n) (hR : RmOk M N) (hlink : Cond.methodLink M.1.cls idx N.1 ∈ gm_ws) (hn : as.length = n) (hst : as.reverse ++ rest = st) (hw : (rest.map fun v => v.category).sum ≤ 8)
    (C : gm_cx M p s m args meth c X) (hP : va_P X.2.1 vwCl (gm_W X h) H) (hS : va_S (gm_A X) s.heap H locs) (hl : lv_has ls M.2.2.1 (lv.map (gm_tp X.1))) (d : decode M.2.1 pc = .ok (.invokestatic idx, 3)) :
    va_Run p l e M.2.2.2.2 s m args below meth c H locs 0 0 0 0 (F0 m pc ls (st.map (gm_tv X.1))) (rest.map (gm_tv X.1)) (G' X (as.map (gm_tv X.1)).toArray) (gm_A X) := by
  subst hst
  refine va_runS (As := as.map (gm_tv X.1)) (Ts := gm_ws) (own := M.1.cls) ⟨C.1.1, C.1.2.1, C.1.2.2.2.1, C.1.2.2.2.2.1, C.1.2.2.2.2.2.1⟩ (hN l X) ⟨callB_of n C.1.2.2.2.2.2.1 (gm_goodN hV.1) rfl hV.1.2.2.2.1 hV.1.2.2.2.2 (C.1.2.2.2.2.2.1 _ hV.1.2.1) (C.1.2.2.2.2.2.1 _ hlink) hV.1.2.2.1 hR, C.1.2.2.2.2.2.1 _ hV.2⟩ ⟨gm_blind, fun U hU hW => gm_pre C hP hS U hU hW⟩ rfl (by rw [List.length_map]; exact hn) hl.1 ?_ (lv_room (by rw [gm_catsum]; exact hw)) d ⟨Nat.zero_le _, Nat.zero_le _⟩
  show (as.reverse ++ rest).map (gm_tv X.1) = _
  rw [List.map_append, List.map_reverse]
theorem gm_runSN {host : String} (hN : Cn N as h G') (hV : SOk N n) (hR : RmOk M N) (hlink : Cond.methodLinkNest M.1.cls idx N.1 host ∈ lw_tbl) (hn : as.length = n) (hst : as.reverse ++ rest = st) (hw : (rest.map fun v => v.category).sum ≤ 8)
    (C : gm_cx M p s m args meth c X) (hP : va_P X.2.1 vwCl (gm_W X h) H) (hS : va_S (gm_A X) s.heap H locs) (hl : lv_has ls M.2.2.1 (lv.map (gm_tp X.1))) (d : decode M.2.1 pc = .ok (.invokestatic idx, 3)) :
    va_Run p l e M.2.2.2.2 s m args below meth c H locs 0 0 0 0 (F0 m pc ls (st.map (gm_tv X.1))) (rest.map (gm_tv X.1)) (G' X (as.map (gm_tv X.1)).toArray) (gm_A X) := by
  subst hst
  refine va_runSN (As := as.map (gm_tv X.1)) (Ts := gm_ws) (own := M.1.cls) (host := host) ⟨C.1.1, C.1.2.1, C.1.2.2.2.1, C.1.2.2.2.2.1, C.1.2.2.2.2.2.1⟩ (hN l X) ⟨va_cnB n C.1.2.2.2.2.2.1 (gm_goodN hV.1) rfl hV.1.2.2.2.1 hV.1.2.2.2.2 (C.2.2.2.1 _ hlink rfl) (C.1.2.2.2.2.2.1 _ hV.1.2.1) hV.1.2.2.1 hR, C.1.2.2.2.2.2.1 _ hV.2, trivial⟩ ⟨gm_blind, fun U hU hW => gm_pre C hP hS U hU hW⟩ rfl (by rw [List.length_map]; exact hn) hl.1 ?_ (lv_room (by rw [gm_catsum]; exact hw)) d ⟨Nat.zero_le _, Nat.zero_le _⟩
  show (as.reverse ++ rest).map (gm_tv X.1) = _
  rw [List.map_append, List.map_reverse]
end
section
variable {M N : Mt} {G : Xt → Array Value → State → Outcome → State → Prop} {pc pc' tgt n idx : Nat} {lv : List (Nat × Value)} {st rest : List Value} {h : Mem}
theorem ge_cVI {k cn : Nat} (as : List Value) {Q : Int32 → Mem → Prop} (hd : At M pc (.invokevirtual idx) 3 pc') (hV : VOk N n) (hlink : Cond.methodLink M.1.cls idx N.1 ∈ gm_ws) (hR : RmOk M N) (hk : gm_cls k = cn) (hc : ∃ T w, vwCl[cn]? = some (N.1.cls, T, w)) (h10 : cn < 10) (hn : as.length = n) (hst : as.reverse ++ .ref k :: rest = st) (hw : (rest.map fun v => v.category).sum ≤ 8) (hN : Cn N (.ref k :: as) h (GI Q)) (kk : ∀ r h', Q r h' → EV M G pc' lv (.int r :: rest) h') : EV M G pc lv st h := by
  obtain ⟨d, rfl⟩ := hd
  intro p l e s m args below meth c X H locs ls C hP hS hl
  exact va_calli (gm_runV hN hV hR hlink hk hc h10 hn hst hw C hP hS hl d) hS (fun _ _ q => q) (fun _ q => q) (fun r u t H1 locs1 ht _ hq hb _ _ hS1 => kk r u hq p l e s m args below meth c X H1 locs1 ls C (by rw [← ht]; exact hb) hS1 hl)
theorem ge_cVL {k cn : Nat} (as : List Value) {Q : Int64 → Mem → Prop} (hd : At M pc (.invokevirtual idx) 3 pc') (hV : VOk N n) (hlink : Cond.methodLink M.1.cls idx N.1 ∈ gm_ws) (hR : RmOk M N) (hk : gm_cls k = cn) (hc : ∃ T w, vwCl[cn]? = some (N.1.cls, T, w)) (h10 : cn < 10) (hn : as.length = n) (hst : as.reverse ++ .ref k :: rest = st) (hw : (rest.map fun v => v.category).sum ≤ 8) (hN : Cn N (.ref k :: as) h (GL Q)) (kk : ∀ r h', Q r h' → EV M G pc' lv (.long r :: rest) h') : EV M G pc lv st h := by
  obtain ⟨d, rfl⟩ := hd
  intro p l e s m args below meth c X H locs ls C hP hS hl
  exact va_calll (gm_runV hN hV hR hlink hk hc h10 hn hst hw C hP hS hl d) hS (fun _ _ q => q) (fun _ q => q) (fun r u t H1 locs1 ht _ hq hb _ _ hS1 => kk r u hq p l e s m args below meth c X H1 locs1 ls C (by rw [← ht]; exact hb) hS1 hl)
theorem ge_cVV {k cn : Nat} (as : List Value) {Q : Mem → Prop} (hd : At M pc (.invokevirtual idx) 3 pc') (hV : VOk N n) (hlink : Cond.methodLink M.1.cls idx N.1 ∈ gm_ws) (hR : RmOk M N) (hk : gm_cls k = cn) (hc : ∃ T w, vwCl[cn]? = some (N.1.cls, T, w)) (h10 : cn < 10) (hn : as.length = n) (hst : as.reverse ++ .ref k :: rest = st) (hw : (rest.map fun v => v.category).sum ≤ 8) (hN : Cn N (.ref k :: as) h (GV Q)) (kk : ∀ h', Q h' → EV M G pc' lv rest h') : EV M G pc lv st h := by
  obtain ⟨d, rfl⟩ := hd
  intro p l e s m args below meth c X H locs ls C hP hS hl
  exact va_callv (gm_runV hN hV hR hlink hk hc h10 hn hst hw C hP hS hl d) hS (fun _ _ q => q) (fun _ q => q) (fun u t H1 locs1 ht _ hq hb _ _ hS1 => kk u hq p l e s m args below meth c X H1 locs1 ls C (by rw [← ht]; exact hb) hS1 hl)
theorem ge_cVR {k cn : Nat} (as : List Value) {Q : Nat → Mem → Prop} (hd : At M pc (.invokevirtual idx) 3 pc') (hV : VOk N n) (hlink : Cond.methodLink M.1.cls idx N.1 ∈ gm_ws) (hR : RmOk M N) (hk : gm_cls k = cn) (hc : ∃ T w, vwCl[cn]? = some (N.1.cls, T, w)) (h10 : cn < 10) (hn : as.length = n) (hst : as.reverse ++ .ref k :: rest = st) (hw : (rest.map fun v => v.category).sum ≤ 8) (hN : Cn N (.ref k :: as) h (GR Q)) (kk : ∀ r h', Q r h' → EV M G pc' lv (.ref r :: rest) h') : EV M G pc lv st h := by
  obtain ⟨d, rfl⟩ := hd
  intro p l e s m args below meth c X H locs ls C hP hS hl
  exact va_callr (gm_runV hN hV hR hlink hk hc h10 hn hst hw C hP hS hl d) hS (fun _ _ q => q) (fun _ q => q) (fun u ra t H1 locs1 ht _ hq hb _ _ hS1 => by
    obtain ⟨e1, e2⟩ := hb
    rw [e1]
    exact kk u.1 u.2 hq p l e s m args below meth c X H1 locs1 ls C (by rw [← ht]; exact e2) hS1 hl)
theorem ge_cSI (as : List Value) {Q : Int32 → Mem → Prop} (hd : At M pc (.invokestatic idx) 3 pc') (hV : SOk N n) (hlink : Cond.methodLink M.1.cls idx N.1 ∈ gm_ws) (hR : RmOk M N)  (hn : as.length = n) (hst : as.reverse ++ rest = st) (hw : (rest.map fun v => v.category).sum ≤ 8) (hN : Cn N as h (GI Q)) (kk : ∀ r h', Q r h' → EV M G pc' lv (.int r :: rest) h') : EV M G pc lv st h := by
  obtain ⟨d, rfl⟩ := hd
  intro p l e s m args below meth c X H locs ls C hP hS hl
  exact va_calli (gm_runS hN hV hR hlink hn hst hw C hP hS hl d) hS (fun _ _ q => q) (fun _ q => q) (fun r u t H1 locs1 ht _ hq hb _ _ hS1 => kk r u hq p l e s m args below meth c X H1 locs1 ls C (by rw [← ht]; exact hb) hS1 hl)
theorem ge_cSL (as : List Value) {Q : Int64 → Mem → Prop} (hd : At M pc (.invokestatic idx) 3 pc') (hV : SOk N n) (hlink : Cond.methodLink M.1.cls idx N.1 ∈ gm_ws) (hR : RmOk M N)  (hn : as.length = n) (hst : as.reverse ++ rest = st) (hw : (rest.map fun v => v.category).sum ≤ 8) (hN : Cn N as h (GL Q)) (kk : ∀ r h', Q r h' → EV M G pc' lv (.long r :: rest) h') : EV M G pc lv st h := by
  obtain ⟨d, rfl⟩ := hd
  intro p l e s m args below meth c X H locs ls C hP hS hl
  exact va_calll (gm_runS hN hV hR hlink hn hst hw C hP hS hl d) hS (fun _ _ q => q) (fun _ q => q) (fun r u t H1 locs1 ht _ hq hb _ _ hS1 => kk r u hq p l e s m args below meth c X H1 locs1 ls C (by rw [← ht]; exact hb) hS1 hl)
theorem ge_cSV (as : List Value) {Q : Mem → Prop} (hd : At M pc (.invokestatic idx) 3 pc') (hV : SOk N n) (hlink : Cond.methodLink M.1.cls idx N.1 ∈ gm_ws) (hR : RmOk M N)  (hn : as.length = n) (hst : as.reverse ++ rest = st) (hw : (rest.map fun v => v.category).sum ≤ 8) (hN : Cn N as h (GV Q)) (kk : ∀ h', Q h' → EV M G pc' lv rest h') : EV M G pc lv st h := by
  obtain ⟨d, rfl⟩ := hd
  intro p l e s m args below meth c X H locs ls C hP hS hl
  exact va_callv (gm_runS hN hV hR hlink hn hst hw C hP hS hl d) hS (fun _ _ q => q) (fun _ q => q) (fun u t H1 locs1 ht _ hq hb _ _ hS1 => kk u hq p l e s m args below meth c X H1 locs1 ls C (by rw [← ht]; exact hb) hS1 hl)
theorem ge_cSR (as : List Value) {Q : Nat → Mem → Prop} (hd : At M pc (.invokestatic idx) 3 pc') (hV : SOk N n) (hlink : Cond.methodLink M.1.cls idx N.1 ∈ gm_ws) (hR : RmOk M N)  (hn : as.length = n) (hst : as.reverse ++ rest = st) (hw : (rest.map fun v => v.category).sum ≤ 8) (hN : Cn N as h (GR Q)) (kk : ∀ r h', Q r h' → EV M G pc' lv (.ref r :: rest) h') : EV M G pc lv st h := by
  obtain ⟨d, rfl⟩ := hd
  intro p l e s m args below meth c X H locs ls C hP hS hl
  exact va_callr (gm_runS hN hV hR hlink hn hst hw C hP hS hl d) hS (fun _ _ q => q) (fun _ q => q) (fun u ra t H1 locs1 ht _ hq hb _ _ hS1 => by
    obtain ⟨e1, e2⟩ := hb
    rw [e1]
    exact kk u.1 u.2 hq p l e s m args below meth c X H1 locs1 ls C (by rw [← ht]; exact e2) hS1 hl)
theorem ge_cNI {host : String} (as : List Value) {Q : Int32 → Mem → Prop} (hd : At M pc (.invokestatic idx) 3 pc') (hV : SOk N n) (hlink : Cond.methodLinkNest M.1.cls idx N.1 host ∈ lw_tbl) (hR : RmOk M N)  (hn : as.length = n) (hst : as.reverse ++ rest = st) (hw : (rest.map fun v => v.category).sum ≤ 8) (hN : Cn N as h (GI Q)) (kk : ∀ r h', Q r h' → EV M G pc' lv (.int r :: rest) h') : EV M G pc lv st h := by
  obtain ⟨d, rfl⟩ := hd
  intro p l e s m args below meth c X H locs ls C hP hS hl
  exact va_calli (gm_runSN hN hV hR hlink hn hst hw C hP hS hl d) hS (fun _ _ q => q) (fun _ q => q) (fun r u t H1 locs1 ht _ hq hb _ _ hS1 => kk r u hq p l e s m args below meth c X H1 locs1 ls C (by rw [← ht]; exact hb) hS1 hl)
theorem ge_cNL {host : String} (as : List Value) {Q : Int64 → Mem → Prop} (hd : At M pc (.invokestatic idx) 3 pc') (hV : SOk N n) (hlink : Cond.methodLinkNest M.1.cls idx N.1 host ∈ lw_tbl) (hR : RmOk M N)  (hn : as.length = n) (hst : as.reverse ++ rest = st) (hw : (rest.map fun v => v.category).sum ≤ 8) (hN : Cn N as h (GL Q)) (kk : ∀ r h', Q r h' → EV M G pc' lv (.long r :: rest) h') : EV M G pc lv st h := by
  obtain ⟨d, rfl⟩ := hd
  intro p l e s m args below meth c X H locs ls C hP hS hl
  exact va_calll (gm_runSN hN hV hR hlink hn hst hw C hP hS hl d) hS (fun _ _ q => q) (fun _ q => q) (fun r u t H1 locs1 ht _ hq hb _ _ hS1 => kk r u hq p l e s m args below meth c X H1 locs1 ls C (by rw [← ht]; exact hb) hS1 hl)
theorem ge_cNV {host : String} (as : List Value) {Q : Mem → Prop} (hd : At M pc (.invokestatic idx) 3 pc') (hV : SOk N n) (hlink : Cond.methodLinkNest M.1.cls idx N.1 host ∈ lw_tbl) (hR : RmOk M N)  (hn : as.length = n) (hst : as.reverse ++ rest = st) (hw : (rest.map fun v => v.category).sum ≤ 8) (hN : Cn N as h (GV Q)) (kk : ∀ h', Q h' → EV M G pc' lv rest h') : EV M G pc lv st h := by
  obtain ⟨d, rfl⟩ := hd
  intro p l e s m args below meth c X H locs ls C hP hS hl
  exact va_callv (gm_runSN hN hV hR hlink hn hst hw C hP hS hl d) hS (fun _ _ q => q) (fun _ q => q) (fun u t H1 locs1 ht _ hq hb _ _ hS1 => kk u hq p l e s m args below meth c X H1 locs1 ls C (by rw [← ht]; exact hb) hS1 hl)
theorem ge_cNR {host : String} (as : List Value) {Q : Nat → Mem → Prop} (hd : At M pc (.invokestatic idx) 3 pc') (hV : SOk N n) (hlink : Cond.methodLinkNest M.1.cls idx N.1 host ∈ lw_tbl) (hR : RmOk M N)  (hn : as.length = n) (hst : as.reverse ++ rest = st) (hw : (rest.map fun v => v.category).sum ≤ 8) (hN : Cn N as h (GR Q)) (kk : ∀ r h', Q r h' → EV M G pc' lv (.ref r :: rest) h') : EV M G pc lv st h := by
  obtain ⟨d, rfl⟩ := hd
  intro p l e s m args below meth c X H locs ls C hP hS hl
  exact va_callr (gm_runSN hN hV hR hlink hn hst hw C hP hS hl d) hS (fun _ _ q => q) (fun _ q => q) (fun u ra t H1 locs1 ht _ hq hb _ _ hS1 => by
    obtain ⟨e1, e2⟩ := hb
    rw [e1]
    exact kk u.1 u.2 hq p l e s m args below meth c X H1 locs1 ls C (by rw [← ht]; exact e2) hS1 hl)
theorem ge_mmax {x y : Int32} (hd : At M pc (.invokestatic idx) 3 pc') (hlink : Cond.methodLink M.1.cls idx Lib.Math.max.name ∈ gm_ws) (hf : 1 ≤ M.2.2.2.2.frames) (hw : (rest.map fun v => v.category).sum + 13 ≤ M.2.2.2.2.locals) (k : EV M G pc' lv (.int (if x < y then y else x) :: rest) h) : EV M G pc lv (.int y :: .int x :: rest) h := by
  obtain ⟨d, rfl⟩ := hd
  exact fun p l e s m args below meth c X H locs ls C hP hS hl => va_mmax C.1.1 C.1.2.1 (C.1.2.2.2.1.trans hl.1.symm) C.1.2.2.2.2.1 (C.1.2.2.2.2.2.1 _ hlink) (C.1.2.2.2.2.2.1 _ gm_wmax.1) (C.1.2.2.2.2.2.1 _ gm_wMath) (C.1.2.2.2.2.2.1 _ gm_wmax.2) hf (by rw [gm_catsum]; exact hw) (Nat.zero_le _) (Nat.zero_le _) d (k p l e s m args below meth c X H locs ls C hP hS hl)
theorem ge_mmin {x y : Int32} (hd : At M pc (.invokestatic idx) 3 pc') (hlink : Cond.methodLink M.1.cls idx Lib.Math.min.name ∈ gm_ws) (hf : 1 ≤ M.2.2.2.2.frames) (hw : (rest.map fun v => v.category).sum + 13 ≤ M.2.2.2.2.locals) (k : EV M G pc' lv (.int (if y < x then y else x) :: rest) h) : EV M G pc lv (.int y :: .int x :: rest) h := by
  obtain ⟨d, rfl⟩ := hd
  exact fun p l e s m args below meth c X H locs ls C hP hS hl => va_mmin C.1.1 C.1.2.1 (C.1.2.2.2.1.trans hl.1.symm) C.1.2.2.2.2.1 (C.1.2.2.2.2.2.1 _ hlink) (C.1.2.2.2.2.2.1 _ gm_wmin.1) (C.1.2.2.2.2.2.1 _ gm_wMath) (C.1.2.2.2.2.2.1 _ gm_wmin.2) hf (by rw [gm_catsum]; exact hw) (Nat.zero_le _) (Nat.zero_le _) d (k p l e s m args below meth c X H locs ls C hP hS hl)
theorem ge_mabs {x : Int32} (hd : At M pc (.invokestatic idx) 3 pc') (hlink : Cond.methodLink M.1.cls idx Lib.Math.abs.name ∈ gm_ws) (hf : 1 ≤ M.2.2.2.2.frames) (hw : (rest.map fun v => v.category).sum + 13 ≤ M.2.2.2.2.locals) (k : EV M G pc' lv (.int (if 0 ≤ x then x else 0 - x) :: rest) h) : EV M G pc lv (.int x :: rest) h := by
  obtain ⟨d, rfl⟩ := hd
  exact fun p l e s m args below meth c X H locs ls C hP hS hl => va_mabs C.1.1 C.1.2.1 (C.1.2.2.2.1.trans hl.1.symm) C.1.2.2.2.2.1 (C.1.2.2.2.2.2.1 _ hlink) (C.1.2.2.2.2.2.1 _ gm_wabs.1) (C.1.2.2.2.2.2.1 _ gm_wMath) (C.1.2.2.2.2.2.1 _ gm_wabs.2) hf (by rw [gm_catsum]; exact hw) (Nat.zero_le _) (Nat.zero_le _) d (k p l e s m args below meth c X H locs ls C hP hS hl)
/-- a stretch of numbers copied between rows -/
def gm_cpy (h : Mem) (a b sp dp n : Nat) : Mem := fun q => if q = b then va_cpy (h a) (h b) sp dp n else h q
theorem gm_W_cpy {X : Xt} {h : Mem} {a b n sp dp cnt : Nat} (hb : gm_arr b n) : (gm_W X h).set b (X.1 b, .inl (X.2.2.1, n, .inl (va_cpy (h a) (h b) sp dp cnt))) = gm_W X (gm_cpy h a b sp dp cnt) :=
  gm_W_set (gm_arr_lt hb) (by rw [gm_cell_arr hb]; unfold gm_cpy; rw [if_pos rfl]) (fun q h9 => if_neg h9)
theorem ge_copy {k1 k2 n1 n2 : Nat} {sp dp cnt : Int32} (hd : At M pc (.invokestatic idx) 3 pc') (hlink : Cond.methodLink M.1.cls idx arraycopyName ∈ gm_ws) (ha : gm_arr k1 n1) (hb : gm_arr k2 n2) (h1 : ¬ sp < 0) (h2 : ¬ dp < 0) (h3 : ¬ cnt < 0) (h4 : sp.toNatClampNeg + cnt.toNatClampNeg ≤ n1) (h5 : dp.toNatClampNeg + cnt.toNatClampNeg ≤ n2) (hf : 1 ≤ M.2.2.2.2.frames) (hw : (rest.map fun v => v.category).sum + (nativeFrameWords "java/lang/System" "arraycopy" 5 + 11) ≤ M.2.2.2.2.locals) (kk : EV M G pc' lv rest (gm_cpy h k1 k2 sp.toNatClampNeg dp.toNatClampNeg cnt.toNatClampNeg)) : EV M G pc lv (.int cnt :: .int dp :: .ref k2 :: .int sp :: .ref k1 :: rest) h := by
  obtain ⟨d, rfl⟩ := hd
  exact fun p l e s m args below meth c X H locs ls C hP hS hl => va_copyi C.1.1 C.1.2.1 (C.1.2.2.2.1.trans hl.1.symm) C.1.2.2.2.2.1 (C.1.2.2.2.2.2.1 _ hlink) (C.1.2.2.2.2.2.1 _ gm_wcpy.1) (C.1.2.2.2.2.2.1 _ gm_wcpy.2.1) (C.1.2.2.2.2.2.1 _ gm_wcpy.2.2) C.2.2.1 hP (gm_D C.2.1 h) hS k1 k2 0 0 (ty := .int) (gm_W_arr ha) (gm_W_arr hb) rfl rfl rfl h1 h2 h3 h4 h5 (fun _ _ => rfl) hf (by rw [gm_catsum]; exact hw) d
    (fun H1 locs1 hP1 _ hS1 => kk p l e s m args below meth c X H1 locs1 ls C (by rw [← gm_W_cpy hb]; exact hP1) hS1 hl)
end
end
section
/-! rows: names, fewer locals, switches, loops, texts -/
section
variable {M : Mt} {G : Xt → Array Value → State → Outcome → State → Prop} {pc pc' tgt idx : Nat} {lv : List (Nat × Value)} {st : List Value} {h : Mem}
theorem ge_nm {m0 : Mem} (k : ∀ h1, h1 = m0 → EV M G pc lv st h1) : EV M G pc lv st m0 := k _ rfl
theorem ge_topi {x : Int32} (k : ∀ y, y = x → EV M G pc lv (.int y :: st) h) : EV M G pc lv (.int x :: st) h := k _ rfl
theorem ge_topl {x : Int64} (k : ∀ y, y = x → EV M G pc lv (.long y :: st) h) : EV M G pc lv (.long x :: st) h := k _ rfl
theorem ge_sub {lv' : List (Nat × Value)} (ks : List Nat) (hp : lv_pick lv ks = lv') (k : EV M G pc lv' st h) : EV M G pc lv st h := by
  subst hp
  refine fun p l e s m args below meth c X H locs ls C hP hS hl => k p l e s m args below meth c X H locs ls C hP hS (lv_sub hl ks ?_)
  unfold lv_pick
  rw [List.map_filterMap]
  congr 1
  funext q
  rw [List.getElem?_map]
theorem ge_ite {c A B : Prop} [Decidable c] (a : c → A) (b : ¬ c → B) : if c then A else B := by
  by_cases h : c
  · rw [if_pos h]; exact a h
  · rw [if_neg h]; exact b h
/-- a switch as tests one by one: (value, place) rows -/
def gm_SW (P : Nat → Prop) (x : Int32) (d : Nat) : List (Int32 × Nat) → Prop
  | [] => P d
  | q :: r => if x = q.1 then P q.2 else gm_SW P x d r
theorem gm_SW_out {P : Nat → Prop} {x : Int32} {d : Nat} : ∀ (cs : List (Int32 × Nat)), (∀ q ∈ cs, ¬ x = q.1) → gm_SW P x d cs → P d
  | [], _, hs => hs
  | q :: r, hn, hs => gm_SW_out r (fun z hz => hn z (List.mem_cons_of_mem _ hz)) (by rw [gm_SW, if_neg (hn q List.mem_cons_self)] at hs; exact hs)
theorem gm_SW_in {P : Nat → Prop} {x : Int32} {d : Nat} : ∀ (cs : List (Int32 × Nat)), gm_SW P x d cs → (∃ q ∈ cs, x = q.1 ∧ P q.2) ∨ (∀ q ∈ cs, ¬ x = q.1)
  | [], _ => Or.inr (fun q h => absurd h List.not_mem_nil)
  | q :: r, hs => by
    by_cases hx : x = q.1
    · rw [gm_SW, if_pos hx] at hs
      exact Or.inl ⟨q, List.mem_cons_self, hx, hs⟩
    · rw [gm_SW, if_neg hx] at hs
      rcases gm_SW_in r hs with ⟨z, h1, h2⟩ | h1
      · exact Or.inl ⟨z, List.mem_cons_of_mem _ h1, h2⟩
      · exact Or.inr (fun z hz => (List.mem_cons.mp hz).elim (fun e => e ▸ hx) (h1 z))
/-- the rows are the table's -/
def gm_tabOk (pc : Nat) (lo hi : Int) (offs : Array Int) (cs : List (Int32 × Nat)) : Bool :=
  decide (offs.size = (hi - lo + 1).toNat) && cs.all (fun q => decide (lo ≤ q.1.toInt) && decide (q.1.toInt ≤ hi) && decide (offs[(q.1.toInt - lo).toNat]? = some ((q.2 : Int) - (pc : Int)))) && (List.range offs.size).all (fun i => cs.any (fun q => decide (q.1.toInt = lo + i)))
theorem ge_sw {x : Int32} {dflt lo hi : Int} {offs : Array Int} {len dt : Nat} (cs : List (Int32 × Nat)) (hd : decode M.2.1 pc = .ok (.tableswitch dflt lo hi offs, len)) (hok : gm_tabOk pc lo hi offs cs = true) (ht : (pc : Int) + dflt = (dt : Int)) (k : gm_SW (fun t => EV M G t lv st h) x dt cs) : EV M G pc lv (.int x :: st) h := by
  simp only [gm_tabOk, Bool.and_eq_true, decide_eq_true_eq, List.all_eq_true, List.any_eq_true, List.mem_range] at hok
  obtain ⟨⟨h1, h2⟩, h3⟩ := hok
  rcases gm_SW_in cs k with ⟨q, g1, g2, g3⟩ | g
  · obtain ⟨⟨a1, a2⟩, a3⟩ := h2 q g1
    refine ge_table hd (fun off ho _ _ => ⟨q.2, ?_, g3⟩) h1 dt ht (fun ho => ?_)
    · rw [g2] at ho
      rw [a3] at ho
      cases ho
      omega
    · rw [g2] at ho
      omega
  · have hout : x.toInt < lo ∨ hi < x.toInt := by
      rcases Int.lt_or_le x.toInt lo with z | z
      · exact Or.inl z
      · rcases Int.lt_or_le hi x.toInt with y | y
        · exact Or.inr y
        · obtain ⟨q, e1, e2⟩ := h3 (x.toInt - lo).toNat (by rw [h1]; omega)
          exact absurd (Int32.toInt_inj.mp (by rw [e2]; omega)) (g q e1)
    exact ge_table hd (fun off _ u1 u2 => absurd hout (fun z => z.elim u1 u2)) h1 dt ht (fun _ => gm_SW_out cs g k)
theorem ge_ldcwS {i : Nat} {tx : String} (hd : At M pc (.ldc_w idx) 3 pc') (hw : (M.1.cls, idx, tx, i) ∈ gm_ldc) (k : EV M G pc' lv (.ref (100 + i) :: st) h) : EV M G pc lv st h := by
  obtain ⟨d, rfl⟩ := hd
  intro p l e s m args below meth c X H locs ls C hP hS hl
  intro T hT X0
  obtain ⟨t, a1, b1⟩ := k p l e s m args below meth c X H locs ls C hP hS hl T hT X0
  have hZ := C.2.2.2.2.2.1 _ hw
  exact ⟨t, Jvm.Stand.ldcStringW X0 C.1.1 C.1.2.2.2.2.1 (text := tx) (a := X.1 (100 + i)) hZ.1 hZ.2 (g := F0 m pc ls (st.map (gm_tv X.1))) rfl (by rw [C.1.2.1]; exact d) t a1, b1⟩
/-- a text's key -/
def gm_str (k : Nat) : Prop := ∃ i, i < 17 ∧ k = 100 + i
theorem ge_strval {i : Nat} (hd : At M pc (.getfield idx) 3 pc') (hi : i < 17) (hw : Cond.fieldLink M.1.cls idx "java/lang/String" "value" "[B" ∈ gm_ws) (k : EV M G pc' lv (.ref (150 + i) :: st) h) : EV M G pc lv (.ref (100 + i) :: st) h := by
  obtain ⟨d, rfl⟩ := hd
  exact fun p l e s m args below meth c X H locs ls C hP hS hl => vk_getf C.1.1 C.1.2.1 (C.2.2.2.2.2.2.1 i hi).2.2.1 hS C.1.2.2.2.2.1 (C.1.2.2.2.2.2.1 _ hw) (fun _ h9 => h9) d (k p l e s m args below meth c X H locs ls C hP hS hl)
theorem ge_strcoder {i : Nat} (hd : At M pc (.getfield idx) 3 pc') (hi : i < 17) (hw : Cond.fieldLink M.1.cls idx "java/lang/String" "coder" "B" ∈ gm_ws) (k : EV M G pc' lv (.int 0 :: st) h) : EV M G pc lv (.ref (100 + i) :: st) h := by
  obtain ⟨d, rfl⟩ := hd
  exact fun p l e s m args below meth c X H locs ls C hP hS hl => vk_getf C.1.1 C.1.2.1 (C.2.2.2.2.2.2.1 i hi).2.1 hS C.1.2.2.2.2.1 (C.1.2.2.2.2.2.1 _ hw) (fun _ h9 => h9) d (k p l e s m args below meth c X H locs ls C hP hS hl)
theorem ge_blen {i : Nat} (hd : At M pc .arraylength 1 pc') (hi : i < 17) (k : EV M G pc' lv (.int (nI (gm_byt i).length) :: st) h) : EV M G pc lv (.ref (150 + i) :: st) h := by
  obtain ⟨d, rfl⟩ := hd
  exact fun p l e s m args below meth c X H locs ls C hP hS hl => va_tlen C.1.1 C.1.2.1 (C.2.2.2.2.2.2.1 i hi).2.2.2 hS rfl d (k p l e s m args below meth c X H locs ls C hP hS hl)
theorem ge_bald {i : Nat} {x : Int32} (hd : At M pc .baload 1 pc') (hi : i < 17) (hx : vp_in x (gm_byt i).length) (k : EV M G pc' lv (.int ((gm_byt i).getD x.toNatClampNeg 0) :: st) h) : EV M G pc lv (.int x :: .ref (150 + i) :: st) h := by
  obtain ⟨d, rfl⟩ := hd
  exact fun p l e s m args below meth c X H locs ls C hP hS hl => va_tb C.1.1 C.1.2.1 (C.2.2.2.2.2.2.1 i hi).2.2.2 hS hx rfl d (k p l e s m args below meth c X H locs ls C hP hS hl)
theorem ge_compact (hd : At M pc (.getstatic idx) 3 pc') (hw : Cond.fieldLink M.1.cls idx "java/lang/String" "COMPACT_STRINGS" "Z" ∈ gm_ws) (k : EV M G pc' lv (.int 1 :: st) h) : EV M G pc lv st h := by
  obtain ⟨d, rfl⟩ := hd
  exact fun p l e s m args below meth c X H locs ls C hP hS hl => va_gets C.1.1 C.1.2.1 C.2.2.2.2.2.2.2.1 hS C.1.2.2.2.2.1 (C.1.2.2.2.2.2.1 _ hw) (fun _ h9 => h9) d (k p l e s m args below meth c X H locs ls C hP hS hl)
theorem ge_formatter (hd : At M pc (.getstatic idx) 3 pc') (hw : Cond.fieldLink M.1.cls idx "jdk/internal/util/Preconditions" "SIOOBE_FORMATTER" "Ljava/util/function/BiFunction;" ∈ gm_ws) (k1 : EV M G pc' lv (.null :: st) h) (k2 : EV M G pc' lv (.ref 180 :: st) h) : EV M G pc lv st h := by
  obtain ⟨d, rfl⟩ := hd
  intro p l e s m args below meth c X H locs ls C hP hS hl
  rcases C.2.2.2.2.2.2.2.2 with z | z
  · exact va_gets C.1.1 C.1.2.1 z hS C.1.2.2.2.2.1 (C.1.2.2.2.2.2.1 _ hw) (fun _ h9 => h9) d (k1 p l e s m args below meth c X H locs ls C hP hS hl)
  · exact va_gets C.1.1 C.1.2.1 z hS C.1.2.2.2.2.1 (C.1.2.2.2.2.2.1 _ hw) (fun _ h9 => h9) d (k2 p l e s m args below meth c X H locs ls C hP hS hl)
end
theorem ge_cTI {M N : Mt} {G : Xt → Array Value → State → Outcome → State → Prop} {pc pc' n idx : Nat} {lv : List (Nat × Value)} {st rest : List Value} {h : Mem} {i : Nat} (as : List Value) {Q : Int32 → Mem → Prop} (hd : At M pc (.invokevirtual idx) 3 pc') (hV : VOk N n) (hC : N.1.cls = "java/lang/String") (hlink : Cond.methodLink M.1.cls idx N.1 ∈ gm_ws) (hR : RmOk M N) (hi : i < 17) (hn : as.length = n) (hst : as.reverse ++ .ref (100 + i) :: rest = st) (hw : (rest.map fun v => v.category).sum ≤ 8) (hN : Cn N (.ref (100 + i) :: as) h (GI Q)) (kk : ∀ r h', Q r h' → EV M G pc' lv (.int r :: rest) h') : EV M G pc lv st h := by
  obtain ⟨d, rfl⟩ := hd
  subst hst
  intro p l e s m args below meth c X H locs ls C hP hS hl
  refine va_calli (va_runV (C := N.1.cls) (b := X.1 (100 + i)) (As := as.map (gm_tv X.1)) (Ts := gm_ws) (own := M.1.cls) (rest := rest.map (gm_tv X.1)) ⟨C.1.1, C.1.2.1, C.1.2.2.2.1, C.1.2.2.2.2.1, C.1.2.2.2.2.2.1⟩ (hN l X) ⟨callB_of n C.1.2.2.2.2.2.1 (gm_goodN hV.1) rfl hV.1.2.2.2.1 hV.1.2.2.2.2 (C.1.2.2.2.2.2.1 _ hV.1.2.1) (C.1.2.2.2.2.2.1 _ hlink) hV.1.2.2.1 hR, C.1.2.2.2.2.2.1 _ hV.2.1, C.1.2.2.2.2.2.1 _ hV.2.2⟩ ⟨gm_blind, ?_, fun U hU hW => gm_pre C hP hS U hU hW⟩ rfl (by rw [List.length_map]; exact hn) hl.1 ?_ (lv_room (by rw [gm_catsum]; exact hw)) d ⟨Nat.zero_le _, Nat.zero_le _⟩) hS (fun _ _ q => q) (fun _ q => q) (fun r u t H1 locs1 ht _ hq hb _ _ hS1 => kk r u hq p l e s m args below meth c X H1 locs1 ls C (by rw [← ht]; exact hb) hS1 hl)
  · obtain ⟨cell, h1, h2, h3, -⟩ := (C.2.2.2.2.2.2.1 i hi).1.kept hS.2.1
    exact ⟨cell, h1, h2, by rw [hC]; exact h3⟩
  · show (as.reverse ++ .ref (100 + i) :: rest).map (gm_tv X.1) = _
    rw [List.map_append, List.map_reverse]
    rfl
def gm_it0 (B : (Mem → Prop) → Mem → Prop) : Nat → Mem → Prop
  | 0, _ => False
  | n + 1, h => B (gm_it0 B n) h
theorem ge_loop0 {B : (Mem → Prop) → Mem → Prop} {P : Mem → Prop} (hB : ∀ K : Mem → Prop, (∀ h, K h → P h) → ∀ h, B K h → P h) : ∀ n h, gm_it0 B n h → P h
  | 0, _, q => q.elim
  | n + 1, h, q => hB (gm_it0 B n) (ge_loop0 hB n) h q
def gm_it1 {T0 : Type} (B : (T0 → Mem → Prop) → T0 → Mem → Prop) : Nat → T0 → Mem → Prop
  | 0, _, _ => False
  | n + 1, x0, h => B (gm_it1 B n) x0 h
theorem ge_loop1 {T0 : Type} {B : (T0 → Mem → Prop) → T0 → Mem → Prop} {P : T0 → Mem → Prop} (hB : ∀ K : T0 → Mem → Prop, (∀ x0 h, K x0 h → P x0 h) → ∀ x0 h, B K x0 h → P x0 h) : ∀ n x0 h, gm_it1 B n x0 h → P x0 h
  | 0, _, _, q => q.elim
  | n + 1, x0, h, q => hB (gm_it1 B n) (ge_loop1 hB n) x0 h q
def gm_it2 {T0 T1 : Type} (B : (T0 → T1 → Mem → Prop) → T0 → T1 → Mem → Prop) : Nat → T0 → T1 → Mem → Prop
  | 0, _, _, _ => False
  | n + 1, x0, x1, h => B (gm_it2 B n) x0 x1 h
theorem ge_loop2 {T0 T1 : Type} {B : (T0 → T1 → Mem → Prop) → T0 → T1 → Mem → Prop} {P : T0 → T1 → Mem → Prop} (hB : ∀ K : T0 → T1 → Mem → Prop, (∀ x0 x1 h, K x0 x1 h → P x0 x1 h) → ∀ x0 x1 h, B K x0 x1 h → P x0 x1 h) : ∀ n x0 x1 h, gm_it2 B n x0 x1 h → P x0 x1 h
  | 0, _, _, _, q => q.elim
  | n + 1, x0, x1, h, q => hB (gm_it2 B n) (ge_loop2 hB n) x0 x1 h q
def gm_it3 {T0 T1 T2 : Type} (B : (T0 → T1 → T2 → Mem → Prop) → T0 → T1 → T2 → Mem → Prop) : Nat → T0 → T1 → T2 → Mem → Prop
  | 0, _, _, _, _ => False
  | n + 1, x0, x1, x2, h => B (gm_it3 B n) x0 x1 x2 h
theorem ge_loop3 {T0 T1 T2 : Type} {B : (T0 → T1 → T2 → Mem → Prop) → T0 → T1 → T2 → Mem → Prop} {P : T0 → T1 → T2 → Mem → Prop} (hB : ∀ K : T0 → T1 → T2 → Mem → Prop, (∀ x0 x1 x2 h, K x0 x1 x2 h → P x0 x1 x2 h) → ∀ x0 x1 x2 h, B K x0 x1 x2 h → P x0 x1 x2 h) : ∀ n x0 x1 x2 h, gm_it3 B n x0 x1 x2 h → P x0 x1 x2 h
  | 0, _, _, _, _, q => q.elim
  | n + 1, x0, x1, x2, h, q => hB (gm_it3 B n) (ge_loop3 hB n) x0 x1 x2 h q
def gm_it4 {T0 T1 T2 T3 : Type} (B : (T0 → T1 → T2 → T3 → Mem → Prop) → T0 → T1 → T2 → T3 → Mem → Prop) : Nat → T0 → T1 → T2 → T3 → Mem → Prop
  | 0, _, _, _, _, _ => False
  | n + 1, x0, x1, x2, x3, h => B (gm_it4 B n) x0 x1 x2 x3 h
theorem ge_loop4 {T0 T1 T2 T3 : Type} {B : (T0 → T1 → T2 → T3 → Mem → Prop) → T0 → T1 → T2 → T3 → Mem → Prop} {P : T0 → T1 → T2 → T3 → Mem → Prop} (hB : ∀ K : T0 → T1 → T2 → T3 → Mem → Prop, (∀ x0 x1 x2 x3 h, K x0 x1 x2 x3 h → P x0 x1 x2 x3 h) → ∀ x0 x1 x2 x3 h, B K x0 x1 x2 x3 h → P x0 x1 x2 x3 h) : ∀ n x0 x1 x2 x3 h, gm_it4 B n x0 x1 x2 x3 h → P x0 x1 x2 x3 h
  | 0, _, _, _, _, _, q => q.elim
  | n + 1, x0, x1, x2, x3, h, q => hB (gm_it4 B n) (ge_loop4 hB n) x0 x1 x2 x3 h q
def gm_it5 {T0 T1 T2 T3 T4 : Type} (B : (T0 → T1 → T2 → T3 → T4 → Mem → Prop) → T0 → T1 → T2 → T3 → T4 → Mem → Prop) : Nat → T0 → T1 → T2 → T3 → T4 → Mem → Prop
  | 0, _, _, _, _, _, _ => False
  | n + 1, x0, x1, x2, x3, x4, h => B (gm_it5 B n) x0 x1 x2 x3 x4 h
theorem ge_loop5 {T0 T1 T2 T3 T4 : Type} {B : (T0 → T1 → T2 → T3 → T4 → Mem → Prop) → T0 → T1 → T2 → T3 → T4 → Mem → Prop} {P : T0 → T1 → T2 → T3 → T4 → Mem → Prop} (hB : ∀ K : T0 → T1 → T2 → T3 → T4 → Mem → Prop, (∀ x0 x1 x2 x3 x4 h, K x0 x1 x2 x3 x4 h → P x0 x1 x2 x3 x4 h) → ∀ x0 x1 x2 x3 x4 h, B K x0 x1 x2 x3 x4 h → P x0 x1 x2 x3 x4 h) : ∀ n x0 x1 x2 x3 x4 h, gm_it5 B n x0 x1 x2 x3 x4 h → P x0 x1 x2 x3 x4 h
  | 0, _, _, _, _, _, _, q => q.elim
  | n + 1, x0, x1, x2, x3, x4, h, q => hB (gm_it5 B n) (ge_loop5 hB n) x0 x1 x2 x3 x4 h q
def gm_it6 {T0 T1 T2 T3 T4 T5 : Type} (B : (T0 → T1 → T2 → T3 → T4 → T5 → Mem → Prop) → T0 → T1 → T2 → T3 → T4 → T5 → Mem → Prop) : Nat → T0 → T1 → T2 → T3 → T4 → T5 → Mem → Prop
  | 0, _, _, _, _, _, _, _ => False
  | n + 1, x0, x1, x2, x3, x4, x5, h => B (gm_it6 B n) x0 x1 x2 x3 x4 x5 h
theorem ge_loop6 {T0 T1 T2 T3 T4 T5 : Type} {B : (T0 → T1 → T2 → T3 → T4 → T5 → Mem → Prop) → T0 → T1 → T2 → T3 → T4 → T5 → Mem → Prop} {P : T0 → T1 → T2 → T3 → T4 → T5 → Mem → Prop} (hB : ∀ K : T0 → T1 → T2 → T3 → T4 → T5 → Mem → Prop, (∀ x0 x1 x2 x3 x4 x5 h, K x0 x1 x2 x3 x4 x5 h → P x0 x1 x2 x3 x4 x5 h) → ∀ x0 x1 x2 x3 x4 x5 h, B K x0 x1 x2 x3 x4 x5 h → P x0 x1 x2 x3 x4 x5 h) : ∀ n x0 x1 x2 x3 x4 x5 h, gm_it6 B n x0 x1 x2 x3 x4 x5 h → P x0 x1 x2 x3 x4 x5 h
  | 0, _, _, _, _, _, _, _, q => q.elim
  | n + 1, x0, x1, x2, x3, x4, x5, h, q => hB (gm_it6 B n) (ge_loop6 hB n) x0 x1 x2 x3 x4 x5 h q
def gm_it7 {T0 T1 T2 T3 T4 T5 T6 : Type} (B : (T0 → T1 → T2 → T3 → T4 → T5 → T6 → Mem → Prop) → T0 → T1 → T2 → T3 → T4 → T5 → T6 → Mem → Prop) : Nat → T0 → T1 → T2 → T3 → T4 → T5 → T6 → Mem → Prop
  | 0, _, _, _, _, _, _, _, _ => False
  | n + 1, x0, x1, x2, x3, x4, x5, x6, h => B (gm_it7 B n) x0 x1 x2 x3 x4 x5 x6 h
theorem ge_loop7 {T0 T1 T2 T3 T4 T5 T6 : Type} {B : (T0 → T1 → T2 → T3 → T4 → T5 → T6 → Mem → Prop) → T0 → T1 → T2 → T3 → T4 → T5 → T6 → Mem → Prop} {P : T0 → T1 → T2 → T3 → T4 → T5 → T6 → Mem → Prop} (hB : ∀ K : T0 → T1 → T2 → T3 → T4 → T5 → T6 → Mem → Prop, (∀ x0 x1 x2 x3 x4 x5 x6 h, K x0 x1 x2 x3 x4 x5 x6 h → P x0 x1 x2 x3 x4 x5 x6 h) → ∀ x0 x1 x2 x3 x4 x5 x6 h, B K x0 x1 x2 x3 x4 x5 x6 h → P x0 x1 x2 x3 x4 x5 x6 h) : ∀ n x0 x1 x2 x3 x4 x5 x6 h, gm_it7 B n x0 x1 x2 x3 x4 x5 x6 h → P x0 x1 x2 x3 x4 x5 x6 h
  | 0, _, _, _, _, _, _, _, _, q => q.elim
  | n + 1, x0, x1, x2, x3, x4, x5, x6, h, q => hB (gm_it7 B n) (ge_loop7 hB n) x0 x1 x2 x3 x4 x5 x6 h q
/-- how often a loop may go round in the telling: far above what any run needs -/
def gm_F : Nat := 1000000
end
section
theorem ge_tldL {M : Mt} {G : Xt → Array Value → State → Outcome → State → Prop} {pc pc' : Nat} {lv : List (Nat × Value)} {st : List Value} {h : Mem} {i n : Nat} {x v : Int32} (hd : At M pc .iaload 1 pc') (hi : i < 6) (hn : (gm_tab i).length = n) (hx : vp_in x n) (hv : (gm_tab i).getD x.toNatClampNeg 0 = v) (kk : EV M G pc' lv (.int v :: st) h) : EV M G pc lv (.int x :: .ref (200 + i) :: st) h :=
  ge_tld hd hi hn hx (by rw [hv]; exact kk)
theorem gm_ip {c A B : Prop} {d : Decidable c} (h : @ite Prop c d A B) (hc : c) : A := by rw [if_pos hc] at h; exact h
theorem gm_in {c A B : Prop} {d : Decidable c} (h : @ite Prop c d A B) (hc : ¬ c) : B := by rw [if_neg hc] at h; exact h
end
